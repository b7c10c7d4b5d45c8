theorem dX0_init_0 : decode cX0_init 0 = .ok (.aload_n 0, 1) := by decide +kernel
theorem dX0_init_1 : decode cX0_init 1 = .ok (.invokespecial 1, 3) := by decide +kernel
theorem dX0_init_4 : decode cX0_init 4 = .ok (.aload_n 0, 1) := by decide +kernel
theorem dX0_init_5 : decode cX0_init 5 = .ok (.bipush 10, 2) := by decide +kernel
theorem dX0_init_7 : decode cX0_init 7 = .ok (.anewarray 9, 3) := by decide +kernel
theorem dX0_init_10 : decode cX0_init 10 = .ok (.putfield 11, 3) := by decide +kernel
theorem dX0_init_13 : decode cX0_init 13 = .ok (.return_, 1) := by decide +kernel
theorem dX0_push_0 : decode cX0_push 0 = .ok (.aload_n 0, 1) := by decide +kernel
theorem dX0_push_1 : decode cX0_push 1 = .ok (.getfield 15, 3) := by decide +kernel
theorem dX0_push_4 : decode cX0_push 4 = .ok (.ifCond .lt 19, 3) := by decide +kernel
theorem dX0_push_7 : decode cX0_push 7 = .ok (.aload_n 0, 1) := by decide +kernel
theorem dX0_push_8 : decode cX0_push 8 = .ok (.getfield 15, 3) := by decide +kernel
theorem dX0_push_11 : decode cX0_push 11 = .ok (.bipush 10, 2) := by decide +kernel
theorem dX0_push_13 : decode cX0_push 13 = .ok (.if_icmp .ge 10, 3) := by decide +kernel
theorem dX0_push_16 : decode cX0_push 16 = .ok (.aload_n 0, 1) := by decide +kernel
theorem dX0_push_17 : decode cX0_push 17 = .ok (.getfield 15, 3) := by decide +kernel
theorem dX0_push_20 : decode cX0_push 20 = .ok (.goto 4, 3) := by decide +kernel
theorem dX0_push_23 : decode cX0_push 23 = .ok (.iconst 0, 1) := by decide +kernel
theorem dX0_push_24 : decode cX0_push 24 = .ok (.istore_n 2, 1) := by decide +kernel
theorem dX0_push_25 : decode cX0_push 25 = .ok (.aload_n 0, 1) := by decide +kernel
theorem dX0_push_26 : decode cX0_push 26 = .ok (.getfield 11, 3) := by decide +kernel
theorem dX0_push_29 : decode cX0_push 29 = .ok (.iload_n 2, 1) := by decide +kernel
theorem dX0_push_30 : decode cX0_push 30 = .ok (.aaload, 1) := by decide +kernel
theorem dX0_push_31 : decode cX0_push 31 = .ok (.astore_n 3, 1) := by decide +kernel
theorem dX0_push_32 : decode cX0_push 32 = .ok (.aload_n 3, 1) := by decide +kernel
theorem dX0_push_33 : decode cX0_push 33 = .ok (.ifnonnull 18, 3) := by decide +kernel
theorem dX0_push_36 : decode cX0_push 36 = .ok (.new 9, 3) := by decide +kernel
theorem dX0_push_39 : decode cX0_push 39 = .ok (.dup, 1) := by decide +kernel
theorem dX0_push_40 : decode cX0_push 40 = .ok (.invokespecial 19, 3) := by decide +kernel
theorem dX0_push_43 : decode cX0_push 43 = .ok (.astore_n 3, 1) := by decide +kernel
theorem dX0_push_44 : decode cX0_push 44 = .ok (.aload_n 0, 1) := by decide +kernel
theorem dX0_push_45 : decode cX0_push 45 = .ok (.getfield 11, 3) := by decide +kernel
theorem dX0_push_48 : decode cX0_push 48 = .ok (.iload_n 2, 1) := by decide +kernel
theorem dX0_push_49 : decode cX0_push 49 = .ok (.aload_n 3, 1) := by decide +kernel
theorem dX0_push_50 : decode cX0_push 50 = .ok (.aastore, 1) := by decide +kernel
theorem dX0_push_51 : decode cX0_push 51 = .ok (.aload_n 3, 1) := by decide +kernel
theorem dX0_push_52 : decode cX0_push 52 = .ok (.aload_n 1, 1) := by decide +kernel
theorem dX0_push_53 : decode cX0_push 53 = .ok (.invokevirtual 20, 3) := by decide +kernel
theorem dX0_push_56 : decode cX0_push 56 = .ok (.aload_n 0, 1) := by decide +kernel
theorem dX0_push_57 : decode cX0_push 57 = .ok (.iload_n 2, 1) := by decide +kernel
theorem dX0_push_58 : decode cX0_push 58 = .ok (.iconst 1, 1) := by decide +kernel
theorem dX0_push_59 : decode cX0_push 59 = .ok (.iadd, 1) := by decide +kernel
theorem dX0_push_60 : decode cX0_push 60 = .ok (.putfield 15, 3) := by decide +kernel
theorem dX0_push_63 : decode cX0_push 63 = .ok (.aload_n 0, 1) := by decide +kernel
theorem dX0_push_64 : decode cX0_push 64 = .ok (.aload_n 0, 1) := by decide +kernel
theorem dX0_push_65 : decode cX0_push 65 = .ok (.getfield 24, 3) := by decide +kernel
theorem dX0_push_68 : decode cX0_push 68 = .ok (.iconst 1, 1) := by decide +kernel
theorem dX0_push_69 : decode cX0_push 69 = .ok (.iadd, 1) := by decide +kernel
theorem dX0_push_70 : decode cX0_push 70 = .ok (.bipush 10, 2) := by decide +kernel
theorem dX0_push_72 : decode cX0_push 72 = .ok (.invokestatic 27, 3) := by decide +kernel
theorem dX0_push_75 : decode cX0_push 75 = .ok (.putfield 24, 3) := by decide +kernel
theorem dX0_push_78 : decode cX0_push 78 = .ok (.return_, 1) := by decide +kernel
theorem dX0_pop_0 : decode cX0_pop 0 = .ok (.aload_n 0, 1) := by decide +kernel
theorem dX0_pop_1 : decode cX0_pop 1 = .ok (.getfield 15, 3) := by decide +kernel
theorem dX0_pop_4 : decode cX0_pop 4 = .ok (.ifCond .le 21, 3) := by decide +kernel
theorem dX0_pop_7 : decode cX0_pop 7 = .ok (.aload_n 0, 1) := by decide +kernel
theorem dX0_pop_8 : decode cX0_pop 8 = .ok (.getfield 15, 3) := by decide +kernel
theorem dX0_pop_11 : decode cX0_pop 11 = .ok (.bipush 10, 2) := by decide +kernel
theorem dX0_pop_13 : decode cX0_pop 13 = .ok (.if_icmp .gt 12, 3) := by decide +kernel
theorem dX0_pop_16 : decode cX0_pop 16 = .ok (.aload_n 0, 1) := by decide +kernel
theorem dX0_pop_17 : decode cX0_pop 17 = .ok (.getfield 15, 3) := by decide +kernel
theorem dX0_pop_20 : decode cX0_pop 20 = .ok (.iconst 1, 1) := by decide +kernel
theorem dX0_pop_21 : decode cX0_pop 21 = .ok (.isub, 1) := by decide +kernel
theorem dX0_pop_22 : decode cX0_pop 22 = .ok (.goto 5, 3) := by decide +kernel
theorem dX0_pop_25 : decode cX0_pop 25 = .ok (.bipush 9, 2) := by decide +kernel
theorem dX0_pop_27 : decode cX0_pop 27 = .ok (.istore_n 2, 1) := by decide +kernel
theorem dX0_pop_28 : decode cX0_pop 28 = .ok (.aload_n 0, 1) := by decide +kernel
theorem dX0_pop_29 : decode cX0_pop 29 = .ok (.getfield 11, 3) := by decide +kernel
theorem dX0_pop_32 : decode cX0_pop 32 = .ok (.iload_n 2, 1) := by decide +kernel
theorem dX0_pop_33 : decode cX0_pop 33 = .ok (.aaload, 1) := by decide +kernel
theorem dX0_pop_34 : decode cX0_pop 34 = .ok (.astore_n 3, 1) := by decide +kernel
theorem dX0_pop_35 : decode cX0_pop 35 = .ok (.aload_n 0, 1) := by decide +kernel
theorem dX0_pop_36 : decode cX0_pop 36 = .ok (.getfield 24, 3) := by decide +kernel
theorem dX0_pop_39 : decode cX0_pop 39 = .ok (.ifCond .eq 7, 3) := by decide +kernel
theorem dX0_pop_42 : decode cX0_pop 42 = .ok (.aload_n 3, 1) := by decide +kernel
theorem dX0_pop_43 : decode cX0_pop 43 = .ok (.ifnonnull 5, 3) := by decide +kernel
theorem dX0_pop_46 : decode cX0_pop 46 = .ok (.iconst 0, 1) := by decide +kernel
theorem dX0_pop_47 : decode cX0_pop 47 = .ok (.ireturn, 1) := by decide +kernel
theorem dX0_pop_48 : decode cX0_pop 48 = .ok (.aload_n 1, 1) := by decide +kernel
theorem dX0_pop_49 : decode cX0_pop 49 = .ok (.aload_n 3, 1) := by decide +kernel
theorem dX0_pop_50 : decode cX0_pop 50 = .ok (.invokevirtual 20, 3) := by decide +kernel
theorem dX0_pop_53 : decode cX0_pop 53 = .ok (.aload_n 0, 1) := by decide +kernel
theorem dX0_pop_54 : decode cX0_pop 54 = .ok (.iload_n 2, 1) := by decide +kernel
theorem dX0_pop_55 : decode cX0_pop 55 = .ok (.putfield 15, 3) := by decide +kernel
theorem dX0_pop_58 : decode cX0_pop 58 = .ok (.aload_n 0, 1) := by decide +kernel
theorem dX0_pop_59 : decode cX0_pop 59 = .ok (.dup, 1) := by decide +kernel
theorem dX0_pop_60 : decode cX0_pop 60 = .ok (.getfield 24, 3) := by decide +kernel
theorem dX0_pop_63 : decode cX0_pop 63 = .ok (.iconst 1, 1) := by decide +kernel
theorem dX0_pop_64 : decode cX0_pop 64 = .ok (.isub, 1) := by decide +kernel
theorem dX0_pop_65 : decode cX0_pop 65 = .ok (.putfield 24, 3) := by decide +kernel
theorem dX0_pop_68 : decode cX0_pop 68 = .ok (.iconst 1, 1) := by decide +kernel
theorem dX0_pop_69 : decode cX0_pop 69 = .ok (.ireturn, 1) := by decide +kernel
theorem dX1_init_0 : decode cX1_init 0 = .ok (.aload_n 0, 1) := by decide +kernel
theorem dX1_init_1 : decode cX1_init 1 = .ok (.invokespecial 3, 3) := by decide +kernel
theorem dX1_init_4 : decode cX1_init 4 = .ok (.aload_n 0, 1) := by decide +kernel
theorem dX1_init_5 : decode cX1_init 5 = .ok (.bipush 64, 2) := by decide +kernel
theorem dX1_init_7 : decode cX1_init 7 = .ok (.newarray .long, 2) := by decide +kernel
theorem dX1_init_9 : decode cX1_init 9 = .ok (.putfield 11, 3) := by decide +kernel
theorem dX1_init_12 : decode cX1_init 12 = .ok (.aload_n 0, 1) := by decide +kernel
theorem dX1_init_13 : decode cX1_init 13 = .ok (.bipush 64, 2) := by decide +kernel
theorem dX1_init_15 : decode cX1_init 15 = .ok (.newarray .int, 2) := by decide +kernel
theorem dX1_init_17 : decode cX1_init 17 = .ok (.putfield 15, 3) := by decide +kernel
theorem dX1_init_20 : decode cX1_init 20 = .ok (.aload_n 0, 1) := by decide +kernel
theorem dX1_init_21 : decode cX1_init 21 = .ok (.bipush 64, 2) := by decide +kernel
theorem dX1_init_23 : decode cX1_init 23 = .ok (.newarray .int, 2) := by decide +kernel
theorem dX1_init_25 : decode cX1_init 25 = .ok (.putfield 19, 3) := by decide +kernel
theorem dX1_init_28 : decode cX1_init 28 = .ok (.aload_n 0, 1) := by decide +kernel
theorem dX1_init_29 : decode cX1_init 29 = .ok (.bipush 64, 2) := by decide +kernel
theorem dX1_init_31 : decode cX1_init 31 = .ok (.newarray .int, 2) := by decide +kernel
theorem dX1_init_33 : decode cX1_init 33 = .ok (.putfield 22, 3) := by decide +kernel
theorem dX1_init_36 : decode cX1_init 36 = .ok (.aload_n 0, 1) := by decide +kernel
theorem dX1_init_37 : decode cX1_init 37 = .ok (.iconst 4, 1) := by decide +kernel
theorem dX1_init_38 : decode cX1_init 38 = .ok (.newarray .long, 2) := by decide +kernel
theorem dX1_init_40 : decode cX1_init 40 = .ok (.putfield 25, 3) := by decide +kernel
theorem dX1_init_43 : decode cX1_init 43 = .ok (.aload_n 0, 1) := by decide +kernel
theorem dX1_init_44 : decode cX1_init 44 = .ok (.iconst 4, 1) := by decide +kernel
theorem dX1_init_45 : decode cX1_init 45 = .ok (.newarray .long, 2) := by decide +kernel
theorem dX1_init_47 : decode cX1_init 47 = .ok (.putfield 28, 3) := by decide +kernel
theorem dX1_init_50 : decode cX1_init 50 = .ok (.return_, 1) := by decide +kernel
theorem dX1_lay_0 : decode cX1_lay 0 = .ok (.aload_n 0, 1) := by decide +kernel
theorem dX1_lay_1 : decode cX1_lay 1 = .ok (.lload_n 1, 1) := by decide +kernel
theorem dX1_lay_2 : decode cX1_lay 2 = .ok (.invokevirtual 31, 3) := by decide +kernel
theorem dX1_lay_5 : decode cX1_lay 5 = .ok (.iconst 0, 1) := by decide +kernel
theorem dX1_lay_6 : decode cX1_lay 6 = .ok (.istore_n 3, 1) := by decide +kernel
theorem dX1_lay_7 : decode cX1_lay 7 = .ok (.iload_n 3, 1) := by decide +kernel
theorem dX1_lay_8 : decode cX1_lay 8 = .ok (.aload_n 0, 1) := by decide +kernel
theorem dX1_lay_9 : decode cX1_lay 9 = .ok (.getfield 35, 3) := by decide +kernel
theorem dX1_lay_12 : decode cX1_lay 12 = .ok (.if_icmp .ge 51, 3) := by decide +kernel
theorem dX1_lay_15 : decode cX1_lay 15 = .ok (.iload_n 3, 1) := by decide +kernel
theorem dX1_lay_16 : decode cX1_lay 16 = .ok (.bipush 64, 2) := by decide +kernel
theorem dX1_lay_18 : decode cX1_lay 18 = .ok (.if_icmp .ge 45, 3) := by decide +kernel
theorem dX1_lay_21 : decode cX1_lay 21 = .ok (.aload_n 0, 1) := by decide +kernel
theorem dX1_lay_22 : decode cX1_lay 22 = .ok (.getfield 19, 3) := by decide +kernel
theorem dX1_lay_25 : decode cX1_lay 25 = .ok (.iload_n 3, 1) := by decide +kernel
theorem dX1_lay_26 : decode cX1_lay 26 = .ok (.aload_n 0, 1) := by decide +kernel
theorem dX1_lay_27 : decode cX1_lay 27 = .ok (.getfield 11, 3) := by decide +kernel
theorem dX1_lay_30 : decode cX1_lay 30 = .ok (.iload_n 3, 1) := by decide +kernel
theorem dX1_lay_31 : decode cX1_lay 31 = .ok (.laload, 1) := by decide +kernel
theorem dX1_lay_32 : decode cX1_lay 32 = .ok (.aload_n 0, 1) := by decide +kernel
theorem dX1_lay_33 : decode cX1_lay 33 = .ok (.getfield 15, 3) := by decide +kernel
theorem dX1_lay_36 : decode cX1_lay 36 = .ok (.iload_n 3, 1) := by decide +kernel
theorem dX1_lay_37 : decode cX1_lay 37 = .ok (.iaload, 1) := by decide +kernel
theorem dX1_lay_38 : decode cX1_lay 38 = .ok (.invokestatic 39, 3) := by decide +kernel
theorem dX1_lay_41 : decode cX1_lay 41 = .ok (.iastore, 1) := by decide +kernel
theorem dX1_lay_42 : decode cX1_lay 42 = .ok (.aload_n 0, 1) := by decide +kernel
theorem dX1_lay_43 : decode cX1_lay 43 = .ok (.getfield 22, 3) := by decide +kernel
theorem dX1_lay_46 : decode cX1_lay 46 = .ok (.iload_n 3, 1) := by decide +kernel
theorem dX1_lay_47 : decode cX1_lay 47 = .ok (.aload_n 0, 1) := by decide +kernel
theorem dX1_lay_48 : decode cX1_lay 48 = .ok (.getfield 11, 3) := by decide +kernel
theorem dX1_lay_51 : decode cX1_lay 51 = .ok (.iload_n 3, 1) := by decide +kernel
theorem dX1_lay_52 : decode cX1_lay 52 = .ok (.laload, 1) := by decide +kernel
theorem dX1_lay_53 : decode cX1_lay 53 = .ok (.invokestatic 43, 3) := by decide +kernel
theorem dX1_lay_56 : decode cX1_lay 56 = .ok (.iastore, 1) := by decide +kernel
theorem dX1_lay_57 : decode cX1_lay 57 = .ok (.iinc 3 1, 3) := by decide +kernel
theorem dX1_lay_60 : decode cX1_lay 60 = .ok (.goto (-53), 3) := by decide +kernel
theorem dX1_lay_63 : decode cX1_lay 63 = .ok (.aload_n 0, 1) := by decide +kernel
theorem dX1_lay_64 : decode cX1_lay 64 = .ok (.invokevirtual 47, 3) := by decide +kernel
theorem dX1_lay_67 : decode cX1_lay 67 = .ok (.aload_n 0, 1) := by decide +kernel
theorem dX1_lay_68 : decode cX1_lay 68 = .ok (.iconst 0, 1) := by decide +kernel
theorem dX1_lay_69 : decode cX1_lay 69 = .ok (.putfield 50, 3) := by decide +kernel
theorem dX1_lay_72 : decode cX1_lay 72 = .ok (.aload_n 0, 1) := by decide +kernel
theorem dX1_lay_73 : decode cX1_lay 73 = .ok (.iconst (-1), 1) := by decide +kernel
theorem dX1_lay_74 : decode cX1_lay 74 = .ok (.putfield 53, 3) := by decide +kernel
theorem dX1_lay_77 : decode cX1_lay 77 = .ok (.aload_n 0, 1) := by decide +kernel
theorem dX1_lay_78 : decode cX1_lay 78 = .ok (.iconst 0, 1) := by decide +kernel
theorem dX1_lay_79 : decode cX1_lay 79 = .ok (.lconst 0, 1) := by decide +kernel
theorem dX1_lay_80 : decode cX1_lay 80 = .ok (.iconst 0, 1) := by decide +kernel
theorem dX1_lay_81 : decode cX1_lay 81 = .ok (.iconst 0, 1) := by decide +kernel
theorem dX1_lay_82 : decode cX1_lay 82 = .ok (.invokevirtual 56, 3) := by decide +kernel
theorem dX1_lay_85 : decode cX1_lay 85 = .ok (.aload_n 0, 1) := by decide +kernel
theorem dX1_lay_86 : decode cX1_lay 86 = .ok (.lload_n 1, 1) := by decide +kernel
theorem dX1_lay_87 : decode cX1_lay 87 = .ok (.putfield 60, 3) := by decide +kernel
theorem dX1_lay_90 : decode cX1_lay 90 = .ok (.iconst 0, 1) := by decide +kernel
theorem dX1_lay_91 : decode cX1_lay 91 = .ok (.istore_n 3, 1) := by decide +kernel
theorem dX1_lay_92 : decode cX1_lay 92 = .ok (.iload_n 3, 1) := by decide +kernel
theorem dX1_lay_93 : decode cX1_lay 93 = .ok (.aload_n 0, 1) := by decide +kernel
theorem dX1_lay_94 : decode cX1_lay 94 = .ok (.getfield 50, 3) := by decide +kernel
theorem dX1_lay_97 : decode cX1_lay 97 = .ok (.if_icmp .ge 37, 3) := by decide +kernel
theorem dX1_lay_100 : decode cX1_lay 100 = .ok (.iload_n 3, 1) := by decide +kernel
theorem dX1_lay_101 : decode cX1_lay 101 = .ok (.aload_n 0, 1) := by decide +kernel
theorem dX1_lay_102 : decode cX1_lay 102 = .ok (.getfield 28, 3) := by decide +kernel
theorem dX1_lay_105 : decode cX1_lay 105 = .ok (.arraylength, 1) := by decide +kernel
theorem dX1_lay_106 : decode cX1_lay 106 = .ok (.if_icmp .ge 28, 3) := by decide +kernel
theorem dX1_lay_109 : decode cX1_lay 109 = .ok (.aload_n 0, 1) := by decide +kernel
theorem dX1_lay_110 : decode cX1_lay 110 = .ok (.dup, 1) := by decide +kernel
theorem dX1_lay_111 : decode cX1_lay 111 = .ok (.getfield 60, 3) := by decide +kernel
theorem dX1_lay_114 : decode cX1_lay 114 = .ok (.aload_n 0, 1) := by decide +kernel
theorem dX1_lay_115 : decode cX1_lay 115 = .ok (.getfield 28, 3) := by decide +kernel
theorem dX1_lay_118 : decode cX1_lay 118 = .ok (.iload_n 3, 1) := by decide +kernel
theorem dX1_lay_119 : decode cX1_lay 119 = .ok (.laload, 1) := by decide +kernel
theorem dX1_lay_120 : decode cX1_lay 120 = .ok (.ldc2_w 64, 3) := by decide +kernel
theorem dX1_lay_123 : decode cX1_lay 123 = .ok (.lxor, 1) := by decide +kernel
theorem dX1_lay_124 : decode cX1_lay 124 = .ok (.land, 1) := by decide +kernel
theorem dX1_lay_125 : decode cX1_lay 125 = .ok (.putfield 60, 3) := by decide +kernel
theorem dX1_lay_128 : decode cX1_lay 128 = .ok (.iinc 3 1, 3) := by decide +kernel
theorem dX1_lay_131 : decode cX1_lay 131 = .ok (.goto (-39), 3) := by decide +kernel
theorem dX1_lay_134 : decode cX1_lay 134 = .ok (.aload_n 0, 1) := by decide +kernel
theorem dX1_lay_135 : decode cX1_lay 135 = .ok (.aload_n 0, 1) := by decide +kernel
theorem dX1_lay_136 : decode cX1_lay 136 = .ok (.getfield 60, 3) := by decide +kernel
theorem dX1_lay_139 : decode cX1_lay 139 = .ok (.invokestatic 43, 3) := by decide +kernel
theorem dX1_lay_142 : decode cX1_lay 142 = .ok (.putfield 66, 3) := by decide +kernel
theorem dX1_lay_145 : decode cX1_lay 145 = .ok (.return_, 1) := by decide +kernel
theorem dX1_restBehindDrop_0 : decode cX1_restBehindDrop 0 = .ok (.aload_n 0, 1) := by decide +kernel
theorem dX1_restBehindDrop_1 : decode cX1_restBehindDrop 1 = .ok (.lload_n 1, 1) := by decide +kernel
theorem dX1_restBehindDrop_2 : decode cX1_restBehindDrop 2 = .ok (.invokevirtual 31, 3) := by decide +kernel
theorem dX1_restBehindDrop_5 : decode cX1_restBehindDrop 5 = .ok (.aload_n 0, 1) := by decide +kernel
theorem dX1_restBehindDrop_6 : decode cX1_restBehindDrop 6 = .ok (.lload_n 1, 1) := by decide +kernel
theorem dX1_restBehindDrop_7 : decode cX1_restBehindDrop 7 = .ok (.putfield 69, 3) := by decide +kernel
theorem dX1_restBehindDrop_10 : decode cX1_restBehindDrop 10 = .ok (.aload_n 0, 1) := by decide +kernel
theorem dX1_restBehindDrop_11 : decode cX1_restBehindDrop 11 = .ok (.lload_n 1, 1) := by decide +kernel
theorem dX1_restBehindDrop_12 : decode cX1_restBehindDrop 12 = .ok (.iload_n 3, 1) := by decide +kernel
theorem dX1_restBehindDrop_13 : decode cX1_restBehindDrop 13 = .ok (.invokestatic 72, 3) := by decide +kernel
theorem dX1_restBehindDrop_16 : decode cX1_restBehindDrop 16 = .ok (.ldc2_w 64, 3) := by decide +kernel
theorem dX1_restBehindDrop_19 : decode cX1_restBehindDrop 19 = .ok (.lxor, 1) := by decide +kernel
theorem dX1_restBehindDrop_20 : decode cX1_restBehindDrop 20 = .ok (.land, 1) := by decide +kernel
theorem dX1_restBehindDrop_21 : decode cX1_restBehindDrop 21 = .ok (.putfield 76, 3) := by decide +kernel
theorem dX1_restBehindDrop_24 : decode cX1_restBehindDrop 24 = .ok (.aload_n 0, 1) := by decide +kernel
theorem dX1_restBehindDrop_25 : decode cX1_restBehindDrop 25 = .ok (.iconst (-1), 1) := by decide +kernel
theorem dX1_restBehindDrop_26 : decode cX1_restBehindDrop 26 = .ok (.putfield 79, 3) := by decide +kernel
theorem dX1_restBehindDrop_29 : decode cX1_restBehindDrop 29 = .ok (.aload_n 0, 1) := by decide +kernel
theorem dX1_restBehindDrop_30 : decode cX1_restBehindDrop 30 = .ok (.iconst 0, 1) := by decide +kernel
theorem dX1_restBehindDrop_31 : decode cX1_restBehindDrop 31 = .ok (.lconst 0, 1) := by decide +kernel
theorem dX1_restBehindDrop_32 : decode cX1_restBehindDrop 32 = .ok (.iconst 0, 1) := by decide +kernel
theorem dX1_restBehindDrop_33 : decode cX1_restBehindDrop 33 = .ok (.invokevirtual 82, 3) := by decide +kernel
theorem dX1_restBehindDrop_36 : decode cX1_restBehindDrop 36 = .ok (.aload_n 0, 1) := by decide +kernel
theorem dX1_restBehindDrop_37 : decode cX1_restBehindDrop 37 = .ok (.getfield 79, 3) := by decide +kernel
theorem dX1_restBehindDrop_40 : decode cX1_restBehindDrop 40 = .ok (.ireturn, 1) := by decide +kernel
theorem dX1_collect_0 : decode cX1_collect 0 = .ok (.aload_n 0, 1) := by decide +kernel
theorem dX1_collect_1 : decode cX1_collect 1 = .ok (.iconst 0, 1) := by decide +kernel
theorem dX1_collect_2 : decode cX1_collect 2 = .ok (.putfield 35, 3) := by decide +kernel
theorem dX1_collect_5 : decode cX1_collect 5 = .ok (.iconst 0, 1) := by decide +kernel
theorem dX1_collect_6 : decode cX1_collect 6 = .ok (.istore_n 3, 1) := by decide +kernel
theorem dX1_collect_7 : decode cX1_collect 7 = .ok (.iload_n 3, 1) := by decide +kernel
theorem dX1_collect_8 : decode cX1_collect 8 = .ok (.bipush 13, 2) := by decide +kernel
theorem dX1_collect_10 : decode cX1_collect 10 = .ok (.if_icmp .ge 20, 3) := by decide +kernel
theorem dX1_collect_13 : decode cX1_collect 13 = .ok (.aload_n 0, 1) := by decide +kernel
theorem dX1_collect_14 : decode cX1_collect 14 = .ok (.lload_n 1, 1) := by decide +kernel
theorem dX1_collect_15 : decode cX1_collect 15 = .ok (.ldc2_w 86, 3) := by decide +kernel
theorem dX1_collect_18 : decode cX1_collect 18 = .ok (.iload_n 3, 1) := by decide +kernel
theorem dX1_collect_19 : decode cX1_collect 19 = .ok (.lshl, 1) := by decide +kernel
theorem dX1_collect_20 : decode cX1_collect 20 = .ok (.land, 1) := by decide +kernel
theorem dX1_collect_21 : decode cX1_collect 21 = .ok (.invokevirtual 88, 3) := by decide +kernel
theorem dX1_collect_24 : decode cX1_collect 24 = .ok (.iinc 3 1, 3) := by decide +kernel
theorem dX1_collect_27 : decode cX1_collect 27 = .ok (.goto (-20), 3) := by decide +kernel
theorem dX1_collect_30 : decode cX1_collect 30 = .ok (.iconst 0, 1) := by decide +kernel
theorem dX1_collect_31 : decode cX1_collect 31 = .ok (.istore_n 3, 1) := by decide +kernel
theorem dX1_collect_32 : decode cX1_collect 32 = .ok (.iload_n 3, 1) := by decide +kernel
theorem dX1_collect_33 : decode cX1_collect 33 = .ok (.iconst 4, 1) := by decide +kernel
theorem dX1_collect_34 : decode cX1_collect 34 = .ok (.if_icmp .ge 27, 3) := by decide +kernel
theorem dX1_collect_37 : decode cX1_collect 37 = .ok (.aload_n 0, 1) := by decide +kernel
theorem dX1_collect_38 : decode cX1_collect 38 = .ok (.lload_n 1, 1) := by decide +kernel
theorem dX1_collect_39 : decode cX1_collect 39 = .ok (.iload_n 3, 1) := by decide +kernel
theorem dX1_collect_40 : decode cX1_collect 40 = .ok (.bipush 13, 2) := by decide +kernel
theorem dX1_collect_42 : decode cX1_collect 42 = .ok (.imul, 1) := by decide +kernel
theorem dX1_collect_43 : decode cX1_collect 43 = .ok (.lushr, 1) := by decide +kernel
theorem dX1_collect_44 : decode cX1_collect 44 = .ok (.ldc2_w 91, 3) := by decide +kernel
theorem dX1_collect_47 : decode cX1_collect 47 = .ok (.land, 1) := by decide +kernel
theorem dX1_collect_48 : decode cX1_collect 48 = .ok (.iload_n 3, 1) := by decide +kernel
theorem dX1_collect_49 : decode cX1_collect 49 = .ok (.bipush 13, 2) := by decide +kernel
theorem dX1_collect_51 : decode cX1_collect 51 = .ok (.imul, 1) := by decide +kernel
theorem dX1_collect_52 : decode cX1_collect 52 = .ok (.invokevirtual 93, 3) := by decide +kernel
theorem dX1_collect_55 : decode cX1_collect 55 = .ok (.iinc 3 1, 3) := by decide +kernel
theorem dX1_collect_58 : decode cX1_collect 58 = .ok (.goto (-26), 3) := by decide +kernel
theorem dX1_collect_61 : decode cX1_collect 61 = .ok (.return_, 1) := by decide +kernel
theorem dX1_collectSets_0 : decode cX1_collectSets 0 = .ok (.lload_n 1, 1) := by decide +kernel
theorem dX1_collectSets_1 : decode cX1_collectSets 1 = .ok (.invokestatic 97, 3) := by decide +kernel
theorem dX1_collectSets_4 : decode cX1_collectSets 4 = .ok (.istore_n 3, 1) := by decide +kernel
theorem dX1_collectSets_5 : decode cX1_collectSets 5 = .ok (.iload_n 3, 1) := by decide +kernel
theorem dX1_collectSets_6 : decode cX1_collectSets 6 = .ok (.iconst 3, 1) := by decide +kernel
theorem dX1_collectSets_7 : decode cX1_collectSets 7 = .ok (.if_icmp .ge 4, 3) := by decide +kernel
theorem dX1_collectSets_10 : decode cX1_collectSets 10 = .ok (.return_, 1) := by decide +kernel
theorem dX1_collectSets_11 : decode cX1_collectSets 11 = .ok (.aload_n 0, 1) := by decide +kernel
theorem dX1_collectSets_12 : decode cX1_collectSets 12 = .ok (.lload_n 1, 1) := by decide +kernel
theorem dX1_collectSets_13 : decode cX1_collectSets 13 = .ok (.iconst 1, 1) := by decide +kernel
theorem dX1_collectSets_14 : decode cX1_collectSets 14 = .ok (.invokevirtual 102, 3) := by decide +kernel
theorem dX1_collectSets_17 : decode cX1_collectSets 17 = .ok (.iconst 0, 1) := by decide +kernel
theorem dX1_collectSets_18 : decode cX1_collectSets 18 = .ok (.istore 4, 2) := by decide +kernel
theorem dX1_collectSets_20 : decode cX1_collectSets 20 = .ok (.iload 4, 2) := by decide +kernel
theorem dX1_collectSets_22 : decode cX1_collectSets 22 = .ok (.iconst 4, 1) := by decide +kernel
theorem dX1_collectSets_23 : decode cX1_collectSets 23 = .ok (.if_icmp .ge 34, 3) := by decide +kernel
theorem dX1_collectSets_26 : decode cX1_collectSets 26 = .ok (.iload_n 3, 1) := by decide +kernel
theorem dX1_collectSets_27 : decode cX1_collectSets 27 = .ok (.iconst 4, 1) := by decide +kernel
theorem dX1_collectSets_28 : decode cX1_collectSets 28 = .ok (.if_icmp .ne 29, 3) := by decide +kernel
theorem dX1_collectSets_31 : decode cX1_collectSets 31 = .ok (.aload_n 0, 1) := by decide +kernel
theorem dX1_collectSets_32 : decode cX1_collectSets 32 = .ok (.lload_n 1, 1) := by decide +kernel
theorem dX1_collectSets_33 : decode cX1_collectSets 33 = .ok (.ldc2_w 91, 3) := by decide +kernel
theorem dX1_collectSets_36 : decode cX1_collectSets 36 = .ok (.iload 4, 2) := by decide +kernel
theorem dX1_collectSets_38 : decode cX1_collectSets 38 = .ok (.bipush 13, 2) := by decide +kernel
theorem dX1_collectSets_40 : decode cX1_collectSets 40 = .ok (.imul, 1) := by decide +kernel
theorem dX1_collectSets_41 : decode cX1_collectSets 41 = .ok (.lshl, 1) := by decide +kernel
theorem dX1_collectSets_42 : decode cX1_collectSets 42 = .ok (.ldc2_w 64, 3) := by decide +kernel
theorem dX1_collectSets_45 : decode cX1_collectSets 45 = .ok (.lxor, 1) := by decide +kernel
theorem dX1_collectSets_46 : decode cX1_collectSets 46 = .ok (.land, 1) := by decide +kernel
theorem dX1_collectSets_47 : decode cX1_collectSets 47 = .ok (.iconst 1, 1) := by decide +kernel
theorem dX1_collectSets_48 : decode cX1_collectSets 48 = .ok (.invokevirtual 102, 3) := by decide +kernel
theorem dX1_collectSets_51 : decode cX1_collectSets 51 = .ok (.iinc 4 1, 3) := by decide +kernel
theorem dX1_collectSets_54 : decode cX1_collectSets 54 = .ok (.goto (-34), 3) := by decide +kernel
theorem dX1_collectSets_57 : decode cX1_collectSets 57 = .ok (.return_, 1) := by decide +kernel
theorem dX1_collectRuns_0 : decode cX1_collectRuns 0 = .ok (.lload_n 1, 1) := by decide +kernel
theorem dX1_collectRuns_1 : decode cX1_collectRuns 1 = .ok (.invokestatic 97, 3) := by decide +kernel
theorem dX1_collectRuns_4 : decode cX1_collectRuns 4 = .ok (.iconst 3, 1) := by decide +kernel
theorem dX1_collectRuns_5 : decode cX1_collectRuns 5 = .ok (.if_icmp .ge 4, 3) := by decide +kernel
theorem dX1_collectRuns_8 : decode cX1_collectRuns 8 = .ok (.return_, 1) := by decide +kernel
theorem dX1_collectRuns_9 : decode cX1_collectRuns 9 = .ok (.iconst 0, 1) := by decide +kernel
theorem dX1_collectRuns_10 : decode cX1_collectRuns 10 = .ok (.istore 4, 2) := by decide +kernel
theorem dX1_collectRuns_12 : decode cX1_collectRuns 12 = .ok (.iload 4, 2) := by decide +kernel
theorem dX1_collectRuns_14 : decode cX1_collectRuns 14 = .ok (.bipush 13, 2) := by decide +kernel
theorem dX1_collectRuns_16 : decode cX1_collectRuns 16 = .ok (.if_icmp .ge 90, 3) := by decide +kernel
theorem dX1_collectRuns_19 : decode cX1_collectRuns 19 = .ok (.lconst 0, 1) := by decide +kernel
theorem dX1_collectRuns_20 : decode cX1_collectRuns 20 = .ok (.lstore 5, 2) := by decide +kernel
theorem dX1_collectRuns_22 : decode cX1_collectRuns 22 = .ok (.iload 4, 2) := by decide +kernel
theorem dX1_collectRuns_24 : decode cX1_collectRuns 24 = .ok (.ifCond .ne 8, 3) := by decide +kernel
theorem dX1_collectRuns_27 : decode cX1_collectRuns 27 = .ok (.bipush 13, 2) := by decide +kernel
theorem dX1_collectRuns_29 : decode cX1_collectRuns 29 = .ok (.goto 5, 3) := by decide +kernel
theorem dX1_collectRuns_32 : decode cX1_collectRuns 32 = .ok (.bipush 12, 2) := by decide +kernel
theorem dX1_collectRuns_34 : decode cX1_collectRuns 34 = .ok (.istore 7, 2) := by decide +kernel
theorem dX1_collectRuns_36 : decode cX1_collectRuns 36 = .ok (.iconst 1, 1) := by decide +kernel
theorem dX1_collectRuns_37 : decode cX1_collectRuns 37 = .ok (.istore 8, 2) := by decide +kernel
theorem dX1_collectRuns_39 : decode cX1_collectRuns 39 = .ok (.iload 8, 2) := by decide +kernel
theorem dX1_collectRuns_41 : decode cX1_collectRuns 41 = .ok (.iload 7, 2) := by decide +kernel
theorem dX1_collectRuns_43 : decode cX1_collectRuns 43 = .ok (.if_icmp .gt 57, 3) := by decide +kernel
theorem dX1_collectRuns_46 : decode cX1_collectRuns 46 = .ok (.lconst 1, 1) := by decide +kernel
theorem dX1_collectRuns_47 : decode cX1_collectRuns 47 = .ok (.iload 4, 2) := by decide +kernel
theorem dX1_collectRuns_49 : decode cX1_collectRuns 49 = .ok (.iload 8, 2) := by decide +kernel
theorem dX1_collectRuns_51 : decode cX1_collectRuns 51 = .ok (.iadd, 1) := by decide +kernel
theorem dX1_collectRuns_52 : decode cX1_collectRuns 52 = .ok (.iconst 1, 1) := by decide +kernel
theorem dX1_collectRuns_53 : decode cX1_collectRuns 53 = .ok (.isub, 1) := by decide +kernel
theorem dX1_collectRuns_54 : decode cX1_collectRuns 54 = .ok (.bipush 13, 2) := by decide +kernel
theorem dX1_collectRuns_56 : decode cX1_collectRuns 56 = .ok (.irem, 1) := by decide +kernel
theorem dX1_collectRuns_57 : decode cX1_collectRuns 57 = .ok (.lshl, 1) := by decide +kernel
theorem dX1_collectRuns_58 : decode cX1_collectRuns 58 = .ok (.lstore 9, 2) := by decide +kernel
theorem dX1_collectRuns_60 : decode cX1_collectRuns 60 = .ok (.lload_n 1, 1) := by decide +kernel
theorem dX1_collectRuns_61 : decode cX1_collectRuns 61 = .ok (.lload 9, 2) := by decide +kernel
theorem dX1_collectRuns_63 : decode cX1_collectRuns 63 = .ok (.land, 1) := by decide +kernel
theorem dX1_collectRuns_64 : decode cX1_collectRuns 64 = .ok (.lconst 0, 1) := by decide +kernel
theorem dX1_collectRuns_65 : decode cX1_collectRuns 65 = .ok (.lcmp, 1) := by decide +kernel
theorem dX1_collectRuns_66 : decode cX1_collectRuns 66 = .ok (.ifCond .ne 6, 3) := by decide +kernel
theorem dX1_collectRuns_69 : decode cX1_collectRuns 69 = .ok (.goto 31, 3) := by decide +kernel
theorem dX1_collectRuns_72 : decode cX1_collectRuns 72 = .ok (.lload 5, 2) := by decide +kernel
theorem dX1_collectRuns_74 : decode cX1_collectRuns 74 = .ok (.lload 9, 2) := by decide +kernel
theorem dX1_collectRuns_76 : decode cX1_collectRuns 76 = .ok (.lor, 1) := by decide +kernel
theorem dX1_collectRuns_77 : decode cX1_collectRuns 77 = .ok (.lstore 5, 2) := by decide +kernel
theorem dX1_collectRuns_79 : decode cX1_collectRuns 79 = .ok (.iload 8, 2) := by decide +kernel
theorem dX1_collectRuns_81 : decode cX1_collectRuns 81 = .ok (.iconst 3, 1) := by decide +kernel
theorem dX1_collectRuns_82 : decode cX1_collectRuns 82 = .ok (.if_icmp .lt 12, 3) := by decide +kernel
theorem dX1_collectRuns_85 : decode cX1_collectRuns 85 = .ok (.aload_n 0, 1) := by decide +kernel
theorem dX1_collectRuns_86 : decode cX1_collectRuns 86 = .ok (.lload 5, 2) := by decide +kernel
theorem dX1_collectRuns_88 : decode cX1_collectRuns 88 = .ok (.iload_n 3, 1) := by decide +kernel
theorem dX1_collectRuns_89 : decode cX1_collectRuns 89 = .ok (.lshl, 1) := by decide +kernel
theorem dX1_collectRuns_90 : decode cX1_collectRuns 90 = .ok (.iconst 2, 1) := by decide +kernel
theorem dX1_collectRuns_91 : decode cX1_collectRuns 91 = .ok (.invokevirtual 102, 3) := by decide +kernel
theorem dX1_collectRuns_94 : decode cX1_collectRuns 94 = .ok (.iinc 8 1, 3) := by decide +kernel
theorem dX1_collectRuns_97 : decode cX1_collectRuns 97 = .ok (.goto (-58), 3) := by decide +kernel
theorem dX1_collectRuns_100 : decode cX1_collectRuns 100 = .ok (.iinc 4 1, 3) := by decide +kernel
theorem dX1_collectRuns_103 : decode cX1_collectRuns 103 = .ok (.goto (-91), 3) := by decide +kernel
theorem dX1_collectRuns_106 : decode cX1_collectRuns 106 = .ok (.return_, 1) := by decide +kernel
theorem dX1_addMeld_0 : decode cX1_addMeld 0 = .ok (.aload_n 0, 1) := by decide +kernel
theorem dX1_addMeld_1 : decode cX1_addMeld 1 = .ok (.getfield 35, 3) := by decide +kernel
theorem dX1_addMeld_4 : decode cX1_addMeld 4 = .ok (.bipush 64, 2) := by decide +kernel
theorem dX1_addMeld_6 : decode cX1_addMeld 6 = .ok (.if_icmp .ge 33, 3) := by decide +kernel
theorem dX1_addMeld_9 : decode cX1_addMeld 9 = .ok (.aload_n 0, 1) := by decide +kernel
theorem dX1_addMeld_10 : decode cX1_addMeld 10 = .ok (.getfield 11, 3) := by decide +kernel
theorem dX1_addMeld_13 : decode cX1_addMeld 13 = .ok (.aload_n 0, 1) := by decide +kernel
theorem dX1_addMeld_14 : decode cX1_addMeld 14 = .ok (.getfield 35, 3) := by decide +kernel
theorem dX1_addMeld_17 : decode cX1_addMeld 17 = .ok (.lload_n 1, 1) := by decide +kernel
theorem dX1_addMeld_18 : decode cX1_addMeld 18 = .ok (.lastore, 1) := by decide +kernel
theorem dX1_addMeld_19 : decode cX1_addMeld 19 = .ok (.aload_n 0, 1) := by decide +kernel
theorem dX1_addMeld_20 : decode cX1_addMeld 20 = .ok (.getfield 15, 3) := by decide +kernel
theorem dX1_addMeld_23 : decode cX1_addMeld 23 = .ok (.aload_n 0, 1) := by decide +kernel
theorem dX1_addMeld_24 : decode cX1_addMeld 24 = .ok (.getfield 35, 3) := by decide +kernel
theorem dX1_addMeld_27 : decode cX1_addMeld 27 = .ok (.iload_n 3, 1) := by decide +kernel
theorem dX1_addMeld_28 : decode cX1_addMeld 28 = .ok (.iastore, 1) := by decide +kernel
theorem dX1_addMeld_29 : decode cX1_addMeld 29 = .ok (.aload_n 0, 1) := by decide +kernel
theorem dX1_addMeld_30 : decode cX1_addMeld 30 = .ok (.dup, 1) := by decide +kernel
theorem dX1_addMeld_31 : decode cX1_addMeld 31 = .ok (.getfield 35, 3) := by decide +kernel
theorem dX1_addMeld_34 : decode cX1_addMeld 34 = .ok (.iconst 1, 1) := by decide +kernel
theorem dX1_addMeld_35 : decode cX1_addMeld 35 = .ok (.iadd, 1) := by decide +kernel
theorem dX1_addMeld_36 : decode cX1_addMeld 36 = .ok (.putfield 35, 3) := by decide +kernel
theorem dX1_addMeld_39 : decode cX1_addMeld 39 = .ok (.return_, 1) := by decide +kernel
theorem dX1_keyOf_0 : decode cX1_keyOf 0 = .ok (.lload_n 0, 1) := by decide +kernel
theorem dX1_keyOf_1 : decode cX1_keyOf 1 = .ok (.invokestatic 105, 3) := by decide +kernel
theorem dX1_keyOf_4 : decode cX1_keyOf 4 = .ok (.bipush 14, 2) := by decide +kernel
theorem dX1_keyOf_6 : decode cX1_keyOf 6 = .ok (.imul, 1) := by decide +kernel
theorem dX1_keyOf_7 : decode cX1_keyOf 7 = .ok (.lload_n 0, 1) := by decide +kernel
theorem dX1_keyOf_8 : decode cX1_keyOf 8 = .ok (.invokestatic 97, 3) := by decide +kernel
theorem dX1_keyOf_11 : decode cX1_keyOf 11 = .ok (.iadd, 1) := by decide +kernel
theorem dX1_keyOf_12 : decode cX1_keyOf 12 = .ok (.iconst 4, 1) := by decide +kernel
theorem dX1_keyOf_13 : decode cX1_keyOf 13 = .ok (.imul, 1) := by decide +kernel
theorem dX1_keyOf_14 : decode cX1_keyOf 14 = .ok (.iload_n 2, 1) := by decide +kernel
theorem dX1_keyOf_15 : decode cX1_keyOf 15 = .ok (.iadd, 1) := by decide +kernel
theorem dX1_keyOf_16 : decode cX1_keyOf 16 = .ok (.ireturn, 1) := by decide +kernel
theorem dX1_sort_0 : decode cX1_sort 0 = .ok (.iconst 1, 1) := by decide +kernel
theorem dX1_sort_1 : decode cX1_sort 1 = .ok (.istore_n 1, 1) := by decide +kernel
theorem dX1_sort_2 : decode cX1_sort 2 = .ok (.iload_n 1, 1) := by decide +kernel
theorem dX1_sort_3 : decode cX1_sort 3 = .ok (.aload_n 0, 1) := by decide +kernel
theorem dX1_sort_4 : decode cX1_sort 4 = .ok (.getfield 35, 3) := by decide +kernel
theorem dX1_sort_7 : decode cX1_sort 7 = .ok (.if_icmp .ge 132, 3) := by decide +kernel
theorem dX1_sort_10 : decode cX1_sort 10 = .ok (.iload_n 1, 1) := by decide +kernel
theorem dX1_sort_11 : decode cX1_sort 11 = .ok (.bipush 64, 2) := by decide +kernel
theorem dX1_sort_13 : decode cX1_sort 13 = .ok (.if_icmp .ge 126, 3) := by decide +kernel
theorem dX1_sort_16 : decode cX1_sort 16 = .ok (.iload_n 1, 1) := by decide +kernel
theorem dX1_sort_17 : decode cX1_sort 17 = .ok (.istore_n 2, 1) := by decide +kernel
theorem dX1_sort_18 : decode cX1_sort 18 = .ok (.iload_n 2, 1) := by decide +kernel
theorem dX1_sort_19 : decode cX1_sort 19 = .ok (.ifCond .le 114, 3) := by decide +kernel
theorem dX1_sort_22 : decode cX1_sort 22 = .ok (.aload_n 0, 1) := by decide +kernel
theorem dX1_sort_23 : decode cX1_sort 23 = .ok (.iload_n 2, 1) := by decide +kernel
theorem dX1_sort_24 : decode cX1_sort 24 = .ok (.iload_n 2, 1) := by decide +kernel
theorem dX1_sort_25 : decode cX1_sort 25 = .ok (.iconst 1, 1) := by decide +kernel
theorem dX1_sort_26 : decode cX1_sort 26 = .ok (.isub, 1) := by decide +kernel
theorem dX1_sort_27 : decode cX1_sort 27 = .ok (.invokevirtual 108, 3) := by decide +kernel
theorem dX1_sort_30 : decode cX1_sort 30 = .ok (.ifCond .eq 103, 3) := by decide +kernel
theorem dX1_sort_33 : decode cX1_sort 33 = .ok (.aload_n 0, 1) := by decide +kernel
theorem dX1_sort_34 : decode cX1_sort 34 = .ok (.getfield 11, 3) := by decide +kernel
theorem dX1_sort_37 : decode cX1_sort 37 = .ok (.iload_n 2, 1) := by decide +kernel
theorem dX1_sort_38 : decode cX1_sort 38 = .ok (.laload, 1) := by decide +kernel
theorem dX1_sort_39 : decode cX1_sort 39 = .ok (.lstore_n 3, 1) := by decide +kernel
theorem dX1_sort_40 : decode cX1_sort 40 = .ok (.aload_n 0, 1) := by decide +kernel
theorem dX1_sort_41 : decode cX1_sort 41 = .ok (.getfield 11, 3) := by decide +kernel
theorem dX1_sort_44 : decode cX1_sort 44 = .ok (.iload_n 2, 1) := by decide +kernel
theorem dX1_sort_45 : decode cX1_sort 45 = .ok (.aload_n 0, 1) := by decide +kernel
theorem dX1_sort_46 : decode cX1_sort 46 = .ok (.getfield 11, 3) := by decide +kernel
theorem dX1_sort_49 : decode cX1_sort 49 = .ok (.iload_n 2, 1) := by decide +kernel
theorem dX1_sort_50 : decode cX1_sort 50 = .ok (.iconst 1, 1) := by decide +kernel
theorem dX1_sort_51 : decode cX1_sort 51 = .ok (.isub, 1) := by decide +kernel
theorem dX1_sort_52 : decode cX1_sort 52 = .ok (.laload, 1) := by decide +kernel
theorem dX1_sort_53 : decode cX1_sort 53 = .ok (.lastore, 1) := by decide +kernel
theorem dX1_sort_54 : decode cX1_sort 54 = .ok (.aload_n 0, 1) := by decide +kernel
theorem dX1_sort_55 : decode cX1_sort 55 = .ok (.getfield 11, 3) := by decide +kernel
theorem dX1_sort_58 : decode cX1_sort 58 = .ok (.iload_n 2, 1) := by decide +kernel
theorem dX1_sort_59 : decode cX1_sort 59 = .ok (.iconst 1, 1) := by decide +kernel
theorem dX1_sort_60 : decode cX1_sort 60 = .ok (.isub, 1) := by decide +kernel
theorem dX1_sort_61 : decode cX1_sort 61 = .ok (.lload_n 3, 1) := by decide +kernel
theorem dX1_sort_62 : decode cX1_sort 62 = .ok (.lastore, 1) := by decide +kernel
theorem dX1_sort_63 : decode cX1_sort 63 = .ok (.aload_n 0, 1) := by decide +kernel
theorem dX1_sort_64 : decode cX1_sort 64 = .ok (.getfield 19, 3) := by decide +kernel
theorem dX1_sort_67 : decode cX1_sort 67 = .ok (.iload_n 2, 1) := by decide +kernel
theorem dX1_sort_68 : decode cX1_sort 68 = .ok (.iaload, 1) := by decide +kernel
theorem dX1_sort_69 : decode cX1_sort 69 = .ok (.istore 5, 2) := by decide +kernel
theorem dX1_sort_71 : decode cX1_sort 71 = .ok (.aload_n 0, 1) := by decide +kernel
theorem dX1_sort_72 : decode cX1_sort 72 = .ok (.getfield 19, 3) := by decide +kernel
theorem dX1_sort_75 : decode cX1_sort 75 = .ok (.iload_n 2, 1) := by decide +kernel
theorem dX1_sort_76 : decode cX1_sort 76 = .ok (.aload_n 0, 1) := by decide +kernel
theorem dX1_sort_77 : decode cX1_sort 77 = .ok (.getfield 19, 3) := by decide +kernel
theorem dX1_sort_80 : decode cX1_sort 80 = .ok (.iload_n 2, 1) := by decide +kernel
theorem dX1_sort_81 : decode cX1_sort 81 = .ok (.iconst 1, 1) := by decide +kernel
theorem dX1_sort_82 : decode cX1_sort 82 = .ok (.isub, 1) := by decide +kernel
theorem dX1_sort_83 : decode cX1_sort 83 = .ok (.iaload, 1) := by decide +kernel
theorem dX1_sort_84 : decode cX1_sort 84 = .ok (.iastore, 1) := by decide +kernel
theorem dX1_sort_85 : decode cX1_sort 85 = .ok (.aload_n 0, 1) := by decide +kernel
theorem dX1_sort_86 : decode cX1_sort 86 = .ok (.getfield 19, 3) := by decide +kernel
theorem dX1_sort_89 : decode cX1_sort 89 = .ok (.iload_n 2, 1) := by decide +kernel
theorem dX1_sort_90 : decode cX1_sort 90 = .ok (.iconst 1, 1) := by decide +kernel
theorem dX1_sort_91 : decode cX1_sort 91 = .ok (.isub, 1) := by decide +kernel
theorem dX1_sort_92 : decode cX1_sort 92 = .ok (.iload 5, 2) := by decide +kernel
theorem dX1_sort_94 : decode cX1_sort 94 = .ok (.iastore, 1) := by decide +kernel
theorem dX1_sort_95 : decode cX1_sort 95 = .ok (.aload_n 0, 1) := by decide +kernel
theorem dX1_sort_96 : decode cX1_sort 96 = .ok (.getfield 22, 3) := by decide +kernel
theorem dX1_sort_99 : decode cX1_sort 99 = .ok (.iload_n 2, 1) := by decide +kernel
theorem dX1_sort_100 : decode cX1_sort 100 = .ok (.iaload, 1) := by decide +kernel
theorem dX1_sort_101 : decode cX1_sort 101 = .ok (.istore 6, 2) := by decide +kernel
theorem dX1_sort_103 : decode cX1_sort 103 = .ok (.aload_n 0, 1) := by decide +kernel
theorem dX1_sort_104 : decode cX1_sort 104 = .ok (.getfield 22, 3) := by decide +kernel
theorem dX1_sort_107 : decode cX1_sort 107 = .ok (.iload_n 2, 1) := by decide +kernel
theorem dX1_sort_108 : decode cX1_sort 108 = .ok (.aload_n 0, 1) := by decide +kernel
theorem dX1_sort_109 : decode cX1_sort 109 = .ok (.getfield 22, 3) := by decide +kernel
theorem dX1_sort_112 : decode cX1_sort 112 = .ok (.iload_n 2, 1) := by decide +kernel
theorem dX1_sort_113 : decode cX1_sort 113 = .ok (.iconst 1, 1) := by decide +kernel
theorem dX1_sort_114 : decode cX1_sort 114 = .ok (.isub, 1) := by decide +kernel
theorem dX1_sort_115 : decode cX1_sort 115 = .ok (.iaload, 1) := by decide +kernel
theorem dX1_sort_116 : decode cX1_sort 116 = .ok (.iastore, 1) := by decide +kernel
theorem dX1_sort_117 : decode cX1_sort 117 = .ok (.aload_n 0, 1) := by decide +kernel
theorem dX1_sort_118 : decode cX1_sort 118 = .ok (.getfield 22, 3) := by decide +kernel
theorem dX1_sort_121 : decode cX1_sort 121 = .ok (.iload_n 2, 1) := by decide +kernel
theorem dX1_sort_122 : decode cX1_sort 122 = .ok (.iconst 1, 1) := by decide +kernel
theorem dX1_sort_123 : decode cX1_sort 123 = .ok (.isub, 1) := by decide +kernel
theorem dX1_sort_124 : decode cX1_sort 124 = .ok (.iload 6, 2) := by decide +kernel
theorem dX1_sort_126 : decode cX1_sort 126 = .ok (.iastore, 1) := by decide +kernel
theorem dX1_sort_127 : decode cX1_sort 127 = .ok (.iinc 2 (-1), 3) := by decide +kernel
theorem dX1_sort_130 : decode cX1_sort 130 = .ok (.goto (-112), 3) := by decide +kernel
theorem dX1_sort_133 : decode cX1_sort 133 = .ok (.iinc 1 1, 3) := by decide +kernel
theorem dX1_sort_136 : decode cX1_sort 136 = .ok (.goto (-134), 3) := by decide +kernel
theorem dX1_sort_139 : decode cX1_sort 139 = .ok (.return_, 1) := by decide +kernel
theorem dX1_isAhead_0 : decode cX1_isAhead 0 = .ok (.aload_n 0, 1) := by decide +kernel
theorem dX1_isAhead_1 : decode cX1_isAhead 1 = .ok (.getfield 19, 3) := by decide +kernel
theorem dX1_isAhead_4 : decode cX1_isAhead 4 = .ok (.iload_n 1, 1) := by decide +kernel
theorem dX1_isAhead_5 : decode cX1_isAhead 5 = .ok (.iaload, 1) := by decide +kernel
theorem dX1_isAhead_6 : decode cX1_isAhead 6 = .ok (.aload_n 0, 1) := by decide +kernel
theorem dX1_isAhead_7 : decode cX1_isAhead 7 = .ok (.getfield 19, 3) := by decide +kernel
theorem dX1_isAhead_10 : decode cX1_isAhead 10 = .ok (.iload_n 2, 1) := by decide +kernel
theorem dX1_isAhead_11 : decode cX1_isAhead 11 = .ok (.iaload, 1) := by decide +kernel
theorem dX1_isAhead_12 : decode cX1_isAhead 12 = .ok (.if_icmp .eq 24, 3) := by decide +kernel
theorem dX1_isAhead_15 : decode cX1_isAhead 15 = .ok (.aload_n 0, 1) := by decide +kernel
theorem dX1_isAhead_16 : decode cX1_isAhead 16 = .ok (.getfield 19, 3) := by decide +kernel
theorem dX1_isAhead_19 : decode cX1_isAhead 19 = .ok (.iload_n 1, 1) := by decide +kernel
theorem dX1_isAhead_20 : decode cX1_isAhead 20 = .ok (.iaload, 1) := by decide +kernel
theorem dX1_isAhead_21 : decode cX1_isAhead 21 = .ok (.aload_n 0, 1) := by decide +kernel
theorem dX1_isAhead_22 : decode cX1_isAhead 22 = .ok (.getfield 19, 3) := by decide +kernel
theorem dX1_isAhead_25 : decode cX1_isAhead 25 = .ok (.iload_n 2, 1) := by decide +kernel
theorem dX1_isAhead_26 : decode cX1_isAhead 26 = .ok (.iaload, 1) := by decide +kernel
theorem dX1_isAhead_27 : decode cX1_isAhead 27 = .ok (.if_icmp .ge 7, 3) := by decide +kernel
theorem dX1_isAhead_30 : decode cX1_isAhead 30 = .ok (.iconst 1, 1) := by decide +kernel
theorem dX1_isAhead_31 : decode cX1_isAhead 31 = .ok (.goto 4, 3) := by decide +kernel
theorem dX1_isAhead_34 : decode cX1_isAhead 34 = .ok (.iconst 0, 1) := by decide +kernel
theorem dX1_isAhead_35 : decode cX1_isAhead 35 = .ok (.ireturn, 1) := by decide +kernel
theorem dX1_isAhead_36 : decode cX1_isAhead 36 = .ok (.aload_n 0, 1) := by decide +kernel
theorem dX1_isAhead_37 : decode cX1_isAhead 37 = .ok (.getfield 11, 3) := by decide +kernel
theorem dX1_isAhead_40 : decode cX1_isAhead 40 = .ok (.iload_n 1, 1) := by decide +kernel
theorem dX1_isAhead_41 : decode cX1_isAhead 41 = .ok (.laload, 1) := by decide +kernel
theorem dX1_isAhead_42 : decode cX1_isAhead 42 = .ok (.aload_n 0, 1) := by decide +kernel
theorem dX1_isAhead_43 : decode cX1_isAhead 43 = .ok (.getfield 11, 3) := by decide +kernel
theorem dX1_isAhead_46 : decode cX1_isAhead 46 = .ok (.iload_n 2, 1) := by decide +kernel
theorem dX1_isAhead_47 : decode cX1_isAhead 47 = .ok (.laload, 1) := by decide +kernel
theorem dX1_isAhead_48 : decode cX1_isAhead 48 = .ok (.lxor, 1) := by decide +kernel
theorem dX1_isAhead_49 : decode cX1_isAhead 49 = .ok (.lstore_n 3, 1) := by decide +kernel
theorem dX1_isAhead_50 : decode cX1_isAhead 50 = .ok (.aload_n 0, 1) := by decide +kernel
theorem dX1_isAhead_51 : decode cX1_isAhead 51 = .ok (.getfield 11, 3) := by decide +kernel
theorem dX1_isAhead_54 : decode cX1_isAhead 54 = .ok (.iload_n 1, 1) := by decide +kernel
theorem dX1_isAhead_55 : decode cX1_isAhead 55 = .ok (.laload, 1) := by decide +kernel
theorem dX1_isAhead_56 : decode cX1_isAhead 56 = .ok (.lload_n 3, 1) := by decide +kernel
theorem dX1_isAhead_57 : decode cX1_isAhead 57 = .ok (.land, 1) := by decide +kernel
theorem dX1_isAhead_58 : decode cX1_isAhead 58 = .ok (.lload_n 3, 1) := by decide +kernel
theorem dX1_isAhead_59 : decode cX1_isAhead 59 = .ok (.lneg, 1) := by decide +kernel
theorem dX1_isAhead_60 : decode cX1_isAhead 60 = .ok (.land, 1) := by decide +kernel
theorem dX1_isAhead_61 : decode cX1_isAhead 61 = .ok (.lconst 0, 1) := by decide +kernel
theorem dX1_isAhead_62 : decode cX1_isAhead 62 = .ok (.lcmp, 1) := by decide +kernel
theorem dX1_isAhead_63 : decode cX1_isAhead 63 = .ok (.ifCond .eq 7, 3) := by decide +kernel
theorem dX1_isAhead_66 : decode cX1_isAhead 66 = .ok (.iconst 1, 1) := by decide +kernel
theorem dX1_isAhead_67 : decode cX1_isAhead 67 = .ok (.goto 4, 3) := by decide +kernel
theorem dX1_isAhead_70 : decode cX1_isAhead 70 = .ok (.iconst 0, 1) := by decide +kernel
theorem dX1_isAhead_71 : decode cX1_isAhead 71 = .ok (.ireturn, 1) := by decide +kernel
theorem dX1_search_0 : decode cX1_search 0 = .ok (.iload 5, 2) := by decide +kernel
theorem dX1_search_2 : decode cX1_search 2 = .ok (.ifCond .lt 9, 3) := by decide +kernel
theorem dX1_search_5 : decode cX1_search 5 = .ok (.iload 5, 2) := by decide +kernel
theorem dX1_search_7 : decode cX1_search 7 = .ok (.iconst 4, 1) := by decide +kernel
theorem dX1_search_8 : decode cX1_search 8 = .ok (.if_icmp .le 4, 3) := by decide +kernel
theorem dX1_search_11 : decode cX1_search 11 = .ok (.return_, 1) := by decide +kernel
theorem dX1_search_12 : decode cX1_search 12 = .ok (.iload_n 1, 1) := by decide +kernel
theorem dX1_search_13 : decode cX1_search 13 = .ok (.istore 6, 2) := by decide +kernel
theorem dX1_search_15 : decode cX1_search 15 = .ok (.iload 6, 2) := by decide +kernel
theorem dX1_search_17 : decode cX1_search 17 = .ok (.ifCond .lt 90, 3) := by decide +kernel
theorem dX1_search_20 : decode cX1_search 20 = .ok (.iload 6, 2) := by decide +kernel
theorem dX1_search_22 : decode cX1_search 22 = .ok (.aload_n 0, 1) := by decide +kernel
theorem dX1_search_23 : decode cX1_search 23 = .ok (.getfield 35, 3) := by decide +kernel
theorem dX1_search_26 : decode cX1_search 26 = .ok (.if_icmp .ge 81, 3) := by decide +kernel
theorem dX1_search_29 : decode cX1_search 29 = .ok (.iload 6, 2) := by decide +kernel
theorem dX1_search_31 : decode cX1_search 31 = .ok (.bipush 64, 2) := by decide +kernel
theorem dX1_search_33 : decode cX1_search 33 = .ok (.if_icmp .ge 74, 3) := by decide +kernel
theorem dX1_search_36 : decode cX1_search 36 = .ok (.iload 5, 2) := by decide +kernel
theorem dX1_search_38 : decode cX1_search 38 = .ok (.iconst 4, 1) := by decide +kernel
theorem dX1_search_39 : decode cX1_search 39 = .ok (.if_icmp .ge 68, 3) := by decide +kernel
theorem dX1_search_42 : decode cX1_search 42 = .ok (.aload_n 0, 1) := by decide +kernel
theorem dX1_search_43 : decode cX1_search 43 = .ok (.getfield 11, 3) := by decide +kernel
theorem dX1_search_46 : decode cX1_search 46 = .ok (.iload 6, 2) := by decide +kernel
theorem dX1_search_48 : decode cX1_search 48 = .ok (.laload, 1) := by decide +kernel
theorem dX1_search_49 : decode cX1_search 49 = .ok (.lload_n 2, 1) := by decide +kernel
theorem dX1_search_50 : decode cX1_search 50 = .ok (.land, 1) := by decide +kernel
theorem dX1_search_51 : decode cX1_search 51 = .ok (.lconst 0, 1) := by decide +kernel
theorem dX1_search_52 : decode cX1_search 52 = .ok (.lcmp, 1) := by decide +kernel
theorem dX1_search_53 : decode cX1_search 53 = .ok (.ifCond .ne 48, 3) := by decide +kernel
theorem dX1_search_56 : decode cX1_search 56 = .ok (.aload_n 0, 1) := by decide +kernel
theorem dX1_search_57 : decode cX1_search 57 = .ok (.getfield 25, 3) := by decide +kernel
theorem dX1_search_60 : decode cX1_search 60 = .ok (.iload 5, 2) := by decide +kernel
theorem dX1_search_62 : decode cX1_search 62 = .ok (.aload_n 0, 1) := by decide +kernel
theorem dX1_search_63 : decode cX1_search 63 = .ok (.getfield 11, 3) := by decide +kernel
theorem dX1_search_66 : decode cX1_search 66 = .ok (.iload 6, 2) := by decide +kernel
theorem dX1_search_68 : decode cX1_search 68 = .ok (.laload, 1) := by decide +kernel
theorem dX1_search_69 : decode cX1_search 69 = .ok (.lastore, 1) := by decide +kernel
theorem dX1_search_70 : decode cX1_search 70 = .ok (.aload_n 0, 1) := by decide +kernel
theorem dX1_search_71 : decode cX1_search 71 = .ok (.iload 6, 2) := by decide +kernel
theorem dX1_search_73 : decode cX1_search 73 = .ok (.iconst 1, 1) := by decide +kernel
theorem dX1_search_74 : decode cX1_search 74 = .ok (.iadd, 1) := by decide +kernel
theorem dX1_search_75 : decode cX1_search 75 = .ok (.lload_n 2, 1) := by decide +kernel
theorem dX1_search_76 : decode cX1_search 76 = .ok (.aload_n 0, 1) := by decide +kernel
theorem dX1_search_77 : decode cX1_search 77 = .ok (.getfield 11, 3) := by decide +kernel
theorem dX1_search_80 : decode cX1_search 80 = .ok (.iload 6, 2) := by decide +kernel
theorem dX1_search_82 : decode cX1_search 82 = .ok (.laload, 1) := by decide +kernel
theorem dX1_search_83 : decode cX1_search 83 = .ok (.lor, 1) := by decide +kernel
theorem dX1_search_84 : decode cX1_search 84 = .ok (.iload 4, 2) := by decide +kernel
theorem dX1_search_86 : decode cX1_search 86 = .ok (.aload_n 0, 1) := by decide +kernel
theorem dX1_search_87 : decode cX1_search 87 = .ok (.getfield 22, 3) := by decide +kernel
theorem dX1_search_90 : decode cX1_search 90 = .ok (.iload 6, 2) := by decide +kernel
theorem dX1_search_92 : decode cX1_search 92 = .ok (.iaload, 1) := by decide +kernel
theorem dX1_search_93 : decode cX1_search 93 = .ok (.iadd, 1) := by decide +kernel
theorem dX1_search_94 : decode cX1_search 94 = .ok (.iload 5, 2) := by decide +kernel
theorem dX1_search_96 : decode cX1_search 96 = .ok (.iconst 1, 1) := by decide +kernel
theorem dX1_search_97 : decode cX1_search 97 = .ok (.iadd, 1) := by decide +kernel
theorem dX1_search_98 : decode cX1_search 98 = .ok (.invokevirtual 56, 3) := by decide +kernel
theorem dX1_search_101 : decode cX1_search 101 = .ok (.iinc 6 1, 3) := by decide +kernel
theorem dX1_search_104 : decode cX1_search 104 = .ok (.goto (-89), 3) := by decide +kernel
theorem dX1_search_107 : decode cX1_search 107 = .ok (.iload 4, 2) := by decide +kernel
theorem dX1_search_109 : decode cX1_search 109 = .ok (.aload_n 0, 1) := by decide +kernel
theorem dX1_search_110 : decode cX1_search 110 = .ok (.getfield 53, 3) := by decide +kernel
theorem dX1_search_113 : decode cX1_search 113 = .ok (.if_icmp .le 51, 3) := by decide +kernel
theorem dX1_search_116 : decode cX1_search 116 = .ok (.aload_n 0, 1) := by decide +kernel
theorem dX1_search_117 : decode cX1_search 117 = .ok (.iload 4, 2) := by decide +kernel
theorem dX1_search_119 : decode cX1_search 119 = .ok (.putfield 53, 3) := by decide +kernel
theorem dX1_search_122 : decode cX1_search 122 = .ok (.aload_n 0, 1) := by decide +kernel
theorem dX1_search_123 : decode cX1_search 123 = .ok (.iload 5, 2) := by decide +kernel
theorem dX1_search_125 : decode cX1_search 125 = .ok (.putfield 50, 3) := by decide +kernel
theorem dX1_search_128 : decode cX1_search 128 = .ok (.iconst 0, 1) := by decide +kernel
theorem dX1_search_129 : decode cX1_search 129 = .ok (.istore 6, 2) := by decide +kernel
theorem dX1_search_131 : decode cX1_search 131 = .ok (.iload 6, 2) := by decide +kernel
theorem dX1_search_133 : decode cX1_search 133 = .ok (.iload 5, 2) := by decide +kernel
theorem dX1_search_135 : decode cX1_search 135 = .ok (.if_icmp .ge 29, 3) := by decide +kernel
theorem dX1_search_138 : decode cX1_search 138 = .ok (.iload 6, 2) := by decide +kernel
theorem dX1_search_140 : decode cX1_search 140 = .ok (.iconst 4, 1) := by decide +kernel
theorem dX1_search_141 : decode cX1_search 141 = .ok (.if_icmp .ge 23, 3) := by decide +kernel
theorem dX1_search_144 : decode cX1_search 144 = .ok (.aload_n 0, 1) := by decide +kernel
theorem dX1_search_145 : decode cX1_search 145 = .ok (.getfield 28, 3) := by decide +kernel
theorem dX1_search_148 : decode cX1_search 148 = .ok (.iload 6, 2) := by decide +kernel
theorem dX1_search_150 : decode cX1_search 150 = .ok (.aload_n 0, 1) := by decide +kernel
theorem dX1_search_151 : decode cX1_search 151 = .ok (.getfield 25, 3) := by decide +kernel
theorem dX1_search_154 : decode cX1_search 154 = .ok (.iload 6, 2) := by decide +kernel
theorem dX1_search_156 : decode cX1_search 156 = .ok (.laload, 1) := by decide +kernel
theorem dX1_search_157 : decode cX1_search 157 = .ok (.lastore, 1) := by decide +kernel
theorem dX1_search_158 : decode cX1_search 158 = .ok (.iinc 6 1, 3) := by decide +kernel
theorem dX1_search_161 : decode cX1_search 161 = .ok (.goto (-30), 3) := by decide +kernel
theorem dX1_search_164 : decode cX1_search 164 = .ok (.return_, 1) := by decide +kernel
theorem dX1_searchDrop_0 : decode cX1_searchDrop 0 = .ok (.iload 4, 2) := by decide +kernel
theorem dX1_searchDrop_2 : decode cX1_searchDrop 2 = .ok (.ifCond .lt 9, 3) := by decide +kernel
theorem dX1_searchDrop_5 : decode cX1_searchDrop 5 = .ok (.iload 4, 2) := by decide +kernel
theorem dX1_searchDrop_7 : decode cX1_searchDrop 7 = .ok (.iconst 4, 1) := by decide +kernel
theorem dX1_searchDrop_8 : decode cX1_searchDrop 8 = .ok (.if_icmp .le 4, 3) := by decide +kernel
theorem dX1_searchDrop_11 : decode cX1_searchDrop 11 = .ok (.return_, 1) := by decide +kernel
theorem dX1_searchDrop_12 : decode cX1_searchDrop 12 = .ok (.iload_n 1, 1) := by decide +kernel
theorem dX1_searchDrop_13 : decode cX1_searchDrop 13 = .ok (.istore 5, 2) := by decide +kernel
theorem dX1_searchDrop_15 : decode cX1_searchDrop 15 = .ok (.iload 5, 2) := by decide +kernel
theorem dX1_searchDrop_17 : decode cX1_searchDrop 17 = .ok (.ifCond .lt 60, 3) := by decide +kernel
theorem dX1_searchDrop_20 : decode cX1_searchDrop 20 = .ok (.iload 5, 2) := by decide +kernel
theorem dX1_searchDrop_22 : decode cX1_searchDrop 22 = .ok (.aload_n 0, 1) := by decide +kernel
theorem dX1_searchDrop_23 : decode cX1_searchDrop 23 = .ok (.getfield 35, 3) := by decide +kernel
theorem dX1_searchDrop_26 : decode cX1_searchDrop 26 = .ok (.if_icmp .ge 51, 3) := by decide +kernel
theorem dX1_searchDrop_29 : decode cX1_searchDrop 29 = .ok (.iload 5, 2) := by decide +kernel
theorem dX1_searchDrop_31 : decode cX1_searchDrop 31 = .ok (.bipush 64, 2) := by decide +kernel
theorem dX1_searchDrop_33 : decode cX1_searchDrop 33 = .ok (.if_icmp .ge 44, 3) := by decide +kernel
theorem dX1_searchDrop_36 : decode cX1_searchDrop 36 = .ok (.aload_n 0, 1) := by decide +kernel
theorem dX1_searchDrop_37 : decode cX1_searchDrop 37 = .ok (.getfield 11, 3) := by decide +kernel
theorem dX1_searchDrop_40 : decode cX1_searchDrop 40 = .ok (.iload 5, 2) := by decide +kernel
theorem dX1_searchDrop_42 : decode cX1_searchDrop 42 = .ok (.laload, 1) := by decide +kernel
theorem dX1_searchDrop_43 : decode cX1_searchDrop 43 = .ok (.lload_n 2, 1) := by decide +kernel
theorem dX1_searchDrop_44 : decode cX1_searchDrop 44 = .ok (.land, 1) := by decide +kernel
theorem dX1_searchDrop_45 : decode cX1_searchDrop 45 = .ok (.lconst 0, 1) := by decide +kernel
theorem dX1_searchDrop_46 : decode cX1_searchDrop 46 = .ok (.lcmp, 1) := by decide +kernel
theorem dX1_searchDrop_47 : decode cX1_searchDrop 47 = .ok (.ifCond .ne 24, 3) := by decide +kernel
theorem dX1_searchDrop_50 : decode cX1_searchDrop 50 = .ok (.aload_n 0, 1) := by decide +kernel
theorem dX1_searchDrop_51 : decode cX1_searchDrop 51 = .ok (.iload 5, 2) := by decide +kernel
theorem dX1_searchDrop_53 : decode cX1_searchDrop 53 = .ok (.iconst 1, 1) := by decide +kernel
theorem dX1_searchDrop_54 : decode cX1_searchDrop 54 = .ok (.iadd, 1) := by decide +kernel
theorem dX1_searchDrop_55 : decode cX1_searchDrop 55 = .ok (.lload_n 2, 1) := by decide +kernel
theorem dX1_searchDrop_56 : decode cX1_searchDrop 56 = .ok (.aload_n 0, 1) := by decide +kernel
theorem dX1_searchDrop_57 : decode cX1_searchDrop 57 = .ok (.getfield 11, 3) := by decide +kernel
theorem dX1_searchDrop_60 : decode cX1_searchDrop 60 = .ok (.iload 5, 2) := by decide +kernel
theorem dX1_searchDrop_62 : decode cX1_searchDrop 62 = .ok (.laload, 1) := by decide +kernel
theorem dX1_searchDrop_63 : decode cX1_searchDrop 63 = .ok (.lor, 1) := by decide +kernel
theorem dX1_searchDrop_64 : decode cX1_searchDrop 64 = .ok (.iload 4, 2) := by decide +kernel
theorem dX1_searchDrop_66 : decode cX1_searchDrop 66 = .ok (.iconst 1, 1) := by decide +kernel
theorem dX1_searchDrop_67 : decode cX1_searchDrop 67 = .ok (.iadd, 1) := by decide +kernel
theorem dX1_searchDrop_68 : decode cX1_searchDrop 68 = .ok (.invokevirtual 82, 3) := by decide +kernel
theorem dX1_searchDrop_71 : decode cX1_searchDrop 71 = .ok (.iinc 5 1, 3) := by decide +kernel
theorem dX1_searchDrop_74 : decode cX1_searchDrop 74 = .ok (.goto (-59), 3) := by decide +kernel
theorem dX1_searchDrop_77 : decode cX1_searchDrop 77 = .ok (.aload_n 0, 1) := by decide +kernel
theorem dX1_searchDrop_78 : decode cX1_searchDrop 78 = .ok (.getfield 76, 3) := by decide +kernel
theorem dX1_searchDrop_81 : decode cX1_searchDrop 81 = .ok (.lload_n 2, 1) := by decide +kernel
theorem dX1_searchDrop_82 : decode cX1_searchDrop 82 = .ok (.ldc2_w 64, 3) := by decide +kernel
theorem dX1_searchDrop_85 : decode cX1_searchDrop 85 = .ok (.lxor, 1) := by decide +kernel
theorem dX1_searchDrop_86 : decode cX1_searchDrop 86 = .ok (.land, 1) := by decide +kernel
theorem dX1_searchDrop_87 : decode cX1_searchDrop 87 = .ok (.invokestatic 112, 3) := by decide +kernel
theorem dX1_searchDrop_90 : decode cX1_searchDrop 90 = .ok (.istore 5, 2) := by decide +kernel
theorem dX1_searchDrop_92 : decode cX1_searchDrop 92 = .ok (.aload_n 0, 1) := by decide +kernel
theorem dX1_searchDrop_93 : decode cX1_searchDrop 93 = .ok (.getfield 69, 3) := by decide +kernel
theorem dX1_searchDrop_96 : decode cX1_searchDrop 96 = .ok (.lload_n 2, 1) := by decide +kernel
theorem dX1_searchDrop_97 : decode cX1_searchDrop 97 = .ok (.ldc2_w 64, 3) := by decide +kernel
theorem dX1_searchDrop_100 : decode cX1_searchDrop 100 = .ok (.lxor, 1) := by decide +kernel
theorem dX1_searchDrop_101 : decode cX1_searchDrop 101 = .ok (.land, 1) := by decide +kernel
theorem dX1_searchDrop_102 : decode cX1_searchDrop 102 = .ok (.invokestatic 43, 3) := by decide +kernel
theorem dX1_searchDrop_105 : decode cX1_searchDrop 105 = .ok (.iload 5, 2) := by decide +kernel
theorem dX1_searchDrop_107 : decode cX1_searchDrop 107 = .ok (.isub, 1) := by decide +kernel
theorem dX1_searchDrop_108 : decode cX1_searchDrop 108 = .ok (.istore 6, 2) := by decide +kernel
theorem dX1_searchDrop_110 : decode cX1_searchDrop 110 = .ok (.iload 5, 2) := by decide +kernel
theorem dX1_searchDrop_112 : decode cX1_searchDrop 112 = .ok (.ifCond .le 26, 3) := by decide +kernel
theorem dX1_searchDrop_115 : decode cX1_searchDrop 115 = .ok (.aload_n 0, 1) := by decide +kernel
theorem dX1_searchDrop_116 : decode cX1_searchDrop 116 = .ok (.getfield 79, 3) := by decide +kernel
theorem dX1_searchDrop_119 : decode cX1_searchDrop 119 = .ok (.iconst (-1), 1) := by decide +kernel
theorem dX1_searchDrop_120 : decode cX1_searchDrop 120 = .ok (.if_icmp .eq 12, 3) := by decide +kernel
theorem dX1_searchDrop_123 : decode cX1_searchDrop 123 = .ok (.iload 6, 2) := by decide +kernel
theorem dX1_searchDrop_125 : decode cX1_searchDrop 125 = .ok (.aload_n 0, 1) := by decide +kernel
theorem dX1_searchDrop_126 : decode cX1_searchDrop 126 = .ok (.getfield 79, 3) := by decide +kernel
theorem dX1_searchDrop_129 : decode cX1_searchDrop 129 = .ok (.if_icmp .ge 9, 3) := by decide +kernel
theorem dX1_searchDrop_132 : decode cX1_searchDrop 132 = .ok (.aload_n 0, 1) := by decide +kernel
theorem dX1_searchDrop_133 : decode cX1_searchDrop 133 = .ok (.iload 6, 2) := by decide +kernel
theorem dX1_searchDrop_135 : decode cX1_searchDrop 135 = .ok (.putfield 79, 3) := by decide +kernel
theorem dX1_searchDrop_138 : decode cX1_searchDrop 138 = .ok (.return_, 1) := by decide +kernel
theorem dX1_mostPointsOf_0 : decode cX1_mostPointsOf 0 = .ok (.iconst 0, 1) := by decide +kernel
theorem dX1_mostPointsOf_1 : decode cX1_mostPointsOf 1 = .ok (.istore_n 2, 1) := by decide +kernel
theorem dX1_mostPointsOf_2 : decode cX1_mostPointsOf 2 = .ok (.lload_n 0, 1) := by decide +kernel
theorem dX1_mostPointsOf_3 : decode cX1_mostPointsOf 3 = .ok (.lstore_n 3, 1) := by decide +kernel
theorem dX1_mostPointsOf_4 : decode cX1_mostPointsOf 4 = .ok (.iconst 0, 1) := by decide +kernel
theorem dX1_mostPointsOf_5 : decode cX1_mostPointsOf 5 = .ok (.istore 5, 2) := by decide +kernel
theorem dX1_mostPointsOf_7 : decode cX1_mostPointsOf 7 = .ok (.iload 5, 2) := by decide +kernel
theorem dX1_mostPointsOf_9 : decode cX1_mostPointsOf 9 = .ok (.bipush 52, 2) := by decide +kernel
theorem dX1_mostPointsOf_11 : decode cX1_mostPointsOf 11 = .ok (.if_icmp .ge 33, 3) := by decide +kernel
theorem dX1_mostPointsOf_14 : decode cX1_mostPointsOf 14 = .ok (.lload_n 3, 1) := by decide +kernel
theorem dX1_mostPointsOf_15 : decode cX1_mostPointsOf 15 = .ok (.lconst 0, 1) := by decide +kernel
theorem dX1_mostPointsOf_16 : decode cX1_mostPointsOf 16 = .ok (.lcmp, 1) := by decide +kernel
theorem dX1_mostPointsOf_17 : decode cX1_mostPointsOf 17 = .ok (.ifCond .eq 27, 3) := by decide +kernel
theorem dX1_mostPointsOf_20 : decode cX1_mostPointsOf 20 = .ok (.iload_n 2, 1) := by decide +kernel
theorem dX1_mostPointsOf_21 : decode cX1_mostPointsOf 21 = .ok (.lload_n 3, 1) := by decide +kernel
theorem dX1_mostPointsOf_22 : decode cX1_mostPointsOf 22 = .ok (.invokestatic 105, 3) := by decide +kernel
theorem dX1_mostPointsOf_25 : decode cX1_mostPointsOf 25 = .ok (.invokestatic 115, 3) := by decide +kernel
theorem dX1_mostPointsOf_28 : decode cX1_mostPointsOf 28 = .ok (.invokestatic 119, 3) := by decide +kernel
theorem dX1_mostPointsOf_31 : decode cX1_mostPointsOf 31 = .ok (.istore_n 2, 1) := by decide +kernel
theorem dX1_mostPointsOf_32 : decode cX1_mostPointsOf 32 = .ok (.lload_n 3, 1) := by decide +kernel
theorem dX1_mostPointsOf_33 : decode cX1_mostPointsOf 33 = .ok (.lload_n 3, 1) := by decide +kernel
theorem dX1_mostPointsOf_34 : decode cX1_mostPointsOf 34 = .ok (.lconst 1, 1) := by decide +kernel
theorem dX1_mostPointsOf_35 : decode cX1_mostPointsOf 35 = .ok (.lsub, 1) := by decide +kernel
theorem dX1_mostPointsOf_36 : decode cX1_mostPointsOf 36 = .ok (.land, 1) := by decide +kernel
theorem dX1_mostPointsOf_37 : decode cX1_mostPointsOf 37 = .ok (.lstore_n 3, 1) := by decide +kernel
theorem dX1_mostPointsOf_38 : decode cX1_mostPointsOf 38 = .ok (.iinc 5 1, 3) := by decide +kernel
theorem dX1_mostPointsOf_41 : decode cX1_mostPointsOf 41 = .ok (.goto (-34), 3) := by decide +kernel
theorem dX1_mostPointsOf_44 : decode cX1_mostPointsOf 44 = .ok (.iload_n 2, 1) := by decide +kernel
theorem dX1_mostPointsOf_45 : decode cX1_mostPointsOf 45 = .ok (.ireturn, 1) := by decide +kernel
theorem dX1_foundAt_0 : decode cX1_foundAt 0 = .ok (.iload_n 1, 1) := by decide +kernel
theorem dX1_foundAt_1 : decode cX1_foundAt 1 = .ok (.ifCond .lt 29, 3) := by decide +kernel
theorem dX1_foundAt_4 : decode cX1_foundAt 4 = .ok (.iload_n 1, 1) := by decide +kernel
theorem dX1_foundAt_5 : decode cX1_foundAt 5 = .ok (.aload_n 0, 1) := by decide +kernel
theorem dX1_foundAt_6 : decode cX1_foundAt 6 = .ok (.getfield 50, 3) := by decide +kernel
theorem dX1_foundAt_9 : decode cX1_foundAt 9 = .ok (.if_icmp .ge 21, 3) := by decide +kernel
theorem dX1_foundAt_12 : decode cX1_foundAt 12 = .ok (.iload_n 1, 1) := by decide +kernel
theorem dX1_foundAt_13 : decode cX1_foundAt 13 = .ok (.aload_n 0, 1) := by decide +kernel
theorem dX1_foundAt_14 : decode cX1_foundAt 14 = .ok (.getfield 28, 3) := by decide +kernel
theorem dX1_foundAt_17 : decode cX1_foundAt 17 = .ok (.arraylength, 1) := by decide +kernel
theorem dX1_foundAt_18 : decode cX1_foundAt 18 = .ok (.if_icmp .ge 12, 3) := by decide +kernel
theorem dX1_foundAt_21 : decode cX1_foundAt 21 = .ok (.aload_n 0, 1) := by decide +kernel
theorem dX1_foundAt_22 : decode cX1_foundAt 22 = .ok (.getfield 28, 3) := by decide +kernel
theorem dX1_foundAt_25 : decode cX1_foundAt 25 = .ok (.iload_n 1, 1) := by decide +kernel
theorem dX1_foundAt_26 : decode cX1_foundAt 26 = .ok (.laload, 1) := by decide +kernel
theorem dX1_foundAt_27 : decode cX1_foundAt 27 = .ok (.goto 4, 3) := by decide +kernel
theorem dX1_foundAt_30 : decode cX1_foundAt 30 = .ok (.lconst 0, 1) := by decide +kernel
theorem dX1_foundAt_31 : decode cX1_foundAt 31 = .ok (.lreturn, 1) := by decide +kernel
theorem dX1_indexOf_0 : decode cX1_indexOf 0 = .ok (.iconst 0, 1) := by decide +kernel
theorem dX1_indexOf_1 : decode cX1_indexOf 1 = .ok (.istore_n 2, 1) := by decide +kernel
theorem dX1_indexOf_2 : decode cX1_indexOf 2 = .ok (.iload_n 2, 1) := by decide +kernel
theorem dX1_indexOf_3 : decode cX1_indexOf 3 = .ok (.aload_n 0, 1) := by decide +kernel
theorem dX1_indexOf_4 : decode cX1_indexOf 4 = .ok (.getfield 50, 3) := by decide +kernel
theorem dX1_indexOf_7 : decode cX1_indexOf 7 = .ok (.if_icmp .ge 23, 3) := by decide +kernel
theorem dX1_indexOf_10 : decode cX1_indexOf 10 = .ok (.aload_n 0, 1) := by decide +kernel
theorem dX1_indexOf_11 : decode cX1_indexOf 11 = .ok (.iload_n 2, 1) := by decide +kernel
theorem dX1_indexOf_12 : decode cX1_indexOf 12 = .ok (.invokevirtual 125, 3) := by decide +kernel
theorem dX1_indexOf_15 : decode cX1_indexOf 15 = .ok (.iload_n 1, 1) := by decide +kernel
theorem dX1_indexOf_16 : decode cX1_indexOf 16 = .ok (.invokestatic 128, 3) := by decide +kernel
theorem dX1_indexOf_19 : decode cX1_indexOf 19 = .ok (.ifCond .eq 5, 3) := by decide +kernel
theorem dX1_indexOf_22 : decode cX1_indexOf 22 = .ok (.iload_n 2, 1) := by decide +kernel
theorem dX1_indexOf_23 : decode cX1_indexOf 23 = .ok (.ireturn, 1) := by decide +kernel
theorem dX1_indexOf_24 : decode cX1_indexOf 24 = .ok (.iinc 2 1, 3) := by decide +kernel
theorem dX1_indexOf_27 : decode cX1_indexOf 27 = .ok (.goto (-25), 3) := by decide +kernel
theorem dX1_indexOf_30 : decode cX1_indexOf 30 = .ok (.iconst (-1), 1) := by decide +kernel
theorem dX1_indexOf_31 : decode cX1_indexOf 31 = .ok (.ireturn, 1) := by decide +kernel
theorem dX1_countKind_0 : decode cX1_countKind 0 = .ok (.iconst 0, 1) := by decide +kernel
theorem dX1_countKind_1 : decode cX1_countKind 1 = .ok (.istore_n 2, 1) := by decide +kernel
theorem dX1_countKind_2 : decode cX1_countKind 2 = .ok (.iconst 0, 1) := by decide +kernel
theorem dX1_countKind_3 : decode cX1_countKind 3 = .ok (.istore_n 3, 1) := by decide +kernel
theorem dX1_countKind_4 : decode cX1_countKind 4 = .ok (.iload_n 3, 1) := by decide +kernel
theorem dX1_countKind_5 : decode cX1_countKind 5 = .ok (.aload_n 0, 1) := by decide +kernel
theorem dX1_countKind_6 : decode cX1_countKind 6 = .ok (.getfield 50, 3) := by decide +kernel
theorem dX1_countKind_9 : decode cX1_countKind 9 = .ok (.if_icmp .ge 24, 3) := by decide +kernel
theorem dX1_countKind_12 : decode cX1_countKind 12 = .ok (.aload_n 0, 1) := by decide +kernel
theorem dX1_countKind_13 : decode cX1_countKind 13 = .ok (.iload_n 3, 1) := by decide +kernel
theorem dX1_countKind_14 : decode cX1_countKind 14 = .ok (.invokevirtual 125, 3) := by decide +kernel
theorem dX1_countKind_17 : decode cX1_countKind 17 = .ok (.invokestatic 132, 3) := by decide +kernel
theorem dX1_countKind_20 : decode cX1_countKind 20 = .ok (.iload_n 1, 1) := by decide +kernel
theorem dX1_countKind_21 : decode cX1_countKind 21 = .ok (.if_icmp .ne 6, 3) := by decide +kernel
theorem dX1_countKind_24 : decode cX1_countKind 24 = .ok (.iinc 2 1, 3) := by decide +kernel
theorem dX1_countKind_27 : decode cX1_countKind 27 = .ok (.iinc 3 1, 3) := by decide +kernel
theorem dX1_countKind_30 : decode cX1_countKind 30 = .ok (.goto (-26), 3) := by decide +kernel
theorem dX1_countKind_33 : decode cX1_countKind 33 = .ok (.iload_n 2, 1) := by decide +kernel
theorem dX1_countKind_34 : decode cX1_countKind 34 = .ok (.ireturn, 1) := by decide +kernel
theorem dX1_countWrapped_0 : decode cX1_countWrapped 0 = .ok (.iconst 0, 1) := by decide +kernel
theorem dX1_countWrapped_1 : decode cX1_countWrapped 1 = .ok (.istore_n 1, 1) := by decide +kernel
theorem dX1_countWrapped_2 : decode cX1_countWrapped 2 = .ok (.iconst 0, 1) := by decide +kernel
theorem dX1_countWrapped_3 : decode cX1_countWrapped 3 = .ok (.istore_n 2, 1) := by decide +kernel
theorem dX1_countWrapped_4 : decode cX1_countWrapped 4 = .ok (.iload_n 2, 1) := by decide +kernel
theorem dX1_countWrapped_5 : decode cX1_countWrapped 5 = .ok (.aload_n 0, 1) := by decide +kernel
theorem dX1_countWrapped_6 : decode cX1_countWrapped 6 = .ok (.getfield 50, 3) := by decide +kernel
theorem dX1_countWrapped_9 : decode cX1_countWrapped 9 = .ok (.if_icmp .ge 65, 3) := by decide +kernel
theorem dX1_countWrapped_12 : decode cX1_countWrapped 12 = .ok (.aload_n 0, 1) := by decide +kernel
theorem dX1_countWrapped_13 : decode cX1_countWrapped 13 = .ok (.iload_n 2, 1) := by decide +kernel
theorem dX1_countWrapped_14 : decode cX1_countWrapped 14 = .ok (.invokevirtual 125, 3) := by decide +kernel
theorem dX1_countWrapped_17 : decode cX1_countWrapped 17 = .ok (.lstore_n 3, 1) := by decide +kernel
theorem dX1_countWrapped_18 : decode cX1_countWrapped 18 = .ok (.lload_n 3, 1) := by decide +kernel
theorem dX1_countWrapped_19 : decode cX1_countWrapped 19 = .ok (.invokestatic 132, 3) := by decide +kernel
theorem dX1_countWrapped_22 : decode cX1_countWrapped 22 = .ok (.iconst 2, 1) := by decide +kernel
theorem dX1_countWrapped_23 : decode cX1_countWrapped 23 = .ok (.if_icmp .ne 10, 3) := by decide +kernel
theorem dX1_countWrapped_26 : decode cX1_countWrapped 26 = .ok (.lload_n 3, 1) := by decide +kernel
theorem dX1_countWrapped_27 : decode cX1_countWrapped 27 = .ok (.invokestatic 135, 3) := by decide +kernel
theorem dX1_countWrapped_30 : decode cX1_countWrapped 30 = .ok (.goto 4, 3) := by decide +kernel
theorem dX1_countWrapped_33 : decode cX1_countWrapped 33 = .ok (.iconst (-1), 1) := by decide +kernel
theorem dX1_countWrapped_34 : decode cX1_countWrapped 34 = .ok (.istore 5, 2) := by decide +kernel
theorem dX1_countWrapped_36 : decode cX1_countWrapped 36 = .ok (.iload 5, 2) := by decide +kernel
theorem dX1_countWrapped_38 : decode cX1_countWrapped 38 = .ok (.iconst (-1), 1) := by decide +kernel
theorem dX1_countWrapped_39 : decode cX1_countWrapped 39 = .ok (.if_icmp .eq 29, 3) := by decide +kernel
theorem dX1_countWrapped_42 : decode cX1_countWrapped 42 = .ok (.iload 5, 2) := by decide +kernel
theorem dX1_countWrapped_44 : decode cX1_countWrapped 44 = .ok (.bipush 13, 2) := by decide +kernel
theorem dX1_countWrapped_46 : decode cX1_countWrapped 46 = .ok (.irem, 1) := by decide +kernel
theorem dX1_countWrapped_47 : decode cX1_countWrapped 47 = .ok (.ifCond .le 21, 3) := by decide +kernel
theorem dX1_countWrapped_50 : decode cX1_countWrapped 50 = .ok (.lload_n 3, 1) := by decide +kernel
theorem dX1_countWrapped_51 : decode cX1_countWrapped 51 = .ok (.iload 5, 2) := by decide +kernel
theorem dX1_countWrapped_53 : decode cX1_countWrapped 53 = .ok (.bipush 13, 2) := by decide +kernel
theorem dX1_countWrapped_55 : decode cX1_countWrapped 55 = .ok (.idiv, 1) := by decide +kernel
theorem dX1_countWrapped_56 : decode cX1_countWrapped 56 = .ok (.bipush 13, 2) := by decide +kernel
theorem dX1_countWrapped_58 : decode cX1_countWrapped 58 = .ok (.imul, 1) := by decide +kernel
theorem dX1_countWrapped_59 : decode cX1_countWrapped 59 = .ok (.invokestatic 128, 3) := by decide +kernel
theorem dX1_countWrapped_62 : decode cX1_countWrapped 62 = .ok (.ifCond .eq 6, 3) := by decide +kernel
theorem dX1_countWrapped_65 : decode cX1_countWrapped 65 = .ok (.iinc 1 1, 3) := by decide +kernel
theorem dX1_countWrapped_68 : decode cX1_countWrapped 68 = .ok (.iinc 2 1, 3) := by decide +kernel
theorem dX1_countWrapped_71 : decode cX1_countWrapped 71 = .ok (.goto (-67), 3) := by decide +kernel
theorem dX1_countWrapped_74 : decode cX1_countWrapped 74 = .ok (.iload_n 1, 1) := by decide +kernel
theorem dX1_countWrapped_75 : decode cX1_countWrapped 75 = .ok (.ireturn, 1) := by decide +kernel
theorem dX1_foundPoints_0 : decode cX1_foundPoints 0 = .ok (.iconst 0, 1) := by decide +kernel
theorem dX1_foundPoints_1 : decode cX1_foundPoints 1 = .ok (.istore_n 1, 1) := by decide +kernel
theorem dX1_foundPoints_2 : decode cX1_foundPoints 2 = .ok (.iconst 0, 1) := by decide +kernel
theorem dX1_foundPoints_3 : decode cX1_foundPoints 3 = .ok (.istore_n 2, 1) := by decide +kernel
theorem dX1_foundPoints_4 : decode cX1_foundPoints 4 = .ok (.iload_n 2, 1) := by decide +kernel
theorem dX1_foundPoints_5 : decode cX1_foundPoints 5 = .ok (.aload_n 0, 1) := by decide +kernel
theorem dX1_foundPoints_6 : decode cX1_foundPoints 6 = .ok (.getfield 50, 3) := by decide +kernel
theorem dX1_foundPoints_9 : decode cX1_foundPoints 9 = .ok (.if_icmp .ge 20, 3) := by decide +kernel
theorem dX1_foundPoints_12 : decode cX1_foundPoints 12 = .ok (.iload_n 1, 1) := by decide +kernel
theorem dX1_foundPoints_13 : decode cX1_foundPoints 13 = .ok (.aload_n 0, 1) := by decide +kernel
theorem dX1_foundPoints_14 : decode cX1_foundPoints 14 = .ok (.iload_n 2, 1) := by decide +kernel
theorem dX1_foundPoints_15 : decode cX1_foundPoints 15 = .ok (.invokevirtual 125, 3) := by decide +kernel
theorem dX1_foundPoints_18 : decode cX1_foundPoints 18 = .ok (.invokestatic 43, 3) := by decide +kernel
theorem dX1_foundPoints_21 : decode cX1_foundPoints 21 = .ok (.iadd, 1) := by decide +kernel
theorem dX1_foundPoints_22 : decode cX1_foundPoints 22 = .ok (.istore_n 1, 1) := by decide +kernel
theorem dX1_foundPoints_23 : decode cX1_foundPoints 23 = .ok (.iinc 2 1, 3) := by decide +kernel
theorem dX1_foundPoints_26 : decode cX1_foundPoints 26 = .ok (.goto (-22), 3) := by decide +kernel
theorem dX1_foundPoints_29 : decode cX1_foundPoints 29 = .ok (.iload_n 1, 1) := by decide +kernel
theorem dX1_foundPoints_30 : decode cX1_foundPoints 30 = .ok (.ireturn, 1) := by decide +kernel
theorem dX1_widen_0 : decode cX1_widen 0 = .ok (.iload_n 1, 1) := by decide +kernel
theorem dX1_widen_1 : decode cX1_widen 1 = .ok (.ifCond .lt 33, 3) := by decide +kernel
theorem dX1_widen_4 : decode cX1_widen 4 = .ok (.iload_n 1, 1) := by decide +kernel
theorem dX1_widen_5 : decode cX1_widen 5 = .ok (.aload_n 0, 1) := by decide +kernel
theorem dX1_widen_6 : decode cX1_widen 6 = .ok (.getfield 50, 3) := by decide +kernel
theorem dX1_widen_9 : decode cX1_widen 9 = .ok (.if_icmp .ge 25, 3) := by decide +kernel
theorem dX1_widen_12 : decode cX1_widen 12 = .ok (.iload_n 1, 1) := by decide +kernel
theorem dX1_widen_13 : decode cX1_widen 13 = .ok (.aload_n 0, 1) := by decide +kernel
theorem dX1_widen_14 : decode cX1_widen 14 = .ok (.getfield 28, 3) := by decide +kernel
theorem dX1_widen_17 : decode cX1_widen 17 = .ok (.arraylength, 1) := by decide +kernel
theorem dX1_widen_18 : decode cX1_widen 18 = .ok (.if_icmp .ge 16, 3) := by decide +kernel
theorem dX1_widen_21 : decode cX1_widen 21 = .ok (.aload_n 0, 1) := by decide +kernel
theorem dX1_widen_22 : decode cX1_widen 22 = .ok (.getfield 28, 3) := by decide +kernel
theorem dX1_widen_25 : decode cX1_widen 25 = .ok (.iload_n 1, 1) := by decide +kernel
theorem dX1_widen_26 : decode cX1_widen 26 = .ok (.dup2, 1) := by decide +kernel
theorem dX1_widen_27 : decode cX1_widen 27 = .ok (.laload, 1) := by decide +kernel
theorem dX1_widen_28 : decode cX1_widen 28 = .ok (.iload_n 2, 1) := by decide +kernel
theorem dX1_widen_29 : decode cX1_widen 29 = .ok (.invokestatic 72, 3) := by decide +kernel
theorem dX1_widen_32 : decode cX1_widen 32 = .ok (.lor, 1) := by decide +kernel
theorem dX1_widen_33 : decode cX1_widen 33 = .ok (.lastore, 1) := by decide +kernel
theorem dX1_widen_34 : decode cX1_widen 34 = .ok (.return_, 1) := by decide +kernel
theorem dX2_init_0 : decode cX2_init 0 = .ok (.aload_n 0, 1) := by decide +kernel
theorem dX2_init_1 : decode cX2_init 1 = .ok (.invokespecial 3, 3) := by decide +kernel
theorem dX2_init_4 : decode cX2_init 4 = .ok (.aload_n 0, 1) := by decide +kernel
theorem dX2_init_5 : decode cX2_init 5 = .ok (.iconst 2, 1) := by decide +kernel
theorem dX2_init_6 : decode cX2_init 6 = .ok (.newarray .int, 2) := by decide +kernel
theorem dX2_init_8 : decode cX2_init 8 = .ok (.putfield 9, 3) := by decide +kernel
theorem dX2_init_11 : decode cX2_init 11 = .ok (.aload_n 0, 1) := by decide +kernel
theorem dX2_init_12 : decode cX2_init 12 = .ok (.iconst 2, 1) := by decide +kernel
theorem dX2_init_13 : decode cX2_init 13 = .ok (.newarray .long, 2) := by decide +kernel
theorem dX2_init_15 : decode cX2_init 15 = .ok (.putfield 15, 3) := by decide +kernel
theorem dX2_init_18 : decode cX2_init 18 = .ok (.aload_n 0, 1) := by decide +kernel
theorem dX2_init_19 : decode cX2_init 19 = .ok (.bipush 52, 2) := by decide +kernel
theorem dX2_init_21 : decode cX2_init 21 = .ok (.newarray .int, 2) := by decide +kernel
theorem dX2_init_23 : decode cX2_init 23 = .ok (.putfield 19, 3) := by decide +kernel
theorem dX2_init_26 : decode cX2_init 26 = .ok (.aload_n 0, 1) := by decide +kernel
theorem dX2_init_27 : decode cX2_init 27 = .ok (.bipush 52, 2) := by decide +kernel
theorem dX2_init_29 : decode cX2_init 29 = .ok (.newarray .int, 2) := by decide +kernel
theorem dX2_init_31 : decode cX2_init 31 = .ok (.putfield 22, 3) := by decide +kernel
theorem dX2_init_34 : decode cX2_init 34 = .ok (.return_, 1) := by decide +kernel
theorem dX2_copyFrom_0 : decode cX2_copyFrom 0 = .ok (.aload_n 0, 1) := by decide +kernel
theorem dX2_copyFrom_1 : decode cX2_copyFrom 1 = .ok (.aload_n 1, 1) := by decide +kernel
theorem dX2_copyFrom_2 : decode cX2_copyFrom 2 = .ok (.getfield 25, 3) := by decide +kernel
theorem dX2_copyFrom_5 : decode cX2_copyFrom 5 = .ok (.putfield 25, 3) := by decide +kernel
theorem dX2_copyFrom_8 : decode cX2_copyFrom 8 = .ok (.aload_n 0, 1) := by decide +kernel
theorem dX2_copyFrom_9 : decode cX2_copyFrom 9 = .ok (.aload_n 1, 1) := by decide +kernel
theorem dX2_copyFrom_10 : decode cX2_copyFrom 10 = .ok (.getfield 29, 3) := by decide +kernel
theorem dX2_copyFrom_13 : decode cX2_copyFrom 13 = .ok (.putfield 29, 3) := by decide +kernel
theorem dX2_copyFrom_16 : decode cX2_copyFrom 16 = .ok (.aload_n 0, 1) := by decide +kernel
theorem dX2_copyFrom_17 : decode cX2_copyFrom 17 = .ok (.aload_n 1, 1) := by decide +kernel
theorem dX2_copyFrom_18 : decode cX2_copyFrom 18 = .ok (.getfield 32, 3) := by decide +kernel
theorem dX2_copyFrom_21 : decode cX2_copyFrom 21 = .ok (.putfield 32, 3) := by decide +kernel
theorem dX2_copyFrom_24 : decode cX2_copyFrom 24 = .ok (.aload_n 0, 1) := by decide +kernel
theorem dX2_copyFrom_25 : decode cX2_copyFrom 25 = .ok (.aload_n 1, 1) := by decide +kernel
theorem dX2_copyFrom_26 : decode cX2_copyFrom 26 = .ok (.getfield 35, 3) := by decide +kernel
theorem dX2_copyFrom_29 : decode cX2_copyFrom 29 = .ok (.putfield 35, 3) := by decide +kernel
theorem dX2_copyFrom_32 : decode cX2_copyFrom 32 = .ok (.aload_n 0, 1) := by decide +kernel
theorem dX2_copyFrom_33 : decode cX2_copyFrom 33 = .ok (.aload_n 1, 1) := by decide +kernel
theorem dX2_copyFrom_34 : decode cX2_copyFrom 34 = .ok (.getfield 39, 3) := by decide +kernel
theorem dX2_copyFrom_37 : decode cX2_copyFrom 37 = .ok (.putfield 39, 3) := by decide +kernel
theorem dX2_copyFrom_40 : decode cX2_copyFrom 40 = .ok (.aload_n 0, 1) := by decide +kernel
theorem dX2_copyFrom_41 : decode cX2_copyFrom 41 = .ok (.aload_n 1, 1) := by decide +kernel
theorem dX2_copyFrom_42 : decode cX2_copyFrom 42 = .ok (.getfield 42, 3) := by decide +kernel
theorem dX2_copyFrom_45 : decode cX2_copyFrom 45 = .ok (.putfield 42, 3) := by decide +kernel
theorem dX2_copyFrom_48 : decode cX2_copyFrom 48 = .ok (.aload_n 0, 1) := by decide +kernel
theorem dX2_copyFrom_49 : decode cX2_copyFrom 49 = .ok (.aload_n 1, 1) := by decide +kernel
theorem dX2_copyFrom_50 : decode cX2_copyFrom 50 = .ok (.getfield 45, 3) := by decide +kernel
theorem dX2_copyFrom_53 : decode cX2_copyFrom 53 = .ok (.putfield 45, 3) := by decide +kernel
theorem dX2_copyFrom_56 : decode cX2_copyFrom 56 = .ok (.aload_n 0, 1) := by decide +kernel
theorem dX2_copyFrom_57 : decode cX2_copyFrom 57 = .ok (.aload_n 1, 1) := by decide +kernel
theorem dX2_copyFrom_58 : decode cX2_copyFrom 58 = .ok (.getfield 49, 3) := by decide +kernel
theorem dX2_copyFrom_61 : decode cX2_copyFrom 61 = .ok (.putfield 49, 3) := by decide +kernel
theorem dX2_copyFrom_64 : decode cX2_copyFrom 64 = .ok (.aload_n 0, 1) := by decide +kernel
theorem dX2_copyFrom_65 : decode cX2_copyFrom 65 = .ok (.aload_n 1, 1) := by decide +kernel
theorem dX2_copyFrom_66 : decode cX2_copyFrom 66 = .ok (.getfield 52, 3) := by decide +kernel
theorem dX2_copyFrom_69 : decode cX2_copyFrom 69 = .ok (.putfield 52, 3) := by decide +kernel
theorem dX2_copyFrom_72 : decode cX2_copyFrom 72 = .ok (.aload_n 0, 1) := by decide +kernel
theorem dX2_copyFrom_73 : decode cX2_copyFrom 73 = .ok (.aload_n 1, 1) := by decide +kernel
theorem dX2_copyFrom_74 : decode cX2_copyFrom 74 = .ok (.getfield 55, 3) := by decide +kernel
theorem dX2_copyFrom_77 : decode cX2_copyFrom 77 = .ok (.putfield 55, 3) := by decide +kernel
theorem dX2_copyFrom_80 : decode cX2_copyFrom 80 = .ok (.aload_n 0, 1) := by decide +kernel
theorem dX2_copyFrom_81 : decode cX2_copyFrom 81 = .ok (.aload_n 1, 1) := by decide +kernel
theorem dX2_copyFrom_82 : decode cX2_copyFrom 82 = .ok (.getfield 58, 3) := by decide +kernel
theorem dX2_copyFrom_85 : decode cX2_copyFrom 85 = .ok (.putfield 58, 3) := by decide +kernel
theorem dX2_copyFrom_88 : decode cX2_copyFrom 88 = .ok (.aload_n 0, 1) := by decide +kernel
theorem dX2_copyFrom_89 : decode cX2_copyFrom 89 = .ok (.aload_n 1, 1) := by decide +kernel
theorem dX2_copyFrom_90 : decode cX2_copyFrom 90 = .ok (.getfield 61, 3) := by decide +kernel
theorem dX2_copyFrom_93 : decode cX2_copyFrom 93 = .ok (.putfield 61, 3) := by decide +kernel
theorem dX2_copyFrom_96 : decode cX2_copyFrom 96 = .ok (.aload_n 0, 1) := by decide +kernel
theorem dX2_copyFrom_97 : decode cX2_copyFrom 97 = .ok (.aload_n 1, 1) := by decide +kernel
theorem dX2_copyFrom_98 : decode cX2_copyFrom 98 = .ok (.getfield 64, 3) := by decide +kernel
theorem dX2_copyFrom_101 : decode cX2_copyFrom 101 = .ok (.putfield 64, 3) := by decide +kernel
theorem dX2_copyFrom_104 : decode cX2_copyFrom 104 = .ok (.aload_n 1, 1) := by decide +kernel
theorem dX2_copyFrom_105 : decode cX2_copyFrom 105 = .ok (.getfield 9, 3) := by decide +kernel
theorem dX2_copyFrom_108 : decode cX2_copyFrom 108 = .ok (.iconst 0, 1) := by decide +kernel
theorem dX2_copyFrom_109 : decode cX2_copyFrom 109 = .ok (.aload_n 0, 1) := by decide +kernel
theorem dX2_copyFrom_110 : decode cX2_copyFrom 110 = .ok (.getfield 9, 3) := by decide +kernel
theorem dX2_copyFrom_113 : decode cX2_copyFrom 113 = .ok (.iconst 0, 1) := by decide +kernel
theorem dX2_copyFrom_114 : decode cX2_copyFrom 114 = .ok (.iconst 2, 1) := by decide +kernel
theorem dX2_copyFrom_115 : decode cX2_copyFrom 115 = .ok (.invokestatic 67, 3) := by decide +kernel
theorem dX2_copyFrom_118 : decode cX2_copyFrom 118 = .ok (.aload_n 1, 1) := by decide +kernel
theorem dX2_copyFrom_119 : decode cX2_copyFrom 119 = .ok (.getfield 15, 3) := by decide +kernel
theorem dX2_copyFrom_122 : decode cX2_copyFrom 122 = .ok (.iconst 0, 1) := by decide +kernel
theorem dX2_copyFrom_123 : decode cX2_copyFrom 123 = .ok (.aload_n 0, 1) := by decide +kernel
theorem dX2_copyFrom_124 : decode cX2_copyFrom 124 = .ok (.getfield 15, 3) := by decide +kernel
theorem dX2_copyFrom_127 : decode cX2_copyFrom 127 = .ok (.iconst 0, 1) := by decide +kernel
theorem dX2_copyFrom_128 : decode cX2_copyFrom 128 = .ok (.iconst 2, 1) := by decide +kernel
theorem dX2_copyFrom_129 : decode cX2_copyFrom 129 = .ok (.invokestatic 67, 3) := by decide +kernel
theorem dX2_copyFrom_132 : decode cX2_copyFrom 132 = .ok (.aload_n 1, 1) := by decide +kernel
theorem dX2_copyFrom_133 : decode cX2_copyFrom 133 = .ok (.getfield 19, 3) := by decide +kernel
theorem dX2_copyFrom_136 : decode cX2_copyFrom 136 = .ok (.iconst 0, 1) := by decide +kernel
theorem dX2_copyFrom_137 : decode cX2_copyFrom 137 = .ok (.aload_n 0, 1) := by decide +kernel
theorem dX2_copyFrom_138 : decode cX2_copyFrom 138 = .ok (.getfield 19, 3) := by decide +kernel
theorem dX2_copyFrom_141 : decode cX2_copyFrom 141 = .ok (.iconst 0, 1) := by decide +kernel
theorem dX2_copyFrom_142 : decode cX2_copyFrom 142 = .ok (.bipush 52, 2) := by decide +kernel
theorem dX2_copyFrom_144 : decode cX2_copyFrom 144 = .ok (.invokestatic 67, 3) := by decide +kernel
theorem dX2_copyFrom_147 : decode cX2_copyFrom 147 = .ok (.aload_n 1, 1) := by decide +kernel
theorem dX2_copyFrom_148 : decode cX2_copyFrom 148 = .ok (.getfield 22, 3) := by decide +kernel
theorem dX2_copyFrom_151 : decode cX2_copyFrom 151 = .ok (.iconst 0, 1) := by decide +kernel
theorem dX2_copyFrom_152 : decode cX2_copyFrom 152 = .ok (.aload_n 0, 1) := by decide +kernel
theorem dX2_copyFrom_153 : decode cX2_copyFrom 153 = .ok (.getfield 22, 3) := by decide +kernel
theorem dX2_copyFrom_156 : decode cX2_copyFrom 156 = .ok (.iconst 0, 1) := by decide +kernel
theorem dX2_copyFrom_157 : decode cX2_copyFrom 157 = .ok (.bipush 52, 2) := by decide +kernel
theorem dX2_copyFrom_159 : decode cX2_copyFrom 159 = .ok (.invokestatic 67, 3) := by decide +kernel
theorem dX2_copyFrom_162 : decode cX2_copyFrom 162 = .ok (.return_, 1) := by decide +kernel
theorem dX2_begin_0 : decode cX2_begin 0 = .ok (.aload_n 0, 1) := by decide +kernel
theorem dX2_begin_1 : decode cX2_begin 1 = .ok (.iconst 0, 1) := by decide +kernel
theorem dX2_begin_2 : decode cX2_begin 2 = .ok (.putfield 39, 3) := by decide +kernel
theorem dX2_begin_5 : decode cX2_begin 5 = .ok (.aload_n 0, 1) := by decide +kernel
theorem dX2_begin_6 : decode cX2_begin 6 = .ok (.iconst 0, 1) := by decide +kernel
theorem dX2_begin_7 : decode cX2_begin 7 = .ok (.putfield 55, 3) := by decide +kernel
theorem dX2_begin_10 : decode cX2_begin 10 = .ok (.aload_n 0, 1) := by decide +kernel
theorem dX2_begin_11 : decode cX2_begin 11 = .ok (.iconst (-1), 1) := by decide +kernel
theorem dX2_begin_12 : decode cX2_begin 12 = .ok (.putfield 58, 3) := by decide +kernel
theorem dX2_begin_15 : decode cX2_begin 15 = .ok (.aload_n 0, 1) := by decide +kernel
theorem dX2_begin_16 : decode cX2_begin 16 = .ok (.getfield 9, 3) := by decide +kernel
theorem dX2_begin_19 : decode cX2_begin 19 = .ok (.iconst 0, 1) := by decide +kernel
theorem dX2_begin_20 : decode cX2_begin 20 = .ok (.iconst 0, 1) := by decide +kernel
theorem dX2_begin_21 : decode cX2_begin 21 = .ok (.iastore, 1) := by decide +kernel
theorem dX2_begin_22 : decode cX2_begin 22 = .ok (.aload_n 0, 1) := by decide +kernel
theorem dX2_begin_23 : decode cX2_begin 23 = .ok (.getfield 9, 3) := by decide +kernel
theorem dX2_begin_26 : decode cX2_begin 26 = .ok (.iconst 1, 1) := by decide +kernel
theorem dX2_begin_27 : decode cX2_begin 27 = .ok (.iconst 0, 1) := by decide +kernel
theorem dX2_begin_28 : decode cX2_begin 28 = .ok (.iastore, 1) := by decide +kernel
theorem dX2_begin_29 : decode cX2_begin 29 = .ok (.return_, 1) := by decide +kernel
theorem dX2_shuffle_0 : decode cX2_shuffle 0 = .ok (.iconst 0, 1) := by decide +kernel
theorem dX2_shuffle_1 : decode cX2_shuffle 1 = .ok (.istore_n 1, 1) := by decide +kernel
theorem dX2_shuffle_2 : decode cX2_shuffle 2 = .ok (.iload_n 1, 1) := by decide +kernel
theorem dX2_shuffle_3 : decode cX2_shuffle 3 = .ok (.bipush 52, 2) := by decide +kernel
theorem dX2_shuffle_5 : decode cX2_shuffle 5 = .ok (.if_icmp .ge 16, 3) := by decide +kernel
theorem dX2_shuffle_8 : decode cX2_shuffle 8 = .ok (.aload_n 0, 1) := by decide +kernel
theorem dX2_shuffle_9 : decode cX2_shuffle 9 = .ok (.getfield 19, 3) := by decide +kernel
theorem dX2_shuffle_12 : decode cX2_shuffle 12 = .ok (.iload_n 1, 1) := by decide +kernel
theorem dX2_shuffle_13 : decode cX2_shuffle 13 = .ok (.iload_n 1, 1) := by decide +kernel
theorem dX2_shuffle_14 : decode cX2_shuffle 14 = .ok (.iastore, 1) := by decide +kernel
theorem dX2_shuffle_15 : decode cX2_shuffle 15 = .ok (.iinc 1 1, 3) := by decide +kernel
theorem dX2_shuffle_18 : decode cX2_shuffle 18 = .ok (.goto (-16), 3) := by decide +kernel
theorem dX2_shuffle_21 : decode cX2_shuffle 21 = .ok (.bipush 51, 2) := by decide +kernel
theorem dX2_shuffle_23 : decode cX2_shuffle 23 = .ok (.istore_n 1, 1) := by decide +kernel
theorem dX2_shuffle_24 : decode cX2_shuffle 24 = .ok (.iload_n 1, 1) := by decide +kernel
theorem dX2_shuffle_25 : decode cX2_shuffle 25 = .ok (.ifCond .le 80, 3) := by decide +kernel
theorem dX2_shuffle_28 : decode cX2_shuffle 28 = .ok (.aload_n 0, 1) := by decide +kernel
theorem dX2_shuffle_29 : decode cX2_shuffle 29 = .ok (.aload_n 0, 1) := by decide +kernel
theorem dX2_shuffle_30 : decode cX2_shuffle 30 = .ok (.getfield 35, 3) := by decide +kernel
theorem dX2_shuffle_33 : decode cX2_shuffle 33 = .ok (.ldc2_w 73, 3) := by decide +kernel
theorem dX2_shuffle_36 : decode cX2_shuffle 36 = .ok (.lmul, 1) := by decide +kernel
theorem dX2_shuffle_37 : decode cX2_shuffle 37 = .ok (.ldc2_w 75, 3) := by decide +kernel
theorem dX2_shuffle_40 : decode cX2_shuffle 40 = .ok (.ladd, 1) := by decide +kernel
theorem dX2_shuffle_41 : decode cX2_shuffle 41 = .ok (.ldc2_w 77, 3) := by decide +kernel
theorem dX2_shuffle_44 : decode cX2_shuffle 44 = .ok (.lrem, 1) := by decide +kernel
theorem dX2_shuffle_45 : decode cX2_shuffle 45 = .ok (.putfield 35, 3) := by decide +kernel
theorem dX2_shuffle_48 : decode cX2_shuffle 48 = .ok (.aload_n 0, 1) := by decide +kernel
theorem dX2_shuffle_49 : decode cX2_shuffle 49 = .ok (.getfield 35, 3) := by decide +kernel
theorem dX2_shuffle_52 : decode cX2_shuffle 52 = .ok (.ldc2_w 79, 3) := by decide +kernel
theorem dX2_shuffle_55 : decode cX2_shuffle 55 = .ok (.ldiv, 1) := by decide +kernel
theorem dX2_shuffle_56 : decode cX2_shuffle 56 = .ok (.iload_n 1, 1) := by decide +kernel
theorem dX2_shuffle_57 : decode cX2_shuffle 57 = .ok (.iconst 1, 1) := by decide +kernel
theorem dX2_shuffle_58 : decode cX2_shuffle 58 = .ok (.iadd, 1) := by decide +kernel
theorem dX2_shuffle_59 : decode cX2_shuffle 59 = .ok (.i2l, 1) := by decide +kernel
theorem dX2_shuffle_60 : decode cX2_shuffle 60 = .ok (.lrem, 1) := by decide +kernel
theorem dX2_shuffle_61 : decode cX2_shuffle 61 = .ok (.l2i, 1) := by decide +kernel
theorem dX2_shuffle_62 : decode cX2_shuffle 62 = .ok (.istore_n 2, 1) := by decide +kernel
theorem dX2_shuffle_63 : decode cX2_shuffle 63 = .ok (.iload_n 2, 1) := by decide +kernel
theorem dX2_shuffle_64 : decode cX2_shuffle 64 = .ok (.ifCond .lt 35, 3) := by decide +kernel
theorem dX2_shuffle_67 : decode cX2_shuffle 67 = .ok (.iload_n 2, 1) := by decide +kernel
theorem dX2_shuffle_68 : decode cX2_shuffle 68 = .ok (.bipush 52, 2) := by decide +kernel
theorem dX2_shuffle_70 : decode cX2_shuffle 70 = .ok (.if_icmp .ge 29, 3) := by decide +kernel
theorem dX2_shuffle_73 : decode cX2_shuffle 73 = .ok (.aload_n 0, 1) := by decide +kernel
theorem dX2_shuffle_74 : decode cX2_shuffle 74 = .ok (.getfield 19, 3) := by decide +kernel
theorem dX2_shuffle_77 : decode cX2_shuffle 77 = .ok (.iload_n 1, 1) := by decide +kernel
theorem dX2_shuffle_78 : decode cX2_shuffle 78 = .ok (.iaload, 1) := by decide +kernel
theorem dX2_shuffle_79 : decode cX2_shuffle 79 = .ok (.istore_n 3, 1) := by decide +kernel
theorem dX2_shuffle_80 : decode cX2_shuffle 80 = .ok (.aload_n 0, 1) := by decide +kernel
theorem dX2_shuffle_81 : decode cX2_shuffle 81 = .ok (.getfield 19, 3) := by decide +kernel
theorem dX2_shuffle_84 : decode cX2_shuffle 84 = .ok (.iload_n 1, 1) := by decide +kernel
theorem dX2_shuffle_85 : decode cX2_shuffle 85 = .ok (.aload_n 0, 1) := by decide +kernel
theorem dX2_shuffle_86 : decode cX2_shuffle 86 = .ok (.getfield 19, 3) := by decide +kernel
theorem dX2_shuffle_89 : decode cX2_shuffle 89 = .ok (.iload_n 2, 1) := by decide +kernel
theorem dX2_shuffle_90 : decode cX2_shuffle 90 = .ok (.iaload, 1) := by decide +kernel
theorem dX2_shuffle_91 : decode cX2_shuffle 91 = .ok (.iastore, 1) := by decide +kernel
theorem dX2_shuffle_92 : decode cX2_shuffle 92 = .ok (.aload_n 0, 1) := by decide +kernel
theorem dX2_shuffle_93 : decode cX2_shuffle 93 = .ok (.getfield 19, 3) := by decide +kernel
theorem dX2_shuffle_96 : decode cX2_shuffle 96 = .ok (.iload_n 2, 1) := by decide +kernel
theorem dX2_shuffle_97 : decode cX2_shuffle 97 = .ok (.iload_n 3, 1) := by decide +kernel
theorem dX2_shuffle_98 : decode cX2_shuffle 98 = .ok (.iastore, 1) := by decide +kernel
theorem dX2_shuffle_99 : decode cX2_shuffle 99 = .ok (.iinc 1 (-1), 3) := by decide +kernel
theorem dX2_shuffle_102 : decode cX2_shuffle 102 = .ok (.goto (-78), 3) := by decide +kernel
theorem dX2_shuffle_105 : decode cX2_shuffle 105 = .ok (.return_, 1) := by decide +kernel
theorem dX2_dealOut_0 : decode cX2_dealOut 0 = .ok (.iconst 0, 1) := by decide +kernel
theorem dX2_dealOut_1 : decode cX2_dealOut 1 = .ok (.istore_n 1, 1) := by decide +kernel
theorem dX2_dealOut_2 : decode cX2_dealOut 2 = .ok (.iload_n 1, 1) := by decide +kernel
theorem dX2_dealOut_3 : decode cX2_dealOut 3 = .ok (.iconst 2, 1) := by decide +kernel
theorem dX2_dealOut_4 : decode cX2_dealOut 4 = .ok (.if_icmp .ge 56, 3) := by decide +kernel
theorem dX2_dealOut_7 : decode cX2_dealOut 7 = .ok (.aload_n 0, 1) := by decide +kernel
theorem dX2_dealOut_8 : decode cX2_dealOut 8 = .ok (.getfield 15, 3) := by decide +kernel
theorem dX2_dealOut_11 : decode cX2_dealOut 11 = .ok (.iload_n 1, 1) := by decide +kernel
theorem dX2_dealOut_12 : decode cX2_dealOut 12 = .ok (.lconst 0, 1) := by decide +kernel
theorem dX2_dealOut_13 : decode cX2_dealOut 13 = .ok (.lastore, 1) := by decide +kernel
theorem dX2_dealOut_14 : decode cX2_dealOut 14 = .ok (.iconst 0, 1) := by decide +kernel
theorem dX2_dealOut_15 : decode cX2_dealOut 15 = .ok (.istore_n 2, 1) := by decide +kernel
theorem dX2_dealOut_16 : decode cX2_dealOut 16 = .ok (.iload_n 2, 1) := by decide +kernel
theorem dX2_dealOut_17 : decode cX2_dealOut 17 = .ok (.aload_n 0, 1) := by decide +kernel
theorem dX2_dealOut_18 : decode cX2_dealOut 18 = .ok (.getfield 25, 3) := by decide +kernel
theorem dX2_dealOut_21 : decode cX2_dealOut 21 = .ok (.if_icmp .ge 33, 3) := by decide +kernel
theorem dX2_dealOut_24 : decode cX2_dealOut 24 = .ok (.aload_n 0, 1) := by decide +kernel
theorem dX2_dealOut_25 : decode cX2_dealOut 25 = .ok (.getfield 15, 3) := by decide +kernel
theorem dX2_dealOut_28 : decode cX2_dealOut 28 = .ok (.iload_n 1, 1) := by decide +kernel
theorem dX2_dealOut_29 : decode cX2_dealOut 29 = .ok (.dup2, 1) := by decide +kernel
theorem dX2_dealOut_30 : decode cX2_dealOut 30 = .ok (.laload, 1) := by decide +kernel
theorem dX2_dealOut_31 : decode cX2_dealOut 31 = .ok (.aload_n 0, 1) := by decide +kernel
theorem dX2_dealOut_32 : decode cX2_dealOut 32 = .ok (.iload_n 1, 1) := by decide +kernel
theorem dX2_dealOut_33 : decode cX2_dealOut 33 = .ok (.aload_n 0, 1) := by decide +kernel
theorem dX2_dealOut_34 : decode cX2_dealOut 34 = .ok (.getfield 25, 3) := by decide +kernel
theorem dX2_dealOut_37 : decode cX2_dealOut 37 = .ok (.imul, 1) := by decide +kernel
theorem dX2_dealOut_38 : decode cX2_dealOut 38 = .ok (.iload_n 2, 1) := by decide +kernel
theorem dX2_dealOut_39 : decode cX2_dealOut 39 = .ok (.iadd, 1) := by decide +kernel
theorem dX2_dealOut_40 : decode cX2_dealOut 40 = .ok (.invokevirtual 81, 3) := by decide +kernel
theorem dX2_dealOut_43 : decode cX2_dealOut 43 = .ok (.invokestatic 85, 3) := by decide +kernel
theorem dX2_dealOut_46 : decode cX2_dealOut 46 = .ok (.lor, 1) := by decide +kernel
theorem dX2_dealOut_47 : decode cX2_dealOut 47 = .ok (.lastore, 1) := by decide +kernel
theorem dX2_dealOut_48 : decode cX2_dealOut 48 = .ok (.iinc 2 1, 3) := by decide +kernel
theorem dX2_dealOut_51 : decode cX2_dealOut 51 = .ok (.goto (-35), 3) := by decide +kernel
theorem dX2_dealOut_54 : decode cX2_dealOut 54 = .ok (.iinc 1 1, 3) := by decide +kernel
theorem dX2_dealOut_57 : decode cX2_dealOut 57 = .ok (.goto (-55), 3) := by decide +kernel
theorem dX2_dealOut_60 : decode cX2_dealOut 60 = .ok (.aload_n 0, 1) := by decide +kernel
theorem dX2_dealOut_61 : decode cX2_dealOut 61 = .ok (.getfield 22, 3) := by decide +kernel
theorem dX2_dealOut_64 : decode cX2_dealOut 64 = .ok (.iconst 0, 1) := by decide +kernel
theorem dX2_dealOut_65 : decode cX2_dealOut 65 = .ok (.aload_n 0, 1) := by decide +kernel
theorem dX2_dealOut_66 : decode cX2_dealOut 66 = .ok (.iconst 2, 1) := by decide +kernel
theorem dX2_dealOut_67 : decode cX2_dealOut 67 = .ok (.aload_n 0, 1) := by decide +kernel
theorem dX2_dealOut_68 : decode cX2_dealOut 68 = .ok (.getfield 25, 3) := by decide +kernel
theorem dX2_dealOut_71 : decode cX2_dealOut 71 = .ok (.imul, 1) := by decide +kernel
theorem dX2_dealOut_72 : decode cX2_dealOut 72 = .ok (.invokevirtual 81, 3) := by decide +kernel
theorem dX2_dealOut_75 : decode cX2_dealOut 75 = .ok (.iastore, 1) := by decide +kernel
theorem dX2_dealOut_76 : decode cX2_dealOut 76 = .ok (.aload_n 0, 1) := by decide +kernel
theorem dX2_dealOut_77 : decode cX2_dealOut 77 = .ok (.iconst 1, 1) := by decide +kernel
theorem dX2_dealOut_78 : decode cX2_dealOut 78 = .ok (.putfield 64, 3) := by decide +kernel
theorem dX2_dealOut_81 : decode cX2_dealOut 81 = .ok (.aload_n 0, 1) := by decide +kernel
theorem dX2_dealOut_82 : decode cX2_dealOut 82 = .ok (.iconst 2, 1) := by decide +kernel
theorem dX2_dealOut_83 : decode cX2_dealOut 83 = .ok (.aload_n 0, 1) := by decide +kernel
theorem dX2_dealOut_84 : decode cX2_dealOut 84 = .ok (.getfield 25, 3) := by decide +kernel
theorem dX2_dealOut_87 : decode cX2_dealOut 87 = .ok (.imul, 1) := by decide +kernel
theorem dX2_dealOut_88 : decode cX2_dealOut 88 = .ok (.iconst 1, 1) := by decide +kernel
theorem dX2_dealOut_89 : decode cX2_dealOut 89 = .ok (.iadd, 1) := by decide +kernel
theorem dX2_dealOut_90 : decode cX2_dealOut 90 = .ok (.putfield 61, 3) := by decide +kernel
theorem dX2_dealOut_93 : decode cX2_dealOut 93 = .ok (.aload_n 0, 1) := by decide +kernel
theorem dX2_dealOut_94 : decode cX2_dealOut 94 = .ok (.aload_n 0, 1) := by decide +kernel
theorem dX2_dealOut_95 : decode cX2_dealOut 95 = .ok (.getfield 39, 3) := by decide +kernel
theorem dX2_dealOut_98 : decode cX2_dealOut 98 = .ok (.iconst 1, 1) := by decide +kernel
theorem dX2_dealOut_99 : decode cX2_dealOut 99 = .ok (.iand, 1) := by decide +kernel
theorem dX2_dealOut_100 : decode cX2_dealOut 100 = .ok (.ifCond .ne 7, 3) := by decide +kernel
theorem dX2_dealOut_103 : decode cX2_dealOut 103 = .ok (.iconst 0, 1) := by decide +kernel
theorem dX2_dealOut_104 : decode cX2_dealOut 104 = .ok (.goto 4, 3) := by decide +kernel
theorem dX2_dealOut_107 : decode cX2_dealOut 107 = .ok (.iconst 1, 1) := by decide +kernel
theorem dX2_dealOut_108 : decode cX2_dealOut 108 = .ok (.putfield 42, 3) := by decide +kernel
theorem dX2_dealOut_111 : decode cX2_dealOut 111 = .ok (.aload_n 0, 1) := by decide +kernel
theorem dX2_dealOut_112 : decode cX2_dealOut 112 = .ok (.iconst 0, 1) := by decide +kernel
theorem dX2_dealOut_113 : decode cX2_dealOut 113 = .ok (.putfield 45, 3) := by decide +kernel
theorem dX2_dealOut_116 : decode cX2_dealOut 116 = .ok (.aload_n 0, 1) := by decide +kernel
theorem dX2_dealOut_117 : decode cX2_dealOut 117 = .ok (.iconst (-1), 1) := by decide +kernel
theorem dX2_dealOut_118 : decode cX2_dealOut 118 = .ok (.putfield 49, 3) := by decide +kernel
theorem dX2_dealOut_121 : decode cX2_dealOut 121 = .ok (.aload_n 0, 1) := by decide +kernel
theorem dX2_dealOut_122 : decode cX2_dealOut 122 = .ok (.iconst 0, 1) := by decide +kernel
theorem dX2_dealOut_123 : decode cX2_dealOut 123 = .ok (.putfield 52, 3) := by decide +kernel
theorem dX2_dealOut_126 : decode cX2_dealOut 126 = .ok (.return_, 1) := by decide +kernel
theorem dX2_beginNextRound_0 : decode cX2_beginNextRound 0 = .ok (.aload_n 0, 1) := by decide +kernel
theorem dX2_beginNextRound_1 : decode cX2_beginNextRound 1 = .ok (.dup, 1) := by decide +kernel
theorem dX2_beginNextRound_2 : decode cX2_beginNextRound 2 = .ok (.getfield 39, 3) := by decide +kernel
theorem dX2_beginNextRound_5 : decode cX2_beginNextRound 5 = .ok (.iconst 1, 1) := by decide +kernel
theorem dX2_beginNextRound_6 : decode cX2_beginNextRound 6 = .ok (.iadd, 1) := by decide +kernel
theorem dX2_beginNextRound_7 : decode cX2_beginNextRound 7 = .ok (.putfield 39, 3) := by decide +kernel
theorem dX2_beginNextRound_10 : decode cX2_beginNextRound 10 = .ok (.aload_n 0, 1) := by decide +kernel
theorem dX2_beginNextRound_11 : decode cX2_beginNextRound 11 = .ok (.invokevirtual 89, 3) := by decide +kernel
theorem dX2_beginNextRound_14 : decode cX2_beginNextRound 14 = .ok (.aload_n 0, 1) := by decide +kernel
theorem dX2_beginNextRound_15 : decode cX2_beginNextRound 15 = .ok (.invokevirtual 92, 3) := by decide +kernel
theorem dX2_beginNextRound_18 : decode cX2_beginNextRound 18 = .ok (.return_, 1) := by decide +kernel
theorem dX2_takeCard_0 : decode cX2_takeCard 0 = .ok (.iload_n 1, 1) := by decide +kernel
theorem dX2_takeCard_1 : decode cX2_takeCard 1 = .ok (.ifCond .eq 10, 3) := by decide +kernel
theorem dX2_takeCard_4 : decode cX2_takeCard 4 = .ok (.aload_n 0, 1) := by decide +kernel
theorem dX2_takeCard_5 : decode cX2_takeCard 5 = .ok (.invokevirtual 95, 3) := by decide +kernel
theorem dX2_takeCard_8 : decode cX2_takeCard 8 = .ok (.goto 11, 3) := by decide +kernel
theorem dX2_takeCard_11 : decode cX2_takeCard 11 = .ok (.aload_n 0, 1) := by decide +kernel
theorem dX2_takeCard_12 : decode cX2_takeCard 12 = .ok (.aload_n 0, 1) := by decide +kernel
theorem dX2_takeCard_13 : decode cX2_takeCard 13 = .ok (.getfield 61, 3) := by decide +kernel
theorem dX2_takeCard_16 : decode cX2_takeCard 16 = .ok (.invokevirtual 81, 3) := by decide +kernel
theorem dX2_takeCard_19 : decode cX2_takeCard 19 = .ok (.istore_n 2, 1) := by decide +kernel
theorem dX2_takeCard_20 : decode cX2_takeCard 20 = .ok (.iload_n 2, 1) := by decide +kernel
theorem dX2_takeCard_21 : decode cX2_takeCard 21 = .ok (.iconst (-1), 1) := by decide +kernel
theorem dX2_takeCard_22 : decode cX2_takeCard 22 = .ok (.if_icmp .ne 5, 3) := by decide +kernel
theorem dX2_takeCard_25 : decode cX2_takeCard 25 = .ok (.iconst (-1), 1) := by decide +kernel
theorem dX2_takeCard_26 : decode cX2_takeCard 26 = .ok (.ireturn, 1) := by decide +kernel
theorem dX2_takeCard_27 : decode cX2_takeCard 27 = .ok (.iload_n 1, 1) := by decide +kernel
theorem dX2_takeCard_28 : decode cX2_takeCard 28 = .ok (.ifCond .eq 21, 3) := by decide +kernel
theorem dX2_takeCard_31 : decode cX2_takeCard 31 = .ok (.aload_n 0, 1) := by decide +kernel
theorem dX2_takeCard_32 : decode cX2_takeCard 32 = .ok (.dup, 1) := by decide +kernel
theorem dX2_takeCard_33 : decode cX2_takeCard 33 = .ok (.getfield 64, 3) := by decide +kernel
theorem dX2_takeCard_36 : decode cX2_takeCard 36 = .ok (.iconst 1, 1) := by decide +kernel
theorem dX2_takeCard_37 : decode cX2_takeCard 37 = .ok (.isub, 1) := by decide +kernel
theorem dX2_takeCard_38 : decode cX2_takeCard 38 = .ok (.putfield 64, 3) := by decide +kernel
theorem dX2_takeCard_41 : decode cX2_takeCard 41 = .ok (.aload_n 0, 1) := by decide +kernel
theorem dX2_takeCard_42 : decode cX2_takeCard 42 = .ok (.iload_n 2, 1) := by decide +kernel
theorem dX2_takeCard_43 : decode cX2_takeCard 43 = .ok (.putfield 49, 3) := by decide +kernel
theorem dX2_takeCard_46 : decode cX2_takeCard 46 = .ok (.goto 13, 3) := by decide +kernel
theorem dX2_takeCard_49 : decode cX2_takeCard 49 = .ok (.aload_n 0, 1) := by decide +kernel
theorem dX2_takeCard_50 : decode cX2_takeCard 50 = .ok (.dup, 1) := by decide +kernel
theorem dX2_takeCard_51 : decode cX2_takeCard 51 = .ok (.getfield 61, 3) := by decide +kernel
theorem dX2_takeCard_54 : decode cX2_takeCard 54 = .ok (.iconst 1, 1) := by decide +kernel
theorem dX2_takeCard_55 : decode cX2_takeCard 55 = .ok (.iadd, 1) := by decide +kernel
theorem dX2_takeCard_56 : decode cX2_takeCard 56 = .ok (.putfield 61, 3) := by decide +kernel
theorem dX2_takeCard_59 : decode cX2_takeCard 59 = .ok (.aload_n 0, 1) := by decide +kernel
theorem dX2_takeCard_60 : decode cX2_takeCard 60 = .ok (.getfield 15, 3) := by decide +kernel
theorem dX2_takeCard_63 : decode cX2_takeCard 63 = .ok (.aload_n 0, 1) := by decide +kernel
theorem dX2_takeCard_64 : decode cX2_takeCard 64 = .ok (.getfield 42, 3) := by decide +kernel
theorem dX2_takeCard_67 : decode cX2_takeCard 67 = .ok (.iconst 1, 1) := by decide +kernel
theorem dX2_takeCard_68 : decode cX2_takeCard 68 = .ok (.iand, 1) := by decide +kernel
theorem dX2_takeCard_69 : decode cX2_takeCard 69 = .ok (.dup2, 1) := by decide +kernel
theorem dX2_takeCard_70 : decode cX2_takeCard 70 = .ok (.laload, 1) := by decide +kernel
theorem dX2_takeCard_71 : decode cX2_takeCard 71 = .ok (.iload_n 2, 1) := by decide +kernel
theorem dX2_takeCard_72 : decode cX2_takeCard 72 = .ok (.invokestatic 85, 3) := by decide +kernel
theorem dX2_takeCard_75 : decode cX2_takeCard 75 = .ok (.lor, 1) := by decide +kernel
theorem dX2_takeCard_76 : decode cX2_takeCard 76 = .ok (.lastore, 1) := by decide +kernel
theorem dX2_takeCard_77 : decode cX2_takeCard 77 = .ok (.aload_n 0, 1) := by decide +kernel
theorem dX2_takeCard_78 : decode cX2_takeCard 78 = .ok (.iconst 1, 1) := by decide +kernel
theorem dX2_takeCard_79 : decode cX2_takeCard 79 = .ok (.putfield 45, 3) := by decide +kernel
theorem dX2_takeCard_82 : decode cX2_takeCard 82 = .ok (.iload_n 2, 1) := by decide +kernel
theorem dX2_takeCard_83 : decode cX2_takeCard 83 = .ok (.ireturn, 1) := by decide +kernel
theorem dX2_putDown_0 : decode cX2_putDown 0 = .ok (.aload_n 0, 1) := by decide +kernel
theorem dX2_putDown_1 : decode cX2_putDown 1 = .ok (.getfield 15, 3) := by decide +kernel
theorem dX2_putDown_4 : decode cX2_putDown 4 = .ok (.aload_n 0, 1) := by decide +kernel
theorem dX2_putDown_5 : decode cX2_putDown 5 = .ok (.getfield 42, 3) := by decide +kernel
theorem dX2_putDown_8 : decode cX2_putDown 8 = .ok (.iconst 1, 1) := by decide +kernel
theorem dX2_putDown_9 : decode cX2_putDown 9 = .ok (.iand, 1) := by decide +kernel
theorem dX2_putDown_10 : decode cX2_putDown 10 = .ok (.dup2, 1) := by decide +kernel
theorem dX2_putDown_11 : decode cX2_putDown 11 = .ok (.laload, 1) := by decide +kernel
theorem dX2_putDown_12 : decode cX2_putDown 12 = .ok (.iload_n 1, 1) := by decide +kernel
theorem dX2_putDown_13 : decode cX2_putDown 13 = .ok (.invokestatic 85, 3) := by decide +kernel
theorem dX2_putDown_16 : decode cX2_putDown 16 = .ok (.ldc2_w 99, 3) := by decide +kernel
theorem dX2_putDown_19 : decode cX2_putDown 19 = .ok (.lxor, 1) := by decide +kernel
theorem dX2_putDown_20 : decode cX2_putDown 20 = .ok (.land, 1) := by decide +kernel
theorem dX2_putDown_21 : decode cX2_putDown 21 = .ok (.lastore, 1) := by decide +kernel
theorem dX2_putDown_22 : decode cX2_putDown 22 = .ok (.aload_n 0, 1) := by decide +kernel
theorem dX2_putDown_23 : decode cX2_putDown 23 = .ok (.getfield 64, 3) := by decide +kernel
theorem dX2_putDown_26 : decode cX2_putDown 26 = .ok (.ifCond .lt 32, 3) := by decide +kernel
theorem dX2_putDown_29 : decode cX2_putDown 29 = .ok (.aload_n 0, 1) := by decide +kernel
theorem dX2_putDown_30 : decode cX2_putDown 30 = .ok (.getfield 64, 3) := by decide +kernel
theorem dX2_putDown_33 : decode cX2_putDown 33 = .ok (.bipush 52, 2) := by decide +kernel
theorem dX2_putDown_35 : decode cX2_putDown 35 = .ok (.if_icmp .ge 23, 3) := by decide +kernel
theorem dX2_putDown_38 : decode cX2_putDown 38 = .ok (.aload_n 0, 1) := by decide +kernel
theorem dX2_putDown_39 : decode cX2_putDown 39 = .ok (.getfield 22, 3) := by decide +kernel
theorem dX2_putDown_42 : decode cX2_putDown 42 = .ok (.aload_n 0, 1) := by decide +kernel
theorem dX2_putDown_43 : decode cX2_putDown 43 = .ok (.getfield 64, 3) := by decide +kernel
theorem dX2_putDown_46 : decode cX2_putDown 46 = .ok (.iload_n 1, 1) := by decide +kernel
theorem dX2_putDown_47 : decode cX2_putDown 47 = .ok (.iastore, 1) := by decide +kernel
theorem dX2_putDown_48 : decode cX2_putDown 48 = .ok (.aload_n 0, 1) := by decide +kernel
theorem dX2_putDown_49 : decode cX2_putDown 49 = .ok (.dup, 1) := by decide +kernel
theorem dX2_putDown_50 : decode cX2_putDown 50 = .ok (.getfield 64, 3) := by decide +kernel
theorem dX2_putDown_53 : decode cX2_putDown 53 = .ok (.iconst 1, 1) := by decide +kernel
theorem dX2_putDown_54 : decode cX2_putDown 54 = .ok (.iadd, 1) := by decide +kernel
theorem dX2_putDown_55 : decode cX2_putDown 55 = .ok (.putfield 64, 3) := by decide +kernel
theorem dX2_putDown_58 : decode cX2_putDown 58 = .ok (.aload_n 0, 1) := by decide +kernel
theorem dX2_putDown_59 : decode cX2_putDown 59 = .ok (.iconst 0, 1) := by decide +kernel
theorem dX2_putDown_60 : decode cX2_putDown 60 = .ok (.putfield 45, 3) := by decide +kernel
theorem dX2_putDown_63 : decode cX2_putDown 63 = .ok (.aload_n 0, 1) := by decide +kernel
theorem dX2_putDown_64 : decode cX2_putDown 64 = .ok (.iconst (-1), 1) := by decide +kernel
theorem dX2_putDown_65 : decode cX2_putDown 65 = .ok (.putfield 49, 3) := by decide +kernel
theorem dX2_putDown_68 : decode cX2_putDown 68 = .ok (.return_, 1) := by decide +kernel
theorem dX2_endTurn_0 : decode cX2_endTurn 0 = .ok (.aload_n 0, 1) := by decide +kernel
theorem dX2_endTurn_1 : decode cX2_endTurn 1 = .ok (.iload_n 1, 1) := by decide +kernel
theorem dX2_endTurn_2 : decode cX2_endTurn 2 = .ok (.invokevirtual 101, 3) := by decide +kernel
theorem dX2_endTurn_5 : decode cX2_endTurn 5 = .ok (.aload_n 0, 1) := by decide +kernel
theorem dX2_endTurn_6 : decode cX2_endTurn 6 = .ok (.invokevirtual 105, 3) := by decide +kernel
theorem dX2_endTurn_9 : decode cX2_endTurn 9 = .ok (.ifCond .le 14, 3) := by decide +kernel
theorem dX2_endTurn_12 : decode cX2_endTurn 12 = .ok (.aload_n 0, 1) := by decide +kernel
theorem dX2_endTurn_13 : decode cX2_endTurn 13 = .ok (.iconst 1, 1) := by decide +kernel
theorem dX2_endTurn_14 : decode cX2_endTurn 14 = .ok (.aload_n 0, 1) := by decide +kernel
theorem dX2_endTurn_15 : decode cX2_endTurn 15 = .ok (.getfield 42, 3) := by decide +kernel
theorem dX2_endTurn_18 : decode cX2_endTurn 18 = .ok (.isub, 1) := by decide +kernel
theorem dX2_endTurn_19 : decode cX2_endTurn 19 = .ok (.putfield 42, 3) := by decide +kernel
theorem dX2_endTurn_22 : decode cX2_endTurn 22 = .ok (.return_, 1) := by decide +kernel
theorem dX2_endTurn_23 : decode cX2_endTurn 23 = .ok (.aload_n 0, 1) := by decide +kernel
theorem dX2_endTurn_24 : decode cX2_endTurn 24 = .ok (.iconst 1, 1) := by decide +kernel
theorem dX2_endTurn_25 : decode cX2_endTurn 25 = .ok (.putfield 52, 3) := by decide +kernel
theorem dX2_endTurn_28 : decode cX2_endTurn 28 = .ok (.aload_n 0, 1) := by decide +kernel
theorem dX2_endTurn_29 : decode cX2_endTurn 29 = .ok (.iconst 0, 1) := by decide +kernel
theorem dX2_endTurn_30 : decode cX2_endTurn 30 = .ok (.putfield 55, 3) := by decide +kernel
theorem dX2_endTurn_33 : decode cX2_endTurn 33 = .ok (.aload_n 0, 1) := by decide +kernel
theorem dX2_endTurn_34 : decode cX2_endTurn 34 = .ok (.iconst (-1), 1) := by decide +kernel
theorem dX2_endTurn_35 : decode cX2_endTurn 35 = .ok (.putfield 58, 3) := by decide +kernel
theorem dX2_endTurn_38 : decode cX2_endTurn 38 = .ok (.return_, 1) := by decide +kernel
theorem dX2_endRound_0 : decode cX2_endRound 0 = .ok (.aload_n 0, 1) := by decide +kernel
theorem dX2_endRound_1 : decode cX2_endRound 1 = .ok (.iload_n 1, 1) := by decide +kernel
theorem dX2_endRound_2 : decode cX2_endRound 2 = .ok (.invokevirtual 101, 3) := by decide +kernel
theorem dX2_endRound_5 : decode cX2_endRound 5 = .ok (.aload_n 0, 1) := by decide +kernel
theorem dX2_endRound_6 : decode cX2_endRound 6 = .ok (.iconst 1, 1) := by decide +kernel
theorem dX2_endRound_7 : decode cX2_endRound 7 = .ok (.putfield 52, 3) := by decide +kernel
theorem dX2_endRound_10 : decode cX2_endRound 10 = .ok (.aload_n 0, 1) := by decide +kernel
theorem dX2_endRound_11 : decode cX2_endRound 11 = .ok (.iload_n 2, 1) := by decide +kernel
theorem dX2_endRound_12 : decode cX2_endRound 12 = .ok (.invokestatic 108, 3) := by decide +kernel
theorem dX2_endRound_15 : decode cX2_endRound 15 = .ok (.putfield 55, 3) := by decide +kernel
theorem dX2_endRound_18 : decode cX2_endRound 18 = .ok (.aload_n 0, 1) := by decide +kernel
theorem dX2_endRound_19 : decode cX2_endRound 19 = .ok (.iload_n 2, 1) := by decide +kernel
theorem dX2_endRound_20 : decode cX2_endRound 20 = .ok (.ifCond .le 10, 3) := by decide +kernel
theorem dX2_endRound_23 : decode cX2_endRound 23 = .ok (.aload_n 0, 1) := by decide +kernel
theorem dX2_endRound_24 : decode cX2_endRound 24 = .ok (.getfield 42, 3) := by decide +kernel
theorem dX2_endRound_27 : decode cX2_endRound 27 = .ok (.goto 9, 3) := by decide +kernel
theorem dX2_endRound_30 : decode cX2_endRound 30 = .ok (.iconst 1, 1) := by decide +kernel
theorem dX2_endRound_31 : decode cX2_endRound 31 = .ok (.aload_n 0, 1) := by decide +kernel
theorem dX2_endRound_32 : decode cX2_endRound 32 = .ok (.getfield 42, 3) := by decide +kernel
theorem dX2_endRound_35 : decode cX2_endRound 35 = .ok (.isub, 1) := by decide +kernel
theorem dX2_endRound_36 : decode cX2_endRound 36 = .ok (.putfield 58, 3) := by decide +kernel
theorem dX2_endRound_39 : decode cX2_endRound 39 = .ok (.aload_n 0, 1) := by decide +kernel
theorem dX2_endRound_40 : decode cX2_endRound 40 = .ok (.getfield 9, 3) := by decide +kernel
theorem dX2_endRound_43 : decode cX2_endRound 43 = .ok (.aload_n 0, 1) := by decide +kernel
theorem dX2_endRound_44 : decode cX2_endRound 44 = .ok (.getfield 58, 3) := by decide +kernel
theorem dX2_endRound_47 : decode cX2_endRound 47 = .ok (.iconst 1, 1) := by decide +kernel
theorem dX2_endRound_48 : decode cX2_endRound 48 = .ok (.iand, 1) := by decide +kernel
theorem dX2_endRound_49 : decode cX2_endRound 49 = .ok (.dup2, 1) := by decide +kernel
theorem dX2_endRound_50 : decode cX2_endRound 50 = .ok (.iaload, 1) := by decide +kernel
theorem dX2_endRound_51 : decode cX2_endRound 51 = .ok (.aload_n 0, 1) := by decide +kernel
theorem dX2_endRound_52 : decode cX2_endRound 52 = .ok (.getfield 55, 3) := by decide +kernel
theorem dX2_endRound_55 : decode cX2_endRound 55 = .ok (.iadd, 1) := by decide +kernel
theorem dX2_endRound_56 : decode cX2_endRound 56 = .ok (.iastore, 1) := by decide +kernel
theorem dX2_endRound_57 : decode cX2_endRound 57 = .ok (.return_, 1) := by decide +kernel
theorem dX2_reasonAgainstDraw_0 : decode cX2_reasonAgainstDraw 0 = .ok (.aload_n 0, 1) := by decide +kernel
theorem dX2_reasonAgainstDraw_1 : decode cX2_reasonAgainstDraw 1 = .ok (.getfield 52, 3) := by decide +kernel
theorem dX2_reasonAgainstDraw_4 : decode cX2_reasonAgainstDraw 4 = .ok (.ifCond .eq 5, 3) := by decide +kernel
theorem dX2_reasonAgainstDraw_7 : decode cX2_reasonAgainstDraw 7 = .ok (.iconst 2, 1) := by decide +kernel
theorem dX2_reasonAgainstDraw_8 : decode cX2_reasonAgainstDraw 8 = .ok (.ireturn, 1) := by decide +kernel
theorem dX2_reasonAgainstDraw_9 : decode cX2_reasonAgainstDraw 9 = .ok (.aload_n 0, 1) := by decide +kernel
theorem dX2_reasonAgainstDraw_10 : decode cX2_reasonAgainstDraw 10 = .ok (.getfield 45, 3) := by decide +kernel
theorem dX2_reasonAgainstDraw_13 : decode cX2_reasonAgainstDraw 13 = .ok (.ifCond .eq 7, 3) := by decide +kernel
theorem dX2_reasonAgainstDraw_16 : decode cX2_reasonAgainstDraw 16 = .ok (.iconst 3, 1) := by decide +kernel
theorem dX2_reasonAgainstDraw_17 : decode cX2_reasonAgainstDraw 17 = .ok (.goto 4, 3) := by decide +kernel
theorem dX2_reasonAgainstDraw_20 : decode cX2_reasonAgainstDraw 20 = .ok (.iconst 0, 1) := by decide +kernel
theorem dX2_reasonAgainstDraw_21 : decode cX2_reasonAgainstDraw 21 = .ok (.ireturn, 1) := by decide +kernel
theorem dX2_reasonAgainstDrop_0 : decode cX2_reasonAgainstDrop 0 = .ok (.aload_n 0, 1) := by decide +kernel
theorem dX2_reasonAgainstDrop_1 : decode cX2_reasonAgainstDrop 1 = .ok (.getfield 52, 3) := by decide +kernel
theorem dX2_reasonAgainstDrop_4 : decode cX2_reasonAgainstDrop 4 = .ok (.ifCond .eq 5, 3) := by decide +kernel
theorem dX2_reasonAgainstDrop_7 : decode cX2_reasonAgainstDrop 7 = .ok (.iconst 2, 1) := by decide +kernel
theorem dX2_reasonAgainstDrop_8 : decode cX2_reasonAgainstDrop 8 = .ok (.ireturn, 1) := by decide +kernel
theorem dX2_reasonAgainstDrop_9 : decode cX2_reasonAgainstDrop 9 = .ok (.aload_n 0, 1) := by decide +kernel
theorem dX2_reasonAgainstDrop_10 : decode cX2_reasonAgainstDrop 10 = .ok (.getfield 45, 3) := by decide +kernel
theorem dX2_reasonAgainstDrop_13 : decode cX2_reasonAgainstDrop 13 = .ok (.ifCond .ne 5, 3) := by decide +kernel
theorem dX2_reasonAgainstDrop_16 : decode cX2_reasonAgainstDrop 16 = .ok (.iconst 4, 1) := by decide +kernel
theorem dX2_reasonAgainstDrop_17 : decode cX2_reasonAgainstDrop 17 = .ok (.ireturn, 1) := by decide +kernel
theorem dX2_reasonAgainstDrop_18 : decode cX2_reasonAgainstDrop 18 = .ok (.iload_n 1, 1) := by decide +kernel
theorem dX2_reasonAgainstDrop_19 : decode cX2_reasonAgainstDrop 19 = .ok (.aload_n 0, 1) := by decide +kernel
theorem dX2_reasonAgainstDrop_20 : decode cX2_reasonAgainstDrop 20 = .ok (.getfield 49, 3) := by decide +kernel
theorem dX2_reasonAgainstDrop_23 : decode cX2_reasonAgainstDrop 23 = .ok (.if_icmp .ne 7, 3) := by decide +kernel
theorem dX2_reasonAgainstDrop_26 : decode cX2_reasonAgainstDrop 26 = .ok (.iconst 5, 1) := by decide +kernel
theorem dX2_reasonAgainstDrop_27 : decode cX2_reasonAgainstDrop 27 = .ok (.goto 4, 3) := by decide +kernel
theorem dX2_reasonAgainstDrop_30 : decode cX2_reasonAgainstDrop 30 = .ok (.iconst 0, 1) := by decide +kernel
theorem dX2_reasonAgainstDrop_31 : decode cX2_reasonAgainstDrop 31 = .ok (.ireturn, 1) := by decide +kernel
theorem dX2_reasonAgainstKnock_0 : decode cX2_reasonAgainstKnock 0 = .ok (.aload_n 0, 1) := by decide +kernel
theorem dX2_reasonAgainstKnock_1 : decode cX2_reasonAgainstKnock 1 = .ok (.iload_n 1, 1) := by decide +kernel
theorem dX2_reasonAgainstKnock_2 : decode cX2_reasonAgainstKnock 2 = .ok (.invokevirtual 113, 3) := by decide +kernel
theorem dX2_reasonAgainstKnock_5 : decode cX2_reasonAgainstKnock 5 = .ok (.istore_n 3, 1) := by decide +kernel
theorem dX2_reasonAgainstKnock_6 : decode cX2_reasonAgainstKnock 6 = .ok (.iload_n 3, 1) := by decide +kernel
theorem dX2_reasonAgainstKnock_7 : decode cX2_reasonAgainstKnock 7 = .ok (.ifCond .eq 5, 3) := by decide +kernel
theorem dX2_reasonAgainstKnock_10 : decode cX2_reasonAgainstKnock 10 = .ok (.iload_n 3, 1) := by decide +kernel
theorem dX2_reasonAgainstKnock_11 : decode cX2_reasonAgainstKnock 11 = .ok (.ireturn, 1) := by decide +kernel
theorem dX2_reasonAgainstKnock_12 : decode cX2_reasonAgainstKnock 12 = .ok (.iload_n 2, 1) := by decide +kernel
theorem dX2_reasonAgainstKnock_13 : decode cX2_reasonAgainstKnock 13 = .ok (.aload_n 0, 1) := by decide +kernel
theorem dX2_reasonAgainstKnock_14 : decode cX2_reasonAgainstKnock 14 = .ok (.getfield 29, 3) := by decide +kernel
theorem dX2_reasonAgainstKnock_17 : decode cX2_reasonAgainstKnock 17 = .ok (.if_icmp .le 8, 3) := by decide +kernel
theorem dX2_reasonAgainstKnock_20 : decode cX2_reasonAgainstKnock 20 = .ok (.bipush 6, 2) := by decide +kernel
theorem dX2_reasonAgainstKnock_22 : decode cX2_reasonAgainstKnock 22 = .ok (.goto 4, 3) := by decide +kernel
theorem dX2_reasonAgainstKnock_25 : decode cX2_reasonAgainstKnock 25 = .ok (.iconst 0, 1) := by decide +kernel
theorem dX2_reasonAgainstKnock_26 : decode cX2_reasonAgainstKnock 26 = .ok (.ireturn, 1) := by decide +kernel
theorem dX2_reasonAgainstDeal_0 : decode cX2_reasonAgainstDeal 0 = .ok (.aload_n 0, 1) := by decide +kernel
theorem dX2_reasonAgainstDeal_1 : decode cX2_reasonAgainstDeal 1 = .ok (.getfield 52, 3) := by decide +kernel
theorem dX2_reasonAgainstDeal_4 : decode cX2_reasonAgainstDeal 4 = .ok (.ifCond .ne 6, 3) := by decide +kernel
theorem dX2_reasonAgainstDeal_7 : decode cX2_reasonAgainstDeal 7 = .ok (.bipush 7, 2) := by decide +kernel
theorem dX2_reasonAgainstDeal_9 : decode cX2_reasonAgainstDeal 9 = .ok (.ireturn, 1) := by decide +kernel
theorem dX2_reasonAgainstDeal_10 : decode cX2_reasonAgainstDeal 10 = .ok (.aload_n 0, 1) := by decide +kernel
theorem dX2_reasonAgainstDeal_11 : decode cX2_reasonAgainstDeal 11 = .ok (.invokevirtual 116, 3) := by decide +kernel
theorem dX2_reasonAgainstDeal_14 : decode cX2_reasonAgainstDeal 14 = .ok (.ifCond .eq 8, 3) := by decide +kernel
theorem dX2_reasonAgainstDeal_17 : decode cX2_reasonAgainstDeal 17 = .ok (.bipush 8, 2) := by decide +kernel
theorem dX2_reasonAgainstDeal_19 : decode cX2_reasonAgainstDeal 19 = .ok (.goto 4, 3) := by decide +kernel
theorem dX2_reasonAgainstDeal_22 : decode cX2_reasonAgainstDeal 22 = .ok (.iconst 0, 1) := by decide +kernel
theorem dX2_reasonAgainstDeal_23 : decode cX2_reasonAgainstDeal 23 = .ok (.ireturn, 1) := by decide +kernel
theorem dX2_isMatchOver_0 : decode cX2_isMatchOver 0 = .ok (.aload_n 0, 1) := by decide +kernel
theorem dX2_isMatchOver_1 : decode cX2_isMatchOver 1 = .ok (.getfield 52, 3) := by decide +kernel
theorem dX2_isMatchOver_4 : decode cX2_isMatchOver 4 = .ok (.ifCond .eq 33, 3) := by decide +kernel
theorem dX2_isMatchOver_7 : decode cX2_isMatchOver 7 = .ok (.aload_n 0, 1) := by decide +kernel
theorem dX2_isMatchOver_8 : decode cX2_isMatchOver 8 = .ok (.getfield 9, 3) := by decide +kernel
theorem dX2_isMatchOver_11 : decode cX2_isMatchOver 11 = .ok (.iconst 0, 1) := by decide +kernel
theorem dX2_isMatchOver_12 : decode cX2_isMatchOver 12 = .ok (.iaload, 1) := by decide +kernel
theorem dX2_isMatchOver_13 : decode cX2_isMatchOver 13 = .ok (.aload_n 0, 1) := by decide +kernel
theorem dX2_isMatchOver_14 : decode cX2_isMatchOver 14 = .ok (.getfield 32, 3) := by decide +kernel
theorem dX2_isMatchOver_17 : decode cX2_isMatchOver 17 = .ok (.if_icmp .ge 16, 3) := by decide +kernel
theorem dX2_isMatchOver_20 : decode cX2_isMatchOver 20 = .ok (.aload_n 0, 1) := by decide +kernel
theorem dX2_isMatchOver_21 : decode cX2_isMatchOver 21 = .ok (.getfield 9, 3) := by decide +kernel
theorem dX2_isMatchOver_24 : decode cX2_isMatchOver 24 = .ok (.iconst 1, 1) := by decide +kernel
theorem dX2_isMatchOver_25 : decode cX2_isMatchOver 25 = .ok (.iaload, 1) := by decide +kernel
theorem dX2_isMatchOver_26 : decode cX2_isMatchOver 26 = .ok (.aload_n 0, 1) := by decide +kernel
theorem dX2_isMatchOver_27 : decode cX2_isMatchOver 27 = .ok (.getfield 32, 3) := by decide +kernel
theorem dX2_isMatchOver_30 : decode cX2_isMatchOver 30 = .ok (.if_icmp .lt 7, 3) := by decide +kernel
theorem dX2_isMatchOver_33 : decode cX2_isMatchOver 33 = .ok (.iconst 1, 1) := by decide +kernel
theorem dX2_isMatchOver_34 : decode cX2_isMatchOver 34 = .ok (.goto 4, 3) := by decide +kernel
theorem dX2_isMatchOver_37 : decode cX2_isMatchOver 37 = .ok (.iconst 0, 1) := by decide +kernel
theorem dX2_isMatchOver_38 : decode cX2_isMatchOver 38 = .ok (.ireturn, 1) := by decide +kernel
theorem dX2_isDropDue_0 : decode cX2_isDropDue 0 = .ok (.aload_n 0, 1) := by decide +kernel
theorem dX2_isDropDue_1 : decode cX2_isDropDue 1 = .ok (.getfield 45, 3) := by decide +kernel
theorem dX2_isDropDue_4 : decode cX2_isDropDue 4 = .ok (.ifCond .eq 14, 3) := by decide +kernel
theorem dX2_isDropDue_7 : decode cX2_isDropDue 7 = .ok (.aload_n 0, 1) := by decide +kernel
theorem dX2_isDropDue_8 : decode cX2_isDropDue 8 = .ok (.getfield 52, 3) := by decide +kernel
theorem dX2_isDropDue_11 : decode cX2_isDropDue 11 = .ok (.ifCond .ne 7, 3) := by decide +kernel
theorem dX2_isDropDue_14 : decode cX2_isDropDue 14 = .ok (.iconst 1, 1) := by decide +kernel
theorem dX2_isDropDue_15 : decode cX2_isDropDue 15 = .ok (.goto 4, 3) := by decide +kernel
theorem dX2_isDropDue_18 : decode cX2_isDropDue 18 = .ok (.iconst 0, 1) := by decide +kernel
theorem dX2_isDropDue_19 : decode cX2_isDropDue 19 = .ok (.ireturn, 1) := by decide +kernel
theorem dX2_deckAt_0 : decode cX2_deckAt 0 = .ok (.iload_n 1, 1) := by decide +kernel
theorem dX2_deckAt_1 : decode cX2_deckAt 1 = .ok (.ifCond .lt 18, 3) := by decide +kernel
theorem dX2_deckAt_4 : decode cX2_deckAt 4 = .ok (.iload_n 1, 1) := by decide +kernel
theorem dX2_deckAt_5 : decode cX2_deckAt 5 = .ok (.bipush 52, 2) := by decide +kernel
theorem dX2_deckAt_7 : decode cX2_deckAt 7 = .ok (.if_icmp .ge 12, 3) := by decide +kernel
theorem dX2_deckAt_10 : decode cX2_deckAt 10 = .ok (.aload_n 0, 1) := by decide +kernel
theorem dX2_deckAt_11 : decode cX2_deckAt 11 = .ok (.getfield 19, 3) := by decide +kernel
theorem dX2_deckAt_14 : decode cX2_deckAt 14 = .ok (.iload_n 1, 1) := by decide +kernel
theorem dX2_deckAt_15 : decode cX2_deckAt 15 = .ok (.iaload, 1) := by decide +kernel
theorem dX2_deckAt_16 : decode cX2_deckAt 16 = .ok (.goto 4, 3) := by decide +kernel
theorem dX2_deckAt_19 : decode cX2_deckAt 19 = .ok (.iconst (-1), 1) := by decide +kernel
theorem dX2_deckAt_20 : decode cX2_deckAt 20 = .ok (.ireturn, 1) := by decide +kernel
theorem dX2_stockCount_0 : decode cX2_stockCount 0 = .ok (.bipush 52, 2) := by decide +kernel
theorem dX2_stockCount_2 : decode cX2_stockCount 2 = .ok (.aload_n 0, 1) := by decide +kernel
theorem dX2_stockCount_3 : decode cX2_stockCount 3 = .ok (.getfield 61, 3) := by decide +kernel
theorem dX2_stockCount_6 : decode cX2_stockCount 6 = .ok (.isub, 1) := by decide +kernel
theorem dX2_stockCount_7 : decode cX2_stockCount 7 = .ok (.ireturn, 1) := by decide +kernel
theorem dX2_topOfPile_0 : decode cX2_topOfPile 0 = .ok (.aload_n 0, 1) := by decide +kernel
theorem dX2_topOfPile_1 : decode cX2_topOfPile 1 = .ok (.getfield 64, 3) := by decide +kernel
theorem dX2_topOfPile_4 : decode cX2_topOfPile 4 = .ok (.ifCond .le 26, 3) := by decide +kernel
theorem dX2_topOfPile_7 : decode cX2_topOfPile 7 = .ok (.aload_n 0, 1) := by decide +kernel
theorem dX2_topOfPile_8 : decode cX2_topOfPile 8 = .ok (.getfield 64, 3) := by decide +kernel
theorem dX2_topOfPile_11 : decode cX2_topOfPile 11 = .ok (.bipush 52, 2) := by decide +kernel
theorem dX2_topOfPile_13 : decode cX2_topOfPile 13 = .ok (.if_icmp .gt 17, 3) := by decide +kernel
theorem dX2_topOfPile_16 : decode cX2_topOfPile 16 = .ok (.aload_n 0, 1) := by decide +kernel
theorem dX2_topOfPile_17 : decode cX2_topOfPile 17 = .ok (.getfield 22, 3) := by decide +kernel
theorem dX2_topOfPile_20 : decode cX2_topOfPile 20 = .ok (.aload_n 0, 1) := by decide +kernel
theorem dX2_topOfPile_21 : decode cX2_topOfPile 21 = .ok (.getfield 64, 3) := by decide +kernel
theorem dX2_topOfPile_24 : decode cX2_topOfPile 24 = .ok (.iconst 1, 1) := by decide +kernel
theorem dX2_topOfPile_25 : decode cX2_topOfPile 25 = .ok (.isub, 1) := by decide +kernel
theorem dX2_topOfPile_26 : decode cX2_topOfPile 26 = .ok (.iaload, 1) := by decide +kernel
theorem dX2_topOfPile_27 : decode cX2_topOfPile 27 = .ok (.goto 4, 3) := by decide +kernel
theorem dX2_topOfPile_30 : decode cX2_topOfPile 30 = .ok (.iconst (-1), 1) := by decide +kernel
theorem dX2_topOfPile_31 : decode cX2_topOfPile 31 = .ok (.ireturn, 1) := by decide +kernel
theorem dX2_score_0 : decode cX2_score 0 = .ok (.aload_n 0, 1) := by decide +kernel
theorem dX2_score_1 : decode cX2_score 1 = .ok (.getfield 9, 3) := by decide +kernel
theorem dX2_score_4 : decode cX2_score 4 = .ok (.iload_n 1, 1) := by decide +kernel
theorem dX2_score_5 : decode cX2_score 5 = .ok (.iconst 1, 1) := by decide +kernel
theorem dX2_score_6 : decode cX2_score 6 = .ok (.iand, 1) := by decide +kernel
theorem dX2_score_7 : decode cX2_score 7 = .ok (.iaload, 1) := by decide +kernel
theorem dX2_score_8 : decode cX2_score 8 = .ok (.ireturn, 1) := by decide +kernel
theorem dX2_handOf_0 : decode cX2_handOf 0 = .ok (.aload_n 0, 1) := by decide +kernel
theorem dX2_handOf_1 : decode cX2_handOf 1 = .ok (.getfield 15, 3) := by decide +kernel
theorem dX2_handOf_4 : decode cX2_handOf 4 = .ok (.iload_n 1, 1) := by decide +kernel
theorem dX2_handOf_5 : decode cX2_handOf 5 = .ok (.iconst 1, 1) := by decide +kernel
theorem dX2_handOf_6 : decode cX2_handOf 6 = .ok (.iand, 1) := by decide +kernel
theorem dX2_handOf_7 : decode cX2_handOf 7 = .ok (.laload, 1) := by decide +kernel
theorem dX2_handOf_8 : decode cX2_handOf 8 = .ok (.lreturn, 1) := by decide +kernel
theorem dX2_otherHand_0 : decode cX2_otherHand 0 = .ok (.aload_n 0, 1) := by decide +kernel
theorem dX2_otherHand_1 : decode cX2_otherHand 1 = .ok (.iconst 1, 1) := by decide +kernel
theorem dX2_otherHand_2 : decode cX2_otherHand 2 = .ok (.aload_n 0, 1) := by decide +kernel
theorem dX2_otherHand_3 : decode cX2_otherHand 3 = .ok (.getfield 42, 3) := by decide +kernel
theorem dX2_otherHand_6 : decode cX2_otherHand 6 = .ok (.isub, 1) := by decide +kernel
theorem dX2_otherHand_7 : decode cX2_otherHand 7 = .ok (.invokevirtual 120, 3) := by decide +kernel
theorem dX2_otherHand_10 : decode cX2_otherHand 10 = .ok (.lreturn, 1) := by decide +kernel
theorem dX2_handWithout_0 : decode cX2_handWithout 0 = .ok (.aload_n 0, 1) := by decide +kernel
theorem dX2_handWithout_1 : decode cX2_handWithout 1 = .ok (.aload_n 0, 1) := by decide +kernel
theorem dX2_handWithout_2 : decode cX2_handWithout 2 = .ok (.getfield 42, 3) := by decide +kernel
theorem dX2_handWithout_5 : decode cX2_handWithout 5 = .ok (.invokevirtual 120, 3) := by decide +kernel
theorem dX2_handWithout_8 : decode cX2_handWithout 8 = .ok (.iload_n 1, 1) := by decide +kernel
theorem dX2_handWithout_9 : decode cX2_handWithout 9 = .ok (.invokestatic 85, 3) := by decide +kernel
theorem dX2_handWithout_12 : decode cX2_handWithout 12 = .ok (.ldc2_w 99, 3) := by decide +kernel
theorem dX2_handWithout_15 : decode cX2_handWithout 15 = .ok (.lxor, 1) := by decide +kernel
theorem dX2_handWithout_16 : decode cX2_handWithout 16 = .ok (.land, 1) := by decide +kernel
theorem dX2_handWithout_17 : decode cX2_handWithout 17 = .ok (.lreturn, 1) := by decide +kernel
theorem dX2_placeOf_0 : decode cX2_placeOf 0 = .ok (.iconst 0, 1) := by decide +kernel
theorem dX2_placeOf_1 : decode cX2_placeOf 1 = .ok (.istore_n 2, 1) := by decide +kernel
theorem dX2_placeOf_2 : decode cX2_placeOf 2 = .ok (.iload_n 2, 1) := by decide +kernel
theorem dX2_placeOf_3 : decode cX2_placeOf 3 = .ok (.iconst 2, 1) := by decide +kernel
theorem dX2_placeOf_4 : decode cX2_placeOf 4 = .ok (.if_icmp .ge 24, 3) := by decide +kernel
theorem dX2_placeOf_7 : decode cX2_placeOf 7 = .ok (.aload_n 0, 1) := by decide +kernel
theorem dX2_placeOf_8 : decode cX2_placeOf 8 = .ok (.getfield 15, 3) := by decide +kernel
theorem dX2_placeOf_11 : decode cX2_placeOf 11 = .ok (.iload_n 2, 1) := by decide +kernel
theorem dX2_placeOf_12 : decode cX2_placeOf 12 = .ok (.laload, 1) := by decide +kernel
theorem dX2_placeOf_13 : decode cX2_placeOf 13 = .ok (.iload_n 1, 1) := by decide +kernel
theorem dX2_placeOf_14 : decode cX2_placeOf 14 = .ok (.invokestatic 123, 3) := by decide +kernel
theorem dX2_placeOf_17 : decode cX2_placeOf 17 = .ok (.ifCond .eq 5, 3) := by decide +kernel
theorem dX2_placeOf_20 : decode cX2_placeOf 20 = .ok (.iload_n 2, 1) := by decide +kernel
theorem dX2_placeOf_21 : decode cX2_placeOf 21 = .ok (.ireturn, 1) := by decide +kernel
theorem dX2_placeOf_22 : decode cX2_placeOf 22 = .ok (.iinc 2 1, 3) := by decide +kernel
theorem dX2_placeOf_25 : decode cX2_placeOf 25 = .ok (.goto (-23), 3) := by decide +kernel
theorem dX2_placeOf_28 : decode cX2_placeOf 28 = .ok (.iconst 0, 1) := by decide +kernel
theorem dX2_placeOf_29 : decode cX2_placeOf 29 = .ok (.istore_n 2, 1) := by decide +kernel
theorem dX2_placeOf_30 : decode cX2_placeOf 30 = .ok (.iload_n 2, 1) := by decide +kernel
theorem dX2_placeOf_31 : decode cX2_placeOf 31 = .ok (.aload_n 0, 1) := by decide +kernel
theorem dX2_placeOf_32 : decode cX2_placeOf 32 = .ok (.getfield 64, 3) := by decide +kernel
theorem dX2_placeOf_35 : decode cX2_placeOf 35 = .ok (.if_icmp .ge 27, 3) := by decide +kernel
theorem dX2_placeOf_38 : decode cX2_placeOf 38 = .ok (.iload_n 2, 1) := by decide +kernel
theorem dX2_placeOf_39 : decode cX2_placeOf 39 = .ok (.bipush 52, 2) := by decide +kernel
theorem dX2_placeOf_41 : decode cX2_placeOf 41 = .ok (.if_icmp .ge 21, 3) := by decide +kernel
theorem dX2_placeOf_44 : decode cX2_placeOf 44 = .ok (.aload_n 0, 1) := by decide +kernel
theorem dX2_placeOf_45 : decode cX2_placeOf 45 = .ok (.getfield 22, 3) := by decide +kernel
theorem dX2_placeOf_48 : decode cX2_placeOf 48 = .ok (.iload_n 2, 1) := by decide +kernel
theorem dX2_placeOf_49 : decode cX2_placeOf 49 = .ok (.iaload, 1) := by decide +kernel
theorem dX2_placeOf_50 : decode cX2_placeOf 50 = .ok (.iload_n 1, 1) := by decide +kernel
theorem dX2_placeOf_51 : decode cX2_placeOf 51 = .ok (.if_icmp .ne 5, 3) := by decide +kernel
theorem dX2_placeOf_54 : decode cX2_placeOf 54 = .ok (.iconst 2, 1) := by decide +kernel
theorem dX2_placeOf_55 : decode cX2_placeOf 55 = .ok (.ireturn, 1) := by decide +kernel
theorem dX2_placeOf_56 : decode cX2_placeOf 56 = .ok (.iinc 2 1, 3) := by decide +kernel
theorem dX2_placeOf_59 : decode cX2_placeOf 59 = .ok (.goto (-29), 3) := by decide +kernel
theorem dX2_placeOf_62 : decode cX2_placeOf 62 = .ok (.iconst 3, 1) := by decide +kernel
theorem dX2_placeOf_63 : decode cX2_placeOf 63 = .ok (.ireturn, 1) := by decide +kernel
theorem dX3_init_0 : decode cX3_init 0 = .ok (.aload_n 0, 1) := by decide +kernel
theorem dX3_init_1 : decode cX3_init 1 = .ok (.invokespecial 3, 3) := by decide +kernel
theorem dX3_init_4 : decode cX3_init 4 = .ok (.aload_n 0, 1) := by decide +kernel
theorem dX3_init_5 : decode cX3_init 5 = .ok (.sipush 500, 3) := by decide +kernel
theorem dX3_init_8 : decode cX3_init 8 = .ok (.newarray .byte, 2) := by decide +kernel
theorem dX3_init_10 : decode cX3_init 10 = .ok (.putfield 9, 3) := by decide +kernel
theorem dX3_init_13 : decode cX3_init 13 = .ok (.aload_n 0, 1) := by decide +kernel
theorem dX3_init_14 : decode cX3_init 14 = .ok (.bipush 52, 2) := by decide +kernel
theorem dX3_init_16 : decode cX3_init 16 = .ok (.newarray .int, 2) := by decide +kernel
theorem dX3_init_18 : decode cX3_init 18 = .ok (.putfield 15, 3) := by decide +kernel
theorem dX3_init_21 : decode cX3_init 21 = .ok (.return_, 1) := by decide +kernel
theorem dX3_writeByte_0 : decode cX3_writeByte 0 = .ok (.aload_n 0, 1) := by decide +kernel
theorem dX3_writeByte_1 : decode cX3_writeByte 1 = .ok (.getfield 19, 3) := by decide +kernel
theorem dX3_writeByte_4 : decode cX3_writeByte 4 = .ok (.ifCond .lt 34, 3) := by decide +kernel
theorem dX3_writeByte_7 : decode cX3_writeByte 7 = .ok (.aload_n 0, 1) := by decide +kernel
theorem dX3_writeByte_8 : decode cX3_writeByte 8 = .ok (.getfield 19, 3) := by decide +kernel
theorem dX3_writeByte_11 : decode cX3_writeByte 11 = .ok (.sipush 500, 3) := by decide +kernel
theorem dX3_writeByte_14 : decode cX3_writeByte 14 = .ok (.if_icmp .ge 24, 3) := by decide +kernel
theorem dX3_writeByte_17 : decode cX3_writeByte 17 = .ok (.aload_n 0, 1) := by decide +kernel
theorem dX3_writeByte_18 : decode cX3_writeByte 18 = .ok (.getfield 9, 3) := by decide +kernel
theorem dX3_writeByte_21 : decode cX3_writeByte 21 = .ok (.aload_n 0, 1) := by decide +kernel
theorem dX3_writeByte_22 : decode cX3_writeByte 22 = .ok (.getfield 19, 3) := by decide +kernel
theorem dX3_writeByte_25 : decode cX3_writeByte 25 = .ok (.iload_n 1, 1) := by decide +kernel
theorem dX3_writeByte_26 : decode cX3_writeByte 26 = .ok (.i2b, 1) := by decide +kernel
theorem dX3_writeByte_27 : decode cX3_writeByte 27 = .ok (.bastore, 1) := by decide +kernel
theorem dX3_writeByte_28 : decode cX3_writeByte 28 = .ok (.aload_n 0, 1) := by decide +kernel
theorem dX3_writeByte_29 : decode cX3_writeByte 29 = .ok (.dup, 1) := by decide +kernel
theorem dX3_writeByte_30 : decode cX3_writeByte 30 = .ok (.getfield 19, 3) := by decide +kernel
theorem dX3_writeByte_33 : decode cX3_writeByte 33 = .ok (.iconst 1, 1) := by decide +kernel
theorem dX3_writeByte_34 : decode cX3_writeByte 34 = .ok (.iadd, 1) := by decide +kernel
theorem dX3_writeByte_35 : decode cX3_writeByte 35 = .ok (.putfield 19, 3) := by decide +kernel
theorem dX3_writeByte_38 : decode cX3_writeByte 38 = .ok (.return_, 1) := by decide +kernel
theorem dX3_writeFour_0 : decode cX3_writeFour 0 = .ok (.bipush 24, 2) := by decide +kernel
theorem dX3_writeFour_2 : decode cX3_writeFour 2 = .ok (.istore_n 2, 1) := by decide +kernel
theorem dX3_writeFour_3 : decode cX3_writeFour 3 = .ok (.iload_n 2, 1) := by decide +kernel
theorem dX3_writeFour_4 : decode cX3_writeFour 4 = .ok (.ifCond .lt 16, 3) := by decide +kernel
theorem dX3_writeFour_7 : decode cX3_writeFour 7 = .ok (.aload_n 0, 1) := by decide +kernel
theorem dX3_writeFour_8 : decode cX3_writeFour 8 = .ok (.iload_n 1, 1) := by decide +kernel
theorem dX3_writeFour_9 : decode cX3_writeFour 9 = .ok (.iload_n 2, 1) := by decide +kernel
theorem dX3_writeFour_10 : decode cX3_writeFour 10 = .ok (.iushr, 1) := by decide +kernel
theorem dX3_writeFour_11 : decode cX3_writeFour 11 = .ok (.invokevirtual 23, 3) := by decide +kernel
theorem dX3_writeFour_14 : decode cX3_writeFour 14 = .ok (.iinc 2 (-8), 3) := by decide +kernel
theorem dX3_writeFour_17 : decode cX3_writeFour 17 = .ok (.goto (-14), 3) := by decide +kernel
theorem dX3_writeFour_20 : decode cX3_writeFour 20 = .ok (.return_, 1) := by decide +kernel
theorem dX3_write_0 : decode cX3_write 0 = .ok (.iconst 0, 1) := by decide +kernel
theorem dX3_write_1 : decode cX3_write 1 = .ok (.istore_n 2, 1) := by decide +kernel
theorem dX3_write_2 : decode cX3_write 2 = .ok (.iload_n 2, 1) := by decide +kernel
theorem dX3_write_3 : decode cX3_write 3 = .ok (.aload_n 1, 1) := by decide +kernel
theorem dX3_write_4 : decode cX3_write 4 = .ok (.invokevirtual 27, 3) := by decide +kernel
theorem dX3_write_7 : decode cX3_write 7 = .ok (.if_icmp .ge 18, 3) := by decide +kernel
theorem dX3_write_10 : decode cX3_write 10 = .ok (.aload_n 0, 1) := by decide +kernel
theorem dX3_write_11 : decode cX3_write 11 = .ok (.aload_n 1, 1) := by decide +kernel
theorem dX3_write_12 : decode cX3_write 12 = .ok (.iload_n 2, 1) := by decide +kernel
theorem dX3_write_13 : decode cX3_write 13 = .ok (.invokevirtual 32, 3) := by decide +kernel
theorem dX3_write_16 : decode cX3_write 16 = .ok (.invokevirtual 23, 3) := by decide +kernel
theorem dX3_write_19 : decode cX3_write 19 = .ok (.iinc 2 1, 3) := by decide +kernel
theorem dX3_write_22 : decode cX3_write 22 = .ok (.goto (-20), 3) := by decide +kernel
theorem dX3_write_25 : decode cX3_write 25 = .ok (.return_, 1) := by decide +kernel
theorem dX3_shorten_0 : decode cX3_shorten 0 = .ok (.aload_n 0, 1) := by decide +kernel
theorem dX3_shorten_1 : decode cX3_shorten 1 = .ok (.iload_n 1, 1) := by decide +kernel
theorem dX3_shorten_2 : decode cX3_shorten 2 = .ok (.putfield 19, 3) := by decide +kernel
theorem dX3_shorten_5 : decode cX3_shorten 5 = .ok (.return_, 1) := by decide +kernel
theorem dX3_readDeal_0 : decode cX3_readDeal 0 = .ok (.aload_n 0, 1) := by decide +kernel
theorem dX3_readDeal_1 : decode cX3_readDeal 1 = .ok (.iconst 0, 1) := by decide +kernel
theorem dX3_readDeal_2 : decode cX3_readDeal 2 = .ok (.putfield 36, 3) := by decide +kernel
theorem dX3_readDeal_5 : decode cX3_readDeal 5 = .ok (.aload_n 0, 1) := by decide +kernel
theorem dX3_readDeal_6 : decode cX3_readDeal 6 = .ok (.aload_n 1, 1) := by decide +kernel
theorem dX3_readDeal_7 : decode cX3_readDeal 7 = .ok (.invokevirtual 39, 3) := by decide +kernel
theorem dX3_readDeal_10 : decode cX3_readDeal 10 = .ok (.istore_n 2, 1) := by decide +kernel
theorem dX3_readDeal_11 : decode cX3_readDeal 11 = .ok (.iload_n 2, 1) := by decide +kernel
theorem dX3_readDeal_12 : decode cX3_readDeal 12 = .ok (.ifCond .ne 8, 3) := by decide +kernel
theorem dX3_readDeal_15 : decode cX3_readDeal 15 = .ok (.aload_n 0, 1) := by decide +kernel
theorem dX3_readDeal_16 : decode cX3_readDeal 16 = .ok (.invokevirtual 43, 3) := by decide +kernel
theorem dX3_readDeal_19 : decode cX3_readDeal 19 = .ok (.istore_n 2, 1) := by decide +kernel
theorem dX3_readDeal_20 : decode cX3_readDeal 20 = .ok (.iload_n 2, 1) := by decide +kernel
theorem dX3_readDeal_21 : decode cX3_readDeal 21 = .ok (.ifCond .ne 20, 3) := by decide +kernel
theorem dX3_readDeal_24 : decode cX3_readDeal 24 = .ok (.aload_n 1, 1) := by decide +kernel
theorem dX3_readDeal_25 : decode cX3_readDeal 25 = .ok (.invokevirtual 46, 3) := by decide +kernel
theorem dX3_readDeal_28 : decode cX3_readDeal 28 = .ok (.aload_n 1, 1) := by decide +kernel
theorem dX3_readDeal_29 : decode cX3_readDeal 29 = .ok (.invokevirtual 51, 3) := by decide +kernel
theorem dX3_readDeal_32 : decode cX3_readDeal 32 = .ok (.aload_n 0, 1) := by decide +kernel
theorem dX3_readDeal_33 : decode cX3_readDeal 33 = .ok (.aload_n 1, 1) := by decide +kernel
theorem dX3_readDeal_34 : decode cX3_readDeal 34 = .ok (.invokevirtual 54, 3) := by decide +kernel
theorem dX3_readDeal_37 : decode cX3_readDeal 37 = .ok (.aload_n 1, 1) := by decide +kernel
theorem dX3_readDeal_38 : decode cX3_readDeal 38 = .ok (.invokevirtual 58, 3) := by decide +kernel
theorem dX3_readDeal_41 : decode cX3_readDeal 41 = .ok (.iload_n 2, 1) := by decide +kernel
theorem dX3_readDeal_42 : decode cX3_readDeal 42 = .ok (.ireturn, 1) := by decide +kernel
theorem dX3_isAtEnd_0 : decode cX3_isAtEnd 0 = .ok (.aload_n 0, 1) := by decide +kernel
theorem dX3_isAtEnd_1 : decode cX3_isAtEnd 1 = .ok (.getfield 61, 3) := by decide +kernel
theorem dX3_isAtEnd_4 : decode cX3_isAtEnd 4 = .ok (.ifCond .ne 7, 3) := by decide +kernel
theorem dX3_isAtEnd_7 : decode cX3_isAtEnd 7 = .ok (.iconst 1, 1) := by decide +kernel
theorem dX3_isAtEnd_8 : decode cX3_isAtEnd 8 = .ok (.goto 4, 3) := by decide +kernel
theorem dX3_isAtEnd_11 : decode cX3_isAtEnd 11 = .ok (.iconst 0, 1) := by decide +kernel
theorem dX3_isAtEnd_12 : decode cX3_isAtEnd 12 = .ok (.ireturn, 1) := by decide +kernel
theorem dX3_readHead_0 : decode cX3_readHead 0 = .ok (.aload_n 0, 1) := by decide +kernel
theorem dX3_readHead_1 : decode cX3_readHead 1 = .ok (.invokevirtual 64, 3) := by decide +kernel
theorem dX3_readHead_4 : decode cX3_readHead 4 = .ok (.aload_n 0, 1) := by decide +kernel
theorem dX3_readHead_5 : decode cX3_readHead 5 = .ok (.ldc 67, 2) := by decide +kernel
theorem dX3_readHead_7 : decode cX3_readHead 7 = .ok (.invokevirtual 69, 3) := by decide +kernel
theorem dX3_readHead_10 : decode cX3_readHead 10 = .ok (.ifCond .ne 9, 3) := by decide +kernel
theorem dX3_readHead_13 : decode cX3_readHead 13 = .ok (.aload_n 0, 1) := by decide +kernel
theorem dX3_readHead_14 : decode cX3_readHead 14 = .ok (.iconst 1, 1) := by decide +kernel
theorem dX3_readHead_15 : decode cX3_readHead 15 = .ok (.invokevirtual 73, 3) := by decide +kernel
theorem dX3_readHead_18 : decode cX3_readHead 18 = .ok (.ireturn, 1) := by decide +kernel
theorem dX3_readHead_19 : decode cX3_readHead 19 = .ok (.aload_n 0, 1) := by decide +kernel
theorem dX3_readHead_20 : decode cX3_readHead 20 = .ok (.iconst 0, 1) := by decide +kernel
theorem dX3_readHead_21 : decode cX3_readHead 21 = .ok (.ldc 77, 2) := by decide +kernel
theorem dX3_readHead_23 : decode cX3_readHead 23 = .ok (.invokevirtual 78, 3) := by decide +kernel
theorem dX3_readHead_26 : decode cX3_readHead 26 = .ok (.istore_n 2, 1) := by decide +kernel
theorem dX3_readHead_27 : decode cX3_readHead 27 = .ok (.aload_n 1, 1) := by decide +kernel
theorem dX3_readHead_28 : decode cX3_readHead 28 = .ok (.aload_n 0, 1) := by decide +kernel
theorem dX3_readHead_29 : decode cX3_readHead 29 = .ok (.getfield 82, 3) := by decide +kernel
theorem dX3_readHead_32 : decode cX3_readHead 32 = .ok (.i2l, 1) := by decide +kernel
theorem dX3_readHead_33 : decode cX3_readHead 33 = .ok (.putfield 85, 3) := by decide +kernel
theorem dX3_readHead_36 : decode cX3_readHead 36 = .ok (.iload_n 2, 1) := by decide +kernel
theorem dX3_readHead_37 : decode cX3_readHead 37 = .ok (.ifCond .ne 20, 3) := by decide +kernel
theorem dX3_readHead_40 : decode cX3_readHead 40 = .ok (.aload_n 0, 1) := by decide +kernel
theorem dX3_readHead_41 : decode cX3_readHead 41 = .ok (.bipush 7, 2) := by decide +kernel
theorem dX3_readHead_43 : decode cX3_readHead 43 = .ok (.bipush 10, 2) := by decide +kernel
theorem dX3_readHead_45 : decode cX3_readHead 45 = .ok (.invokevirtual 78, 3) := by decide +kernel
theorem dX3_readHead_48 : decode cX3_readHead 48 = .ok (.istore_n 2, 1) := by decide +kernel
theorem dX3_readHead_49 : decode cX3_readHead 49 = .ok (.aload_n 1, 1) := by decide +kernel
theorem dX3_readHead_50 : decode cX3_readHead 50 = .ok (.aload_n 0, 1) := by decide +kernel
theorem dX3_readHead_51 : decode cX3_readHead 51 = .ok (.getfield 82, 3) := by decide +kernel
theorem dX3_readHead_54 : decode cX3_readHead 54 = .ok (.putfield 89, 3) := by decide +kernel
theorem dX3_readHead_57 : decode cX3_readHead 57 = .ok (.iload_n 2, 1) := by decide +kernel
theorem dX3_readHead_58 : decode cX3_readHead 58 = .ok (.ifCond .ne 19, 3) := by decide +kernel
theorem dX3_readHead_61 : decode cX3_readHead 61 = .ok (.aload_n 0, 1) := by decide +kernel
theorem dX3_readHead_62 : decode cX3_readHead 62 = .ok (.iconst 0, 1) := by decide +kernel
theorem dX3_readHead_63 : decode cX3_readHead 63 = .ok (.bipush 20, 2) := by decide +kernel
theorem dX3_readHead_65 : decode cX3_readHead 65 = .ok (.invokevirtual 78, 3) := by decide +kernel
theorem dX3_readHead_68 : decode cX3_readHead 68 = .ok (.istore_n 2, 1) := by decide +kernel
theorem dX3_readHead_69 : decode cX3_readHead 69 = .ok (.aload_n 1, 1) := by decide +kernel
theorem dX3_readHead_70 : decode cX3_readHead 70 = .ok (.aload_n 0, 1) := by decide +kernel
theorem dX3_readHead_71 : decode cX3_readHead 71 = .ok (.getfield 82, 3) := by decide +kernel
theorem dX3_readHead_74 : decode cX3_readHead 74 = .ok (.putfield 92, 3) := by decide +kernel
theorem dX3_readHead_77 : decode cX3_readHead 77 = .ok (.iload_n 2, 1) := by decide +kernel
theorem dX3_readHead_78 : decode cX3_readHead 78 = .ok (.ifCond .ne 21, 3) := by decide +kernel
theorem dX3_readHead_81 : decode cX3_readHead 81 = .ok (.aload_n 0, 1) := by decide +kernel
theorem dX3_readHead_82 : decode cX3_readHead 82 = .ok (.bipush 20, 2) := by decide +kernel
theorem dX3_readHead_84 : decode cX3_readHead 84 = .ok (.sipush 500, 3) := by decide +kernel
theorem dX3_readHead_87 : decode cX3_readHead 87 = .ok (.invokevirtual 78, 3) := by decide +kernel
theorem dX3_readHead_90 : decode cX3_readHead 90 = .ok (.istore_n 2, 1) := by decide +kernel
theorem dX3_readHead_91 : decode cX3_readHead 91 = .ok (.aload_n 1, 1) := by decide +kernel
theorem dX3_readHead_92 : decode cX3_readHead 92 = .ok (.aload_n 0, 1) := by decide +kernel
theorem dX3_readHead_93 : decode cX3_readHead 93 = .ok (.getfield 82, 3) := by decide +kernel
theorem dX3_readHead_96 : decode cX3_readHead 96 = .ok (.putfield 95, 3) := by decide +kernel
theorem dX3_readHead_99 : decode cX3_readHead 99 = .ok (.iload_n 2, 1) := by decide +kernel
theorem dX3_readHead_100 : decode cX3_readHead 100 = .ok (.ifCond .ne 8, 3) := by decide +kernel
theorem dX3_readHead_103 : decode cX3_readHead 103 = .ok (.aload_n 0, 1) := by decide +kernel
theorem dX3_readHead_104 : decode cX3_readHead 104 = .ok (.invokevirtual 98, 3) := by decide +kernel
theorem dX3_readHead_107 : decode cX3_readHead 107 = .ok (.istore_n 2, 1) := by decide +kernel
theorem dX3_readHead_108 : decode cX3_readHead 108 = .ok (.iload_n 2, 1) := by decide +kernel
theorem dX3_readHead_109 : decode cX3_readHead 109 = .ok (.ireturn, 1) := by decide +kernel
theorem dX3_readDeck_0 : decode cX3_readDeck 0 = .ok (.aload_n 0, 1) := by decide +kernel
theorem dX3_readDeck_1 : decode cX3_readDeck 1 = .ok (.iconst 0, 1) := by decide +kernel
theorem dX3_readDeck_2 : decode cX3_readDeck 2 = .ok (.putfield 101, 3) := by decide +kernel
theorem dX3_readDeck_5 : decode cX3_readDeck 5 = .ok (.lconst 0, 1) := by decide +kernel
theorem dX3_readDeck_6 : decode cX3_readDeck 6 = .ok (.lstore_n 1, 1) := by decide +kernel
theorem dX3_readDeck_7 : decode cX3_readDeck 7 = .ok (.aload_n 0, 1) := by decide +kernel
theorem dX3_readDeck_8 : decode cX3_readDeck 8 = .ok (.invokevirtual 64, 3) := by decide +kernel
theorem dX3_readDeck_11 : decode cX3_readDeck 11 = .ok (.aload_n 0, 1) := by decide +kernel
theorem dX3_readDeck_12 : decode cX3_readDeck 12 = .ok (.ldc 104, 2) := by decide +kernel
theorem dX3_readDeck_14 : decode cX3_readDeck 14 = .ok (.invokevirtual 69, 3) := by decide +kernel
theorem dX3_readDeck_17 : decode cX3_readDeck 17 = .ok (.ifCond .ne 5, 3) := by decide +kernel
theorem dX3_readDeck_20 : decode cX3_readDeck 20 = .ok (.iconst 0, 1) := by decide +kernel
theorem dX3_readDeck_21 : decode cX3_readDeck 21 = .ok (.ireturn, 1) := by decide +kernel
theorem dX3_readDeck_22 : decode cX3_readDeck 22 = .ok (.aload_n 0, 1) := by decide +kernel
theorem dX3_readDeck_23 : decode cX3_readDeck 23 = .ok (.iconst 0, 1) := by decide +kernel
theorem dX3_readDeck_24 : decode cX3_readDeck 24 = .ok (.bipush 51, 2) := by decide +kernel
theorem dX3_readDeck_26 : decode cX3_readDeck 26 = .ok (.invokevirtual 78, 3) := by decide +kernel
theorem dX3_readDeck_29 : decode cX3_readDeck 29 = .ok (.istore_n 3, 1) := by decide +kernel
theorem dX3_readDeck_30 : decode cX3_readDeck 30 = .ok (.iconst 0, 1) := by decide +kernel
theorem dX3_readDeck_31 : decode cX3_readDeck 31 = .ok (.istore 4, 2) := by decide +kernel
theorem dX3_readDeck_33 : decode cX3_readDeck 33 = .ok (.iload 4, 2) := by decide +kernel
theorem dX3_readDeck_35 : decode cX3_readDeck 35 = .ok (.bipush 52, 2) := by decide +kernel
theorem dX3_readDeck_37 : decode cX3_readDeck 37 = .ok (.if_icmp .gt 100, 3) := by decide +kernel
theorem dX3_readDeck_40 : decode cX3_readDeck 40 = .ok (.iload_n 3, 1) := by decide +kernel
theorem dX3_readDeck_41 : decode cX3_readDeck 41 = .ok (.ifCond .ne 96, 3) := by decide +kernel
theorem dX3_readDeck_44 : decode cX3_readDeck 44 = .ok (.aload_n 0, 1) := by decide +kernel
theorem dX3_readDeck_45 : decode cX3_readDeck 45 = .ok (.getfield 61, 3) := by decide +kernel
theorem dX3_readDeck_48 : decode cX3_readDeck 48 = .ok (.iconst 2, 1) := by decide +kernel
theorem dX3_readDeck_49 : decode cX3_readDeck 49 = .ok (.if_icmp .ne 88, 3) := by decide +kernel
theorem dX3_readDeck_52 : decode cX3_readDeck 52 = .ok (.lload_n 1, 1) := by decide +kernel
theorem dX3_readDeck_53 : decode cX3_readDeck 53 = .ok (.aload_n 0, 1) := by decide +kernel
theorem dX3_readDeck_54 : decode cX3_readDeck 54 = .ok (.getfield 82, 3) := by decide +kernel
theorem dX3_readDeck_57 : decode cX3_readDeck 57 = .ok (.invokestatic 106, 3) := by decide +kernel
theorem dX3_readDeck_60 : decode cX3_readDeck 60 = .ok (.ifCond .ne 12, 3) := by decide +kernel
theorem dX3_readDeck_63 : decode cX3_readDeck 63 = .ok (.aload_n 0, 1) := by decide +kernel
theorem dX3_readDeck_64 : decode cX3_readDeck 64 = .ok (.getfield 101, 3) := by decide +kernel
theorem dX3_readDeck_67 : decode cX3_readDeck 67 = .ok (.bipush 52, 2) := by decide +kernel
theorem dX3_readDeck_69 : decode cX3_readDeck 69 = .ok (.if_icmp .lt 9, 3) := by decide +kernel
theorem dX3_readDeck_72 : decode cX3_readDeck 72 = .ok (.aload_n 0, 1) := by decide +kernel
theorem dX3_readDeck_73 : decode cX3_readDeck 73 = .ok (.iconst 3, 1) := by decide +kernel
theorem dX3_readDeck_74 : decode cX3_readDeck 74 = .ok (.invokevirtual 73, 3) := by decide +kernel
theorem dX3_readDeck_77 : decode cX3_readDeck 77 = .ok (.ireturn, 1) := by decide +kernel
theorem dX3_readDeck_78 : decode cX3_readDeck 78 = .ok (.lload_n 1, 1) := by decide +kernel
theorem dX3_readDeck_79 : decode cX3_readDeck 79 = .ok (.aload_n 0, 1) := by decide +kernel
theorem dX3_readDeck_80 : decode cX3_readDeck 80 = .ok (.getfield 82, 3) := by decide +kernel
theorem dX3_readDeck_83 : decode cX3_readDeck 83 = .ok (.invokestatic 110, 3) := by decide +kernel
theorem dX3_readDeck_86 : decode cX3_readDeck 86 = .ok (.lor, 1) := by decide +kernel
theorem dX3_readDeck_87 : decode cX3_readDeck 87 = .ok (.lstore_n 1, 1) := by decide +kernel
theorem dX3_readDeck_88 : decode cX3_readDeck 88 = .ok (.aload_n 0, 1) := by decide +kernel
theorem dX3_readDeck_89 : decode cX3_readDeck 89 = .ok (.getfield 15, 3) := by decide +kernel
theorem dX3_readDeck_92 : decode cX3_readDeck 92 = .ok (.aload_n 0, 1) := by decide +kernel
theorem dX3_readDeck_93 : decode cX3_readDeck 93 = .ok (.getfield 101, 3) := by decide +kernel
theorem dX3_readDeck_96 : decode cX3_readDeck 96 = .ok (.aload_n 0, 1) := by decide +kernel
theorem dX3_readDeck_97 : decode cX3_readDeck 97 = .ok (.getfield 82, 3) := by decide +kernel
theorem dX3_readDeck_100 : decode cX3_readDeck 100 = .ok (.iastore, 1) := by decide +kernel
theorem dX3_readDeck_101 : decode cX3_readDeck 101 = .ok (.aload_n 0, 1) := by decide +kernel
theorem dX3_readDeck_102 : decode cX3_readDeck 102 = .ok (.dup, 1) := by decide +kernel
theorem dX3_readDeck_103 : decode cX3_readDeck 103 = .ok (.getfield 101, 3) := by decide +kernel
theorem dX3_readDeck_106 : decode cX3_readDeck 106 = .ok (.iconst 1, 1) := by decide +kernel
theorem dX3_readDeck_107 : decode cX3_readDeck 107 = .ok (.iadd, 1) := by decide +kernel
theorem dX3_readDeck_108 : decode cX3_readDeck 108 = .ok (.putfield 101, 3) := by decide +kernel
theorem dX3_readDeck_111 : decode cX3_readDeck 111 = .ok (.aload_n 0, 1) := by decide +kernel
theorem dX3_readDeck_112 : decode cX3_readDeck 112 = .ok (.invokevirtual 64, 3) := by decide +kernel
theorem dX3_readDeck_115 : decode cX3_readDeck 115 = .ok (.aload_n 0, 1) := by decide +kernel
theorem dX3_readDeck_116 : decode cX3_readDeck 116 = .ok (.getfield 61, 3) := by decide +kernel
theorem dX3_readDeck_119 : decode cX3_readDeck 119 = .ok (.iconst 2, 1) := by decide +kernel
theorem dX3_readDeck_120 : decode cX3_readDeck 120 = .ok (.if_icmp .ne 11, 3) := by decide +kernel
theorem dX3_readDeck_123 : decode cX3_readDeck 123 = .ok (.aload_n 0, 1) := by decide +kernel
theorem dX3_readDeck_124 : decode cX3_readDeck 124 = .ok (.iconst 0, 1) := by decide +kernel
theorem dX3_readDeck_125 : decode cX3_readDeck 125 = .ok (.bipush 51, 2) := by decide +kernel
theorem dX3_readDeck_127 : decode cX3_readDeck 127 = .ok (.invokevirtual 114, 3) := by decide +kernel
theorem dX3_readDeck_130 : decode cX3_readDeck 130 = .ok (.istore_n 3, 1) := by decide +kernel
theorem dX3_readDeck_131 : decode cX3_readDeck 131 = .ok (.iinc 4 1, 3) := by decide +kernel
theorem dX3_readDeck_134 : decode cX3_readDeck 134 = .ok (.goto (-101), 3) := by decide +kernel
theorem dX3_readDeck_137 : decode cX3_readDeck 137 = .ok (.iload_n 3, 1) := by decide +kernel
theorem dX3_readDeck_138 : decode cX3_readDeck 138 = .ok (.ifCond .eq 5, 3) := by decide +kernel
theorem dX3_readDeck_141 : decode cX3_readDeck 141 = .ok (.iload_n 3, 1) := by decide +kernel
theorem dX3_readDeck_142 : decode cX3_readDeck 142 = .ok (.ireturn, 1) := by decide +kernel
theorem dX3_readDeck_143 : decode cX3_readDeck 143 = .ok (.aload_n 0, 1) := by decide +kernel
theorem dX3_readDeck_144 : decode cX3_readDeck 144 = .ok (.getfield 61, 3) := by decide +kernel
theorem dX3_readDeck_147 : decode cX3_readDeck 147 = .ok (.iconst 3, 1) := by decide +kernel
theorem dX3_readDeck_148 : decode cX3_readDeck 148 = .ok (.if_icmp .eq 9, 3) := by decide +kernel
theorem dX3_readDeck_151 : decode cX3_readDeck 151 = .ok (.aload_n 0, 1) := by decide +kernel
theorem dX3_readDeck_152 : decode cX3_readDeck 152 = .ok (.iconst 1, 1) := by decide +kernel
theorem dX3_readDeck_153 : decode cX3_readDeck 153 = .ok (.invokevirtual 73, 3) := by decide +kernel
theorem dX3_readDeck_156 : decode cX3_readDeck 156 = .ok (.ireturn, 1) := by decide +kernel
theorem dX3_readDeck_157 : decode cX3_readDeck 157 = .ok (.aload_n 0, 1) := by decide +kernel
theorem dX3_readDeck_158 : decode cX3_readDeck 158 = .ok (.invokevirtual 64, 3) := by decide +kernel
theorem dX3_readDeck_161 : decode cX3_readDeck 161 = .ok (.iconst 0, 1) := by decide +kernel
theorem dX3_readDeck_162 : decode cX3_readDeck 162 = .ok (.ireturn, 1) := by decide +kernel
theorem dX3_arrange_0 : decode cX3_arrange 0 = .ok (.lconst 0, 1) := by decide +kernel
theorem dX3_arrange_1 : decode cX3_arrange 1 = .ok (.lstore_n 2, 1) := by decide +kernel
theorem dX3_arrange_2 : decode cX3_arrange 2 = .ok (.iconst 0, 1) := by decide +kernel
theorem dX3_arrange_3 : decode cX3_arrange 3 = .ok (.istore 4, 2) := by decide +kernel
theorem dX3_arrange_5 : decode cX3_arrange 5 = .ok (.iload 4, 2) := by decide +kernel
theorem dX3_arrange_7 : decode cX3_arrange 7 = .ok (.aload_n 0, 1) := by decide +kernel
theorem dX3_arrange_8 : decode cX3_arrange 8 = .ok (.getfield 101, 3) := by decide +kernel
theorem dX3_arrange_11 : decode cX3_arrange 11 = .ok (.if_icmp .ge 29, 3) := by decide +kernel
theorem dX3_arrange_14 : decode cX3_arrange 14 = .ok (.iload 4, 2) := by decide +kernel
theorem dX3_arrange_16 : decode cX3_arrange 16 = .ok (.bipush 52, 2) := by decide +kernel
theorem dX3_arrange_18 : decode cX3_arrange 18 = .ok (.if_icmp .ge 22, 3) := by decide +kernel
theorem dX3_arrange_21 : decode cX3_arrange 21 = .ok (.lload_n 2, 1) := by decide +kernel
theorem dX3_arrange_22 : decode cX3_arrange 22 = .ok (.aload_n 0, 1) := by decide +kernel
theorem dX3_arrange_23 : decode cX3_arrange 23 = .ok (.getfield 15, 3) := by decide +kernel
theorem dX3_arrange_26 : decode cX3_arrange 26 = .ok (.iload 4, 2) := by decide +kernel
theorem dX3_arrange_28 : decode cX3_arrange 28 = .ok (.iaload, 1) := by decide +kernel
theorem dX3_arrange_29 : decode cX3_arrange 29 = .ok (.invokestatic 110, 3) := by decide +kernel
theorem dX3_arrange_32 : decode cX3_arrange 32 = .ok (.lor, 1) := by decide +kernel
theorem dX3_arrange_33 : decode cX3_arrange 33 = .ok (.lstore_n 2, 1) := by decide +kernel
theorem dX3_arrange_34 : decode cX3_arrange 34 = .ok (.iinc 4 1, 3) := by decide +kernel
theorem dX3_arrange_37 : decode cX3_arrange 37 = .ok (.goto (-32), 3) := by decide +kernel
theorem dX3_arrange_40 : decode cX3_arrange 40 = .ok (.aload_n 0, 1) := by decide +kernel
theorem dX3_arrange_41 : decode cX3_arrange 41 = .ok (.getfield 101, 3) := by decide +kernel
theorem dX3_arrange_44 : decode cX3_arrange 44 = .ok (.istore 4, 2) := by decide +kernel
theorem dX3_arrange_46 : decode cX3_arrange 46 = .ok (.iconst 0, 1) := by decide +kernel
theorem dX3_arrange_47 : decode cX3_arrange 47 = .ok (.istore 5, 2) := by decide +kernel
theorem dX3_arrange_49 : decode cX3_arrange 49 = .ok (.iload 5, 2) := by decide +kernel
theorem dX3_arrange_51 : decode cX3_arrange 51 = .ok (.bipush 52, 2) := by decide +kernel
theorem dX3_arrange_53 : decode cX3_arrange 53 = .ok (.if_icmp .ge 45, 3) := by decide +kernel
theorem dX3_arrange_56 : decode cX3_arrange 56 = .ok (.iload 4, 2) := by decide +kernel
theorem dX3_arrange_58 : decode cX3_arrange 58 = .ok (.bipush 52, 2) := by decide +kernel
theorem dX3_arrange_60 : decode cX3_arrange 60 = .ok (.if_icmp .ge 38, 3) := by decide +kernel
theorem dX3_arrange_63 : decode cX3_arrange 63 = .ok (.aload_n 1, 1) := by decide +kernel
theorem dX3_arrange_64 : decode cX3_arrange 64 = .ok (.iload 5, 2) := by decide +kernel
theorem dX3_arrange_66 : decode cX3_arrange 66 = .ok (.invokevirtual 117, 3) := by decide +kernel
theorem dX3_arrange_69 : decode cX3_arrange 69 = .ok (.istore 6, 2) := by decide +kernel
theorem dX3_arrange_71 : decode cX3_arrange 71 = .ok (.lload_n 2, 1) := by decide +kernel
theorem dX3_arrange_72 : decode cX3_arrange 72 = .ok (.iload 6, 2) := by decide +kernel
theorem dX3_arrange_74 : decode cX3_arrange 74 = .ok (.invokestatic 106, 3) := by decide +kernel
theorem dX3_arrange_77 : decode cX3_arrange 77 = .ok (.ifCond .ne 15, 3) := by decide +kernel
theorem dX3_arrange_80 : decode cX3_arrange 80 = .ok (.aload_n 0, 1) := by decide +kernel
theorem dX3_arrange_81 : decode cX3_arrange 81 = .ok (.getfield 15, 3) := by decide +kernel
theorem dX3_arrange_84 : decode cX3_arrange 84 = .ok (.iload 4, 2) := by decide +kernel
theorem dX3_arrange_86 : decode cX3_arrange 86 = .ok (.iload 6, 2) := by decide +kernel
theorem dX3_arrange_88 : decode cX3_arrange 88 = .ok (.iastore, 1) := by decide +kernel
theorem dX3_arrange_89 : decode cX3_arrange 89 = .ok (.iinc 4 1, 3) := by decide +kernel
theorem dX3_arrange_92 : decode cX3_arrange 92 = .ok (.iinc 5 1, 3) := by decide +kernel
theorem dX3_arrange_95 : decode cX3_arrange 95 = .ok (.goto (-46), 3) := by decide +kernel
theorem dX3_arrange_98 : decode cX3_arrange 98 = .ok (.aload_n 0, 1) := by decide +kernel
theorem dX3_arrange_99 : decode cX3_arrange 99 = .ok (.getfield 15, 3) := by decide +kernel
theorem dX3_arrange_102 : decode cX3_arrange 102 = .ok (.iconst 0, 1) := by decide +kernel
theorem dX3_arrange_103 : decode cX3_arrange 103 = .ok (.aload_n 1, 1) := by decide +kernel
theorem dX3_arrange_104 : decode cX3_arrange 104 = .ok (.getfield 120, 3) := by decide +kernel
theorem dX3_arrange_107 : decode cX3_arrange 107 = .ok (.iconst 0, 1) := by decide +kernel
theorem dX3_arrange_108 : decode cX3_arrange 108 = .ok (.bipush 52, 2) := by decide +kernel
theorem dX3_arrange_110 : decode cX3_arrange 110 = .ok (.invokestatic 122, 3) := by decide +kernel
theorem dX3_arrange_113 : decode cX3_arrange 113 = .ok (.return_, 1) := by decide +kernel
theorem dX3_readMove_0 : decode cX3_readMove 0 = .ok (.aload_n 0, 1) := by decide +kernel
theorem dX3_readMove_1 : decode cX3_readMove 1 = .ok (.invokevirtual 128, 3) := by decide +kernel
theorem dX3_readMove_4 : decode cX3_readMove 4 = .ok (.istore_n 3, 1) := by decide +kernel
theorem dX3_readMove_5 : decode cX3_readMove 5 = .ok (.iload_n 3, 1) := by decide +kernel
theorem dX3_readMove_6 : decode cX3_readMove 6 = .ok (.ifCond .ne 9, 3) := by decide +kernel
theorem dX3_readMove_9 : decode cX3_readMove 9 = .ok (.aload_n 0, 1) := by decide +kernel
theorem dX3_readMove_10 : decode cX3_readMove 10 = .ok (.iconst 1, 1) := by decide +kernel
theorem dX3_readMove_11 : decode cX3_readMove 11 = .ok (.invokevirtual 73, 3) := by decide +kernel
theorem dX3_readMove_14 : decode cX3_readMove 14 = .ok (.ireturn, 1) := by decide +kernel
theorem dX3_readMove_15 : decode cX3_readMove 15 = .ok (.iconst (-1), 1) := by decide +kernel
theorem dX3_readMove_16 : decode cX3_readMove 16 = .ok (.istore 4, 2) := by decide +kernel
theorem dX3_readMove_18 : decode cX3_readMove 18 = .ok (.iconst 0, 1) := by decide +kernel
theorem dX3_readMove_19 : decode cX3_readMove 19 = .ok (.istore 5, 2) := by decide +kernel
theorem dX3_readMove_21 : decode cX3_readMove 21 = .ok (.iload_n 3, 1) := by decide +kernel
theorem dX3_readMove_22 : decode cX3_readMove 22 = .ok (.iconst 3, 1) := by decide +kernel
theorem dX3_readMove_23 : decode cX3_readMove 23 = .ok (.if_icmp .eq 8, 3) := by decide +kernel
theorem dX3_readMove_26 : decode cX3_readMove 26 = .ok (.iload_n 3, 1) := by decide +kernel
theorem dX3_readMove_27 : decode cX3_readMove 27 = .ok (.iconst 4, 1) := by decide +kernel
theorem dX3_readMove_28 : decode cX3_readMove 28 = .ok (.if_icmp .ne 16, 3) := by decide +kernel
theorem dX3_readMove_31 : decode cX3_readMove 31 = .ok (.aload_n 0, 1) := by decide +kernel
theorem dX3_readMove_32 : decode cX3_readMove 32 = .ok (.aload_n 1, 1) := by decide +kernel
theorem dX3_readMove_33 : decode cX3_readMove 33 = .ok (.invokevirtual 131, 3) := by decide +kernel
theorem dX3_readMove_36 : decode cX3_readMove 36 = .ok (.istore 5, 2) := by decide +kernel
theorem dX3_readMove_38 : decode cX3_readMove 38 = .ok (.aload_n 0, 1) := by decide +kernel
theorem dX3_readMove_39 : decode cX3_readMove 39 = .ok (.getfield 82, 3) := by decide +kernel
theorem dX3_readMove_42 : decode cX3_readMove 42 = .ok (.istore 4, 2) := by decide +kernel
theorem dX3_readMove_44 : decode cX3_readMove 44 = .ok (.iload 5, 2) := by decide +kernel
theorem dX3_readMove_46 : decode cX3_readMove 46 = .ok (.ifCond .ne 9, 3) := by decide +kernel
theorem dX3_readMove_49 : decode cX3_readMove 49 = .ok (.aload_n 0, 1) := by decide +kernel
theorem dX3_readMove_50 : decode cX3_readMove 50 = .ok (.invokevirtual 98, 3) := by decide +kernel
theorem dX3_readMove_53 : decode cX3_readMove 53 = .ok (.istore 5, 2) := by decide +kernel
theorem dX3_readMove_55 : decode cX3_readMove 55 = .ok (.iload 5, 2) := by decide +kernel
theorem dX3_readMove_57 : decode cX3_readMove 57 = .ok (.ifCond .eq 6, 3) := by decide +kernel
theorem dX3_readMove_60 : decode cX3_readMove 60 = .ok (.iload 5, 2) := by decide +kernel
theorem dX3_readMove_62 : decode cX3_readMove 62 = .ok (.ireturn, 1) := by decide +kernel
theorem dX3_readMove_63 : decode cX3_readMove 63 = .ok (.aload_n 1, 1) := by decide +kernel
theorem dX3_readMove_64 : decode cX3_readMove 64 = .ok (.iload_n 3, 1) := by decide +kernel
theorem dX3_readMove_65 : decode cX3_readMove 65 = .ok (.iload 4, 2) := by decide +kernel
theorem dX3_readMove_67 : decode cX3_readMove 67 = .ok (.aload_n 2, 1) := by decide +kernel
theorem dX3_readMove_68 : decode cX3_readMove 68 = .ok (.invokestatic 134, 3) := by decide +kernel
theorem dX3_readMove_71 : decode cX3_readMove 71 = .ok (.ifCond .ne 9, 3) := by decide +kernel
theorem dX3_readMove_74 : decode cX3_readMove 74 = .ok (.aload_n 0, 1) := by decide +kernel
theorem dX3_readMove_75 : decode cX3_readMove 75 = .ok (.iconst 4, 1) := by decide +kernel
theorem dX3_readMove_76 : decode cX3_readMove 76 = .ok (.invokevirtual 73, 3) := by decide +kernel
theorem dX3_readMove_79 : decode cX3_readMove 79 = .ok (.ireturn, 1) := by decide +kernel
theorem dX3_readMove_80 : decode cX3_readMove 80 = .ok (.aload_n 0, 1) := by decide +kernel
theorem dX3_readMove_81 : decode cX3_readMove 81 = .ok (.invokevirtual 64, 3) := by decide +kernel
theorem dX3_readMove_84 : decode cX3_readMove 84 = .ok (.iconst 0, 1) := by decide +kernel
theorem dX3_readMove_85 : decode cX3_readMove 85 = .ok (.ireturn, 1) := by decide +kernel
theorem dX3_moveTold_0 : decode cX3_moveTold 0 = .ok (.aload_n 0, 1) := by decide +kernel
theorem dX3_moveTold_1 : decode cX3_moveTold 1 = .ok (.ldc 138, 2) := by decide +kernel
theorem dX3_moveTold_3 : decode cX3_moveTold 3 = .ok (.invokevirtual 69, 3) := by decide +kernel
theorem dX3_moveTold_6 : decode cX3_moveTold 6 = .ok (.ifCond .eq 5, 3) := by decide +kernel
theorem dX3_moveTold_9 : decode cX3_moveTold 9 = .ok (.iconst 1, 1) := by decide +kernel
theorem dX3_moveTold_10 : decode cX3_moveTold 10 = .ok (.ireturn, 1) := by decide +kernel
theorem dX3_moveTold_11 : decode cX3_moveTold 11 = .ok (.aload_n 0, 1) := by decide +kernel
theorem dX3_moveTold_12 : decode cX3_moveTold 12 = .ok (.ldc 140, 2) := by decide +kernel
theorem dX3_moveTold_14 : decode cX3_moveTold 14 = .ok (.invokevirtual 69, 3) := by decide +kernel
theorem dX3_moveTold_17 : decode cX3_moveTold 17 = .ok (.ifCond .eq 5, 3) := by decide +kernel
theorem dX3_moveTold_20 : decode cX3_moveTold 20 = .ok (.iconst 2, 1) := by decide +kernel
theorem dX3_moveTold_21 : decode cX3_moveTold 21 = .ok (.ireturn, 1) := by decide +kernel
theorem dX3_moveTold_22 : decode cX3_moveTold 22 = .ok (.aload_n 0, 1) := by decide +kernel
theorem dX3_moveTold_23 : decode cX3_moveTold 23 = .ok (.ldc 142, 2) := by decide +kernel
theorem dX3_moveTold_25 : decode cX3_moveTold 25 = .ok (.invokevirtual 69, 3) := by decide +kernel
theorem dX3_moveTold_28 : decode cX3_moveTold 28 = .ok (.ifCond .eq 5, 3) := by decide +kernel
theorem dX3_moveTold_31 : decode cX3_moveTold 31 = .ok (.iconst 3, 1) := by decide +kernel
theorem dX3_moveTold_32 : decode cX3_moveTold 32 = .ok (.ireturn, 1) := by decide +kernel
theorem dX3_moveTold_33 : decode cX3_moveTold 33 = .ok (.aload_n 0, 1) := by decide +kernel
theorem dX3_moveTold_34 : decode cX3_moveTold 34 = .ok (.ldc 144, 2) := by decide +kernel
theorem dX3_moveTold_36 : decode cX3_moveTold 36 = .ok (.invokevirtual 69, 3) := by decide +kernel
theorem dX3_moveTold_39 : decode cX3_moveTold 39 = .ok (.ifCond .eq 5, 3) := by decide +kernel
theorem dX3_moveTold_42 : decode cX3_moveTold 42 = .ok (.iconst 4, 1) := by decide +kernel
theorem dX3_moveTold_43 : decode cX3_moveTold 43 = .ok (.ireturn, 1) := by decide +kernel
theorem dX3_moveTold_44 : decode cX3_moveTold 44 = .ok (.aload_n 0, 1) := by decide +kernel
theorem dX3_moveTold_45 : decode cX3_moveTold 45 = .ok (.ldc 146, 2) := by decide +kernel
theorem dX3_moveTold_47 : decode cX3_moveTold 47 = .ok (.invokevirtual 69, 3) := by decide +kernel
theorem dX3_moveTold_50 : decode cX3_moveTold 50 = .ok (.ifCond .eq 7, 3) := by decide +kernel
theorem dX3_moveTold_53 : decode cX3_moveTold 53 = .ok (.iconst 5, 1) := by decide +kernel
theorem dX3_moveTold_54 : decode cX3_moveTold 54 = .ok (.goto 4, 3) := by decide +kernel
theorem dX3_moveTold_57 : decode cX3_moveTold 57 = .ok (.iconst 0, 1) := by decide +kernel
theorem dX3_moveTold_58 : decode cX3_moveTold 58 = .ok (.ireturn, 1) := by decide +kernel
theorem dX3_readHeldCard_0 : decode cX3_readHeldCard 0 = .ok (.aload_n 0, 1) := by decide +kernel
theorem dX3_readHeldCard_1 : decode cX3_readHeldCard 1 = .ok (.iconst 0, 1) := by decide +kernel
theorem dX3_readHeldCard_2 : decode cX3_readHeldCard 2 = .ok (.bipush 51, 2) := by decide +kernel
theorem dX3_readHeldCard_4 : decode cX3_readHeldCard 4 = .ok (.invokevirtual 78, 3) := by decide +kernel
theorem dX3_readHeldCard_7 : decode cX3_readHeldCard 7 = .ok (.istore_n 2, 1) := by decide +kernel
theorem dX3_readHeldCard_8 : decode cX3_readHeldCard 8 = .ok (.iload_n 2, 1) := by decide +kernel
theorem dX3_readHeldCard_9 : decode cX3_readHeldCard 9 = .ok (.ifCond .ne 27, 3) := by decide +kernel
theorem dX3_readHeldCard_12 : decode cX3_readHeldCard 12 = .ok (.aload_n 1, 1) := by decide +kernel
theorem dX3_readHeldCard_13 : decode cX3_readHeldCard 13 = .ok (.aload_n 1, 1) := by decide +kernel
theorem dX3_readHeldCard_14 : decode cX3_readHeldCard 14 = .ok (.getfield 148, 3) := by decide +kernel
theorem dX3_readHeldCard_17 : decode cX3_readHeldCard 17 = .ok (.invokevirtual 151, 3) := by decide +kernel
theorem dX3_readHeldCard_20 : decode cX3_readHeldCard 20 = .ok (.aload_n 0, 1) := by decide +kernel
theorem dX3_readHeldCard_21 : decode cX3_readHeldCard 21 = .ok (.getfield 82, 3) := by decide +kernel
theorem dX3_readHeldCard_24 : decode cX3_readHeldCard 24 = .ok (.invokestatic 106, 3) := by decide +kernel
theorem dX3_readHeldCard_27 : decode cX3_readHeldCard 27 = .ok (.ifCond .ne 9, 3) := by decide +kernel
theorem dX3_readHeldCard_30 : decode cX3_readHeldCard 30 = .ok (.aload_n 0, 1) := by decide +kernel
theorem dX3_readHeldCard_31 : decode cX3_readHeldCard 31 = .ok (.iconst 3, 1) := by decide +kernel
theorem dX3_readHeldCard_32 : decode cX3_readHeldCard 32 = .ok (.invokevirtual 73, 3) := by decide +kernel
theorem dX3_readHeldCard_35 : decode cX3_readHeldCard 35 = .ok (.istore_n 2, 1) := by decide +kernel
theorem dX3_readHeldCard_36 : decode cX3_readHeldCard 36 = .ok (.iload_n 2, 1) := by decide +kernel
theorem dX3_readHeldCard_37 : decode cX3_readHeldCard 37 = .ok (.ireturn, 1) := by decide +kernel
theorem dX3_play_0 : decode cX3_play 0 = .ok (.iload_n 1, 1) := by decide +kernel
theorem dX3_play_1 : decode cX3_play 1 = .ok (.tableswitch 106 3 5 #[27, 47, 88], 27) := by decide +kernel
theorem dX3_play_28 : decode cX3_play 28 = .ok (.aload_n 0, 1) := by decide +kernel
theorem dX3_play_29 : decode cX3_play 29 = .ok (.iload_n 2, 1) := by decide +kernel
theorem dX3_play_30 : decode cX3_play 30 = .ok (.invokevirtual 154, 3) := by decide +kernel
theorem dX3_play_33 : decode cX3_play 33 = .ok (.istore 4, 2) := by decide +kernel
theorem dX3_play_35 : decode cX3_play 35 = .ok (.iload 4, 2) := by decide +kernel
theorem dX3_play_37 : decode cX3_play 37 = .ok (.ifCond .ne 96, 3) := by decide +kernel
theorem dX3_play_40 : decode cX3_play 40 = .ok (.aload_n 0, 1) := by decide +kernel
theorem dX3_play_41 : decode cX3_play 41 = .ok (.iload_n 2, 1) := by decide +kernel
theorem dX3_play_42 : decode cX3_play 42 = .ok (.invokevirtual 157, 3) := by decide +kernel
theorem dX3_play_45 : decode cX3_play 45 = .ok (.goto 88, 3) := by decide +kernel
theorem dX3_play_48 : decode cX3_play 48 = .ok (.aload_n 3, 1) := by decide +kernel
theorem dX3_play_49 : decode cX3_play 49 = .ok (.aload_n 0, 1) := by decide +kernel
theorem dX3_play_50 : decode cX3_play 50 = .ok (.iload_n 2, 1) := by decide +kernel
theorem dX3_play_51 : decode cX3_play 51 = .ok (.invokevirtual 160, 3) := by decide +kernel
theorem dX3_play_54 : decode cX3_play 54 = .ok (.aload_n 0, 1) := by decide +kernel
theorem dX3_play_55 : decode cX3_play 55 = .ok (.invokevirtual 163, 3) := by decide +kernel
theorem dX3_play_58 : decode cX3_play 58 = .ok (.invokevirtual 167, 3) := by decide +kernel
theorem dX3_play_61 : decode cX3_play 61 = .ok (.aload_n 0, 1) := by decide +kernel
theorem dX3_play_62 : decode cX3_play 62 = .ok (.iload_n 2, 1) := by decide +kernel
theorem dX3_play_63 : decode cX3_play 63 = .ok (.aload_n 3, 1) := by decide +kernel
theorem dX3_play_64 : decode cX3_play 64 = .ok (.getfield 173, 3) := by decide +kernel
theorem dX3_play_67 : decode cX3_play 67 = .ok (.invokevirtual 176, 3) := by decide +kernel
theorem dX3_play_70 : decode cX3_play 70 = .ok (.istore 4, 2) := by decide +kernel
theorem dX3_play_72 : decode cX3_play 72 = .ok (.iload 4, 2) := by decide +kernel
theorem dX3_play_74 : decode cX3_play 74 = .ok (.ifCond .ne 59, 3) := by decide +kernel
theorem dX3_play_77 : decode cX3_play 77 = .ok (.aload_n 0, 1) := by decide +kernel
theorem dX3_play_78 : decode cX3_play 78 = .ok (.iload_n 2, 1) := by decide +kernel
theorem dX3_play_79 : decode cX3_play 79 = .ok (.aload_n 3, 1) := by decide +kernel
theorem dX3_play_80 : decode cX3_play 80 = .ok (.invokevirtual 179, 3) := by decide +kernel
theorem dX3_play_83 : decode cX3_play 83 = .ok (.invokevirtual 182, 3) := by decide +kernel
theorem dX3_play_86 : decode cX3_play 86 = .ok (.goto 47, 3) := by decide +kernel
theorem dX3_play_89 : decode cX3_play 89 = .ok (.aload_n 0, 1) := by decide +kernel
theorem dX3_play_90 : decode cX3_play 90 = .ok (.invokevirtual 186, 3) := by decide +kernel
theorem dX3_play_93 : decode cX3_play 93 = .ok (.istore 4, 2) := by decide +kernel
theorem dX3_play_95 : decode cX3_play 95 = .ok (.iload 4, 2) := by decide +kernel
theorem dX3_play_97 : decode cX3_play 97 = .ok (.ifCond .ne 36, 3) := by decide +kernel
theorem dX3_play_100 : decode cX3_play 100 = .ok (.aload_n 0, 1) := by decide +kernel
theorem dX3_play_101 : decode cX3_play 101 = .ok (.invokevirtual 189, 3) := by decide +kernel
theorem dX3_play_104 : decode cX3_play 104 = .ok (.goto 29, 3) := by decide +kernel
theorem dX3_play_107 : decode cX3_play 107 = .ok (.aload_n 0, 1) := by decide +kernel
theorem dX3_play_108 : decode cX3_play 108 = .ok (.invokevirtual 192, 3) := by decide +kernel
theorem dX3_play_111 : decode cX3_play 111 = .ok (.istore 4, 2) := by decide +kernel
theorem dX3_play_113 : decode cX3_play 113 = .ok (.iload 4, 2) := by decide +kernel
theorem dX3_play_115 : decode cX3_play 115 = .ok (.ifCond .ne 18, 3) := by decide +kernel
theorem dX3_play_118 : decode cX3_play 118 = .ok (.aload_n 0, 1) := by decide +kernel
theorem dX3_play_119 : decode cX3_play 119 = .ok (.iload_n 1, 1) := by decide +kernel
theorem dX3_play_120 : decode cX3_play 120 = .ok (.iconst 2, 1) := by decide +kernel
theorem dX3_play_121 : decode cX3_play 121 = .ok (.if_icmp .ne 7, 3) := by decide +kernel
theorem dX3_play_124 : decode cX3_play 124 = .ok (.iconst 1, 1) := by decide +kernel
theorem dX3_play_125 : decode cX3_play 125 = .ok (.goto 4, 3) := by decide +kernel
theorem dX3_play_128 : decode cX3_play 128 = .ok (.iconst 0, 1) := by decide +kernel
theorem dX3_play_129 : decode cX3_play 129 = .ok (.invokevirtual 195, 3) := by decide +kernel
theorem dX3_play_132 : decode cX3_play 132 = .ok (.pop, 1) := by decide +kernel
theorem dX3_play_133 : decode cX3_play 133 = .ok (.iload 4, 2) := by decide +kernel
theorem dX3_play_135 : decode cX3_play 135 = .ok (.ifCond .ne 7, 3) := by decide +kernel
theorem dX3_play_138 : decode cX3_play 138 = .ok (.iconst 1, 1) := by decide +kernel
theorem dX3_play_139 : decode cX3_play 139 = .ok (.goto 4, 3) := by decide +kernel
theorem dX3_play_142 : decode cX3_play 142 = .ok (.iconst 0, 1) := by decide +kernel
theorem dX3_play_143 : decode cX3_play 143 = .ok (.ireturn, 1) := by decide +kernel
theorem dX3_readNumber_0 : decode cX3_readNumber 0 = .ok (.aload_n 0, 1) := by decide +kernel
theorem dX3_readNumber_1 : decode cX3_readNumber 1 = .ok (.invokevirtual 64, 3) := by decide +kernel
theorem dX3_readNumber_4 : decode cX3_readNumber 4 = .ok (.aload_n 0, 1) := by decide +kernel
theorem dX3_readNumber_5 : decode cX3_readNumber 5 = .ok (.getfield 61, 3) := by decide +kernel
theorem dX3_readNumber_8 : decode cX3_readNumber 8 = .ok (.iconst 2, 1) := by decide +kernel
theorem dX3_readNumber_9 : decode cX3_readNumber 9 = .ok (.if_icmp .ne 12, 3) := by decide +kernel
theorem dX3_readNumber_12 : decode cX3_readNumber 12 = .ok (.aload_n 0, 1) := by decide +kernel
theorem dX3_readNumber_13 : decode cX3_readNumber 13 = .ok (.iload_n 1, 1) := by decide +kernel
theorem dX3_readNumber_14 : decode cX3_readNumber 14 = .ok (.iload_n 2, 1) := by decide +kernel
theorem dX3_readNumber_15 : decode cX3_readNumber 15 = .ok (.invokevirtual 114, 3) := by decide +kernel
theorem dX3_readNumber_18 : decode cX3_readNumber 18 = .ok (.goto 8, 3) := by decide +kernel
theorem dX3_readNumber_21 : decode cX3_readNumber 21 = .ok (.aload_n 0, 1) := by decide +kernel
theorem dX3_readNumber_22 : decode cX3_readNumber 22 = .ok (.iconst 1, 1) := by decide +kernel
theorem dX3_readNumber_23 : decode cX3_readNumber 23 = .ok (.invokevirtual 73, 3) := by decide +kernel
theorem dX3_readNumber_26 : decode cX3_readNumber 26 = .ok (.ireturn, 1) := by decide +kernel
theorem dX3_rangeError_0 : decode cX3_rangeError 0 = .ok (.aload_n 0, 1) := by decide +kernel
theorem dX3_rangeError_1 : decode cX3_rangeError 1 = .ok (.getfield 82, 3) := by decide +kernel
theorem dX3_rangeError_4 : decode cX3_rangeError 4 = .ok (.iload_n 1, 1) := by decide +kernel
theorem dX3_rangeError_5 : decode cX3_rangeError 5 = .ok (.if_icmp .lt 11, 3) := by decide +kernel
theorem dX3_rangeError_8 : decode cX3_rangeError 8 = .ok (.aload_n 0, 1) := by decide +kernel
theorem dX3_rangeError_9 : decode cX3_rangeError 9 = .ok (.getfield 82, 3) := by decide +kernel
theorem dX3_rangeError_12 : decode cX3_rangeError 12 = .ok (.iload_n 2, 1) := by decide +kernel
theorem dX3_rangeError_13 : decode cX3_rangeError 13 = .ok (.if_icmp .le 11, 3) := by decide +kernel
theorem dX3_rangeError_16 : decode cX3_rangeError 16 = .ok (.aload_n 0, 1) := by decide +kernel
theorem dX3_rangeError_17 : decode cX3_rangeError 17 = .ok (.iconst 2, 1) := by decide +kernel
theorem dX3_rangeError_18 : decode cX3_rangeError 18 = .ok (.invokevirtual 73, 3) := by decide +kernel
theorem dX3_rangeError_21 : decode cX3_rangeError 21 = .ok (.goto 4, 3) := by decide +kernel
theorem dX3_rangeError_24 : decode cX3_rangeError 24 = .ok (.iconst 0, 1) := by decide +kernel
theorem dX3_rangeError_25 : decode cX3_rangeError 25 = .ok (.ireturn, 1) := by decide +kernel
theorem dX3_readSemicolon_0 : decode cX3_readSemicolon 0 = .ok (.aload_n 0, 1) := by decide +kernel
theorem dX3_readSemicolon_1 : decode cX3_readSemicolon 1 = .ok (.invokevirtual 64, 3) := by decide +kernel
theorem dX3_readSemicolon_4 : decode cX3_readSemicolon 4 = .ok (.aload_n 0, 1) := by decide +kernel
theorem dX3_readSemicolon_5 : decode cX3_readSemicolon 5 = .ok (.getfield 61, 3) := by decide +kernel
theorem dX3_readSemicolon_8 : decode cX3_readSemicolon 8 = .ok (.iconst 3, 1) := by decide +kernel
theorem dX3_readSemicolon_9 : decode cX3_readSemicolon 9 = .ok (.if_icmp .ne 7, 3) := by decide +kernel
theorem dX3_readSemicolon_12 : decode cX3_readSemicolon 12 = .ok (.iconst 0, 1) := by decide +kernel
theorem dX3_readSemicolon_13 : decode cX3_readSemicolon 13 = .ok (.goto 8, 3) := by decide +kernel
theorem dX3_readSemicolon_16 : decode cX3_readSemicolon 16 = .ok (.aload_n 0, 1) := by decide +kernel
theorem dX3_readSemicolon_17 : decode cX3_readSemicolon 17 = .ok (.iconst 1, 1) := by decide +kernel
theorem dX3_readSemicolon_18 : decode cX3_readSemicolon 18 = .ok (.invokevirtual 73, 3) := by decide +kernel
theorem dX3_readSemicolon_21 : decode cX3_readSemicolon 21 = .ok (.ireturn, 1) := by decide +kernel
theorem dX3_errorAs_0 : decode cX3_errorAs 0 = .ok (.bipush 8, 2) := by decide +kernel
theorem dX3_errorAs_2 : decode cX3_errorAs 2 = .ok (.aload_n 0, 1) := by decide +kernel
theorem dX3_errorAs_3 : decode cX3_errorAs 3 = .ok (.getfield 199, 3) := by decide +kernel
theorem dX3_errorAs_6 : decode cX3_errorAs 6 = .ok (.imul, 1) := by decide +kernel
theorem dX3_errorAs_7 : decode cX3_errorAs 7 = .ok (.iload_n 1, 1) := by decide +kernel
theorem dX3_errorAs_8 : decode cX3_errorAs 8 = .ok (.iadd, 1) := by decide +kernel
theorem dX3_errorAs_9 : decode cX3_errorAs 9 = .ok (.ireturn, 1) := by decide +kernel
theorem dX3_advance_0 : decode cX3_advance 0 = .ok (.aload_n 0, 1) := by decide +kernel
theorem dX3_advance_1 : decode cX3_advance 1 = .ok (.getfield 36, 3) := by decide +kernel
theorem dX3_advance_4 : decode cX3_advance 4 = .ok (.aload_n 0, 1) := by decide +kernel
theorem dX3_advance_5 : decode cX3_advance 5 = .ok (.getfield 19, 3) := by decide +kernel
theorem dX3_advance_8 : decode cX3_advance 8 = .ok (.if_icmp .ge 30, 3) := by decide +kernel
theorem dX3_advance_11 : decode cX3_advance 11 = .ok (.aload_n 0, 1) := by decide +kernel
theorem dX3_advance_12 : decode cX3_advance 12 = .ok (.aload_n 0, 1) := by decide +kernel
theorem dX3_advance_13 : decode cX3_advance 13 = .ok (.getfield 36, 3) := by decide +kernel
theorem dX3_advance_16 : decode cX3_advance 16 = .ok (.invokevirtual 202, 3) := by decide +kernel
theorem dX3_advance_19 : decode cX3_advance 19 = .ok (.invokestatic 205, 3) := by decide +kernel
theorem dX3_advance_22 : decode cX3_advance 22 = .ok (.ifCond .eq 16, 3) := by decide +kernel
theorem dX3_advance_25 : decode cX3_advance 25 = .ok (.aload_n 0, 1) := by decide +kernel
theorem dX3_advance_26 : decode cX3_advance 26 = .ok (.dup, 1) := by decide +kernel
theorem dX3_advance_27 : decode cX3_advance 27 = .ok (.getfield 36, 3) := by decide +kernel
theorem dX3_advance_30 : decode cX3_advance 30 = .ok (.iconst 1, 1) := by decide +kernel
theorem dX3_advance_31 : decode cX3_advance 31 = .ok (.iadd, 1) := by decide +kernel
theorem dX3_advance_32 : decode cX3_advance 32 = .ok (.putfield 36, 3) := by decide +kernel
theorem dX3_advance_35 : decode cX3_advance 35 = .ok (.goto (-35), 3) := by decide +kernel
theorem dX3_advance_38 : decode cX3_advance 38 = .ok (.aload_n 0, 1) := by decide +kernel
theorem dX3_advance_39 : decode cX3_advance 39 = .ok (.aload_n 0, 1) := by decide +kernel
theorem dX3_advance_40 : decode cX3_advance 40 = .ok (.getfield 36, 3) := by decide +kernel
theorem dX3_advance_43 : decode cX3_advance 43 = .ok (.putfield 199, 3) := by decide +kernel
theorem dX3_advance_46 : decode cX3_advance 46 = .ok (.aload_n 0, 1) := by decide +kernel
theorem dX3_advance_47 : decode cX3_advance 47 = .ok (.iconst 0, 1) := by decide +kernel
theorem dX3_advance_48 : decode cX3_advance 48 = .ok (.putfield 82, 3) := by decide +kernel
theorem dX3_advance_51 : decode cX3_advance 51 = .ok (.aload_n 0, 1) := by decide +kernel
theorem dX3_advance_52 : decode cX3_advance 52 = .ok (.aload_n 0, 1) := by decide +kernel
theorem dX3_advance_53 : decode cX3_advance 53 = .ok (.getfield 36, 3) := by decide +kernel
theorem dX3_advance_56 : decode cX3_advance 56 = .ok (.invokevirtual 202, 3) := by decide +kernel
theorem dX3_advance_59 : decode cX3_advance 59 = .ok (.istore_n 1, 1) := by decide +kernel
theorem dX3_advance_60 : decode cX3_advance 60 = .ok (.iload_n 1, 1) := by decide +kernel
theorem dX3_advance_61 : decode cX3_advance 61 = .ok (.iconst (-1), 1) := by decide +kernel
theorem dX3_advance_62 : decode cX3_advance 62 = .ok (.if_icmp .ne 11, 3) := by decide +kernel
theorem dX3_advance_65 : decode cX3_advance 65 = .ok (.aload_n 0, 1) := by decide +kernel
theorem dX3_advance_66 : decode cX3_advance 66 = .ok (.iconst 0, 1) := by decide +kernel
theorem dX3_advance_67 : decode cX3_advance 67 = .ok (.putfield 61, 3) := by decide +kernel
theorem dX3_advance_70 : decode cX3_advance 70 = .ok (.goto 92, 3) := by decide +kernel
theorem dX3_advance_73 : decode cX3_advance 73 = .ok (.iload_n 1, 1) := by decide +kernel
theorem dX3_advance_74 : decode cX3_advance 74 = .ok (.invokestatic 209, 3) := by decide +kernel
theorem dX3_advance_77 : decode cX3_advance 77 = .ok (.ifCond .eq 46, 3) := by decide +kernel
theorem dX3_advance_80 : decode cX3_advance 80 = .ok (.aload_n 0, 1) := by decide +kernel
theorem dX3_advance_81 : decode cX3_advance 81 = .ok (.iconst 1, 1) := by decide +kernel
theorem dX3_advance_82 : decode cX3_advance 82 = .ok (.putfield 61, 3) := by decide +kernel
theorem dX3_advance_85 : decode cX3_advance 85 = .ok (.aload_n 0, 1) := by decide +kernel
theorem dX3_advance_86 : decode cX3_advance 86 = .ok (.getfield 36, 3) := by decide +kernel
theorem dX3_advance_89 : decode cX3_advance 89 = .ok (.aload_n 0, 1) := by decide +kernel
theorem dX3_advance_90 : decode cX3_advance 90 = .ok (.getfield 19, 3) := by decide +kernel
theorem dX3_advance_93 : decode cX3_advance 93 = .ok (.if_icmp .ge 69, 3) := by decide +kernel
theorem dX3_advance_96 : decode cX3_advance 96 = .ok (.aload_n 0, 1) := by decide +kernel
theorem dX3_advance_97 : decode cX3_advance 97 = .ok (.aload_n 0, 1) := by decide +kernel
theorem dX3_advance_98 : decode cX3_advance 98 = .ok (.getfield 36, 3) := by decide +kernel
theorem dX3_advance_101 : decode cX3_advance 101 = .ok (.invokevirtual 202, 3) := by decide +kernel
theorem dX3_advance_104 : decode cX3_advance 104 = .ok (.invokestatic 209, 3) := by decide +kernel
theorem dX3_advance_107 : decode cX3_advance 107 = .ok (.ifCond .eq 55, 3) := by decide +kernel
theorem dX3_advance_110 : decode cX3_advance 110 = .ok (.aload_n 0, 1) := by decide +kernel
theorem dX3_advance_111 : decode cX3_advance 111 = .ok (.dup, 1) := by decide +kernel
theorem dX3_advance_112 : decode cX3_advance 112 = .ok (.getfield 36, 3) := by decide +kernel
theorem dX3_advance_115 : decode cX3_advance 115 = .ok (.iconst 1, 1) := by decide +kernel
theorem dX3_advance_116 : decode cX3_advance 116 = .ok (.iadd, 1) := by decide +kernel
theorem dX3_advance_117 : decode cX3_advance 117 = .ok (.putfield 36, 3) := by decide +kernel
theorem dX3_advance_120 : decode cX3_advance 120 = .ok (.goto (-35), 3) := by decide +kernel
theorem dX3_advance_123 : decode cX3_advance 123 = .ok (.iload_n 1, 1) := by decide +kernel
theorem dX3_advance_124 : decode cX3_advance 124 = .ok (.invokestatic 212, 3) := by decide +kernel
theorem dX3_advance_127 : decode cX3_advance 127 = .ok (.ifCond .eq 10, 3) := by decide +kernel
theorem dX3_advance_130 : decode cX3_advance 130 = .ok (.aload_n 0, 1) := by decide +kernel
theorem dX3_advance_131 : decode cX3_advance 131 = .ok (.invokevirtual 215, 3) := by decide +kernel
theorem dX3_advance_134 : decode cX3_advance 134 = .ok (.goto 28, 3) := by decide +kernel
theorem dX3_advance_137 : decode cX3_advance 137 = .ok (.aload_n 0, 1) := by decide +kernel
theorem dX3_advance_138 : decode cX3_advance 138 = .ok (.iload_n 1, 1) := by decide +kernel
theorem dX3_advance_139 : decode cX3_advance 139 = .ok (.bipush 59, 2) := by decide +kernel
theorem dX3_advance_141 : decode cX3_advance 141 = .ok (.if_icmp .ne 7, 3) := by decide +kernel
theorem dX3_advance_144 : decode cX3_advance 144 = .ok (.iconst 3, 1) := by decide +kernel
theorem dX3_advance_145 : decode cX3_advance 145 = .ok (.goto 4, 3) := by decide +kernel
theorem dX3_advance_148 : decode cX3_advance 148 = .ok (.iconst 4, 1) := by decide +kernel
theorem dX3_advance_149 : decode cX3_advance 149 = .ok (.putfield 61, 3) := by decide +kernel
theorem dX3_advance_152 : decode cX3_advance 152 = .ok (.aload_n 0, 1) := by decide +kernel
theorem dX3_advance_153 : decode cX3_advance 153 = .ok (.dup, 1) := by decide +kernel
theorem dX3_advance_154 : decode cX3_advance 154 = .ok (.getfield 36, 3) := by decide +kernel
theorem dX3_advance_157 : decode cX3_advance 157 = .ok (.iconst 1, 1) := by decide +kernel
theorem dX3_advance_158 : decode cX3_advance 158 = .ok (.iadd, 1) := by decide +kernel
theorem dX3_advance_159 : decode cX3_advance 159 = .ok (.putfield 36, 3) := by decide +kernel
theorem dX3_advance_162 : decode cX3_advance 162 = .ok (.return_, 1) := by decide +kernel
theorem dX3_readFigures_0 : decode cX3_readFigures 0 = .ok (.aload_n 0, 1) := by decide +kernel
theorem dX3_readFigures_1 : decode cX3_readFigures 1 = .ok (.getfield 36, 3) := by decide +kernel
theorem dX3_readFigures_4 : decode cX3_readFigures 4 = .ok (.aload_n 0, 1) := by decide +kernel
theorem dX3_readFigures_5 : decode cX3_readFigures 5 = .ok (.getfield 19, 3) := by decide +kernel
theorem dX3_readFigures_8 : decode cX3_readFigures 8 = .ok (.if_icmp .ge 67, 3) := by decide +kernel
theorem dX3_readFigures_11 : decode cX3_readFigures 11 = .ok (.aload_n 0, 1) := by decide +kernel
theorem dX3_readFigures_12 : decode cX3_readFigures 12 = .ok (.aload_n 0, 1) := by decide +kernel
theorem dX3_readFigures_13 : decode cX3_readFigures 13 = .ok (.getfield 36, 3) := by decide +kernel
theorem dX3_readFigures_16 : decode cX3_readFigures 16 = .ok (.invokevirtual 202, 3) := by decide +kernel
theorem dX3_readFigures_19 : decode cX3_readFigures 19 = .ok (.invokestatic 212, 3) := by decide +kernel
theorem dX3_readFigures_22 : decode cX3_readFigures 22 = .ok (.ifCond .eq 53, 3) := by decide +kernel
theorem dX3_readFigures_25 : decode cX3_readFigures 25 = .ok (.aload_n 0, 1) := by decide +kernel
theorem dX3_readFigures_26 : decode cX3_readFigures 26 = .ok (.getfield 36, 3) := by decide +kernel
theorem dX3_readFigures_29 : decode cX3_readFigures 29 = .ok (.aload_n 0, 1) := by decide +kernel
theorem dX3_readFigures_30 : decode cX3_readFigures 30 = .ok (.getfield 199, 3) := by decide +kernel
theorem dX3_readFigures_33 : decode cX3_readFigures 33 = .ok (.isub, 1) := by decide +kernel
theorem dX3_readFigures_34 : decode cX3_readFigures 34 = .ok (.bipush 9, 2) := by decide +kernel
theorem dX3_readFigures_36 : decode cX3_readFigures 36 = .ok (.if_icmp .ge 26, 3) := by decide +kernel
theorem dX3_readFigures_39 : decode cX3_readFigures 39 = .ok (.aload_n 0, 1) := by decide +kernel
theorem dX3_readFigures_40 : decode cX3_readFigures 40 = .ok (.aload_n 0, 1) := by decide +kernel
theorem dX3_readFigures_41 : decode cX3_readFigures 41 = .ok (.getfield 82, 3) := by decide +kernel
theorem dX3_readFigures_44 : decode cX3_readFigures 44 = .ok (.bipush 10, 2) := by decide +kernel
theorem dX3_readFigures_46 : decode cX3_readFigures 46 = .ok (.imul, 1) := by decide +kernel
theorem dX3_readFigures_47 : decode cX3_readFigures 47 = .ok (.aload_n 0, 1) := by decide +kernel
theorem dX3_readFigures_48 : decode cX3_readFigures 48 = .ok (.aload_n 0, 1) := by decide +kernel
theorem dX3_readFigures_49 : decode cX3_readFigures 49 = .ok (.getfield 36, 3) := by decide +kernel
theorem dX3_readFigures_52 : decode cX3_readFigures 52 = .ok (.invokevirtual 202, 3) := by decide +kernel
theorem dX3_readFigures_55 : decode cX3_readFigures 55 = .ok (.iadd, 1) := by decide +kernel
theorem dX3_readFigures_56 : decode cX3_readFigures 56 = .ok (.bipush 48, 2) := by decide +kernel
theorem dX3_readFigures_58 : decode cX3_readFigures 58 = .ok (.isub, 1) := by decide +kernel
theorem dX3_readFigures_59 : decode cX3_readFigures 59 = .ok (.putfield 82, 3) := by decide +kernel
theorem dX3_readFigures_62 : decode cX3_readFigures 62 = .ok (.aload_n 0, 1) := by decide +kernel
theorem dX3_readFigures_63 : decode cX3_readFigures 63 = .ok (.dup, 1) := by decide +kernel
theorem dX3_readFigures_64 : decode cX3_readFigures 64 = .ok (.getfield 36, 3) := by decide +kernel
theorem dX3_readFigures_67 : decode cX3_readFigures 67 = .ok (.iconst 1, 1) := by decide +kernel
theorem dX3_readFigures_68 : decode cX3_readFigures 68 = .ok (.iadd, 1) := by decide +kernel
theorem dX3_readFigures_69 : decode cX3_readFigures 69 = .ok (.putfield 36, 3) := by decide +kernel
theorem dX3_readFigures_72 : decode cX3_readFigures 72 = .ok (.goto (-72), 3) := by decide +kernel
theorem dX3_readFigures_75 : decode cX3_readFigures 75 = .ok (.aload_n 0, 1) := by decide +kernel
theorem dX3_readFigures_76 : decode cX3_readFigures 76 = .ok (.aload_n 0, 1) := by decide +kernel
theorem dX3_readFigures_77 : decode cX3_readFigures 77 = .ok (.getfield 36, 3) := by decide +kernel
theorem dX3_readFigures_80 : decode cX3_readFigures 80 = .ok (.aload_n 0, 1) := by decide +kernel
theorem dX3_readFigures_81 : decode cX3_readFigures 81 = .ok (.getfield 199, 3) := by decide +kernel
theorem dX3_readFigures_84 : decode cX3_readFigures 84 = .ok (.isub, 1) := by decide +kernel
theorem dX3_readFigures_85 : decode cX3_readFigures 85 = .ok (.bipush 9, 2) := by decide +kernel
theorem dX3_readFigures_87 : decode cX3_readFigures 87 = .ok (.if_icmp .gt 7, 3) := by decide +kernel
theorem dX3_readFigures_90 : decode cX3_readFigures 90 = .ok (.iconst 2, 1) := by decide +kernel
theorem dX3_readFigures_91 : decode cX3_readFigures 91 = .ok (.goto 4, 3) := by decide +kernel
theorem dX3_readFigures_94 : decode cX3_readFigures 94 = .ok (.iconst 4, 1) := by decide +kernel
theorem dX3_readFigures_95 : decode cX3_readFigures 95 = .ok (.putfield 61, 3) := by decide +kernel
theorem dX3_readFigures_98 : decode cX3_readFigures 98 = .ok (.return_, 1) := by decide +kernel
theorem dX3_isWord_0 : decode cX3_isWord 0 = .ok (.aload_n 0, 1) := by decide +kernel
theorem dX3_isWord_1 : decode cX3_isWord 1 = .ok (.getfield 61, 3) := by decide +kernel
theorem dX3_isWord_4 : decode cX3_isWord 4 = .ok (.iconst 1, 1) := by decide +kernel
theorem dX3_isWord_5 : decode cX3_isWord 5 = .ok (.if_icmp .ne 19, 3) := by decide +kernel
theorem dX3_isWord_8 : decode cX3_isWord 8 = .ok (.aload_n 0, 1) := by decide +kernel
theorem dX3_isWord_9 : decode cX3_isWord 9 = .ok (.getfield 36, 3) := by decide +kernel
theorem dX3_isWord_12 : decode cX3_isWord 12 = .ok (.aload_n 0, 1) := by decide +kernel
theorem dX3_isWord_13 : decode cX3_isWord 13 = .ok (.getfield 199, 3) := by decide +kernel
theorem dX3_isWord_16 : decode cX3_isWord 16 = .ok (.isub, 1) := by decide +kernel
theorem dX3_isWord_17 : decode cX3_isWord 17 = .ok (.aload_n 1, 1) := by decide +kernel
theorem dX3_isWord_18 : decode cX3_isWord 18 = .ok (.invokevirtual 27, 3) := by decide +kernel
theorem dX3_isWord_21 : decode cX3_isWord 21 = .ok (.if_icmp .eq 5, 3) := by decide +kernel
theorem dX3_isWord_24 : decode cX3_isWord 24 = .ok (.iconst 0, 1) := by decide +kernel
theorem dX3_isWord_25 : decode cX3_isWord 25 = .ok (.ireturn, 1) := by decide +kernel
theorem dX3_isWord_26 : decode cX3_isWord 26 = .ok (.iconst 0, 1) := by decide +kernel
theorem dX3_isWord_27 : decode cX3_isWord 27 = .ok (.istore_n 2, 1) := by decide +kernel
theorem dX3_isWord_28 : decode cX3_isWord 28 = .ok (.iload_n 2, 1) := by decide +kernel
theorem dX3_isWord_29 : decode cX3_isWord 29 = .ok (.aload_n 1, 1) := by decide +kernel
theorem dX3_isWord_30 : decode cX3_isWord 30 = .ok (.invokevirtual 27, 3) := by decide +kernel
theorem dX3_isWord_33 : decode cX3_isWord 33 = .ok (.if_icmp .ge 29, 3) := by decide +kernel
theorem dX3_isWord_36 : decode cX3_isWord 36 = .ok (.aload_n 0, 1) := by decide +kernel
theorem dX3_isWord_37 : decode cX3_isWord 37 = .ok (.aload_n 0, 1) := by decide +kernel
theorem dX3_isWord_38 : decode cX3_isWord 38 = .ok (.getfield 199, 3) := by decide +kernel
theorem dX3_isWord_41 : decode cX3_isWord 41 = .ok (.iload_n 2, 1) := by decide +kernel
theorem dX3_isWord_42 : decode cX3_isWord 42 = .ok (.iadd, 1) := by decide +kernel
theorem dX3_isWord_43 : decode cX3_isWord 43 = .ok (.invokevirtual 202, 3) := by decide +kernel
theorem dX3_isWord_46 : decode cX3_isWord 46 = .ok (.aload_n 1, 1) := by decide +kernel
theorem dX3_isWord_47 : decode cX3_isWord 47 = .ok (.iload_n 2, 1) := by decide +kernel
theorem dX3_isWord_48 : decode cX3_isWord 48 = .ok (.invokevirtual 32, 3) := by decide +kernel
theorem dX3_isWord_51 : decode cX3_isWord 51 = .ok (.if_icmp .eq 5, 3) := by decide +kernel
theorem dX3_isWord_54 : decode cX3_isWord 54 = .ok (.iconst 0, 1) := by decide +kernel
theorem dX3_isWord_55 : decode cX3_isWord 55 = .ok (.ireturn, 1) := by decide +kernel
theorem dX3_isWord_56 : decode cX3_isWord 56 = .ok (.iinc 2 1, 3) := by decide +kernel
theorem dX3_isWord_59 : decode cX3_isWord 59 = .ok (.goto (-31), 3) := by decide +kernel
theorem dX3_isWord_62 : decode cX3_isWord 62 = .ok (.iconst 1, 1) := by decide +kernel
theorem dX3_isWord_63 : decode cX3_isWord 63 = .ok (.ireturn, 1) := by decide +kernel
theorem dX3_signAt_0 : decode cX3_signAt 0 = .ok (.iload_n 1, 1) := by decide +kernel
theorem dX3_signAt_1 : decode cX3_signAt 1 = .ok (.ifCond .lt 31, 3) := by decide +kernel
theorem dX3_signAt_4 : decode cX3_signAt 4 = .ok (.iload_n 1, 1) := by decide +kernel
theorem dX3_signAt_5 : decode cX3_signAt 5 = .ok (.aload_n 0, 1) := by decide +kernel
theorem dX3_signAt_6 : decode cX3_signAt 6 = .ok (.getfield 19, 3) := by decide +kernel
theorem dX3_signAt_9 : decode cX3_signAt 9 = .ok (.if_icmp .ge 23, 3) := by decide +kernel
theorem dX3_signAt_12 : decode cX3_signAt 12 = .ok (.iload_n 1, 1) := by decide +kernel
theorem dX3_signAt_13 : decode cX3_signAt 13 = .ok (.sipush 500, 3) := by decide +kernel
theorem dX3_signAt_16 : decode cX3_signAt 16 = .ok (.if_icmp .ge 16, 3) := by decide +kernel
theorem dX3_signAt_19 : decode cX3_signAt 19 = .ok (.aload_n 0, 1) := by decide +kernel
theorem dX3_signAt_20 : decode cX3_signAt 20 = .ok (.getfield 9, 3) := by decide +kernel
theorem dX3_signAt_23 : decode cX3_signAt 23 = .ok (.iload_n 1, 1) := by decide +kernel
theorem dX3_signAt_24 : decode cX3_signAt 24 = .ok (.baload, 1) := by decide +kernel
theorem dX3_signAt_25 : decode cX3_signAt 25 = .ok (.sipush 255, 3) := by decide +kernel
theorem dX3_signAt_28 : decode cX3_signAt 28 = .ok (.iand, 1) := by decide +kernel
theorem dX3_signAt_29 : decode cX3_signAt 29 = .ok (.goto 4, 3) := by decide +kernel
theorem dX3_signAt_32 : decode cX3_signAt 32 = .ok (.iconst (-1), 1) := by decide +kernel
theorem dX3_signAt_33 : decode cX3_signAt 33 = .ok (.ireturn, 1) := by decide +kernel
theorem dX3_isBlank_0 : decode cX3_isBlank 0 = .ok (.iload_n 0, 1) := by decide +kernel
theorem dX3_isBlank_1 : decode cX3_isBlank 1 = .ok (.bipush 32, 2) := by decide +kernel
theorem dX3_isBlank_3 : decode cX3_isBlank 3 = .ok (.if_icmp .eq 9, 3) := by decide +kernel
theorem dX3_isBlank_6 : decode cX3_isBlank 6 = .ok (.iload_n 0, 1) := by decide +kernel
theorem dX3_isBlank_7 : decode cX3_isBlank 7 = .ok (.bipush 10, 2) := by decide +kernel
theorem dX3_isBlank_9 : decode cX3_isBlank 9 = .ok (.if_icmp .ne 7, 3) := by decide +kernel
theorem dX3_isBlank_12 : decode cX3_isBlank 12 = .ok (.iconst 1, 1) := by decide +kernel
theorem dX3_isBlank_13 : decode cX3_isBlank 13 = .ok (.goto 4, 3) := by decide +kernel
theorem dX3_isBlank_16 : decode cX3_isBlank 16 = .ok (.iconst 0, 1) := by decide +kernel
theorem dX3_isBlank_17 : decode cX3_isBlank 17 = .ok (.ireturn, 1) := by decide +kernel
theorem dX3_isLetter_0 : decode cX3_isLetter 0 = .ok (.iload_n 0, 1) := by decide +kernel
theorem dX3_isLetter_1 : decode cX3_isLetter 1 = .ok (.bipush 97, 2) := by decide +kernel
theorem dX3_isLetter_3 : decode cX3_isLetter 3 = .ok (.if_icmp .lt 13, 3) := by decide +kernel
theorem dX3_isLetter_6 : decode cX3_isLetter 6 = .ok (.iload_n 0, 1) := by decide +kernel
theorem dX3_isLetter_7 : decode cX3_isLetter 7 = .ok (.bipush 122, 2) := by decide +kernel
theorem dX3_isLetter_9 : decode cX3_isLetter 9 = .ok (.if_icmp .gt 7, 3) := by decide +kernel
theorem dX3_isLetter_12 : decode cX3_isLetter 12 = .ok (.iconst 1, 1) := by decide +kernel
theorem dX3_isLetter_13 : decode cX3_isLetter 13 = .ok (.goto 4, 3) := by decide +kernel
theorem dX3_isLetter_16 : decode cX3_isLetter 16 = .ok (.iconst 0, 1) := by decide +kernel
theorem dX3_isLetter_17 : decode cX3_isLetter 17 = .ok (.ireturn, 1) := by decide +kernel
theorem dX3_isFigure_0 : decode cX3_isFigure 0 = .ok (.iload_n 0, 1) := by decide +kernel
theorem dX3_isFigure_1 : decode cX3_isFigure 1 = .ok (.bipush 48, 2) := by decide +kernel
theorem dX3_isFigure_3 : decode cX3_isFigure 3 = .ok (.if_icmp .lt 13, 3) := by decide +kernel
theorem dX3_isFigure_6 : decode cX3_isFigure 6 = .ok (.iload_n 0, 1) := by decide +kernel
theorem dX3_isFigure_7 : decode cX3_isFigure 7 = .ok (.bipush 57, 2) := by decide +kernel
theorem dX3_isFigure_9 : decode cX3_isFigure 9 = .ok (.if_icmp .gt 7, 3) := by decide +kernel
theorem dX3_isFigure_12 : decode cX3_isFigure 12 = .ok (.iconst 1, 1) := by decide +kernel
theorem dX3_isFigure_13 : decode cX3_isFigure 13 = .ok (.goto 4, 3) := by decide +kernel
theorem dX3_isFigure_16 : decode cX3_isFigure 16 = .ok (.iconst 0, 1) := by decide +kernel
theorem dX3_isFigure_17 : decode cX3_isFigure 17 = .ok (.ireturn, 1) := by decide +kernel
theorem dX4_init_0 : decode cX4_init 0 = .ok (.aload_n 0, 1) := by decide +kernel
theorem dX4_init_1 : decode cX4_init 1 = .ok (.invokespecial 3, 3) := by decide +kernel
theorem dX4_init_4 : decode cX4_init 4 = .ok (.aload_n 0, 1) := by decide +kernel
theorem dX4_init_5 : decode cX4_init 5 = .ok (.bipush 64, 2) := by decide +kernel
theorem dX4_init_7 : decode cX4_init 7 = .ok (.newarray .byte, 2) := by decide +kernel
theorem dX4_init_9 : decode cX4_init 9 = .ok (.putfield 11, 3) := by decide +kernel
theorem dX4_init_12 : decode cX4_init 12 = .ok (.return_, 1) := by decide +kernel
theorem dX5_init_0 : decode cX5_init 0 = .ok (.aload_n 0, 1) := by decide +kernel
theorem dX5_init_1 : decode cX5_init 1 = .ok (.invokespecial 3, 3) := by decide +kernel
theorem dX5_init_4 : decode cX5_init 4 = .ok (.aload_n 0, 1) := by decide +kernel
theorem dX5_init_5 : decode cX5_init 5 = .ok (.new 9, 3) := by decide +kernel
theorem dX5_init_8 : decode cX5_init 8 = .ok (.dup, 1) := by decide +kernel
theorem dX5_init_9 : decode cX5_init 9 = .ok (.invokespecial 11, 3) := by decide +kernel
theorem dX5_init_12 : decode cX5_init 12 = .ok (.putfield 12, 3) := by decide +kernel
theorem dX5_init_15 : decode cX5_init 15 = .ok (.aload_n 0, 1) := by decide +kernel
theorem dX5_init_16 : decode cX5_init 16 = .ok (.new 9, 3) := by decide +kernel
theorem dX5_init_19 : decode cX5_init 19 = .ok (.dup, 1) := by decide +kernel
theorem dX5_init_20 : decode cX5_init 20 = .ok (.invokespecial 11, 3) := by decide +kernel
theorem dX5_init_23 : decode cX5_init 23 = .ok (.putfield 18, 3) := by decide +kernel
theorem dX5_init_26 : decode cX5_init 26 = .ok (.return_, 1) := by decide +kernel
theorem dX5_settle_0 : decode cX5_settle 0 = .ok (.aload_n 0, 1) := by decide +kernel
theorem dX5_settle_1 : decode cX5_settle 1 = .ok (.getfield 12, 3) := by decide +kernel
theorem dX5_settle_4 : decode cX5_settle 4 = .ok (.lload_n 1, 1) := by decide +kernel
theorem dX5_settle_5 : decode cX5_settle 5 = .ok (.invokevirtual 21, 3) := by decide +kernel
theorem dX5_settle_8 : decode cX5_settle 8 = .ok (.aload_n 0, 1) := by decide +kernel
theorem dX5_settle_9 : decode cX5_settle 9 = .ok (.getfield 18, 3) := by decide +kernel
theorem dX5_settle_12 : decode cX5_settle 12 = .ok (.lload_n 3, 1) := by decide +kernel
theorem dX5_settle_13 : decode cX5_settle 13 = .ok (.invokevirtual 21, 3) := by decide +kernel
theorem dX5_settle_16 : decode cX5_settle 16 = .ok (.aload_n 0, 1) := by decide +kernel
theorem dX5_settle_17 : decode cX5_settle 17 = .ok (.aload_n 0, 1) := by decide +kernel
theorem dX5_settle_18 : decode cX5_settle 18 = .ok (.getfield 12, 3) := by decide +kernel
theorem dX5_settle_21 : decode cX5_settle 21 = .ok (.getfield 25, 3) := by decide +kernel
theorem dX5_settle_24 : decode cX5_settle 24 = .ok (.putfield 29, 3) := by decide +kernel
theorem dX5_settle_27 : decode cX5_settle 27 = .ok (.aload_n 0, 1) := by decide +kernel
theorem dX5_settle_28 : decode cX5_settle 28 = .ok (.iconst 0, 1) := by decide +kernel
theorem dX5_settle_29 : decode cX5_settle 29 = .ok (.putfield 32, 3) := by decide +kernel
theorem dX5_settle_32 : decode cX5_settle 32 = .ok (.aload_n 0, 1) := by decide +kernel
theorem dX5_settle_33 : decode cX5_settle 33 = .ok (.getfield 18, 3) := by decide +kernel
theorem dX5_settle_36 : decode cX5_settle 36 = .ok (.getfield 35, 3) := by decide +kernel
theorem dX5_settle_39 : decode cX5_settle 39 = .ok (.lstore 5, 2) := by decide +kernel
theorem dX5_settle_41 : decode cX5_settle 41 = .ok (.iconst 0, 1) := by decide +kernel
theorem dX5_settle_42 : decode cX5_settle 42 = .ok (.istore 7, 2) := by decide +kernel
theorem dX5_settle_44 : decode cX5_settle 44 = .ok (.iload 7, 2) := by decide +kernel
theorem dX5_settle_46 : decode cX5_settle 46 = .ok (.bipush 52, 2) := by decide +kernel
theorem dX5_settle_48 : decode cX5_settle 48 = .ok (.if_icmp .ge 57, 3) := by decide +kernel
theorem dX5_settle_51 : decode cX5_settle 51 = .ok (.aload_n 0, 1) := by decide +kernel
theorem dX5_settle_52 : decode cX5_settle 52 = .ok (.getfield 29, 3) := by decide +kernel
theorem dX5_settle_55 : decode cX5_settle 55 = .ok (.ifCond .le 50, 3) := by decide +kernel
theorem dX5_settle_58 : decode cX5_settle 58 = .ok (.aload_n 0, 1) := by decide +kernel
theorem dX5_settle_59 : decode cX5_settle 59 = .ok (.lload 5, 2) := by decide +kernel
theorem dX5_settle_61 : decode cX5_settle 61 = .ok (.invokevirtual 39, 3) := by decide +kernel
theorem dX5_settle_64 : decode cX5_settle 64 = .ok (.istore 8, 2) := by decide +kernel
theorem dX5_settle_66 : decode cX5_settle 66 = .ok (.iload 8, 2) := by decide +kernel
theorem dX5_settle_68 : decode cX5_settle 68 = .ok (.iconst (-1), 1) := by decide +kernel
theorem dX5_settle_69 : decode cX5_settle 69 = .ok (.if_icmp .ne 6, 3) := by decide +kernel
theorem dX5_settle_72 : decode cX5_settle 72 = .ok (.goto 33, 3) := by decide +kernel
theorem dX5_settle_75 : decode cX5_settle 75 = .ok (.lload 5, 2) := by decide +kernel
theorem dX5_settle_77 : decode cX5_settle 77 = .ok (.iload 8, 2) := by decide +kernel
theorem dX5_settle_79 : decode cX5_settle 79 = .ok (.invokestatic 43, 3) := by decide +kernel
theorem dX5_settle_82 : decode cX5_settle 82 = .ok (.ldc2_w 47, 3) := by decide +kernel
theorem dX5_settle_85 : decode cX5_settle 85 = .ok (.lxor, 1) := by decide +kernel
theorem dX5_settle_86 : decode cX5_settle 86 = .ok (.land, 1) := by decide +kernel
theorem dX5_settle_87 : decode cX5_settle 87 = .ok (.lstore 5, 2) := by decide +kernel
theorem dX5_settle_89 : decode cX5_settle 89 = .ok (.aload_n 0, 1) := by decide +kernel
theorem dX5_settle_90 : decode cX5_settle 90 = .ok (.dup, 1) := by decide +kernel
theorem dX5_settle_91 : decode cX5_settle 91 = .ok (.getfield 32, 3) := by decide +kernel
theorem dX5_settle_94 : decode cX5_settle 94 = .ok (.iconst 1, 1) := by decide +kernel
theorem dX5_settle_95 : decode cX5_settle 95 = .ok (.iadd, 1) := by decide +kernel
theorem dX5_settle_96 : decode cX5_settle 96 = .ok (.putfield 32, 3) := by decide +kernel
theorem dX5_settle_99 : decode cX5_settle 99 = .ok (.iinc 7 1, 3) := by decide +kernel
theorem dX5_settle_102 : decode cX5_settle 102 = .ok (.goto (-58), 3) := by decide +kernel
theorem dX5_settle_105 : decode cX5_settle 105 = .ok (.aload_n 0, 1) := by decide +kernel
theorem dX5_settle_106 : decode cX5_settle 106 = .ok (.lload 5, 2) := by decide +kernel
theorem dX5_settle_108 : decode cX5_settle 108 = .ok (.invokestatic 49, 3) := by decide +kernel
theorem dX5_settle_111 : decode cX5_settle 111 = .ok (.putfield 52, 3) := by decide +kernel
theorem dX5_settle_114 : decode cX5_settle 114 = .ok (.return_, 1) := by decide +kernel
theorem dX5_addOne_0 : decode cX5_addOne 0 = .ok (.iconst 0, 1) := by decide +kernel
theorem dX5_addOne_1 : decode cX5_addOne 1 = .ok (.istore_n 3, 1) := by decide +kernel
theorem dX5_addOne_2 : decode cX5_addOne 2 = .ok (.iload_n 3, 1) := by decide +kernel
theorem dX5_addOne_3 : decode cX5_addOne 3 = .ok (.bipush 52, 2) := by decide +kernel
theorem dX5_addOne_5 : decode cX5_addOne 5 = .ok (.if_icmp .ge 70, 3) := by decide +kernel
theorem dX5_addOne_8 : decode cX5_addOne 8 = .ok (.iconst 0, 1) := by decide +kernel
theorem dX5_addOne_9 : decode cX5_addOne 9 = .ok (.istore 4, 2) := by decide +kernel
theorem dX5_addOne_11 : decode cX5_addOne 11 = .ok (.iload 4, 2) := by decide +kernel
theorem dX5_addOne_13 : decode cX5_addOne 13 = .ok (.aload_n 0, 1) := by decide +kernel
theorem dX5_addOne_14 : decode cX5_addOne 14 = .ok (.getfield 12, 3) := by decide +kernel
theorem dX5_addOne_17 : decode cX5_addOne 17 = .ok (.getfield 55, 3) := by decide +kernel
theorem dX5_addOne_20 : decode cX5_addOne 20 = .ok (.if_icmp .ge 49, 3) := by decide +kernel
theorem dX5_addOne_23 : decode cX5_addOne 23 = .ok (.lload_n 1, 1) := by decide +kernel
theorem dX5_addOne_24 : decode cX5_addOne 24 = .ok (.iload_n 3, 1) := by decide +kernel
theorem dX5_addOne_25 : decode cX5_addOne 25 = .ok (.invokestatic 58, 3) := by decide +kernel
theorem dX5_addOne_28 : decode cX5_addOne 28 = .ok (.ifCond .eq 41, 3) := by decide +kernel
theorem dX5_addOne_31 : decode cX5_addOne 31 = .ok (.aload_n 0, 1) := by decide +kernel
theorem dX5_addOne_32 : decode cX5_addOne 32 = .ok (.getfield 12, 3) := by decide +kernel
theorem dX5_addOne_35 : decode cX5_addOne 35 = .ok (.iload 4, 2) := by decide +kernel
theorem dX5_addOne_37 : decode cX5_addOne 37 = .ok (.invokevirtual 62, 3) := by decide +kernel
theorem dX5_addOne_40 : decode cX5_addOne 40 = .ok (.iload_n 3, 1) := by decide +kernel
theorem dX5_addOne_41 : decode cX5_addOne 41 = .ok (.invokestatic 43, 3) := by decide +kernel
theorem dX5_addOne_44 : decode cX5_addOne 44 = .ok (.lor, 1) := by decide +kernel
theorem dX5_addOne_45 : decode cX5_addOne 45 = .ok (.invokestatic 65, 3) := by decide +kernel
theorem dX5_addOne_48 : decode cX5_addOne 48 = .ok (.ifCond .eq 15, 3) := by decide +kernel
theorem dX5_addOne_51 : decode cX5_addOne 51 = .ok (.aload_n 0, 1) := by decide +kernel
theorem dX5_addOne_52 : decode cX5_addOne 52 = .ok (.getfield 12, 3) := by decide +kernel
theorem dX5_addOne_55 : decode cX5_addOne 55 = .ok (.iload 4, 2) := by decide +kernel
theorem dX5_addOne_57 : decode cX5_addOne 57 = .ok (.iload_n 3, 1) := by decide +kernel
theorem dX5_addOne_58 : decode cX5_addOne 58 = .ok (.invokevirtual 68, 3) := by decide +kernel
theorem dX5_addOne_61 : decode cX5_addOne 61 = .ok (.iload_n 3, 1) := by decide +kernel
theorem dX5_addOne_62 : decode cX5_addOne 62 = .ok (.ireturn, 1) := by decide +kernel
theorem dX5_addOne_63 : decode cX5_addOne 63 = .ok (.iinc 4 1, 3) := by decide +kernel
theorem dX5_addOne_66 : decode cX5_addOne 66 = .ok (.goto (-55), 3) := by decide +kernel
theorem dX5_addOne_69 : decode cX5_addOne 69 = .ok (.iinc 3 1, 3) := by decide +kernel
theorem dX5_addOne_72 : decode cX5_addOne 72 = .ok (.goto (-70), 3) := by decide +kernel
theorem dX5_addOne_75 : decode cX5_addOne 75 = .ok (.iconst (-1), 1) := by decide +kernel
theorem dX5_addOne_76 : decode cX5_addOne 76 = .ok (.ireturn, 1) := by decide +kernel
theorem dX5_gain_0 : decode cX5_gain 0 = .ok (.aload_n 0, 1) := by decide +kernel
theorem dX5_gain_1 : decode cX5_gain 1 = .ok (.getfield 29, 3) := by decide +kernel
theorem dX5_gain_4 : decode cX5_gain 4 = .ok (.ifCond .ne 11, 3) := by decide +kernel
theorem dX5_gain_7 : decode cX5_gain 7 = .ok (.aload_n 0, 1) := by decide +kernel
theorem dX5_gain_8 : decode cX5_gain 8 = .ok (.getfield 52, 3) := by decide +kernel
theorem dX5_gain_11 : decode cX5_gain 11 = .ok (.bipush 20, 2) := by decide +kernel
theorem dX5_gain_13 : decode cX5_gain 13 = .ok (.iadd, 1) := by decide +kernel
theorem dX5_gain_14 : decode cX5_gain 14 = .ok (.ireturn, 1) := by decide +kernel
theorem dX5_gain_15 : decode cX5_gain 15 = .ok (.aload_n 0, 1) := by decide +kernel
theorem dX5_gain_16 : decode cX5_gain 16 = .ok (.getfield 29, 3) := by decide +kernel
theorem dX5_gain_19 : decode cX5_gain 19 = .ok (.aload_n 0, 1) := by decide +kernel
theorem dX5_gain_20 : decode cX5_gain 20 = .ok (.getfield 52, 3) := by decide +kernel
theorem dX5_gain_23 : decode cX5_gain 23 = .ok (.if_icmp .ge 15, 3) := by decide +kernel
theorem dX5_gain_26 : decode cX5_gain 26 = .ok (.aload_n 0, 1) := by decide +kernel
theorem dX5_gain_27 : decode cX5_gain 27 = .ok (.getfield 52, 3) := by decide +kernel
theorem dX5_gain_30 : decode cX5_gain 30 = .ok (.aload_n 0, 1) := by decide +kernel
theorem dX5_gain_31 : decode cX5_gain 31 = .ok (.getfield 29, 3) := by decide +kernel
theorem dX5_gain_34 : decode cX5_gain 34 = .ok (.isub, 1) := by decide +kernel
theorem dX5_gain_35 : decode cX5_gain 35 = .ok (.goto 15, 3) := by decide +kernel
theorem dX5_gain_38 : decode cX5_gain 38 = .ok (.aload_n 0, 1) := by decide +kernel
theorem dX5_gain_39 : decode cX5_gain 39 = .ok (.getfield 52, 3) := by decide +kernel
theorem dX5_gain_42 : decode cX5_gain 42 = .ok (.aload_n 0, 1) := by decide +kernel
theorem dX5_gain_43 : decode cX5_gain 43 = .ok (.getfield 29, 3) := by decide +kernel
theorem dX5_gain_46 : decode cX5_gain 46 = .ok (.isub, 1) := by decide +kernel
theorem dX5_gain_47 : decode cX5_gain 47 = .ok (.bipush 10, 2) := by decide +kernel
theorem dX5_gain_49 : decode cX5_gain 49 = .ok (.isub, 1) := by decide +kernel
theorem dX5_gain_50 : decode cX5_gain 50 = .ok (.ireturn, 1) := by decide +kernel
theorem dX6_init_0 : decode cX6_init 0 = .ok (.aload_n 0, 1) := by decide +kernel
theorem dX6_init_1 : decode cX6_init 1 = .ok (.invokespecial 3, 3) := by decide +kernel
theorem dX6_init_4 : decode cX6_init 4 = .ok (.aload_n 0, 1) := by decide +kernel
theorem dX6_init_5 : decode cX6_init 5 = .ok (.new 9, 3) := by decide +kernel
theorem dX6_init_8 : decode cX6_init 8 = .ok (.dup, 1) := by decide +kernel
theorem dX6_init_9 : decode cX6_init 9 = .ok (.invokespecial 11, 3) := by decide +kernel
theorem dX6_init_12 : decode cX6_init 12 = .ok (.putfield 12, 3) := by decide +kernel
theorem dX6_init_15 : decode cX6_init 15 = .ok (.aload_n 0, 1) := by decide +kernel
theorem dX6_init_16 : decode cX6_init 16 = .ok (.new 9, 3) := by decide +kernel
theorem dX6_init_19 : decode cX6_init 19 = .ok (.dup, 1) := by decide +kernel
theorem dX6_init_20 : decode cX6_init 20 = .ok (.invokespecial 11, 3) := by decide +kernel
theorem dX6_init_23 : decode cX6_init 23 = .ok (.putfield 16, 3) := by decide +kernel
theorem dX6_init_26 : decode cX6_init 26 = .ok (.aload_n 0, 1) := by decide +kernel
theorem dX6_init_27 : decode cX6_init 27 = .ok (.new 19, 3) := by decide +kernel
theorem dX6_init_30 : decode cX6_init 30 = .ok (.dup, 1) := by decide +kernel
theorem dX6_init_31 : decode cX6_init 31 = .ok (.invokespecial 21, 3) := by decide +kernel
theorem dX6_init_34 : decode cX6_init 34 = .ok (.putfield 22, 3) := by decide +kernel
theorem dX6_init_37 : decode cX6_init 37 = .ok (.aload_n 0, 1) := by decide +kernel
theorem dX6_init_38 : decode cX6_init 38 = .ok (.iconst 2, 1) := by decide +kernel
theorem dX6_init_39 : decode cX6_init 39 = .ok (.anewarray 9, 3) := by decide +kernel
theorem dX6_init_42 : decode cX6_init 42 = .ok (.putfield 26, 3) := by decide +kernel
theorem dX6_init_45 : decode cX6_init 45 = .ok (.aload_n 0, 1) := by decide +kernel
theorem dX6_init_46 : decode cX6_init 46 = .ok (.new 30, 3) := by decide +kernel
theorem dX6_init_49 : decode cX6_init 49 = .ok (.dup, 1) := by decide +kernel
theorem dX6_init_50 : decode cX6_init 50 = .ok (.invokespecial 32, 3) := by decide +kernel
theorem dX6_init_53 : decode cX6_init 53 = .ok (.putfield 33, 3) := by decide +kernel
theorem dX6_init_56 : decode cX6_init 56 = .ok (.aload_n 0, 1) := by decide +kernel
theorem dX6_init_57 : decode cX6_init 57 = .ok (.new 37, 3) := by decide +kernel
theorem dX6_init_60 : decode cX6_init 60 = .ok (.dup, 1) := by decide +kernel
theorem dX6_init_61 : decode cX6_init 61 = .ok (.invokespecial 39, 3) := by decide +kernel
theorem dX6_init_64 : decode cX6_init 64 = .ok (.putfield 40, 3) := by decide +kernel
theorem dX6_init_67 : decode cX6_init 67 = .ok (.aload_n 0, 1) := by decide +kernel
theorem dX6_init_68 : decode cX6_init 68 = .ok (.new 44, 3) := by decide +kernel
theorem dX6_init_71 : decode cX6_init 71 = .ok (.dup, 1) := by decide +kernel
theorem dX6_init_72 : decode cX6_init 72 = .ok (.invokespecial 46, 3) := by decide +kernel
theorem dX6_init_75 : decode cX6_init 75 = .ok (.putfield 47, 3) := by decide +kernel
theorem dX6_init_78 : decode cX6_init 78 = .ok (.aload_n 0, 1) := by decide +kernel
theorem dX6_init_79 : decode cX6_init 79 = .ok (.new 51, 3) := by decide +kernel
theorem dX6_init_82 : decode cX6_init 82 = .ok (.dup, 1) := by decide +kernel
theorem dX6_init_83 : decode cX6_init 83 = .ok (.invokespecial 53, 3) := by decide +kernel
theorem dX6_init_86 : decode cX6_init 86 = .ok (.putfield 54, 3) := by decide +kernel
theorem dX6_init_89 : decode cX6_init 89 = .ok (.aload_n 0, 1) := by decide +kernel
theorem dX6_init_90 : decode cX6_init 90 = .ok (.getfield 33, 3) := by decide +kernel
theorem dX6_init_93 : decode cX6_init 93 = .ok (.ldc 58, 2) := by decide +kernel
theorem dX6_init_95 : decode cX6_init 95 = .ok (.invokevirtual 60, 3) := by decide +kernel
theorem dX6_init_98 : decode cX6_init 98 = .ok (.aload_n 0, 1) := by decide +kernel
theorem dX6_init_99 : decode cX6_init 99 = .ok (.getfield 33, 3) := by decide +kernel
theorem dX6_init_102 : decode cX6_init 102 = .ok (.aload_n 0, 1) := by decide +kernel
theorem dX6_init_103 : decode cX6_init 103 = .ok (.getfield 12, 3) := by decide +kernel
theorem dX6_init_106 : decode cX6_init 106 = .ok (.invokevirtual 64, 3) := by decide +kernel
theorem dX6_init_109 : decode cX6_init 109 = .ok (.pop, 1) := by decide +kernel
theorem dX6_init_110 : decode cX6_init 110 = .ok (.aload_n 0, 1) := by decide +kernel
theorem dX6_init_111 : decode cX6_init 111 = .ok (.getfield 33, 3) := by decide +kernel
theorem dX6_init_114 : decode cX6_init 114 = .ok (.iconst 0, 1) := by decide +kernel
theorem dX6_init_115 : decode cX6_init 115 = .ok (.invokevirtual 68, 3) := by decide +kernel
theorem dX6_init_118 : decode cX6_init 118 = .ok (.return_, 1) := by decide +kernel
theorem dX6_load_0 : decode cX6_load 0 = .ok (.aload_n 0, 1) := by decide +kernel
theorem dX6_load_1 : decode cX6_load 1 = .ok (.getfield 33, 3) := by decide +kernel
theorem dX6_load_4 : decode cX6_load 4 = .ok (.aload_n 0, 1) := by decide +kernel
theorem dX6_load_5 : decode cX6_load 5 = .ok (.getfield 16, 3) := by decide +kernel
theorem dX6_load_8 : decode cX6_load 8 = .ok (.invokevirtual 64, 3) := by decide +kernel
theorem dX6_load_11 : decode cX6_load 11 = .ok (.istore_n 1, 1) := by decide +kernel
theorem dX6_load_12 : decode cX6_load 12 = .ok (.iconst 0, 1) := by decide +kernel
theorem dX6_load_13 : decode cX6_load 13 = .ok (.istore_n 2, 1) := by decide +kernel
theorem dX6_load_14 : decode cX6_load 14 = .ok (.iload_n 2, 1) := by decide +kernel
theorem dX6_load_15 : decode cX6_load 15 = .ok (.sipush 500, 3) := by decide +kernel
theorem dX6_load_18 : decode cX6_load 18 = .ok (.if_icmp .ge 39, 3) := by decide +kernel
theorem dX6_load_21 : decode cX6_load 21 = .ok (.iload_n 1, 1) := by decide +kernel
theorem dX6_load_22 : decode cX6_load 22 = .ok (.ifCond .ne 35, 3) := by decide +kernel
theorem dX6_load_25 : decode cX6_load 25 = .ok (.aload_n 0, 1) := by decide +kernel
theorem dX6_load_26 : decode cX6_load 26 = .ok (.getfield 33, 3) := by decide +kernel
theorem dX6_load_29 : decode cX6_load 29 = .ok (.invokevirtual 72, 3) := by decide +kernel
theorem dX6_load_32 : decode cX6_load 32 = .ok (.ifCond .ne 25, 3) := by decide +kernel
theorem dX6_load_35 : decode cX6_load 35 = .ok (.aload_n 0, 1) := by decide +kernel
theorem dX6_load_36 : decode cX6_load 36 = .ok (.getfield 33, 3) := by decide +kernel
theorem dX6_load_39 : decode cX6_load 39 = .ok (.aload_n 0, 1) := by decide +kernel
theorem dX6_load_40 : decode cX6_load 40 = .ok (.getfield 16, 3) := by decide +kernel
theorem dX6_load_43 : decode cX6_load 43 = .ok (.aload_n 0, 1) := by decide +kernel
theorem dX6_load_44 : decode cX6_load 44 = .ok (.getfield 47, 3) := by decide +kernel
theorem dX6_load_47 : decode cX6_load 47 = .ok (.invokevirtual 76, 3) := by decide +kernel
theorem dX6_load_50 : decode cX6_load 50 = .ok (.istore_n 1, 1) := by decide +kernel
theorem dX6_load_51 : decode cX6_load 51 = .ok (.iinc 2 1, 3) := by decide +kernel
theorem dX6_load_54 : decode cX6_load 54 = .ok (.goto (-40), 3) := by decide +kernel
theorem dX6_load_57 : decode cX6_load 57 = .ok (.aload_n 0, 1) := by decide +kernel
theorem dX6_load_58 : decode cX6_load 58 = .ok (.getfield 33, 3) := by decide +kernel
theorem dX6_load_61 : decode cX6_load 61 = .ok (.iconst 0, 1) := by decide +kernel
theorem dX6_load_62 : decode cX6_load 62 = .ok (.invokevirtual 68, 3) := by decide +kernel
theorem dX6_load_65 : decode cX6_load 65 = .ok (.iload_n 1, 1) := by decide +kernel
theorem dX6_load_66 : decode cX6_load 66 = .ok (.ifCond .eq 8, 3) := by decide +kernel
theorem dX6_load_69 : decode cX6_load 69 = .ok (.bipush (-30), 2) := by decide +kernel
theorem dX6_load_71 : decode cX6_load 71 = .ok (.iload_n 1, 1) := by decide +kernel
theorem dX6_load_72 : decode cX6_load 72 = .ok (.isub, 1) := by decide +kernel
theorem dX6_load_73 : decode cX6_load 73 = .ok (.ireturn, 1) := by decide +kernel
theorem dX6_load_74 : decode cX6_load 74 = .ok (.aload_n 0, 1) := by decide +kernel
theorem dX6_load_75 : decode cX6_load 75 = .ok (.getfield 22, 3) := by decide +kernel
theorem dX6_load_78 : decode cX6_load 78 = .ok (.aload_n 0, 1) := by decide +kernel
theorem dX6_load_79 : decode cX6_load 79 = .ok (.getfield 12, 3) := by decide +kernel
theorem dX6_load_82 : decode cX6_load 82 = .ok (.invokevirtual 80, 3) := by decide +kernel
theorem dX6_load_85 : decode cX6_load 85 = .ok (.aload_n 0, 1) := by decide +kernel
theorem dX6_load_86 : decode cX6_load 86 = .ok (.getfield 12, 3) := by decide +kernel
theorem dX6_load_89 : decode cX6_load 89 = .ok (.aload_n 0, 1) := by decide +kernel
theorem dX6_load_90 : decode cX6_load 90 = .ok (.getfield 16, 3) := by decide +kernel
theorem dX6_load_93 : decode cX6_load 93 = .ok (.invokevirtual 84, 3) := by decide +kernel
theorem dX6_load_96 : decode cX6_load 96 = .ok (.aload_n 0, 1) := by decide +kernel
theorem dX6_load_97 : decode cX6_load 97 = .ok (.getfield 12, 3) := by decide +kernel
theorem dX6_load_100 : decode cX6_load 100 = .ok (.getfield 87, 3) := by decide +kernel
theorem dX6_load_103 : decode cX6_load 103 = .ok (.ireturn, 1) := by decide +kernel
theorem dX6_draw_0 : decode cX6_draw 0 = .ok (.aload_n 0, 1) := by decide +kernel
theorem dX6_draw_1 : decode cX6_draw 1 = .ok (.getfield 12, 3) := by decide +kernel
theorem dX6_draw_4 : decode cX6_draw 4 = .ok (.invokevirtual 91, 3) := by decide +kernel
theorem dX6_draw_7 : decode cX6_draw 7 = .ok (.istore_n 2, 1) := by decide +kernel
theorem dX6_draw_8 : decode cX6_draw 8 = .ok (.iload_n 2, 1) := by decide +kernel
theorem dX6_draw_9 : decode cX6_draw 9 = .ok (.ifCond .eq 8, 3) := by decide +kernel
theorem dX6_draw_12 : decode cX6_draw 12 = .ok (.bipush (-100), 2) := by decide +kernel
theorem dX6_draw_14 : decode cX6_draw 14 = .ok (.iload_n 2, 1) := by decide +kernel
theorem dX6_draw_15 : decode cX6_draw 15 = .ok (.isub, 1) := by decide +kernel
theorem dX6_draw_16 : decode cX6_draw 16 = .ok (.ireturn, 1) := by decide +kernel
theorem dX6_draw_17 : decode cX6_draw 17 = .ok (.aload_n 0, 1) := by decide +kernel
theorem dX6_draw_18 : decode cX6_draw 18 = .ok (.getfield 22, 3) := by decide +kernel
theorem dX6_draw_21 : decode cX6_draw 21 = .ok (.aload_n 0, 1) := by decide +kernel
theorem dX6_draw_22 : decode cX6_draw 22 = .ok (.getfield 12, 3) := by decide +kernel
theorem dX6_draw_25 : decode cX6_draw 25 = .ok (.invokevirtual 80, 3) := by decide +kernel
theorem dX6_draw_28 : decode cX6_draw 28 = .ok (.aload_n 0, 1) := by decide +kernel
theorem dX6_draw_29 : decode cX6_draw 29 = .ok (.getfield 12, 3) := by decide +kernel
theorem dX6_draw_32 : decode cX6_draw 32 = .ok (.iload_n 1, 1) := by decide +kernel
theorem dX6_draw_33 : decode cX6_draw 33 = .ok (.invokevirtual 95, 3) := by decide +kernel
theorem dX6_draw_36 : decode cX6_draw 36 = .ok (.ireturn, 1) := by decide +kernel
theorem dX6_drop_0 : decode cX6_drop 0 = .ok (.aload_n 0, 1) := by decide +kernel
theorem dX6_drop_1 : decode cX6_drop 1 = .ok (.aload_n 0, 1) := by decide +kernel
theorem dX6_drop_2 : decode cX6_drop 2 = .ok (.getfield 12, 3) := by decide +kernel
theorem dX6_drop_5 : decode cX6_drop 5 = .ok (.getfield 99, 3) := by decide +kernel
theorem dX6_drop_8 : decode cX6_drop 8 = .ok (.iload_n 1, 1) := by decide +kernel
theorem dX6_drop_9 : decode cX6_drop 9 = .ok (.invokevirtual 102, 3) := by decide +kernel
theorem dX6_drop_12 : decode cX6_drop 12 = .ok (.aload_n 0, 1) := by decide +kernel
theorem dX6_drop_13 : decode cX6_drop 13 = .ok (.getfield 12, 3) := by decide +kernel
theorem dX6_drop_16 : decode cX6_drop 16 = .ok (.iload_n 1, 1) := by decide +kernel
theorem dX6_drop_17 : decode cX6_drop 17 = .ok (.invokevirtual 106, 3) := by decide +kernel
theorem dX6_drop_20 : decode cX6_drop 20 = .ok (.istore_n 2, 1) := by decide +kernel
theorem dX6_drop_21 : decode cX6_drop 21 = .ok (.iload_n 2, 1) := by decide +kernel
theorem dX6_drop_22 : decode cX6_drop 22 = .ok (.ifCond .eq 8, 3) := by decide +kernel
theorem dX6_drop_25 : decode cX6_drop 25 = .ok (.bipush (-100), 2) := by decide +kernel
theorem dX6_drop_27 : decode cX6_drop 27 = .ok (.iload_n 2, 1) := by decide +kernel
theorem dX6_drop_28 : decode cX6_drop 28 = .ok (.isub, 1) := by decide +kernel
theorem dX6_drop_29 : decode cX6_drop 29 = .ok (.ireturn, 1) := by decide +kernel
theorem dX6_drop_30 : decode cX6_drop 30 = .ok (.aload_n 0, 1) := by decide +kernel
theorem dX6_drop_31 : decode cX6_drop 31 = .ok (.getfield 22, 3) := by decide +kernel
theorem dX6_drop_34 : decode cX6_drop 34 = .ok (.aload_n 0, 1) := by decide +kernel
theorem dX6_drop_35 : decode cX6_drop 35 = .ok (.getfield 12, 3) := by decide +kernel
theorem dX6_drop_38 : decode cX6_drop 38 = .ok (.invokevirtual 80, 3) := by decide +kernel
theorem dX6_drop_41 : decode cX6_drop 41 = .ok (.aload_n 0, 1) := by decide +kernel
theorem dX6_drop_42 : decode cX6_drop 42 = .ok (.getfield 12, 3) := by decide +kernel
theorem dX6_drop_45 : decode cX6_drop 45 = .ok (.iload_n 1, 1) := by decide +kernel
theorem dX6_drop_46 : decode cX6_drop 46 = .ok (.invokevirtual 110, 3) := by decide +kernel
theorem dX6_drop_49 : decode cX6_drop 49 = .ok (.aload_n 0, 1) := by decide +kernel
theorem dX6_drop_50 : decode cX6_drop 50 = .ok (.getfield 12, 3) := by decide +kernel
theorem dX6_drop_53 : decode cX6_drop 53 = .ok (.invokevirtual 113, 3) := by decide +kernel
theorem dX6_drop_56 : decode cX6_drop 56 = .ok (.ireturn, 1) := by decide +kernel
theorem dX6_knock_0 : decode cX6_knock 0 = .ok (.aload_n 0, 1) := by decide +kernel
theorem dX6_knock_1 : decode cX6_knock 1 = .ok (.aload_n 0, 1) := by decide +kernel
theorem dX6_knock_2 : decode cX6_knock 2 = .ok (.getfield 12, 3) := by decide +kernel
theorem dX6_knock_5 : decode cX6_knock 5 = .ok (.getfield 99, 3) := by decide +kernel
theorem dX6_knock_8 : decode cX6_knock 8 = .ok (.iload_n 1, 1) := by decide +kernel
theorem dX6_knock_9 : decode cX6_knock 9 = .ok (.invokevirtual 102, 3) := by decide +kernel
theorem dX6_knock_12 : decode cX6_knock 12 = .ok (.aload_n 0, 1) := by decide +kernel
theorem dX6_knock_13 : decode cX6_knock 13 = .ok (.getfield 47, 3) := by decide +kernel
theorem dX6_knock_16 : decode cX6_knock 16 = .ok (.aload_n 0, 1) := by decide +kernel
theorem dX6_knock_17 : decode cX6_knock 17 = .ok (.getfield 12, 3) := by decide +kernel
theorem dX6_knock_20 : decode cX6_knock 20 = .ok (.iload_n 1, 1) := by decide +kernel
theorem dX6_knock_21 : decode cX6_knock 21 = .ok (.invokevirtual 116, 3) := by decide +kernel
theorem dX6_knock_24 : decode cX6_knock 24 = .ok (.aload_n 0, 1) := by decide +kernel
theorem dX6_knock_25 : decode cX6_knock 25 = .ok (.getfield 12, 3) := by decide +kernel
theorem dX6_knock_28 : decode cX6_knock 28 = .ok (.invokevirtual 120, 3) := by decide +kernel
theorem dX6_knock_31 : decode cX6_knock 31 = .ok (.invokevirtual 124, 3) := by decide +kernel
theorem dX6_knock_34 : decode cX6_knock 34 = .ok (.aload_n 0, 1) := by decide +kernel
theorem dX6_knock_35 : decode cX6_knock 35 = .ok (.getfield 12, 3) := by decide +kernel
theorem dX6_knock_38 : decode cX6_knock 38 = .ok (.iload_n 1, 1) := by decide +kernel
theorem dX6_knock_39 : decode cX6_knock 39 = .ok (.aload_n 0, 1) := by decide +kernel
theorem dX6_knock_40 : decode cX6_knock 40 = .ok (.getfield 47, 3) := by decide +kernel
theorem dX6_knock_43 : decode cX6_knock 43 = .ok (.getfield 128, 3) := by decide +kernel
theorem dX6_knock_46 : decode cX6_knock 46 = .ok (.invokevirtual 131, 3) := by decide +kernel
theorem dX6_knock_49 : decode cX6_knock 49 = .ok (.istore_n 2, 1) := by decide +kernel
theorem dX6_knock_50 : decode cX6_knock 50 = .ok (.iload_n 2, 1) := by decide +kernel
theorem dX6_knock_51 : decode cX6_knock 51 = .ok (.ifCond .eq 9, 3) := by decide +kernel
theorem dX6_knock_54 : decode cX6_knock 54 = .ok (.sipush (-1000), 3) := by decide +kernel
theorem dX6_knock_57 : decode cX6_knock 57 = .ok (.iload_n 2, 1) := by decide +kernel
theorem dX6_knock_58 : decode cX6_knock 58 = .ok (.isub, 1) := by decide +kernel
theorem dX6_knock_59 : decode cX6_knock 59 = .ok (.ireturn, 1) := by decide +kernel
theorem dX6_knock_60 : decode cX6_knock 60 = .ok (.aload_n 0, 1) := by decide +kernel
theorem dX6_knock_61 : decode cX6_knock 61 = .ok (.getfield 22, 3) := by decide +kernel
theorem dX6_knock_64 : decode cX6_knock 64 = .ok (.aload_n 0, 1) := by decide +kernel
theorem dX6_knock_65 : decode cX6_knock 65 = .ok (.getfield 12, 3) := by decide +kernel
theorem dX6_knock_68 : decode cX6_knock 68 = .ok (.invokevirtual 80, 3) := by decide +kernel
theorem dX6_knock_71 : decode cX6_knock 71 = .ok (.aload_n 0, 1) := by decide +kernel
theorem dX6_knock_72 : decode cX6_knock 72 = .ok (.getfield 12, 3) := by decide +kernel
theorem dX6_knock_75 : decode cX6_knock 75 = .ok (.iload_n 1, 1) := by decide +kernel
theorem dX6_knock_76 : decode cX6_knock 76 = .ok (.aload_n 0, 1) := by decide +kernel
theorem dX6_knock_77 : decode cX6_knock 77 = .ok (.getfield 47, 3) := by decide +kernel
theorem dX6_knock_80 : decode cX6_knock 80 = .ok (.invokevirtual 135, 3) := by decide +kernel
theorem dX6_knock_83 : decode cX6_knock 83 = .ok (.invokevirtual 138, 3) := by decide +kernel
theorem dX6_knock_86 : decode cX6_knock 86 = .ok (.aload_n 0, 1) := by decide +kernel
theorem dX6_knock_87 : decode cX6_knock 87 = .ok (.getfield 47, 3) := by decide +kernel
theorem dX6_knock_90 : decode cX6_knock 90 = .ok (.invokevirtual 135, 3) := by decide +kernel
theorem dX6_knock_93 : decode cX6_knock 93 = .ok (.ireturn, 1) := by decide +kernel
theorem dX6_deal_0 : decode cX6_deal 0 = .ok (.aload_n 0, 1) := by decide +kernel
theorem dX6_deal_1 : decode cX6_deal 1 = .ok (.getfield 12, 3) := by decide +kernel
theorem dX6_deal_4 : decode cX6_deal 4 = .ok (.invokevirtual 141, 3) := by decide +kernel
theorem dX6_deal_7 : decode cX6_deal 7 = .ok (.istore_n 1, 1) := by decide +kernel
theorem dX6_deal_8 : decode cX6_deal 8 = .ok (.iload_n 1, 1) := by decide +kernel
theorem dX6_deal_9 : decode cX6_deal 9 = .ok (.ifCond .eq 6, 3) := by decide +kernel
theorem dX6_deal_12 : decode cX6_deal 12 = .ok (.iload_n 1, 1) := by decide +kernel
theorem dX6_deal_13 : decode cX6_deal 13 = .ok (.ineg, 1) := by decide +kernel
theorem dX6_deal_14 : decode cX6_deal 14 = .ok (.ireturn, 1) := by decide +kernel
theorem dX6_deal_15 : decode cX6_deal 15 = .ok (.aload_n 0, 1) := by decide +kernel
theorem dX6_deal_16 : decode cX6_deal 16 = .ok (.getfield 22, 3) := by decide +kernel
theorem dX6_deal_19 : decode cX6_deal 19 = .ok (.aload_n 0, 1) := by decide +kernel
theorem dX6_deal_20 : decode cX6_deal 20 = .ok (.getfield 12, 3) := by decide +kernel
theorem dX6_deal_23 : decode cX6_deal 23 = .ok (.invokevirtual 80, 3) := by decide +kernel
theorem dX6_deal_26 : decode cX6_deal 26 = .ok (.aload_n 0, 1) := by decide +kernel
theorem dX6_deal_27 : decode cX6_deal 27 = .ok (.getfield 12, 3) := by decide +kernel
theorem dX6_deal_30 : decode cX6_deal 30 = .ok (.invokevirtual 144, 3) := by decide +kernel
theorem dX6_deal_33 : decode cX6_deal 33 = .ok (.aload_n 0, 1) := by decide +kernel
theorem dX6_deal_34 : decode cX6_deal 34 = .ok (.getfield 12, 3) := by decide +kernel
theorem dX6_deal_37 : decode cX6_deal 37 = .ok (.getfield 147, 3) := by decide +kernel
theorem dX6_deal_40 : decode cX6_deal 40 = .ok (.ireturn, 1) := by decide +kernel
theorem dX6_set_0 : decode cX6_set 0 = .ok (.iload_n 1, 1) := by decide +kernel
theorem dX6_set_1 : decode cX6_set 1 = .ok (.ifCond .eq 15, 3) := by decide +kernel
theorem dX6_set_4 : decode cX6_set 4 = .ok (.iload_n 2, 1) := by decide +kernel
theorem dX6_set_5 : decode cX6_set 5 = .ok (.bipush 20, 2) := by decide +kernel
theorem dX6_set_7 : decode cX6_set 7 = .ok (.sipush 500, 3) := by decide +kernel
theorem dX6_set_10 : decode cX6_set 10 = .ok (.invokestatic 150, 3) := by decide +kernel
theorem dX6_set_13 : decode cX6_set 13 = .ok (.goto 10, 3) := by decide +kernel
theorem dX6_set_16 : decode cX6_set 16 = .ok (.iload_n 2, 1) := by decide +kernel
theorem dX6_set_17 : decode cX6_set 17 = .ok (.iconst 0, 1) := by decide +kernel
theorem dX6_set_18 : decode cX6_set 18 = .ok (.bipush 20, 2) := by decide +kernel
theorem dX6_set_20 : decode cX6_set 20 = .ok (.invokestatic 150, 3) := by decide +kernel
theorem dX6_set_23 : decode cX6_set 23 = .ok (.invokestatic 154, 3) := by decide +kernel
theorem dX6_set_26 : decode cX6_set 26 = .ok (.aload_n 0, 1) := by decide +kernel
theorem dX6_set_27 : decode cX6_set 27 = .ok (.getfield 22, 3) := by decide +kernel
theorem dX6_set_30 : decode cX6_set 30 = .ok (.aload_n 0, 1) := by decide +kernel
theorem dX6_set_31 : decode cX6_set 31 = .ok (.getfield 12, 3) := by decide +kernel
theorem dX6_set_34 : decode cX6_set 34 = .ok (.invokevirtual 80, 3) := by decide +kernel
theorem dX6_set_37 : decode cX6_set 37 = .ok (.iload_n 1, 1) := by decide +kernel
theorem dX6_set_38 : decode cX6_set 38 = .ok (.ifCond .eq 13, 3) := by decide +kernel
theorem dX6_set_41 : decode cX6_set 41 = .ok (.aload_n 0, 1) := by decide +kernel
theorem dX6_set_42 : decode cX6_set 42 = .ok (.getfield 12, 3) := by decide +kernel
theorem dX6_set_45 : decode cX6_set 45 = .ok (.getfield 158, 3) := by decide +kernel
theorem dX6_set_48 : decode cX6_set 48 = .ok (.goto 10, 3) := by decide +kernel
theorem dX6_set_51 : decode cX6_set 51 = .ok (.aload_n 0, 1) := by decide +kernel
theorem dX6_set_52 : decode cX6_set 52 = .ok (.getfield 12, 3) := by decide +kernel
theorem dX6_set_55 : decode cX6_set 55 = .ok (.getfield 161, 3) := by decide +kernel
theorem dX6_set_58 : decode cX6_set 58 = .ok (.istore_n 3, 1) := by decide +kernel
theorem dX6_set_59 : decode cX6_set 59 = .ok (.iload_n 1, 1) := by decide +kernel
theorem dX6_set_60 : decode cX6_set 60 = .ok (.ifCond .eq 14, 3) := by decide +kernel
theorem dX6_set_63 : decode cX6_set 63 = .ok (.aload_n 0, 1) := by decide +kernel
theorem dX6_set_64 : decode cX6_set 64 = .ok (.getfield 12, 3) := by decide +kernel
theorem dX6_set_67 : decode cX6_set 67 = .ok (.iload_n 2, 1) := by decide +kernel
theorem dX6_set_68 : decode cX6_set 68 = .ok (.putfield 158, 3) := by decide +kernel
theorem dX6_set_71 : decode cX6_set 71 = .ok (.goto 11, 3) := by decide +kernel
theorem dX6_set_74 : decode cX6_set 74 = .ok (.aload_n 0, 1) := by decide +kernel
theorem dX6_set_75 : decode cX6_set 75 = .ok (.getfield 12, 3) := by decide +kernel
theorem dX6_set_78 : decode cX6_set 78 = .ok (.iload_n 2, 1) := by decide +kernel
theorem dX6_set_79 : decode cX6_set 79 = .ok (.putfield 161, 3) := by decide +kernel
theorem dX6_set_82 : decode cX6_set 82 = .ok (.iload_n 3, 1) := by decide +kernel
theorem dX6_set_83 : decode cX6_set 83 = .ok (.ireturn, 1) := by decide +kernel
theorem dX6_undo_0 : decode cX6_undo 0 = .ok (.aload_n 0, 1) := by decide +kernel
theorem dX6_undo_1 : decode cX6_undo 1 = .ok (.getfield 22, 3) := by decide +kernel
theorem dX6_undo_4 : decode cX6_undo 4 = .ok (.aload_n 0, 1) := by decide +kernel
theorem dX6_undo_5 : decode cX6_undo 5 = .ok (.getfield 12, 3) := by decide +kernel
theorem dX6_undo_8 : decode cX6_undo 8 = .ok (.invokevirtual 164, 3) := by decide +kernel
theorem dX6_undo_11 : decode cX6_undo 11 = .ok (.ifCond .eq 13, 3) := by decide +kernel
theorem dX6_undo_14 : decode cX6_undo 14 = .ok (.aload_n 0, 1) := by decide +kernel
theorem dX6_undo_15 : decode cX6_undo 15 = .ok (.getfield 22, 3) := by decide +kernel
theorem dX6_undo_18 : decode cX6_undo 18 = .ok (.getfield 168, 3) := by decide +kernel
theorem dX6_undo_21 : decode cX6_undo 21 = .ok (.goto 4, 3) := by decide +kernel
theorem dX6_undo_24 : decode cX6_undo 24 = .ok (.iconst (-1), 1) := by decide +kernel
theorem dX6_undo_25 : decode cX6_undo 25 = .ok (.ireturn, 1) := by decide +kernel
theorem dX6_append_0 : decode cX6_append 0 = .ok (.aload_n 0, 1) := by decide +kernel
theorem dX6_append_1 : decode cX6_append 1 = .ok (.getfield 33, 3) := by decide +kernel
theorem dX6_append_4 : decode cX6_append 4 = .ok (.getfield 180, 3) := by decide +kernel
theorem dX6_append_7 : decode cX6_append 7 = .ok (.bipush 20, 2) := by decide +kernel
theorem dX6_append_9 : decode cX6_append 9 = .ok (.iadd, 1) := by decide +kernel
theorem dX6_append_10 : decode cX6_append 10 = .ok (.sipush 500, 3) := by decide +kernel
theorem dX6_append_13 : decode cX6_append 13 = .ok (.if_icmp .le 6, 3) := by decide +kernel
theorem dX6_append_16 : decode cX6_append 16 = .ok (.bipush (-20), 2) := by decide +kernel
theorem dX6_append_18 : decode cX6_append 18 = .ok (.ireturn, 1) := by decide +kernel
theorem dX6_append_19 : decode cX6_append 19 = .ok (.aload_n 0, 1) := by decide +kernel
theorem dX6_append_20 : decode cX6_append 20 = .ok (.getfield 33, 3) := by decide +kernel
theorem dX6_append_23 : decode cX6_append 23 = .ok (.iload_n 1, 1) := by decide +kernel
theorem dX6_append_24 : decode cX6_append 24 = .ok (.invokevirtual 183, 3) := by decide +kernel
theorem dX6_append_27 : decode cX6_append 27 = .ok (.aload_n 0, 1) := by decide +kernel
theorem dX6_append_28 : decode cX6_append 28 = .ok (.getfield 33, 3) := by decide +kernel
theorem dX6_append_31 : decode cX6_append 31 = .ok (.iload_n 2, 1) := by decide +kernel
theorem dX6_append_32 : decode cX6_append 32 = .ok (.invokevirtual 183, 3) := by decide +kernel
theorem dX6_append_35 : decode cX6_append 35 = .ok (.aload_n 0, 1) := by decide +kernel
theorem dX6_append_36 : decode cX6_append 36 = .ok (.getfield 33, 3) := by decide +kernel
theorem dX6_append_39 : decode cX6_append 39 = .ok (.iload_n 3, 1) := by decide +kernel
theorem dX6_append_40 : decode cX6_append 40 = .ok (.invokevirtual 183, 3) := by decide +kernel
theorem dX6_append_43 : decode cX6_append 43 = .ok (.aload_n 0, 1) := by decide +kernel
theorem dX6_append_44 : decode cX6_append 44 = .ok (.getfield 33, 3) := by decide +kernel
theorem dX6_append_47 : decode cX6_append 47 = .ok (.iload 4, 2) := by decide +kernel
theorem dX6_append_49 : decode cX6_append 49 = .ok (.invokevirtual 183, 3) := by decide +kernel
theorem dX6_append_52 : decode cX6_append 52 = .ok (.aload_n 0, 1) := by decide +kernel
theorem dX6_append_53 : decode cX6_append 53 = .ok (.getfield 33, 3) := by decide +kernel
theorem dX6_append_56 : decode cX6_append 56 = .ok (.iload 5, 2) := by decide +kernel
theorem dX6_append_58 : decode cX6_append 58 = .ok (.invokevirtual 183, 3) := by decide +kernel
theorem dX6_append_61 : decode cX6_append 61 = .ok (.aload_n 0, 1) := by decide +kernel
theorem dX6_append_62 : decode cX6_append 62 = .ok (.getfield 33, 3) := by decide +kernel
theorem dX6_append_65 : decode cX6_append 65 = .ok (.getfield 180, 3) := by decide +kernel
theorem dX6_append_68 : decode cX6_append 68 = .ok (.ireturn, 1) := by decide +kernel
theorem dX6_match_0 : decode cX6_match 0 = .ok (.iload_n 1, 1) := by decide +kernel
theorem dX6_match_1 : decode cX6_match 1 = .ok (.iconst 0, 1) := by decide +kernel
theorem dX6_match_2 : decode cX6_match 2 = .ok (.bipush 16, 2) := by decide +kernel
theorem dX6_match_4 : decode cX6_match 4 = .ok (.invokestatic 150, 3) := by decide +kernel
theorem dX6_match_7 : decode cX6_match 7 = .ok (.invokestatic 154, 3) := by decide +kernel
theorem dX6_match_10 : decode cX6_match 10 = .ok (.iload_n 1, 1) := by decide +kernel
theorem dX6_match_11 : decode cX6_match 11 = .ok (.tableswitch 231 0 15 #[77, 85, 93, 101, 109, 117, 133, 149, 165, 173, 181, 189, 198, 207, 215, 223], 77) := by decide +kernel
theorem dX6_match_88 : decode cX6_match 88 = .ok (.aload_n 0, 1) := by decide +kernel
theorem dX6_match_89 : decode cX6_match 89 = .ok (.getfield 12, 3) := by decide +kernel
theorem dX6_match_92 : decode cX6_match 92 = .ok (.getfield 87, 3) := by decide +kernel
theorem dX6_match_95 : decode cX6_match 95 = .ok (.ireturn, 1) := by decide +kernel
theorem dX6_match_96 : decode cX6_match 96 = .ok (.aload_n 0, 1) := by decide +kernel
theorem dX6_match_97 : decode cX6_match 97 = .ok (.getfield 12, 3) := by decide +kernel
theorem dX6_match_100 : decode cX6_match 100 = .ok (.getfield 161, 3) := by decide +kernel
theorem dX6_match_103 : decode cX6_match 103 = .ok (.ireturn, 1) := by decide +kernel
theorem dX6_match_104 : decode cX6_match 104 = .ok (.aload_n 0, 1) := by decide +kernel
theorem dX6_match_105 : decode cX6_match 105 = .ok (.getfield 12, 3) := by decide +kernel
theorem dX6_match_108 : decode cX6_match 108 = .ok (.getfield 158, 3) := by decide +kernel
theorem dX6_match_111 : decode cX6_match 111 = .ok (.ireturn, 1) := by decide +kernel
theorem dX6_match_112 : decode cX6_match 112 = .ok (.aload_n 0, 1) := by decide +kernel
theorem dX6_match_113 : decode cX6_match 113 = .ok (.getfield 12, 3) := by decide +kernel
theorem dX6_match_116 : decode cX6_match 116 = .ok (.getfield 147, 3) := by decide +kernel
theorem dX6_match_119 : decode cX6_match 119 = .ok (.ireturn, 1) := by decide +kernel
theorem dX6_match_120 : decode cX6_match 120 = .ok (.aload_n 0, 1) := by decide +kernel
theorem dX6_match_121 : decode cX6_match 121 = .ok (.getfield 12, 3) := by decide +kernel
theorem dX6_match_124 : decode cX6_match 124 = .ok (.getfield 99, 3) := by decide +kernel
theorem dX6_match_127 : decode cX6_match 127 = .ok (.ireturn, 1) := by decide +kernel
theorem dX6_match_128 : decode cX6_match 128 = .ok (.aload_n 0, 1) := by decide +kernel
theorem dX6_match_129 : decode cX6_match 129 = .ok (.getfield 12, 3) := by decide +kernel
theorem dX6_match_132 : decode cX6_match 132 = .ok (.getfield 186, 3) := by decide +kernel
theorem dX6_match_135 : decode cX6_match 135 = .ok (.ifCond .eq 7, 3) := by decide +kernel
theorem dX6_match_138 : decode cX6_match 138 = .ok (.iconst 1, 1) := by decide +kernel
theorem dX6_match_139 : decode cX6_match 139 = .ok (.goto 4, 3) := by decide +kernel
theorem dX6_match_142 : decode cX6_match 142 = .ok (.iconst 0, 1) := by decide +kernel
theorem dX6_match_143 : decode cX6_match 143 = .ok (.ireturn, 1) := by decide +kernel
theorem dX6_match_144 : decode cX6_match 144 = .ok (.aload_n 0, 1) := by decide +kernel
theorem dX6_match_145 : decode cX6_match 145 = .ok (.getfield 12, 3) := by decide +kernel
theorem dX6_match_148 : decode cX6_match 148 = .ok (.getfield 190, 3) := by decide +kernel
theorem dX6_match_151 : decode cX6_match 151 = .ok (.ifCond .eq 7, 3) := by decide +kernel
theorem dX6_match_154 : decode cX6_match 154 = .ok (.iconst 1, 1) := by decide +kernel
theorem dX6_match_155 : decode cX6_match 155 = .ok (.goto 4, 3) := by decide +kernel
theorem dX6_match_158 : decode cX6_match 158 = .ok (.iconst 0, 1) := by decide +kernel
theorem dX6_match_159 : decode cX6_match 159 = .ok (.ireturn, 1) := by decide +kernel
theorem dX6_match_160 : decode cX6_match 160 = .ok (.aload_n 0, 1) := by decide +kernel
theorem dX6_match_161 : decode cX6_match 161 = .ok (.getfield 12, 3) := by decide +kernel
theorem dX6_match_164 : decode cX6_match 164 = .ok (.invokevirtual 193, 3) := by decide +kernel
theorem dX6_match_167 : decode cX6_match 167 = .ok (.ifCond .eq 7, 3) := by decide +kernel
theorem dX6_match_170 : decode cX6_match 170 = .ok (.iconst 1, 1) := by decide +kernel
theorem dX6_match_171 : decode cX6_match 171 = .ok (.goto 4, 3) := by decide +kernel
theorem dX6_match_174 : decode cX6_match 174 = .ok (.iconst 0, 1) := by decide +kernel
theorem dX6_match_175 : decode cX6_match 175 = .ok (.ireturn, 1) := by decide +kernel
theorem dX6_match_176 : decode cX6_match 176 = .ok (.aload_n 0, 1) := by decide +kernel
theorem dX6_match_177 : decode cX6_match 177 = .ok (.getfield 12, 3) := by decide +kernel
theorem dX6_match_180 : decode cX6_match 180 = .ok (.invokevirtual 113, 3) := by decide +kernel
theorem dX6_match_183 : decode cX6_match 183 = .ok (.ireturn, 1) := by decide +kernel
theorem dX6_match_184 : decode cX6_match 184 = .ok (.aload_n 0, 1) := by decide +kernel
theorem dX6_match_185 : decode cX6_match 185 = .ok (.getfield 12, 3) := by decide +kernel
theorem dX6_match_188 : decode cX6_match 188 = .ok (.getfield 196, 3) := by decide +kernel
theorem dX6_match_191 : decode cX6_match 191 = .ok (.ireturn, 1) := by decide +kernel
theorem dX6_match_192 : decode cX6_match 192 = .ok (.aload_n 0, 1) := by decide +kernel
theorem dX6_match_193 : decode cX6_match 193 = .ok (.getfield 12, 3) := by decide +kernel
theorem dX6_match_196 : decode cX6_match 196 = .ok (.invokevirtual 199, 3) := by decide +kernel
theorem dX6_match_199 : decode cX6_match 199 = .ok (.ireturn, 1) := by decide +kernel
theorem dX6_match_200 : decode cX6_match 200 = .ok (.aload_n 0, 1) := by decide +kernel
theorem dX6_match_201 : decode cX6_match 201 = .ok (.getfield 12, 3) := by decide +kernel
theorem dX6_match_204 : decode cX6_match 204 = .ok (.iconst 0, 1) := by decide +kernel
theorem dX6_match_205 : decode cX6_match 205 = .ok (.invokevirtual 202, 3) := by decide +kernel
theorem dX6_match_208 : decode cX6_match 208 = .ok (.ireturn, 1) := by decide +kernel
theorem dX6_match_209 : decode cX6_match 209 = .ok (.aload_n 0, 1) := by decide +kernel
theorem dX6_match_210 : decode cX6_match 210 = .ok (.getfield 12, 3) := by decide +kernel
theorem dX6_match_213 : decode cX6_match 213 = .ok (.iconst 1, 1) := by decide +kernel
theorem dX6_match_214 : decode cX6_match 214 = .ok (.invokevirtual 202, 3) := by decide +kernel
theorem dX6_match_217 : decode cX6_match 217 = .ok (.ireturn, 1) := by decide +kernel
theorem dX6_match_218 : decode cX6_match 218 = .ok (.aload_n 0, 1) := by decide +kernel
theorem dX6_match_219 : decode cX6_match 219 = .ok (.getfield 12, 3) := by decide +kernel
theorem dX6_match_222 : decode cX6_match 222 = .ok (.getfield 205, 3) := by decide +kernel
theorem dX6_match_225 : decode cX6_match 225 = .ok (.ireturn, 1) := by decide +kernel
theorem dX6_match_226 : decode cX6_match 226 = .ok (.aload_n 0, 1) := by decide +kernel
theorem dX6_match_227 : decode cX6_match 227 = .ok (.getfield 12, 3) := by decide +kernel
theorem dX6_match_230 : decode cX6_match 230 = .ok (.getfield 208, 3) := by decide +kernel
theorem dX6_match_233 : decode cX6_match 233 = .ok (.ireturn, 1) := by decide +kernel
theorem dX6_match_234 : decode cX6_match 234 = .ok (.aload_n 0, 1) := by decide +kernel
theorem dX6_match_235 : decode cX6_match 235 = .ok (.getfield 22, 3) := by decide +kernel
theorem dX6_match_238 : decode cX6_match 238 = .ok (.getfield 168, 3) := by decide +kernel
theorem dX6_match_241 : decode cX6_match 241 = .ok (.ireturn, 1) := by decide +kernel
theorem dX6_match_242 : decode cX6_match 242 = .ok (.aload_n 0, 1) := by decide +kernel
theorem dX6_match_243 : decode cX6_match 243 = .ok (.getfield 33, 3) := by decide +kernel
theorem dX6_match_246 : decode cX6_match 246 = .ok (.getfield 180, 3) := by decide +kernel
theorem dX6_match_249 : decode cX6_match 249 = .ok (.ireturn, 1) := by decide +kernel
theorem dX6_player_0 : decode cX6_player 0 = .ok (.iload_n 1, 1) := by decide +kernel
theorem dX6_player_1 : decode cX6_player 1 = .ok (.invokestatic 215, 3) := by decide +kernel
theorem dX6_player_4 : decode cX6_player 4 = .ok (.ifCond .eq 17, 3) := by decide +kernel
theorem dX6_player_7 : decode cX6_player 7 = .ok (.iload_n 2, 1) := by decide +kernel
theorem dX6_player_8 : decode cX6_player 8 = .ok (.iconst 0, 1) := by decide +kernel
theorem dX6_player_9 : decode cX6_player 9 = .ok (.bipush 7, 2) := by decide +kernel
theorem dX6_player_11 : decode cX6_player 11 = .ok (.invokestatic 150, 3) := by decide +kernel
theorem dX6_player_14 : decode cX6_player 14 = .ok (.ifCond .eq 7, 3) := by decide +kernel
theorem dX6_player_17 : decode cX6_player 17 = .ok (.iconst 1, 1) := by decide +kernel
theorem dX6_player_18 : decode cX6_player 18 = .ok (.goto 4, 3) := by decide +kernel
theorem dX6_player_21 : decode cX6_player 21 = .ok (.iconst 0, 1) := by decide +kernel
theorem dX6_player_22 : decode cX6_player 22 = .ok (.invokestatic 154, 3) := by decide +kernel
theorem dX6_player_25 : decode cX6_player 25 = .ok (.aload_n 0, 1) := by decide +kernel
theorem dX6_player_26 : decode cX6_player 26 = .ok (.getfield 12, 3) := by decide +kernel
theorem dX6_player_29 : decode cX6_player 29 = .ok (.iload_n 1, 1) := by decide +kernel
theorem dX6_player_30 : decode cX6_player 30 = .ok (.invokevirtual 219, 3) := by decide +kernel
theorem dX6_player_33 : decode cX6_player 33 = .ok (.lstore_n 3, 1) := by decide +kernel
theorem dX6_player_34 : decode cX6_player 34 = .ok (.aload_n 0, 1) := by decide +kernel
theorem dX6_player_35 : decode cX6_player 35 = .ok (.getfield 40, 3) := by decide +kernel
theorem dX6_player_38 : decode cX6_player 38 = .ok (.lload_n 3, 1) := by decide +kernel
theorem dX6_player_39 : decode cX6_player 39 = .ok (.invokevirtual 222, 3) := by decide +kernel
theorem dX6_player_42 : decode cX6_player 42 = .ok (.iload_n 2, 1) := by decide +kernel
theorem dX6_player_43 : decode cX6_player 43 = .ok (.tableswitch 96 0 6 #[41, 46, 54, 62, 73, 82, 91], 41) := by decide +kernel
theorem dX6_player_84 : decode cX6_player 84 = .ok (.lload_n 3, 1) := by decide +kernel
theorem dX6_player_85 : decode cX6_player 85 = .ok (.invokestatic 226, 3) := by decide +kernel
theorem dX6_player_88 : decode cX6_player 88 = .ok (.ireturn, 1) := by decide +kernel
theorem dX6_player_89 : decode cX6_player 89 = .ok (.aload_n 0, 1) := by decide +kernel
theorem dX6_player_90 : decode cX6_player 90 = .ok (.getfield 40, 3) := by decide +kernel
theorem dX6_player_93 : decode cX6_player 93 = .ok (.getfield 232, 3) := by decide +kernel
theorem dX6_player_96 : decode cX6_player 96 = .ok (.ireturn, 1) := by decide +kernel
theorem dX6_player_97 : decode cX6_player 97 = .ok (.aload_n 0, 1) := by decide +kernel
theorem dX6_player_98 : decode cX6_player 98 = .ok (.getfield 40, 3) := by decide +kernel
theorem dX6_player_101 : decode cX6_player 101 = .ok (.getfield 235, 3) := by decide +kernel
theorem dX6_player_104 : decode cX6_player 104 = .ok (.ireturn, 1) := by decide +kernel
theorem dX6_player_105 : decode cX6_player 105 = .ok (.aload_n 0, 1) := by decide +kernel
theorem dX6_player_106 : decode cX6_player 106 = .ok (.getfield 40, 3) := by decide +kernel
theorem dX6_player_109 : decode cX6_player 109 = .ok (.getfield 238, 3) := by decide +kernel
theorem dX6_player_112 : decode cX6_player 112 = .ok (.invokestatic 226, 3) := by decide +kernel
theorem dX6_player_115 : decode cX6_player 115 = .ok (.ireturn, 1) := by decide +kernel
theorem dX6_player_116 : decode cX6_player 116 = .ok (.aload_n 0, 1) := by decide +kernel
theorem dX6_player_117 : decode cX6_player 117 = .ok (.getfield 40, 3) := by decide +kernel
theorem dX6_player_120 : decode cX6_player 120 = .ok (.iconst 1, 1) := by decide +kernel
theorem dX6_player_121 : decode cX6_player 121 = .ok (.invokevirtual 241, 3) := by decide +kernel
theorem dX6_player_124 : decode cX6_player 124 = .ok (.ireturn, 1) := by decide +kernel
theorem dX6_player_125 : decode cX6_player 125 = .ok (.aload_n 0, 1) := by decide +kernel
theorem dX6_player_126 : decode cX6_player 126 = .ok (.getfield 40, 3) := by decide +kernel
theorem dX6_player_129 : decode cX6_player 129 = .ok (.iconst 2, 1) := by decide +kernel
theorem dX6_player_130 : decode cX6_player 130 = .ok (.invokevirtual 241, 3) := by decide +kernel
theorem dX6_player_133 : decode cX6_player 133 = .ok (.ireturn, 1) := by decide +kernel
theorem dX6_player_134 : decode cX6_player 134 = .ok (.lload_n 3, 1) := by decide +kernel
theorem dX6_player_135 : decode cX6_player 135 = .ok (.invokestatic 244, 3) := by decide +kernel
theorem dX6_player_138 : decode cX6_player 138 = .ok (.ireturn, 1) := by decide +kernel
theorem dX6_player_139 : decode cX6_player 139 = .ok (.aload_n 0, 1) := by decide +kernel
theorem dX6_player_140 : decode cX6_player 140 = .ok (.getfield 40, 3) := by decide +kernel
theorem dX6_player_143 : decode cX6_player 143 = .ok (.invokevirtual 247, 3) := by decide +kernel
theorem dX6_player_146 : decode cX6_player 146 = .ok (.ireturn, 1) := by decide +kernel
theorem dX6_card_0 : decode cX6_card 0 = .ok (.iload_n 1, 1) := by decide +kernel
theorem dX6_card_1 : decode cX6_card 1 = .ok (.invokestatic 215, 3) := by decide +kernel
theorem dX6_card_4 : decode cX6_card 4 = .ok (.invokestatic 154, 3) := by decide +kernel
theorem dX6_card_7 : decode cX6_card 7 = .ok (.aload_n 0, 1) := by decide +kernel
theorem dX6_card_8 : decode cX6_card 8 = .ok (.getfield 12, 3) := by decide +kernel
theorem dX6_card_11 : decode cX6_card 11 = .ok (.iload_n 1, 1) := by decide +kernel
theorem dX6_card_12 : decode cX6_card 12 = .ok (.invokevirtual 219, 3) := by decide +kernel
theorem dX6_card_15 : decode cX6_card 15 = .ok (.lstore_n 3, 1) := by decide +kernel
theorem dX6_card_16 : decode cX6_card 16 = .ok (.iload_n 2, 1) := by decide +kernel
theorem dX6_card_17 : decode cX6_card 17 = .ok (.ifCond .lt 11, 3) := by decide +kernel
theorem dX6_card_20 : decode cX6_card 20 = .ok (.iload_n 2, 1) := by decide +kernel
theorem dX6_card_21 : decode cX6_card 21 = .ok (.lload_n 3, 1) := by decide +kernel
theorem dX6_card_22 : decode cX6_card 22 = .ok (.invokestatic 226, 3) := by decide +kernel
theorem dX6_card_25 : decode cX6_card 25 = .ok (.if_icmp .lt 5, 3) := by decide +kernel
theorem dX6_card_28 : decode cX6_card 28 = .ok (.iconst (-1), 1) := by decide +kernel
theorem dX6_card_29 : decode cX6_card 29 = .ok (.ireturn, 1) := by decide +kernel
theorem dX6_card_30 : decode cX6_card 30 = .ok (.iconst 0, 1) := by decide +kernel
theorem dX6_card_31 : decode cX6_card 31 = .ok (.istore 5, 2) := by decide +kernel
theorem dX6_card_33 : decode cX6_card 33 = .ok (.iload 5, 2) := by decide +kernel
theorem dX6_card_35 : decode cX6_card 35 = .ok (.iload_n 2, 1) := by decide +kernel
theorem dX6_card_36 : decode cX6_card 36 = .ok (.if_icmp .ge 22, 3) := by decide +kernel
theorem dX6_card_39 : decode cX6_card 39 = .ok (.iload 5, 2) := by decide +kernel
theorem dX6_card_41 : decode cX6_card 41 = .ok (.bipush 52, 2) := by decide +kernel
theorem dX6_card_43 : decode cX6_card 43 = .ok (.if_icmp .ge 15, 3) := by decide +kernel
theorem dX6_card_46 : decode cX6_card 46 = .ok (.lload_n 3, 1) := by decide +kernel
theorem dX6_card_47 : decode cX6_card 47 = .ok (.lload_n 3, 1) := by decide +kernel
theorem dX6_card_48 : decode cX6_card 48 = .ok (.lconst 1, 1) := by decide +kernel
theorem dX6_card_49 : decode cX6_card 49 = .ok (.lsub, 1) := by decide +kernel
theorem dX6_card_50 : decode cX6_card 50 = .ok (.land, 1) := by decide +kernel
theorem dX6_card_51 : decode cX6_card 51 = .ok (.lstore_n 3, 1) := by decide +kernel
theorem dX6_card_52 : decode cX6_card 52 = .ok (.iinc 5 1, 3) := by decide +kernel
theorem dX6_card_55 : decode cX6_card 55 = .ok (.goto (-22), 3) := by decide +kernel
theorem dX6_card_58 : decode cX6_card 58 = .ok (.lload_n 3, 1) := by decide +kernel
theorem dX6_card_59 : decode cX6_card 59 = .ok (.invokestatic 250, 3) := by decide +kernel
theorem dX6_card_62 : decode cX6_card 62 = .ok (.ireturn, 1) := by decide +kernel
theorem dX6_where_0 : decode cX6_where 0 = .ok (.iload_n 1, 1) := by decide +kernel
theorem dX6_where_1 : decode cX6_where 1 = .ok (.iconst 0, 1) := by decide +kernel
theorem dX6_where_2 : decode cX6_where 2 = .ok (.bipush 51, 2) := by decide +kernel
theorem dX6_where_4 : decode cX6_where 4 = .ok (.invokestatic 150, 3) := by decide +kernel
theorem dX6_where_7 : decode cX6_where 7 = .ok (.invokestatic 154, 3) := by decide +kernel
theorem dX6_where_10 : decode cX6_where 10 = .ok (.aload_n 0, 1) := by decide +kernel
theorem dX6_where_11 : decode cX6_where 11 = .ok (.getfield 12, 3) := by decide +kernel
theorem dX6_where_14 : decode cX6_where 14 = .ok (.iload_n 1, 1) := by decide +kernel
theorem dX6_where_15 : decode cX6_where 15 = .ok (.invokevirtual 253, 3) := by decide +kernel
theorem dX6_where_18 : decode cX6_where 18 = .ok (.ireturn, 1) := by decide +kernel
theorem dX6_meldOf_0 : decode cX6_meldOf 0 = .ok (.iload_n 1, 1) := by decide +kernel
theorem dX6_meldOf_1 : decode cX6_meldOf 1 = .ok (.invokestatic 215, 3) := by decide +kernel
theorem dX6_meldOf_4 : decode cX6_meldOf 4 = .ok (.invokestatic 154, 3) := by decide +kernel
theorem dX6_meldOf_7 : decode cX6_meldOf 7 = .ok (.aload_n 0, 1) := by decide +kernel
theorem dX6_meldOf_8 : decode cX6_meldOf 8 = .ok (.iload_n 1, 1) := by decide +kernel
theorem dX6_meldOf_9 : decode cX6_meldOf 9 = .ok (.iload_n 2, 1) := by decide +kernel
theorem dX6_meldOf_10 : decode cX6_meldOf 10 = .ok (.invokevirtual 102, 3) := by decide +kernel
theorem dX6_meldOf_13 : decode cX6_meldOf 13 = .ok (.aload_n 0, 1) := by decide +kernel
theorem dX6_meldOf_14 : decode cX6_meldOf 14 = .ok (.getfield 40, 3) := by decide +kernel
theorem dX6_meldOf_17 : decode cX6_meldOf 17 = .ok (.aload_n 0, 1) := by decide +kernel
theorem dX6_meldOf_18 : decode cX6_meldOf 18 = .ok (.getfield 12, 3) := by decide +kernel
theorem dX6_meldOf_21 : decode cX6_meldOf 21 = .ok (.iload_n 1, 1) := by decide +kernel
theorem dX6_meldOf_22 : decode cX6_meldOf 22 = .ok (.invokevirtual 219, 3) := by decide +kernel
theorem dX6_meldOf_25 : decode cX6_meldOf 25 = .ok (.invokevirtual 222, 3) := by decide +kernel
theorem dX6_meldOf_28 : decode cX6_meldOf 28 = .ok (.aload_n 0, 1) := by decide +kernel
theorem dX6_meldOf_29 : decode cX6_meldOf 29 = .ok (.getfield 40, 3) := by decide +kernel
theorem dX6_meldOf_32 : decode cX6_meldOf 32 = .ok (.iload_n 2, 1) := by decide +kernel
theorem dX6_meldOf_33 : decode cX6_meldOf 33 = .ok (.invokevirtual 256, 3) := by decide +kernel
theorem dX6_meldOf_36 : decode cX6_meldOf 36 = .ok (.ireturn, 1) := by decide +kernel
theorem dX6_meld_0 : decode cX6_meld 0 = .ok (.iload_n 1, 1) := by decide +kernel
theorem dX6_meld_1 : decode cX6_meld 1 = .ok (.invokestatic 215, 3) := by decide +kernel
theorem dX6_meld_4 : decode cX6_meld 4 = .ok (.ifCond .eq 16, 3) := by decide +kernel
theorem dX6_meld_7 : decode cX6_meld 7 = .ok (.iload_n 3, 1) := by decide +kernel
theorem dX6_meld_8 : decode cX6_meld 8 = .ok (.iconst 0, 1) := by decide +kernel
theorem dX6_meld_9 : decode cX6_meld 9 = .ok (.iconst 3, 1) := by decide +kernel
theorem dX6_meld_10 : decode cX6_meld 10 = .ok (.invokestatic 150, 3) := by decide +kernel
theorem dX6_meld_13 : decode cX6_meld 13 = .ok (.ifCond .eq 7, 3) := by decide +kernel
theorem dX6_meld_16 : decode cX6_meld 16 = .ok (.iconst 1, 1) := by decide +kernel
theorem dX6_meld_17 : decode cX6_meld 17 = .ok (.goto 4, 3) := by decide +kernel
theorem dX6_meld_20 : decode cX6_meld 20 = .ok (.iconst 0, 1) := by decide +kernel
theorem dX6_meld_21 : decode cX6_meld 21 = .ok (.invokestatic 154, 3) := by decide +kernel
theorem dX6_meld_24 : decode cX6_meld 24 = .ok (.aload_n 0, 1) := by decide +kernel
theorem dX6_meld_25 : decode cX6_meld 25 = .ok (.getfield 40, 3) := by decide +kernel
theorem dX6_meld_28 : decode cX6_meld 28 = .ok (.aload_n 0, 1) := by decide +kernel
theorem dX6_meld_29 : decode cX6_meld 29 = .ok (.getfield 12, 3) := by decide +kernel
theorem dX6_meld_32 : decode cX6_meld 32 = .ok (.iload_n 1, 1) := by decide +kernel
theorem dX6_meld_33 : decode cX6_meld 33 = .ok (.invokevirtual 219, 3) := by decide +kernel
theorem dX6_meld_36 : decode cX6_meld 36 = .ok (.invokevirtual 222, 3) := by decide +kernel
theorem dX6_meld_39 : decode cX6_meld 39 = .ok (.iload_n 2, 1) := by decide +kernel
theorem dX6_meld_40 : decode cX6_meld 40 = .ok (.ifCond .lt 14, 3) := by decide +kernel
theorem dX6_meld_43 : decode cX6_meld 43 = .ok (.iload_n 2, 1) := by decide +kernel
theorem dX6_meld_44 : decode cX6_meld 44 = .ok (.aload_n 0, 1) := by decide +kernel
theorem dX6_meld_45 : decode cX6_meld 45 = .ok (.getfield 40, 3) := by decide +kernel
theorem dX6_meld_48 : decode cX6_meld 48 = .ok (.getfield 235, 3) := by decide +kernel
theorem dX6_meld_51 : decode cX6_meld 51 = .ok (.if_icmp .lt 5, 3) := by decide +kernel
theorem dX6_meld_54 : decode cX6_meld 54 = .ok (.iconst (-1), 1) := by decide +kernel
theorem dX6_meld_55 : decode cX6_meld 55 = .ok (.ireturn, 1) := by decide +kernel
theorem dX6_meld_56 : decode cX6_meld 56 = .ok (.aload_n 0, 1) := by decide +kernel
theorem dX6_meld_57 : decode cX6_meld 57 = .ok (.getfield 40, 3) := by decide +kernel
theorem dX6_meld_60 : decode cX6_meld 60 = .ok (.iload_n 2, 1) := by decide +kernel
theorem dX6_meld_61 : decode cX6_meld 61 = .ok (.invokevirtual 259, 3) := by decide +kernel
theorem dX6_meld_64 : decode cX6_meld 64 = .ok (.lstore 4, 2) := by decide +kernel
theorem dX6_meld_66 : decode cX6_meld 66 = .ok (.lload 4, 2) := by decide +kernel
theorem dX6_meld_68 : decode cX6_meld 68 = .ok (.invokestatic 262, 3) := by decide +kernel
theorem dX6_meld_71 : decode cX6_meld 71 = .ok (.iconst 2, 1) := by decide +kernel
theorem dX6_meld_72 : decode cX6_meld 72 = .ok (.if_icmp .ne 7, 3) := by decide +kernel
theorem dX6_meld_75 : decode cX6_meld 75 = .ok (.iconst 1, 1) := by decide +kernel
theorem dX6_meld_76 : decode cX6_meld 76 = .ok (.goto 4, 3) := by decide +kernel
theorem dX6_meld_79 : decode cX6_meld 79 = .ok (.iconst 0, 1) := by decide +kernel
theorem dX6_meld_80 : decode cX6_meld 80 = .ok (.istore 6, 2) := by decide +kernel
theorem dX6_meld_82 : decode cX6_meld 82 = .ok (.iload_n 3, 1) := by decide +kernel
theorem dX6_meld_83 : decode cX6_meld 83 = .ok (.tableswitch 64 0 2 #[25, 31, 42], 25) := by decide +kernel
theorem dX6_meld_108 : decode cX6_meld 108 = .ok (.lload 4, 2) := by decide +kernel
theorem dX6_meld_110 : decode cX6_meld 110 = .ok (.invokestatic 226, 3) := by decide +kernel
theorem dX6_meld_113 : decode cX6_meld 113 = .ok (.ireturn, 1) := by decide +kernel
theorem dX6_meld_114 : decode cX6_meld 114 = .ok (.iload 6, 2) := by decide +kernel
theorem dX6_meld_116 : decode cX6_meld 116 = .ok (.ifCond .eq 7, 3) := by decide +kernel
theorem dX6_meld_119 : decode cX6_meld 119 = .ok (.iconst 1, 1) := by decide +kernel
theorem dX6_meld_120 : decode cX6_meld 120 = .ok (.goto 4, 3) := by decide +kernel
theorem dX6_meld_123 : decode cX6_meld 123 = .ok (.iconst 0, 1) := by decide +kernel
theorem dX6_meld_124 : decode cX6_meld 124 = .ok (.ireturn, 1) := by decide +kernel
theorem dX6_meld_125 : decode cX6_meld 125 = .ok (.iload 6, 2) := by decide +kernel
theorem dX6_meld_127 : decode cX6_meld 127 = .ok (.ifCond .eq 11, 3) := by decide +kernel
theorem dX6_meld_130 : decode cX6_meld 130 = .ok (.lload 4, 2) := by decide +kernel
theorem dX6_meld_132 : decode cX6_meld 132 = .ok (.invokestatic 265, 3) := by decide +kernel
theorem dX6_meld_135 : decode cX6_meld 135 = .ok (.goto 11, 3) := by decide +kernel
theorem dX6_meld_138 : decode cX6_meld 138 = .ok (.lload 4, 2) := by decide +kernel
theorem dX6_meld_140 : decode cX6_meld 140 = .ok (.invokestatic 250, 3) := by decide +kernel
theorem dX6_meld_143 : decode cX6_meld 143 = .ok (.bipush 13, 2) := by decide +kernel
theorem dX6_meld_145 : decode cX6_meld 145 = .ok (.irem, 1) := by decide +kernel
theorem dX6_meld_146 : decode cX6_meld 146 = .ok (.ireturn, 1) := by decide +kernel
theorem dX6_meld_147 : decode cX6_meld 147 = .ok (.lload 4, 2) := by decide +kernel
theorem dX6_meld_149 : decode cX6_meld 149 = .ok (.invokestatic 244, 3) := by decide +kernel
theorem dX6_meld_152 : decode cX6_meld 152 = .ok (.ireturn, 1) := by decide +kernel
theorem dX6_restWithout_0 : decode cX6_restWithout 0 = .ok (.aload_n 0, 1) := by decide +kernel
theorem dX6_restWithout_1 : decode cX6_restWithout 1 = .ok (.aload_n 0, 1) := by decide +kernel
theorem dX6_restWithout_2 : decode cX6_restWithout 2 = .ok (.getfield 12, 3) := by decide +kernel
theorem dX6_restWithout_5 : decode cX6_restWithout 5 = .ok (.getfield 99, 3) := by decide +kernel
theorem dX6_restWithout_8 : decode cX6_restWithout 8 = .ok (.iload_n 1, 1) := by decide +kernel
theorem dX6_restWithout_9 : decode cX6_restWithout 9 = .ok (.invokevirtual 102, 3) := by decide +kernel
theorem dX6_restWithout_12 : decode cX6_restWithout 12 = .ok (.aload_n 0, 1) := by decide +kernel
theorem dX6_restWithout_13 : decode cX6_restWithout 13 = .ok (.getfield 40, 3) := by decide +kernel
theorem dX6_restWithout_16 : decode cX6_restWithout 16 = .ok (.aload_n 0, 1) := by decide +kernel
theorem dX6_restWithout_17 : decode cX6_restWithout 17 = .ok (.getfield 12, 3) := by decide +kernel
theorem dX6_restWithout_20 : decode cX6_restWithout 20 = .ok (.iload_n 1, 1) := by decide +kernel
theorem dX6_restWithout_21 : decode cX6_restWithout 21 = .ok (.invokevirtual 116, 3) := by decide +kernel
theorem dX6_restWithout_24 : decode cX6_restWithout 24 = .ok (.invokevirtual 222, 3) := by decide +kernel
theorem dX6_restWithout_27 : decode cX6_restWithout 27 = .ok (.aload_n 0, 1) := by decide +kernel
theorem dX6_restWithout_28 : decode cX6_restWithout 28 = .ok (.getfield 40, 3) := by decide +kernel
theorem dX6_restWithout_31 : decode cX6_restWithout 31 = .ok (.getfield 232, 3) := by decide +kernel
theorem dX6_restWithout_34 : decode cX6_restWithout 34 = .ok (.ireturn, 1) := by decide +kernel
theorem dX6_bestDrop_0 : decode cX6_bestDrop 0 = .ok (.aload_n 0, 1) := by decide +kernel
theorem dX6_bestDrop_1 : decode cX6_bestDrop 1 = .ok (.getfield 12, 3) := by decide +kernel
theorem dX6_bestDrop_4 : decode cX6_bestDrop 4 = .ok (.invokevirtual 268, 3) := by decide +kernel
theorem dX6_bestDrop_7 : decode cX6_bestDrop 7 = .ok (.ifCond .ne 5, 3) := by decide +kernel
theorem dX6_bestDrop_10 : decode cX6_bestDrop 10 = .ok (.iconst (-1), 1) := by decide +kernel
theorem dX6_bestDrop_11 : decode cX6_bestDrop 11 = .ok (.ireturn, 1) := by decide +kernel
theorem dX6_bestDrop_12 : decode cX6_bestDrop 12 = .ok (.iconst (-1), 1) := by decide +kernel
theorem dX6_bestDrop_13 : decode cX6_bestDrop 13 = .ok (.istore_n 1, 1) := by decide +kernel
theorem dX6_bestDrop_14 : decode cX6_bestDrop 14 = .ok (.iconst 0, 1) := by decide +kernel
theorem dX6_bestDrop_15 : decode cX6_bestDrop 15 = .ok (.istore_n 2, 1) := by decide +kernel
theorem dX6_bestDrop_16 : decode cX6_bestDrop 16 = .ok (.iconst 0, 1) := by decide +kernel
theorem dX6_bestDrop_17 : decode cX6_bestDrop 17 = .ok (.istore_n 3, 1) := by decide +kernel
theorem dX6_bestDrop_18 : decode cX6_bestDrop 18 = .ok (.iload_n 3, 1) := by decide +kernel
theorem dX6_bestDrop_19 : decode cX6_bestDrop 19 = .ok (.bipush 52, 2) := by decide +kernel
theorem dX6_bestDrop_21 : decode cX6_bestDrop 21 = .ok (.if_icmp .ge 119, 3) := by decide +kernel
theorem dX6_bestDrop_24 : decode cX6_bestDrop 24 = .ok (.aload_n 0, 1) := by decide +kernel
theorem dX6_bestDrop_25 : decode cX6_bestDrop 25 = .ok (.getfield 12, 3) := by decide +kernel
theorem dX6_bestDrop_28 : decode cX6_bestDrop 28 = .ok (.aload_n 0, 1) := by decide +kernel
theorem dX6_bestDrop_29 : decode cX6_bestDrop 29 = .ok (.getfield 12, 3) := by decide +kernel
theorem dX6_bestDrop_32 : decode cX6_bestDrop 32 = .ok (.getfield 99, 3) := by decide +kernel
theorem dX6_bestDrop_35 : decode cX6_bestDrop 35 = .ok (.invokevirtual 219, 3) := by decide +kernel
theorem dX6_bestDrop_38 : decode cX6_bestDrop 38 = .ok (.iload_n 3, 1) := by decide +kernel
theorem dX6_bestDrop_39 : decode cX6_bestDrop 39 = .ok (.invokestatic 271, 3) := by decide +kernel
theorem dX6_bestDrop_42 : decode cX6_bestDrop 42 = .ok (.ifCond .eq 92, 3) := by decide +kernel
theorem dX6_bestDrop_45 : decode cX6_bestDrop 45 = .ok (.iload_n 3, 1) := by decide +kernel
theorem dX6_bestDrop_46 : decode cX6_bestDrop 46 = .ok (.aload_n 0, 1) := by decide +kernel
theorem dX6_bestDrop_47 : decode cX6_bestDrop 47 = .ok (.getfield 12, 3) := by decide +kernel
theorem dX6_bestDrop_50 : decode cX6_bestDrop 50 = .ok (.getfield 275, 3) := by decide +kernel
theorem dX6_bestDrop_53 : decode cX6_bestDrop 53 = .ok (.if_icmp .ne 6, 3) := by decide +kernel
theorem dX6_bestDrop_56 : decode cX6_bestDrop 56 = .ok (.goto 78, 3) := by decide +kernel
theorem dX6_bestDrop_59 : decode cX6_bestDrop 59 = .ok (.aload_n 0, 1) := by decide +kernel
theorem dX6_bestDrop_60 : decode cX6_bestDrop 60 = .ok (.getfield 40, 3) := by decide +kernel
theorem dX6_bestDrop_63 : decode cX6_bestDrop 63 = .ok (.aload_n 0, 1) := by decide +kernel
theorem dX6_bestDrop_64 : decode cX6_bestDrop 64 = .ok (.getfield 12, 3) := by decide +kernel
theorem dX6_bestDrop_67 : decode cX6_bestDrop 67 = .ok (.iload_n 3, 1) := by decide +kernel
theorem dX6_bestDrop_68 : decode cX6_bestDrop 68 = .ok (.invokevirtual 116, 3) := by decide +kernel
theorem dX6_bestDrop_71 : decode cX6_bestDrop 71 = .ok (.invokevirtual 222, 3) := by decide +kernel
theorem dX6_bestDrop_74 : decode cX6_bestDrop 74 = .ok (.aload_n 0, 1) := by decide +kernel
theorem dX6_bestDrop_75 : decode cX6_bestDrop 75 = .ok (.getfield 40, 3) := by decide +kernel
theorem dX6_bestDrop_78 : decode cX6_bestDrop 78 = .ok (.getfield 232, 3) := by decide +kernel
theorem dX6_bestDrop_81 : decode cX6_bestDrop 81 = .ok (.iload_n 2, 1) := by decide +kernel
theorem dX6_bestDrop_82 : decode cX6_bestDrop 82 = .ok (.if_icmp .lt 25, 3) := by decide +kernel
theorem dX6_bestDrop_85 : decode cX6_bestDrop 85 = .ok (.aload_n 0, 1) := by decide +kernel
theorem dX6_bestDrop_86 : decode cX6_bestDrop 86 = .ok (.getfield 40, 3) := by decide +kernel
theorem dX6_bestDrop_89 : decode cX6_bestDrop 89 = .ok (.getfield 232, 3) := by decide +kernel
theorem dX6_bestDrop_92 : decode cX6_bestDrop 92 = .ok (.iload_n 2, 1) := by decide +kernel
theorem dX6_bestDrop_93 : decode cX6_bestDrop 93 = .ok (.if_icmp .ne 18, 3) := by decide +kernel
theorem dX6_bestDrop_96 : decode cX6_bestDrop 96 = .ok (.iload_n 3, 1) := by decide +kernel
theorem dX6_bestDrop_97 : decode cX6_bestDrop 97 = .ok (.invokestatic 278, 3) := by decide +kernel
theorem dX6_bestDrop_100 : decode cX6_bestDrop 100 = .ok (.iload_n 1, 1) := by decide +kernel
theorem dX6_bestDrop_101 : decode cX6_bestDrop 101 = .ok (.invokestatic 278, 3) := by decide +kernel
theorem dX6_bestDrop_104 : decode cX6_bestDrop 104 = .ok (.if_icmp .le 7, 3) := by decide +kernel
theorem dX6_bestDrop_107 : decode cX6_bestDrop 107 = .ok (.iconst 1, 1) := by decide +kernel
theorem dX6_bestDrop_108 : decode cX6_bestDrop 108 = .ok (.goto 4, 3) := by decide +kernel
theorem dX6_bestDrop_111 : decode cX6_bestDrop 111 = .ok (.iconst 0, 1) := by decide +kernel
theorem dX6_bestDrop_112 : decode cX6_bestDrop 112 = .ok (.istore 4, 2) := by decide +kernel
theorem dX6_bestDrop_114 : decode cX6_bestDrop 114 = .ok (.iload_n 1, 1) := by decide +kernel
theorem dX6_bestDrop_115 : decode cX6_bestDrop 115 = .ok (.iconst (-1), 1) := by decide +kernel
theorem dX6_bestDrop_116 : decode cX6_bestDrop 116 = .ok (.if_icmp .eq 8, 3) := by decide +kernel
theorem dX6_bestDrop_119 : decode cX6_bestDrop 119 = .ok (.iload 4, 2) := by decide +kernel
theorem dX6_bestDrop_121 : decode cX6_bestDrop 121 = .ok (.ifCond .eq 13, 3) := by decide +kernel
theorem dX6_bestDrop_124 : decode cX6_bestDrop 124 = .ok (.iload_n 3, 1) := by decide +kernel
theorem dX6_bestDrop_125 : decode cX6_bestDrop 125 = .ok (.istore_n 1, 1) := by decide +kernel
theorem dX6_bestDrop_126 : decode cX6_bestDrop 126 = .ok (.aload_n 0, 1) := by decide +kernel
theorem dX6_bestDrop_127 : decode cX6_bestDrop 127 = .ok (.getfield 40, 3) := by decide +kernel
theorem dX6_bestDrop_130 : decode cX6_bestDrop 130 = .ok (.getfield 232, 3) := by decide +kernel
theorem dX6_bestDrop_133 : decode cX6_bestDrop 133 = .ok (.istore_n 2, 1) := by decide +kernel
theorem dX6_bestDrop_134 : decode cX6_bestDrop 134 = .ok (.iinc 3 1, 3) := by decide +kernel
theorem dX6_bestDrop_137 : decode cX6_bestDrop 137 = .ok (.goto (-119), 3) := by decide +kernel
theorem dX6_bestDrop_140 : decode cX6_bestDrop 140 = .ok (.iload_n 1, 1) := by decide +kernel
theorem dX6_bestDrop_141 : decode cX6_bestDrop 141 = .ok (.ireturn, 1) := by decide +kernel
theorem dX6_needed_0 : decode cX6_needed 0 = .ok (.aload_n 0, 1) := by decide +kernel
theorem dX6_needed_1 : decode cX6_needed 1 = .ok (.getfield 12, 3) := by decide +kernel
theorem dX6_needed_4 : decode cX6_needed 4 = .ok (.invokevirtual 268, 3) := by decide +kernel
theorem dX6_needed_7 : decode cX6_needed 7 = .ok (.ifCond .eq 34, 3) := by decide +kernel
theorem dX6_needed_10 : decode cX6_needed 10 = .ok (.aload_n 0, 1) := by decide +kernel
theorem dX6_needed_11 : decode cX6_needed 11 = .ok (.getfield 40, 3) := by decide +kernel
theorem dX6_needed_14 : decode cX6_needed 14 = .ok (.aload_n 0, 1) := by decide +kernel
theorem dX6_needed_15 : decode cX6_needed 15 = .ok (.getfield 12, 3) := by decide +kernel
theorem dX6_needed_18 : decode cX6_needed 18 = .ok (.aload_n 0, 1) := by decide +kernel
theorem dX6_needed_19 : decode cX6_needed 19 = .ok (.getfield 12, 3) := by decide +kernel
theorem dX6_needed_22 : decode cX6_needed 22 = .ok (.getfield 99, 3) := by decide +kernel
theorem dX6_needed_25 : decode cX6_needed 25 = .ok (.invokevirtual 219, 3) := by decide +kernel
theorem dX6_needed_28 : decode cX6_needed 28 = .ok (.aload_n 0, 1) := by decide +kernel
theorem dX6_needed_29 : decode cX6_needed 29 = .ok (.getfield 12, 3) := by decide +kernel
theorem dX6_needed_32 : decode cX6_needed 32 = .ok (.getfield 275, 3) := by decide +kernel
theorem dX6_needed_35 : decode cX6_needed 35 = .ok (.invokevirtual 284, 3) := by decide +kernel
theorem dX6_needed_38 : decode cX6_needed 38 = .ok (.goto 4, 3) := by decide +kernel
theorem dX6_needed_41 : decode cX6_needed 41 = .ok (.iconst (-1), 1) := by decide +kernel
theorem dX6_needed_42 : decode cX6_needed 42 = .ok (.ireturn, 1) := by decide +kernel
theorem dX6_kind_0 : decode cX6_kind 0 = .ok (.lload_n 1, 1) := by decide +kernel
theorem dX6_kind_1 : decode cX6_kind 1 = .ok (.lconst 0, 1) := by decide +kernel
theorem dX6_kind_2 : decode cX6_kind 2 = .ok (.lcmp, 1) := by decide +kernel
theorem dX6_kind_3 : decode cX6_kind 3 = .ok (.ifCond .lt 15, 3) := by decide +kernel
theorem dX6_kind_6 : decode cX6_kind 6 = .ok (.lload_n 1, 1) := by decide +kernel
theorem dX6_kind_7 : decode cX6_kind 7 = .ok (.ldc2_w 294, 3) := by decide +kernel
theorem dX6_kind_10 : decode cX6_kind 10 = .ok (.lcmp, 1) := by decide +kernel
theorem dX6_kind_11 : decode cX6_kind 11 = .ok (.ifCond .gt 7, 3) := by decide +kernel
theorem dX6_kind_14 : decode cX6_kind 14 = .ok (.iconst 1, 1) := by decide +kernel
theorem dX6_kind_15 : decode cX6_kind 15 = .ok (.goto 4, 3) := by decide +kernel
theorem dX6_kind_18 : decode cX6_kind 18 = .ok (.iconst 0, 1) := by decide +kernel
theorem dX6_kind_19 : decode cX6_kind 19 = .ok (.invokestatic 154, 3) := by decide +kernel
theorem dX6_kind_22 : decode cX6_kind 22 = .ok (.lload_n 1, 1) := by decide +kernel
theorem dX6_kind_23 : decode cX6_kind 23 = .ok (.invokestatic 262, 3) := by decide +kernel
theorem dX6_kind_26 : decode cX6_kind 26 = .ok (.ireturn, 1) := by decide +kernel
theorem dX6_gap_0 : decode cX6_gap 0 = .ok (.aload_n 0, 1) := by decide +kernel
theorem dX6_gap_1 : decode cX6_gap 1 = .ok (.getfield 12, 3) := by decide +kernel
theorem dX6_gap_4 : decode cX6_gap 4 = .ok (.iconst 0, 1) := by decide +kernel
theorem dX6_gap_5 : decode cX6_gap 5 = .ok (.invokevirtual 219, 3) := by decide +kernel
theorem dX6_gap_8 : decode cX6_gap 8 = .ok (.invokestatic 226, 3) := by decide +kernel
theorem dX6_gap_11 : decode cX6_gap 11 = .ok (.aload_n 0, 1) := by decide +kernel
theorem dX6_gap_12 : decode cX6_gap 12 = .ok (.getfield 12, 3) := by decide +kernel
theorem dX6_gap_15 : decode cX6_gap 15 = .ok (.iconst 1, 1) := by decide +kernel
theorem dX6_gap_16 : decode cX6_gap 16 = .ok (.invokevirtual 219, 3) := by decide +kernel
theorem dX6_gap_19 : decode cX6_gap 19 = .ok (.invokestatic 226, 3) := by decide +kernel
theorem dX6_gap_22 : decode cX6_gap 22 = .ok (.iadd, 1) := by decide +kernel
theorem dX6_gap_23 : decode cX6_gap 23 = .ok (.istore_n 1, 1) := by decide +kernel
theorem dX6_gap_24 : decode cX6_gap 24 = .ok (.bipush 52, 2) := by decide +kernel
theorem dX6_gap_26 : decode cX6_gap 26 = .ok (.iload_n 1, 1) := by decide +kernel
theorem dX6_gap_27 : decode cX6_gap 27 = .ok (.isub, 1) := by decide +kernel
theorem dX6_gap_28 : decode cX6_gap 28 = .ok (.aload_n 0, 1) := by decide +kernel
theorem dX6_gap_29 : decode cX6_gap 29 = .ok (.getfield 12, 3) := by decide +kernel
theorem dX6_gap_32 : decode cX6_gap 32 = .ok (.invokevirtual 113, 3) := by decide +kernel
theorem dX6_gap_35 : decode cX6_gap 35 = .ok (.isub, 1) := by decide +kernel
theorem dX6_gap_36 : decode cX6_gap 36 = .ok (.aload_n 0, 1) := by decide +kernel
theorem dX6_gap_37 : decode cX6_gap 37 = .ok (.getfield 12, 3) := by decide +kernel
theorem dX6_gap_40 : decode cX6_gap 40 = .ok (.getfield 196, 3) := by decide +kernel
theorem dX6_gap_43 : decode cX6_gap 43 = .ok (.isub, 1) := by decide +kernel
theorem dX6_gap_44 : decode cX6_gap 44 = .ok (.invokestatic 296, 3) := by decide +kernel
theorem dX6_gap_47 : decode cX6_gap 47 = .ok (.istore_n 2, 1) := by decide +kernel
theorem dX6_gap_48 : decode cX6_gap 48 = .ok (.iconst 0, 1) := by decide +kernel
theorem dX6_gap_49 : decode cX6_gap 49 = .ok (.istore_n 3, 1) := by decide +kernel
theorem dX6_gap_50 : decode cX6_gap 50 = .ok (.iload_n 3, 1) := by decide +kernel
theorem dX6_gap_51 : decode cX6_gap 51 = .ok (.iconst 2, 1) := by decide +kernel
theorem dX6_gap_52 : decode cX6_gap 52 = .ok (.if_icmp .ge 68, 3) := by decide +kernel
theorem dX6_gap_55 : decode cX6_gap 55 = .ok (.aload_n 0, 1) := by decide +kernel
theorem dX6_gap_56 : decode cX6_gap 56 = .ok (.getfield 40, 3) := by decide +kernel
theorem dX6_gap_59 : decode cX6_gap 59 = .ok (.aload_n 0, 1) := by decide +kernel
theorem dX6_gap_60 : decode cX6_gap 60 = .ok (.getfield 12, 3) := by decide +kernel
theorem dX6_gap_63 : decode cX6_gap 63 = .ok (.iload_n 3, 1) := by decide +kernel
theorem dX6_gap_64 : decode cX6_gap 64 = .ok (.invokevirtual 219, 3) := by decide +kernel
theorem dX6_gap_67 : decode cX6_gap 67 = .ok (.invokevirtual 222, 3) := by decide +kernel
theorem dX6_gap_70 : decode cX6_gap 70 = .ok (.iload_n 2, 1) := by decide +kernel
theorem dX6_gap_71 : decode cX6_gap 71 = .ok (.aload_n 0, 1) := by decide +kernel
theorem dX6_gap_72 : decode cX6_gap 72 = .ok (.getfield 40, 3) := by decide +kernel
theorem dX6_gap_75 : decode cX6_gap 75 = .ok (.invokevirtual 301, 3) := by decide +kernel
theorem dX6_gap_78 : decode cX6_gap 78 = .ok (.aload_n 0, 1) := by decide +kernel
theorem dX6_gap_79 : decode cX6_gap 79 = .ok (.getfield 40, 3) := by decide +kernel
theorem dX6_gap_82 : decode cX6_gap 82 = .ok (.getfield 232, 3) := by decide +kernel
theorem dX6_gap_85 : decode cX6_gap 85 = .ok (.iadd, 1) := by decide +kernel
theorem dX6_gap_86 : decode cX6_gap 86 = .ok (.aload_n 0, 1) := by decide +kernel
theorem dX6_gap_87 : decode cX6_gap 87 = .ok (.getfield 12, 3) := by decide +kernel
theorem dX6_gap_90 : decode cX6_gap 90 = .ok (.iload_n 3, 1) := by decide +kernel
theorem dX6_gap_91 : decode cX6_gap 91 = .ok (.invokevirtual 219, 3) := by decide +kernel
theorem dX6_gap_94 : decode cX6_gap 94 = .ok (.invokestatic 244, 3) := by decide +kernel
theorem dX6_gap_97 : decode cX6_gap 97 = .ok (.isub, 1) := by decide +kernel
theorem dX6_gap_98 : decode cX6_gap 98 = .ok (.invokestatic 296, 3) := by decide +kernel
theorem dX6_gap_101 : decode cX6_gap 101 = .ok (.iadd, 1) := by decide +kernel
theorem dX6_gap_102 : decode cX6_gap 102 = .ok (.istore_n 2, 1) := by decide +kernel
theorem dX6_gap_103 : decode cX6_gap 103 = .ok (.iload_n 2, 1) := by decide +kernel
theorem dX6_gap_104 : decode cX6_gap 104 = .ok (.aload_n 0, 1) := by decide +kernel
theorem dX6_gap_105 : decode cX6_gap 105 = .ok (.getfield 40, 3) := by decide +kernel
theorem dX6_gap_108 : decode cX6_gap 108 = .ok (.iconst 0, 1) := by decide +kernel
theorem dX6_gap_109 : decode cX6_gap 109 = .ok (.invokevirtual 241, 3) := by decide +kernel
theorem dX6_gap_112 : decode cX6_gap 112 = .ok (.iadd, 1) := by decide +kernel
theorem dX6_gap_113 : decode cX6_gap 113 = .ok (.istore_n 2, 1) := by decide +kernel
theorem dX6_gap_114 : decode cX6_gap 114 = .ok (.iinc 3 1, 3) := by decide +kernel
theorem dX6_gap_117 : decode cX6_gap 117 = .ok (.goto (-67), 3) := by decide +kernel
theorem dX6_gap_120 : decode cX6_gap 120 = .ok (.iload_n 2, 1) := by decide +kernel
theorem dX6_gap_121 : decode cX6_gap 121 = .ok (.ireturn, 1) := by decide +kernel
theorem dX6_require_0 : decode cX6_require 0 = .ok (.iload_n 0, 1) := by decide +kernel
theorem dX6_require_1 : decode cX6_require 1 = .ok (.ifCond .ne 14, 3) := by decide +kernel
theorem dX6_require_4 : decode cX6_require 4 = .ok (.new 313, 3) := by decide +kernel
theorem dX6_require_7 : decode cX6_require 7 = .ok (.dup, 1) := by decide +kernel
theorem dX6_require_8 : decode cX6_require 8 = .ok (.ldc_w 315, 3) := by decide +kernel
theorem dX6_require_11 : decode cX6_require 11 = .ok (.invokespecial 317, 3) := by decide +kernel
theorem dX6_require_14 : decode cX6_require 14 = .ok (.athrow, 1) := by decide +kernel
theorem dX6_require_15 : decode cX6_require 15 = .ok (.return_, 1) := by decide +kernel
theorem dX6_requireHeld_0 : decode cX6_requireHeld 0 = .ok (.aload_n 0, 1) := by decide +kernel
theorem dX6_requireHeld_1 : decode cX6_requireHeld 1 = .ok (.getfield 12, 3) := by decide +kernel
theorem dX6_requireHeld_4 : decode cX6_requireHeld 4 = .ok (.iload_n 1, 1) := by decide +kernel
theorem dX6_requireHeld_5 : decode cX6_requireHeld 5 = .ok (.invokevirtual 219, 3) := by decide +kernel
theorem dX6_requireHeld_8 : decode cX6_requireHeld 8 = .ok (.iload_n 2, 1) := by decide +kernel
theorem dX6_requireHeld_9 : decode cX6_requireHeld 9 = .ok (.invokestatic 271, 3) := by decide +kernel
theorem dX6_requireHeld_12 : decode cX6_requireHeld 12 = .ok (.ifCond .ne 14, 3) := by decide +kernel
theorem dX6_requireHeld_15 : decode cX6_requireHeld 15 = .ok (.new 318, 3) := by decide +kernel
theorem dX6_requireHeld_18 : decode cX6_requireHeld 18 = .ok (.dup, 1) := by decide +kernel
theorem dX6_requireHeld_19 : decode cX6_requireHeld 19 = .ok (.ldc_w 320, 3) := by decide +kernel
theorem dX6_requireHeld_22 : decode cX6_requireHeld 22 = .ok (.invokespecial 322, 3) := by decide +kernel
theorem dX6_requireHeld_25 : decode cX6_requireHeld 25 = .ok (.athrow, 1) := by decide +kernel
theorem dX6_requireHeld_26 : decode cX6_requireHeld 26 = .ok (.return_, 1) := by decide +kernel
theorem dX6_isPlayer_0 : decode cX6_isPlayer 0 = .ok (.iload_n 0, 1) := by decide +kernel
theorem dX6_isPlayer_1 : decode cX6_isPlayer 1 = .ok (.ifCond .lt 12, 3) := by decide +kernel
theorem dX6_isPlayer_4 : decode cX6_isPlayer 4 = .ok (.iload_n 0, 1) := by decide +kernel
theorem dX6_isPlayer_5 : decode cX6_isPlayer 5 = .ok (.iconst 2, 1) := by decide +kernel
theorem dX6_isPlayer_6 : decode cX6_isPlayer 6 = .ok (.if_icmp .ge 7, 3) := by decide +kernel
theorem dX6_isPlayer_9 : decode cX6_isPlayer 9 = .ok (.iconst 1, 1) := by decide +kernel
theorem dX6_isPlayer_10 : decode cX6_isPlayer 10 = .ok (.goto 4, 3) := by decide +kernel
theorem dX6_isPlayer_13 : decode cX6_isPlayer 13 = .ok (.iconst 0, 1) := by decide +kernel
theorem dX6_isPlayer_14 : decode cX6_isPlayer 14 = .ok (.ireturn, 1) := by decide +kernel
theorem dX6_isWithin_0 : decode cX6_isWithin 0 = .ok (.iload_n 0, 1) := by decide +kernel
theorem dX6_isWithin_1 : decode cX6_isWithin 1 = .ok (.iload_n 1, 1) := by decide +kernel
theorem dX6_isWithin_2 : decode cX6_isWithin 2 = .ok (.if_icmp .lt 12, 3) := by decide +kernel
theorem dX6_isWithin_5 : decode cX6_isWithin 5 = .ok (.iload_n 0, 1) := by decide +kernel
theorem dX6_isWithin_6 : decode cX6_isWithin 6 = .ok (.iload_n 2, 1) := by decide +kernel
theorem dX6_isWithin_7 : decode cX6_isWithin 7 = .ok (.if_icmp .gt 7, 3) := by decide +kernel
theorem dX6_isWithin_10 : decode cX6_isWithin 10 = .ok (.iconst 1, 1) := by decide +kernel
theorem dX6_isWithin_11 : decode cX6_isWithin 11 = .ok (.goto 4, 3) := by decide +kernel
theorem dX6_isWithin_14 : decode cX6_isWithin 14 = .ok (.iconst 0, 1) := by decide +kernel
theorem dX6_isWithin_15 : decode cX6_isWithin 15 = .ok (.ireturn, 1) := by decide +kernel
theorem dX6_bitOf_0 : decode cX6_bitOf 0 = .ok (.iload_n 0, 1) := by decide +kernel
theorem dX6_bitOf_1 : decode cX6_bitOf 1 = .ok (.ifCond .lt 15, 3) := by decide +kernel
theorem dX6_bitOf_4 : decode cX6_bitOf 4 = .ok (.iload_n 0, 1) := by decide +kernel
theorem dX6_bitOf_5 : decode cX6_bitOf 5 = .ok (.bipush 52, 2) := by decide +kernel
theorem dX6_bitOf_7 : decode cX6_bitOf 7 = .ok (.if_icmp .ge 9, 3) := by decide +kernel
theorem dX6_bitOf_10 : decode cX6_bitOf 10 = .ok (.lconst 1, 1) := by decide +kernel
theorem dX6_bitOf_11 : decode cX6_bitOf 11 = .ok (.iload_n 0, 1) := by decide +kernel
theorem dX6_bitOf_12 : decode cX6_bitOf 12 = .ok (.lshl, 1) := by decide +kernel
theorem dX6_bitOf_13 : decode cX6_bitOf 13 = .ok (.goto 4, 3) := by decide +kernel
theorem dX6_bitOf_16 : decode cX6_bitOf 16 = .ok (.lconst 0, 1) := by decide +kernel
theorem dX6_bitOf_17 : decode cX6_bitOf 17 = .ok (.lreturn, 1) := by decide +kernel
theorem dX6_has_0 : decode cX6_has 0 = .ok (.lload_n 0, 1) := by decide +kernel
theorem dX6_has_1 : decode cX6_has 1 = .ok (.iload_n 2, 1) := by decide +kernel
theorem dX6_has_2 : decode cX6_has 2 = .ok (.invokestatic 281, 3) := by decide +kernel
theorem dX6_has_5 : decode cX6_has 5 = .ok (.land, 1) := by decide +kernel
theorem dX6_has_6 : decode cX6_has 6 = .ok (.lconst 0, 1) := by decide +kernel
theorem dX6_has_7 : decode cX6_has 7 = .ok (.lcmp, 1) := by decide +kernel
theorem dX6_has_8 : decode cX6_has 8 = .ok (.ifCond .eq 7, 3) := by decide +kernel
theorem dX6_has_11 : decode cX6_has 11 = .ok (.iconst 1, 1) := by decide +kernel
theorem dX6_has_12 : decode cX6_has 12 = .ok (.goto 4, 3) := by decide +kernel
theorem dX6_has_15 : decode cX6_has 15 = .ok (.iconst 0, 1) := by decide +kernel
theorem dX6_has_16 : decode cX6_has 16 = .ok (.ireturn, 1) := by decide +kernel
theorem dX6_lowestOf_0 : decode cX6_lowestOf 0 = .ok (.lload_n 0, 1) := by decide +kernel
theorem dX6_lowestOf_1 : decode cX6_lowestOf 1 = .ok (.lload_n 0, 1) := by decide +kernel
theorem dX6_lowestOf_2 : decode cX6_lowestOf 2 = .ok (.lneg, 1) := by decide +kernel
theorem dX6_lowestOf_3 : decode cX6_lowestOf 3 = .ok (.land, 1) := by decide +kernel
theorem dX6_lowestOf_4 : decode cX6_lowestOf 4 = .ok (.lconst 1, 1) := by decide +kernel
theorem dX6_lowestOf_5 : decode cX6_lowestOf 5 = .ok (.lsub, 1) := by decide +kernel
theorem dX6_lowestOf_6 : decode cX6_lowestOf 6 = .ok (.invokestatic 226, 3) := by decide +kernel
theorem dX6_lowestOf_9 : decode cX6_lowestOf 9 = .ok (.ireturn, 1) := by decide +kernel
theorem dX6_pointsFor_0 : decode cX6_pointsFor 0 = .ok (.iload_n 0, 1) := by decide +kernel
theorem dX6_pointsFor_1 : decode cX6_pointsFor 1 = .ok (.bipush 13, 2) := by decide +kernel
theorem dX6_pointsFor_3 : decode cX6_pointsFor 3 = .ok (.irem, 1) := by decide +kernel
theorem dX6_pointsFor_4 : decode cX6_pointsFor 4 = .ok (.iconst 1, 1) := by decide +kernel
theorem dX6_pointsFor_5 : decode cX6_pointsFor 5 = .ok (.iadd, 1) := by decide +kernel
theorem dX6_pointsFor_6 : decode cX6_pointsFor 6 = .ok (.bipush 10, 2) := by decide +kernel
theorem dX6_pointsFor_8 : decode cX6_pointsFor 8 = .ok (.invokestatic 323, 3) := by decide +kernel
theorem dX6_pointsFor_11 : decode cX6_pointsFor 11 = .ok (.ireturn, 1) := by decide +kernel
theorem dX6_pointsOf_0 : decode cX6_pointsOf 0 = .ok (.iconst 0, 1) := by decide +kernel
theorem dX6_pointsOf_1 : decode cX6_pointsOf 1 = .ok (.istore_n 2, 1) := by decide +kernel
theorem dX6_pointsOf_2 : decode cX6_pointsOf 2 = .ok (.lload_n 0, 1) := by decide +kernel
theorem dX6_pointsOf_3 : decode cX6_pointsOf 3 = .ok (.lstore_n 3, 1) := by decide +kernel
theorem dX6_pointsOf_4 : decode cX6_pointsOf 4 = .ok (.iconst 0, 1) := by decide +kernel
theorem dX6_pointsOf_5 : decode cX6_pointsOf 5 = .ok (.istore 5, 2) := by decide +kernel
theorem dX6_pointsOf_7 : decode cX6_pointsOf 7 = .ok (.iload 5, 2) := by decide +kernel
theorem dX6_pointsOf_9 : decode cX6_pointsOf 9 = .ok (.bipush 52, 2) := by decide +kernel
theorem dX6_pointsOf_11 : decode cX6_pointsOf 11 = .ok (.if_icmp .ge 31, 3) := by decide +kernel
theorem dX6_pointsOf_14 : decode cX6_pointsOf 14 = .ok (.lload_n 3, 1) := by decide +kernel
theorem dX6_pointsOf_15 : decode cX6_pointsOf 15 = .ok (.lconst 0, 1) := by decide +kernel
theorem dX6_pointsOf_16 : decode cX6_pointsOf 16 = .ok (.lcmp, 1) := by decide +kernel
theorem dX6_pointsOf_17 : decode cX6_pointsOf 17 = .ok (.ifCond .eq 25, 3) := by decide +kernel
theorem dX6_pointsOf_20 : decode cX6_pointsOf 20 = .ok (.iload_n 2, 1) := by decide +kernel
theorem dX6_pointsOf_21 : decode cX6_pointsOf 21 = .ok (.lload_n 3, 1) := by decide +kernel
theorem dX6_pointsOf_22 : decode cX6_pointsOf 22 = .ok (.invokestatic 250, 3) := by decide +kernel
theorem dX6_pointsOf_25 : decode cX6_pointsOf 25 = .ok (.invokestatic 278, 3) := by decide +kernel
theorem dX6_pointsOf_28 : decode cX6_pointsOf 28 = .ok (.iadd, 1) := by decide +kernel
theorem dX6_pointsOf_29 : decode cX6_pointsOf 29 = .ok (.istore_n 2, 1) := by decide +kernel
theorem dX6_pointsOf_30 : decode cX6_pointsOf 30 = .ok (.lload_n 3, 1) := by decide +kernel
theorem dX6_pointsOf_31 : decode cX6_pointsOf 31 = .ok (.lload_n 3, 1) := by decide +kernel
theorem dX6_pointsOf_32 : decode cX6_pointsOf 32 = .ok (.lconst 1, 1) := by decide +kernel
theorem dX6_pointsOf_33 : decode cX6_pointsOf 33 = .ok (.lsub, 1) := by decide +kernel
theorem dX6_pointsOf_34 : decode cX6_pointsOf 34 = .ok (.land, 1) := by decide +kernel
theorem dX6_pointsOf_35 : decode cX6_pointsOf 35 = .ok (.lstore_n 3, 1) := by decide +kernel
theorem dX6_pointsOf_36 : decode cX6_pointsOf 36 = .ok (.iinc 5 1, 3) := by decide +kernel
theorem dX6_pointsOf_39 : decode cX6_pointsOf 39 = .ok (.goto (-32), 3) := by decide +kernel
theorem dX6_pointsOf_42 : decode cX6_pointsOf 42 = .ok (.iload_n 2, 1) := by decide +kernel
theorem dX6_pointsOf_43 : decode cX6_pointsOf 43 = .ok (.ireturn, 1) := by decide +kernel
theorem dX6_kindOf_0 : decode cX6_kindOf 0 = .ok (.lload_n 0, 1) := by decide +kernel
theorem dX6_kindOf_1 : decode cX6_kindOf 1 = .ok (.invokestatic 226, 3) := by decide +kernel
theorem dX6_kindOf_4 : decode cX6_kindOf 4 = .ok (.iconst 3, 1) := by decide +kernel
theorem dX6_kindOf_5 : decode cX6_kindOf 5 = .ok (.if_icmp .ge 5, 3) := by decide +kernel
theorem dX6_kindOf_8 : decode cX6_kindOf 8 = .ok (.iconst 0, 1) := by decide +kernel
theorem dX6_kindOf_9 : decode cX6_kindOf 9 = .ok (.ireturn, 1) := by decide +kernel
theorem dX6_kindOf_10 : decode cX6_kindOf 10 = .ok (.lload_n 0, 1) := by decide +kernel
theorem dX6_kindOf_11 : decode cX6_kindOf 11 = .ok (.invokestatic 250, 3) := by decide +kernel
theorem dX6_kindOf_14 : decode cX6_kindOf 14 = .ok (.istore_n 2, 1) := by decide +kernel
theorem dX6_kindOf_15 : decode cX6_kindOf 15 = .ok (.lload_n 0, 1) := by decide +kernel
theorem dX6_kindOf_16 : decode cX6_kindOf 16 = .ok (.ldc2_w 326, 3) := by decide +kernel
theorem dX6_kindOf_19 : decode cX6_kindOf 19 = .ok (.iload_n 2, 1) := by decide +kernel
theorem dX6_kindOf_20 : decode cX6_kindOf 20 = .ok (.bipush 13, 2) := by decide +kernel
theorem dX6_kindOf_22 : decode cX6_kindOf 22 = .ok (.irem, 1) := by decide +kernel
theorem dX6_kindOf_23 : decode cX6_kindOf 23 = .ok (.lshl, 1) := by decide +kernel
theorem dX6_kindOf_24 : decode cX6_kindOf 24 = .ok (.ldc2_w 328, 3) := by decide +kernel
theorem dX6_kindOf_27 : decode cX6_kindOf 27 = .ok (.lxor, 1) := by decide +kernel
theorem dX6_kindOf_28 : decode cX6_kindOf 28 = .ok (.land, 1) := by decide +kernel
theorem dX6_kindOf_29 : decode cX6_kindOf 29 = .ok (.lconst 0, 1) := by decide +kernel
theorem dX6_kindOf_30 : decode cX6_kindOf 30 = .ok (.lcmp, 1) := by decide +kernel
theorem dX6_kindOf_31 : decode cX6_kindOf 31 = .ok (.ifCond .ne 5, 3) := by decide +kernel
theorem dX6_kindOf_34 : decode cX6_kindOf 34 = .ok (.iconst 1, 1) := by decide +kernel
theorem dX6_kindOf_35 : decode cX6_kindOf 35 = .ok (.ireturn, 1) := by decide +kernel
theorem dX6_kindOf_36 : decode cX6_kindOf 36 = .ok (.iload_n 2, 1) := by decide +kernel
theorem dX6_kindOf_37 : decode cX6_kindOf 37 = .ok (.bipush 13, 2) := by decide +kernel
theorem dX6_kindOf_39 : decode cX6_kindOf 39 = .ok (.idiv, 1) := by decide +kernel
theorem dX6_kindOf_40 : decode cX6_kindOf 40 = .ok (.bipush 13, 2) := by decide +kernel
theorem dX6_kindOf_42 : decode cX6_kindOf 42 = .ok (.imul, 1) := by decide +kernel
theorem dX6_kindOf_43 : decode cX6_kindOf 43 = .ok (.istore_n 3, 1) := by decide +kernel
theorem dX6_kindOf_44 : decode cX6_kindOf 44 = .ok (.lload_n 0, 1) := by decide +kernel
theorem dX6_kindOf_45 : decode cX6_kindOf 45 = .ok (.ldc2_w 330, 3) := by decide +kernel
theorem dX6_kindOf_48 : decode cX6_kindOf 48 = .ok (.iload_n 3, 1) := by decide +kernel
theorem dX6_kindOf_49 : decode cX6_kindOf 49 = .ok (.lshl, 1) := by decide +kernel
theorem dX6_kindOf_50 : decode cX6_kindOf 50 = .ok (.ldc2_w 328, 3) := by decide +kernel
theorem dX6_kindOf_53 : decode cX6_kindOf 53 = .ok (.lxor, 1) := by decide +kernel
theorem dX6_kindOf_54 : decode cX6_kindOf 54 = .ok (.land, 1) := by decide +kernel
theorem dX6_kindOf_55 : decode cX6_kindOf 55 = .ok (.lconst 0, 1) := by decide +kernel
theorem dX6_kindOf_56 : decode cX6_kindOf 56 = .ok (.lcmp, 1) := by decide +kernel
theorem dX6_kindOf_57 : decode cX6_kindOf 57 = .ok (.ifCond .eq 5, 3) := by decide +kernel
theorem dX6_kindOf_60 : decode cX6_kindOf 60 = .ok (.iconst 0, 1) := by decide +kernel
theorem dX6_kindOf_61 : decode cX6_kindOf 61 = .ok (.ireturn, 1) := by decide +kernel
theorem dX6_kindOf_62 : decode cX6_kindOf 62 = .ok (.lload_n 0, 1) := by decide +kernel
theorem dX6_kindOf_63 : decode cX6_kindOf 63 = .ok (.iload_n 3, 1) := by decide +kernel
theorem dX6_kindOf_64 : decode cX6_kindOf 64 = .ok (.lushr, 1) := by decide +kernel
theorem dX6_kindOf_65 : decode cX6_kindOf 65 = .ok (.invokestatic 332, 3) := by decide +kernel
theorem dX6_kindOf_68 : decode cX6_kindOf 68 = .ok (.invokestatic 226, 3) := by decide +kernel
theorem dX6_kindOf_71 : decode cX6_kindOf 71 = .ok (.iconst 1, 1) := by decide +kernel
theorem dX6_kindOf_72 : decode cX6_kindOf 72 = .ok (.if_icmp .gt 7, 3) := by decide +kernel
theorem dX6_kindOf_75 : decode cX6_kindOf 75 = .ok (.iconst 2, 1) := by decide +kernel
theorem dX6_kindOf_76 : decode cX6_kindOf 76 = .ok (.goto 4, 3) := by decide +kernel
theorem dX6_kindOf_79 : decode cX6_kindOf 79 = .ok (.iconst 0, 1) := by decide +kernel
theorem dX6_kindOf_80 : decode cX6_kindOf 80 = .ok (.ireturn, 1) := by decide +kernel
theorem dX6_beginningsOf_0 : decode cX6_beginningsOf 0 = .ok (.lload_n 0, 1) := by decide +kernel
theorem dX6_beginningsOf_1 : decode cX6_beginningsOf 1 = .ok (.iconst 1, 1) := by decide +kernel
theorem dX6_beginningsOf_2 : decode cX6_beginningsOf 2 = .ok (.lshl, 1) := by decide +kernel
theorem dX6_beginningsOf_3 : decode cX6_beginningsOf 3 = .ok (.lload_n 0, 1) := by decide +kernel
theorem dX6_beginningsOf_4 : decode cX6_beginningsOf 4 = .ok (.bipush 12, 2) := by decide +kernel
theorem dX6_beginningsOf_6 : decode cX6_beginningsOf 6 = .ok (.lushr, 1) := by decide +kernel
theorem dX6_beginningsOf_7 : decode cX6_beginningsOf 7 = .ok (.lor, 1) := by decide +kernel
theorem dX6_beginningsOf_8 : decode cX6_beginningsOf 8 = .ok (.ldc2_w 330, 3) := by decide +kernel
theorem dX6_beginningsOf_11 : decode cX6_beginningsOf 11 = .ok (.land, 1) := by decide +kernel
theorem dX6_beginningsOf_12 : decode cX6_beginningsOf 12 = .ok (.lstore_n 2, 1) := by decide +kernel
theorem dX6_beginningsOf_13 : decode cX6_beginningsOf 13 = .ok (.lload_n 0, 1) := by decide +kernel
theorem dX6_beginningsOf_14 : decode cX6_beginningsOf 14 = .ok (.lload_n 2, 1) := by decide +kernel
theorem dX6_beginningsOf_15 : decode cX6_beginningsOf 15 = .ok (.ldc2_w 328, 3) := by decide +kernel
theorem dX6_beginningsOf_18 : decode cX6_beginningsOf 18 = .ok (.lxor, 1) := by decide +kernel
theorem dX6_beginningsOf_19 : decode cX6_beginningsOf 19 = .ok (.land, 1) := by decide +kernel
theorem dX6_beginningsOf_20 : decode cX6_beginningsOf 20 = .ok (.lreturn, 1) := by decide +kernel
theorem dX6_firstOf_0 : decode cX6_firstOf 0 = .ok (.lload_n 0, 1) := by decide +kernel
theorem dX6_firstOf_1 : decode cX6_firstOf 1 = .ok (.invokestatic 250, 3) := by decide +kernel
theorem dX6_firstOf_4 : decode cX6_firstOf 4 = .ok (.bipush 13, 2) := by decide +kernel
theorem dX6_firstOf_6 : decode cX6_firstOf 6 = .ok (.idiv, 1) := by decide +kernel
theorem dX6_firstOf_7 : decode cX6_firstOf 7 = .ok (.bipush 13, 2) := by decide +kernel
theorem dX6_firstOf_9 : decode cX6_firstOf 9 = .ok (.imul, 1) := by decide +kernel
theorem dX6_firstOf_10 : decode cX6_firstOf 10 = .ok (.istore_n 2, 1) := by decide +kernel
theorem dX6_firstOf_11 : decode cX6_firstOf 11 = .ok (.lload_n 0, 1) := by decide +kernel
theorem dX6_firstOf_12 : decode cX6_firstOf 12 = .ok (.iload_n 2, 1) := by decide +kernel
theorem dX6_firstOf_13 : decode cX6_firstOf 13 = .ok (.lushr, 1) := by decide +kernel
theorem dX6_firstOf_14 : decode cX6_firstOf 14 = .ok (.ldc2_w 330, 3) := by decide +kernel
theorem dX6_firstOf_17 : decode cX6_firstOf 17 = .ok (.land, 1) := by decide +kernel
theorem dX6_firstOf_18 : decode cX6_firstOf 18 = .ok (.invokestatic 332, 3) := by decide +kernel
theorem dX6_firstOf_21 : decode cX6_firstOf 21 = .ok (.lstore_n 3, 1) := by decide +kernel
theorem dX6_firstOf_22 : decode cX6_firstOf 22 = .ok (.lload_n 3, 1) := by decide +kernel
theorem dX6_firstOf_23 : decode cX6_firstOf 23 = .ok (.lconst 0, 1) := by decide +kernel
theorem dX6_firstOf_24 : decode cX6_firstOf 24 = .ok (.lcmp, 1) := by decide +kernel
theorem dX6_firstOf_25 : decode cX6_firstOf 25 = .ok (.ifCond .ne 7, 3) := by decide +kernel
theorem dX6_firstOf_28 : decode cX6_firstOf 28 = .ok (.iload_n 2, 1) := by decide +kernel
theorem dX6_firstOf_29 : decode cX6_firstOf 29 = .ok (.goto 9, 3) := by decide +kernel
theorem dX6_firstOf_32 : decode cX6_firstOf 32 = .ok (.iload_n 2, 1) := by decide +kernel
theorem dX6_firstOf_33 : decode cX6_firstOf 33 = .ok (.lload_n 3, 1) := by decide +kernel
theorem dX6_firstOf_34 : decode cX6_firstOf 34 = .ok (.invokestatic 250, 3) := by decide +kernel
theorem dX6_firstOf_37 : decode cX6_firstOf 37 = .ok (.iadd, 1) := by decide +kernel
theorem dX6_firstOf_38 : decode cX6_firstOf 38 = .ok (.ireturn, 1) := by decide +kernel
theorem dL_cell_0 : decode cL_cell 0 = .ok (.iload_n 1, 1) := by decide +kernel
theorem dL_cell_1 : decode cL_cell 1 = .ok (.aload_n 0, 1) := by decide +kernel
theorem dL_cell_2 : decode cL_cell 2 = .ok (.arraylength, 1) := by decide +kernel
theorem dL_cell_3 : decode cL_cell 3 = .ok (.if_icmp .ge 9, 3) := by decide +kernel
theorem dL_cell_6 : decode cL_cell 6 = .ok (.aload_n 0, 1) := by decide +kernel
theorem dL_cell_7 : decode cL_cell 7 = .ok (.iload_n 1, 1) := by decide +kernel
theorem dL_cell_8 : decode cL_cell 8 = .ok (.iaload, 1) := by decide +kernel
theorem dL_cell_9 : decode cL_cell 9 = .ok (.goto 4, 3) := by decide +kernel
theorem dL_cell_12 : decode cL_cell 12 = .ok (.iconst 0, 1) := by decide +kernel
theorem dL_cell_13 : decode cL_cell 13 = .ok (.ireturn, 1) := by decide +kernel
theorem dL_of_0 : decode cL_of 0 = .ok (.iload_n 2, 1) := by decide +kernel
theorem dL_of_1 : decode cL_of 1 = .ok (.aload_n 0, 1) := by decide +kernel
theorem dL_of_2 : decode cL_of 2 = .ok (.iload_n 1, 1) := by decide +kernel
theorem dL_of_3 : decode cL_of 3 = .ok (.invokestatic 7, 3) := by decide +kernel
theorem dL_of_6 : decode cL_of 6 = .ok (.iload_n 3, 1) := by decide +kernel
theorem dL_of_7 : decode cL_of 7 = .ok (.invokestatic 13, 3) := by decide +kernel
theorem dL_of_10 : decode cL_of 10 = .ok (.iadd, 1) := by decide +kernel
theorem dL_of_11 : decode cL_of 11 = .ok (.ireturn, 1) := by decide +kernel
theorem dL_drop_0 : decode cL_drop 0 = .ok (.aload_n 0, 1) := by decide +kernel
theorem dL_drop_1 : decode cL_drop 1 = .ok (.iload_n 1, 1) := by decide +kernel
theorem dL_drop_2 : decode cL_drop 2 = .ok (.invokevirtual 19, 3) := by decide +kernel
theorem dL_drop_5 : decode cL_drop 5 = .ok (.ireturn, 1) := by decide +kernel
theorem dL_drop_6 : decode cL_drop 6 = .ok (.astore_n 2, 1) := by decide +kernel
theorem dL_drop_7 : decode cL_drop 7 = .ok (.sipush (-7777), 3) := by decide +kernel
theorem dL_drop_10 : decode cL_drop 10 = .ok (.ireturn, 1) := by decide +kernel
theorem dL_knock_0 : decode cL_knock 0 = .ok (.aload_n 0, 1) := by decide +kernel
theorem dL_knock_1 : decode cL_knock 1 = .ok (.iload_n 1, 1) := by decide +kernel
theorem dL_knock_2 : decode cL_knock 2 = .ok (.invokevirtual 27, 3) := by decide +kernel
theorem dL_knock_5 : decode cL_knock 5 = .ok (.ireturn, 1) := by decide +kernel
theorem dL_knock_6 : decode cL_knock 6 = .ok (.astore_n 2, 1) := by decide +kernel
theorem dL_knock_7 : decode cL_knock 7 = .ok (.sipush (-7777), 3) := by decide +kernel
theorem dL_knock_10 : decode cL_knock 10 = .ok (.ireturn, 1) := by decide +kernel
theorem dL_set_0 : decode cL_set 0 = .ok (.aload_n 0, 1) := by decide +kernel
theorem dL_set_1 : decode cL_set 1 = .ok (.iload_n 1, 1) := by decide +kernel
theorem dL_set_2 : decode cL_set 2 = .ok (.iload_n 2, 1) := by decide +kernel
theorem dL_set_3 : decode cL_set 3 = .ok (.invokevirtual 30, 3) := by decide +kernel
theorem dL_set_6 : decode cL_set 6 = .ok (.ireturn, 1) := by decide +kernel
theorem dL_set_7 : decode cL_set 7 = .ok (.astore_n 3, 1) := by decide +kernel
theorem dL_set_8 : decode cL_set 8 = .ok (.sipush (-7777), 3) := by decide +kernel
theorem dL_set_11 : decode cL_set 11 = .ok (.ireturn, 1) := by decide +kernel
theorem dL_match_0 : decode cL_match 0 = .ok (.aload_n 0, 1) := by decide +kernel
theorem dL_match_1 : decode cL_match 1 = .ok (.iload_n 1, 1) := by decide +kernel
theorem dL_match_2 : decode cL_match 2 = .ok (.invokevirtual 36, 3) := by decide +kernel
theorem dL_match_5 : decode cL_match 5 = .ok (.ireturn, 1) := by decide +kernel
theorem dL_match_6 : decode cL_match 6 = .ok (.astore_n 2, 1) := by decide +kernel
theorem dL_match_7 : decode cL_match 7 = .ok (.sipush (-7777), 3) := by decide +kernel
theorem dL_match_10 : decode cL_match 10 = .ok (.ireturn, 1) := by decide +kernel
theorem dL_player_0 : decode cL_player 0 = .ok (.aload_n 0, 1) := by decide +kernel
theorem dL_player_1 : decode cL_player 1 = .ok (.iload_n 1, 1) := by decide +kernel
theorem dL_player_2 : decode cL_player 2 = .ok (.iload_n 2, 1) := by decide +kernel
theorem dL_player_3 : decode cL_player 3 = .ok (.invokevirtual 39, 3) := by decide +kernel
theorem dL_player_6 : decode cL_player 6 = .ok (.ireturn, 1) := by decide +kernel
theorem dL_player_7 : decode cL_player 7 = .ok (.astore_n 3, 1) := by decide +kernel
theorem dL_player_8 : decode cL_player 8 = .ok (.sipush (-7777), 3) := by decide +kernel
theorem dL_player_11 : decode cL_player 11 = .ok (.ireturn, 1) := by decide +kernel
theorem dL_card_0 : decode cL_card 0 = .ok (.aload_n 0, 1) := by decide +kernel
theorem dL_card_1 : decode cL_card 1 = .ok (.iload_n 1, 1) := by decide +kernel
theorem dL_card_2 : decode cL_card 2 = .ok (.iload_n 2, 1) := by decide +kernel
theorem dL_card_3 : decode cL_card 3 = .ok (.invokevirtual 42, 3) := by decide +kernel
theorem dL_card_6 : decode cL_card 6 = .ok (.ireturn, 1) := by decide +kernel
theorem dL_card_7 : decode cL_card 7 = .ok (.astore_n 3, 1) := by decide +kernel
theorem dL_card_8 : decode cL_card 8 = .ok (.sipush (-7777), 3) := by decide +kernel
theorem dL_card_11 : decode cL_card 11 = .ok (.ireturn, 1) := by decide +kernel
theorem dL_where_0 : decode cL_where 0 = .ok (.aload_n 0, 1) := by decide +kernel
theorem dL_where_1 : decode cL_where 1 = .ok (.iload_n 1, 1) := by decide +kernel
theorem dL_where_2 : decode cL_where 2 = .ok (.invokevirtual 45, 3) := by decide +kernel
theorem dL_where_5 : decode cL_where 5 = .ok (.ireturn, 1) := by decide +kernel
theorem dL_where_6 : decode cL_where 6 = .ok (.astore_n 2, 1) := by decide +kernel
theorem dL_where_7 : decode cL_where 7 = .ok (.sipush (-7777), 3) := by decide +kernel
theorem dL_where_10 : decode cL_where 10 = .ok (.ireturn, 1) := by decide +kernel
theorem dL_meldOf_0 : decode cL_meldOf 0 = .ok (.aload_n 0, 1) := by decide +kernel
theorem dL_meldOf_1 : decode cL_meldOf 1 = .ok (.iload_n 1, 1) := by decide +kernel
theorem dL_meldOf_2 : decode cL_meldOf 2 = .ok (.iload_n 2, 1) := by decide +kernel
theorem dL_meldOf_3 : decode cL_meldOf 3 = .ok (.invokevirtual 48, 3) := by decide +kernel
theorem dL_meldOf_6 : decode cL_meldOf 6 = .ok (.ireturn, 1) := by decide +kernel
theorem dL_meldOf_7 : decode cL_meldOf 7 = .ok (.astore_n 3, 1) := by decide +kernel
theorem dL_meldOf_8 : decode cL_meldOf 8 = .ok (.sipush (-7777), 3) := by decide +kernel
theorem dL_meldOf_11 : decode cL_meldOf 11 = .ok (.ireturn, 1) := by decide +kernel
theorem dL_meldOf_12 : decode cL_meldOf 12 = .ok (.astore_n 3, 1) := by decide +kernel
theorem dL_meldOf_13 : decode cL_meldOf 13 = .ok (.sipush (-7777), 3) := by decide +kernel
theorem dL_meldOf_16 : decode cL_meldOf 16 = .ok (.ireturn, 1) := by decide +kernel
theorem dL_meld_0 : decode cL_meld 0 = .ok (.aload_n 0, 1) := by decide +kernel
theorem dL_meld_1 : decode cL_meld 1 = .ok (.iload_n 1, 1) := by decide +kernel
theorem dL_meld_2 : decode cL_meld 2 = .ok (.iload_n 2, 1) := by decide +kernel
theorem dL_meld_3 : decode cL_meld 3 = .ok (.iload_n 3, 1) := by decide +kernel
theorem dL_meld_4 : decode cL_meld 4 = .ok (.invokevirtual 51, 3) := by decide +kernel
theorem dL_meld_7 : decode cL_meld 7 = .ok (.ireturn, 1) := by decide +kernel
theorem dL_meld_8 : decode cL_meld 8 = .ok (.astore 4, 2) := by decide +kernel
theorem dL_meld_10 : decode cL_meld 10 = .ok (.sipush (-7777), 3) := by decide +kernel
theorem dL_meld_13 : decode cL_meld 13 = .ok (.ireturn, 1) := by decide +kernel
theorem dL_restWithout_0 : decode cL_restWithout 0 = .ok (.aload_n 0, 1) := by decide +kernel
theorem dL_restWithout_1 : decode cL_restWithout 1 = .ok (.iload_n 1, 1) := by decide +kernel
theorem dL_restWithout_2 : decode cL_restWithout 2 = .ok (.invokevirtual 55, 3) := by decide +kernel
theorem dL_restWithout_5 : decode cL_restWithout 5 = .ok (.ireturn, 1) := by decide +kernel
theorem dL_restWithout_6 : decode cL_restWithout 6 = .ok (.astore_n 2, 1) := by decide +kernel
theorem dL_restWithout_7 : decode cL_restWithout 7 = .ok (.sipush (-7777), 3) := by decide +kernel
theorem dL_restWithout_10 : decode cL_restWithout 10 = .ok (.ireturn, 1) := by decide +kernel
theorem dL_kind_0 : decode cL_kind 0 = .ok (.aload_n 0, 1) := by decide +kernel
theorem dL_kind_1 : decode cL_kind 1 = .ok (.lload_n 1, 1) := by decide +kernel
theorem dL_kind_2 : decode cL_kind 2 = .ok (.invokevirtual 58, 3) := by decide +kernel
theorem dL_kind_5 : decode cL_kind 5 = .ok (.ireturn, 1) := by decide +kernel
theorem dL_kind_6 : decode cL_kind 6 = .ok (.astore_n 3, 1) := by decide +kernel
theorem dL_kind_7 : decode cL_kind 7 = .ok (.sipush (-7777), 3) := by decide +kernel
theorem dL_kind_10 : decode cL_kind 10 = .ok (.ireturn, 1) := by decide +kernel
theorem dL_began_0 : decode cL_began 0 = .ok (.new 62, 3) := by decide +kernel
theorem dL_began_3 : decode cL_began 3 = .ok (.dup, 1) := by decide +kernel
theorem dL_began_4 : decode cL_began 4 = .ok (.invokespecial 64, 3) := by decide +kernel
theorem dL_began_7 : decode cL_began 7 = .ok (.ldc 65, 2) := by decide +kernel
theorem dL_began_9 : decode cL_began 9 = .ok (.invokevirtual 67, 3) := by decide +kernel
theorem dL_began_12 : decode cL_began 12 = .ok (.aload_n 1, 1) := by decide +kernel
theorem dL_began_13 : decode cL_began 13 = .ok (.iconst 0, 1) := by decide +kernel
theorem dL_began_14 : decode cL_began 14 = .ok (.iconst 0, 1) := by decide +kernel
theorem dL_began_15 : decode cL_began 15 = .ok (.ldc 71, 2) := by decide +kernel
theorem dL_began_17 : decode cL_began 17 = .ok (.invokestatic 72, 3) := by decide +kernel
theorem dL_began_20 : decode cL_began 20 = .ok (.invokevirtual 76, 3) := by decide +kernel
theorem dL_began_23 : decode cL_began 23 = .ok (.ldc 79, 2) := by decide +kernel
theorem dL_began_25 : decode cL_began 25 = .ok (.invokevirtual 67, 3) := by decide +kernel
theorem dL_began_28 : decode cL_began 28 = .ok (.aload_n 1, 1) := by decide +kernel
theorem dL_began_29 : decode cL_began 29 = .ok (.iconst 1, 1) := by decide +kernel
theorem dL_began_30 : decode cL_began 30 = .ok (.bipush 7, 2) := by decide +kernel
theorem dL_began_32 : decode cL_began 32 = .ok (.iconst 4, 1) := by decide +kernel
theorem dL_began_33 : decode cL_began 33 = .ok (.invokestatic 72, 3) := by decide +kernel
theorem dL_began_36 : decode cL_began 36 = .ok (.invokevirtual 76, 3) := by decide +kernel
theorem dL_began_39 : decode cL_began 39 = .ok (.ldc 79, 2) := by decide +kernel
theorem dL_began_41 : decode cL_began 41 = .ok (.invokevirtual 67, 3) := by decide +kernel
theorem dL_began_44 : decode cL_began 44 = .ok (.aload_n 1, 1) := by decide +kernel
theorem dL_began_45 : decode cL_began 45 = .ok (.iconst 2, 1) := by decide +kernel
theorem dL_began_46 : decode cL_began 46 = .ok (.iconst 0, 1) := by decide +kernel
theorem dL_began_47 : decode cL_began 47 = .ok (.bipush 21, 2) := by decide +kernel
theorem dL_began_49 : decode cL_began 49 = .ok (.invokestatic 72, 3) := by decide +kernel
theorem dL_began_52 : decode cL_began 52 = .ok (.invokevirtual 76, 3) := by decide +kernel
theorem dL_began_55 : decode cL_began 55 = .ok (.ldc 79, 2) := by decide +kernel
theorem dL_began_57 : decode cL_began 57 = .ok (.invokevirtual 67, 3) := by decide +kernel
theorem dL_began_60 : decode cL_began 60 = .ok (.aload_n 1, 1) := by decide +kernel
theorem dL_began_61 : decode cL_began 61 = .ok (.iconst 3, 1) := by decide +kernel
theorem dL_began_62 : decode cL_began 62 = .ok (.bipush 20, 2) := by decide +kernel
theorem dL_began_64 : decode cL_began 64 = .ok (.sipush 300, 3) := by decide +kernel
theorem dL_began_67 : decode cL_began 67 = .ok (.invokestatic 72, 3) := by decide +kernel
theorem dL_began_70 : decode cL_began 70 = .ok (.invokevirtual 76, 3) := by decide +kernel
theorem dL_began_73 : decode cL_began 73 = .ok (.ldc 81, 2) := by decide +kernel
theorem dL_began_75 : decode cL_began 75 = .ok (.invokevirtual 67, 3) := by decide +kernel
theorem dL_began_78 : decode cL_began 78 = .ok (.invokevirtual 83, 3) := by decide +kernel
theorem dL_began_81 : decode cL_began 81 = .ok (.astore_n 2, 1) := by decide +kernel
theorem dL_began_82 : decode cL_began 82 = .ok (.iconst 0, 1) := by decide +kernel
theorem dL_began_83 : decode cL_began 83 = .ok (.istore_n 3, 1) := by decide +kernel
theorem dL_began_84 : decode cL_began 84 = .ok (.iload_n 3, 1) := by decide +kernel
theorem dL_began_85 : decode cL_began 85 = .ok (.aload_n 2, 1) := by decide +kernel
theorem dL_began_86 : decode cL_began 86 = .ok (.invokevirtual 87, 3) := by decide +kernel
theorem dL_began_89 : decode cL_began 89 = .ok (.if_icmp .ge 104, 3) := by decide +kernel
theorem dL_began_92 : decode cL_began 92 = .ok (.iconst 5, 1) := by decide +kernel
theorem dL_began_93 : decode cL_began 93 = .ok (.newarray .int, 2) := by decide +kernel
theorem dL_began_95 : decode cL_began 95 = .ok (.astore 4, 2) := by decide +kernel
theorem dL_began_97 : decode cL_began 97 = .ok (.iconst 0, 1) := by decide +kernel
theorem dL_began_98 : decode cL_began 98 = .ok (.istore 5, 2) := by decide +kernel
theorem dL_began_100 : decode cL_began 100 = .ok (.iload 5, 2) := by decide +kernel
theorem dL_began_102 : decode cL_began 102 = .ok (.bipush 20, 2) := by decide +kernel
theorem dL_began_104 : decode cL_began 104 = .ok (.if_icmp .ge 58, 3) := by decide +kernel
theorem dL_began_107 : decode cL_began 107 = .ok (.iload_n 3, 1) := by decide +kernel
theorem dL_began_108 : decode cL_began 108 = .ok (.iload 5, 2) := by decide +kernel
theorem dL_began_110 : decode cL_began 110 = .ok (.iadd, 1) := by decide +kernel
theorem dL_began_111 : decode cL_began 111 = .ok (.aload_n 2, 1) := by decide +kernel
theorem dL_began_112 : decode cL_began 112 = .ok (.invokevirtual 87, 3) := by decide +kernel
theorem dL_began_115 : decode cL_began 115 = .ok (.if_icmp .ge 14, 3) := by decide +kernel
theorem dL_began_118 : decode cL_began 118 = .ok (.aload_n 2, 1) := by decide +kernel
theorem dL_began_119 : decode cL_began 119 = .ok (.iload_n 3, 1) := by decide +kernel
theorem dL_began_120 : decode cL_began 120 = .ok (.iload 5, 2) := by decide +kernel
theorem dL_began_122 : decode cL_began 122 = .ok (.iadd, 1) := by decide +kernel
theorem dL_began_123 : decode cL_began 123 = .ok (.invokevirtual 93, 3) := by decide +kernel
theorem dL_began_126 : decode cL_began 126 = .ok (.goto 5, 3) := by decide +kernel
theorem dL_began_129 : decode cL_began 129 = .ok (.bipush 32, 2) := by decide +kernel
theorem dL_began_131 : decode cL_began 131 = .ok (.istore 6, 2) := by decide +kernel
theorem dL_began_133 : decode cL_began 133 = .ok (.aload 4, 2) := by decide +kernel
theorem dL_began_135 : decode cL_began 135 = .ok (.iload 5, 2) := by decide +kernel
theorem dL_began_137 : decode cL_began 137 = .ok (.iconst 4, 1) := by decide +kernel
theorem dL_began_138 : decode cL_began 138 = .ok (.idiv, 1) := by decide +kernel
theorem dL_began_139 : decode cL_began 139 = .ok (.dup2, 1) := by decide +kernel
theorem dL_began_140 : decode cL_began 140 = .ok (.iaload, 1) := by decide +kernel
theorem dL_began_141 : decode cL_began 141 = .ok (.iload 6, 2) := by decide +kernel
theorem dL_began_143 : decode cL_began 143 = .ok (.bipush 24, 2) := by decide +kernel
theorem dL_began_145 : decode cL_began 145 = .ok (.bipush 8, 2) := by decide +kernel
theorem dL_began_147 : decode cL_began 147 = .ok (.iload 5, 2) := by decide +kernel
theorem dL_began_149 : decode cL_began 149 = .ok (.iconst 4, 1) := by decide +kernel
theorem dL_began_150 : decode cL_began 150 = .ok (.irem, 1) := by decide +kernel
theorem dL_began_151 : decode cL_began 151 = .ok (.imul, 1) := by decide +kernel
theorem dL_began_152 : decode cL_began 152 = .ok (.isub, 1) := by decide +kernel
theorem dL_began_153 : decode cL_began 153 = .ok (.ishl, 1) := by decide +kernel
theorem dL_began_154 : decode cL_began 154 = .ok (.ior, 1) := by decide +kernel
theorem dL_began_155 : decode cL_began 155 = .ok (.iastore, 1) := by decide +kernel
theorem dL_began_156 : decode cL_began 156 = .ok (.iinc 5 1, 3) := by decide +kernel
theorem dL_began_159 : decode cL_began 159 = .ok (.goto (-59), 3) := by decide +kernel
theorem dL_began_162 : decode cL_began 162 = .ok (.aload_n 0, 1) := by decide +kernel
theorem dL_began_163 : decode cL_began 163 = .ok (.aload 4, 2) := by decide +kernel
theorem dL_began_165 : decode cL_began 165 = .ok (.iconst 0, 1) := by decide +kernel
theorem dL_began_166 : decode cL_began 166 = .ok (.iaload, 1) := by decide +kernel
theorem dL_began_167 : decode cL_began 167 = .ok (.aload 4, 2) := by decide +kernel
theorem dL_began_169 : decode cL_began 169 = .ok (.iconst 1, 1) := by decide +kernel
theorem dL_began_170 : decode cL_began 170 = .ok (.iaload, 1) := by decide +kernel
theorem dL_began_171 : decode cL_began 171 = .ok (.aload 4, 2) := by decide +kernel
theorem dL_began_173 : decode cL_began 173 = .ok (.iconst 2, 1) := by decide +kernel
theorem dL_began_174 : decode cL_began 174 = .ok (.iaload, 1) := by decide +kernel
theorem dL_began_175 : decode cL_began 175 = .ok (.aload 4, 2) := by decide +kernel
theorem dL_began_177 : decode cL_began 177 = .ok (.iconst 3, 1) := by decide +kernel
theorem dL_began_178 : decode cL_began 178 = .ok (.iaload, 1) := by decide +kernel
theorem dL_began_179 : decode cL_began 179 = .ok (.aload 4, 2) := by decide +kernel
theorem dL_began_181 : decode cL_began 181 = .ok (.iconst 4, 1) := by decide +kernel
theorem dL_began_182 : decode cL_began 182 = .ok (.iaload, 1) := by decide +kernel
theorem dL_began_183 : decode cL_began 183 = .ok (.invokevirtual 97, 3) := by decide +kernel
theorem dL_began_186 : decode cL_began 186 = .ok (.pop, 1) := by decide +kernel
theorem dL_began_187 : decode cL_began 187 = .ok (.iinc 3 20, 3) := by decide +kernel
theorem dL_began_190 : decode cL_began 190 = .ok (.goto (-106), 3) := by decide +kernel
theorem dL_began_193 : decode cL_began 193 = .ok (.aload_n 0, 1) := by decide +kernel
theorem dL_began_194 : decode cL_began 194 = .ok (.invokevirtual 100, 3) := by decide +kernel
theorem dL_began_197 : decode cL_began 197 = .ok (.ireturn, 1) := by decide +kernel
theorem dL_act_0 : decode cL_act 0 = .ok (.aload_n 1, 1) := by decide +kernel
theorem dL_act_1 : decode cL_act 1 = .ok (.iload_n 2, 1) := by decide +kernel
theorem dL_act_2 : decode cL_act 2 = .ok (.iconst 1, 1) := by decide +kernel
theorem dL_act_3 : decode cL_act 3 = .ok (.iadd, 1) := by decide +kernel
theorem dL_act_4 : decode cL_act 4 = .ok (.invokestatic 7, 3) := by decide +kernel
theorem dL_act_7 : decode cL_act 7 = .ok (.ldc 103, 2) := by decide +kernel
theorem dL_act_9 : decode cL_act 9 = .ok (.iand, 1) := by decide +kernel
theorem dL_act_10 : decode cL_act 10 = .ok (.istore_n 3, 1) := by decide +kernel
theorem dL_act_11 : decode cL_act 11 = .ok (.aload_n 0, 1) := by decide +kernel
theorem dL_act_12 : decode cL_act 12 = .ok (.iconst 4, 1) := by decide +kernel
theorem dL_act_13 : decode cL_act 13 = .ok (.invokestatic 104, 3) := by decide +kernel
theorem dL_act_16 : decode cL_act 16 = .ok (.istore 4, 2) := by decide +kernel
theorem dL_act_18 : decode cL_act 18 = .ok (.aload_n 0, 1) := by decide +kernel
theorem dL_act_19 : decode cL_act 19 = .ok (.iload 4, 2) := by decide +kernel
theorem dL_act_21 : decode cL_act 21 = .ok (.iload_n 3, 1) := by decide +kernel
theorem dL_act_22 : decode cL_act 22 = .ok (.aload_n 0, 1) := by decide +kernel
theorem dL_act_23 : decode cL_act 23 = .ok (.iload 4, 2) := by decide +kernel
theorem dL_act_25 : decode cL_act 25 = .ok (.iconst 0, 1) := by decide +kernel
theorem dL_act_26 : decode cL_act 26 = .ok (.invokestatic 107, 3) := by decide +kernel
theorem dL_act_29 : decode cL_act 29 = .ok (.irem, 1) := by decide +kernel
theorem dL_act_30 : decode cL_act 30 = .ok (.invokestatic 110, 3) := by decide +kernel
theorem dL_act_33 : decode cL_act 33 = .ok (.istore 5, 2) := by decide +kernel
theorem dL_act_35 : decode cL_act 35 = .ok (.aload_n 0, 1) := by decide +kernel
theorem dL_act_36 : decode cL_act 36 = .ok (.invokevirtual 112, 3) := by decide +kernel
theorem dL_act_39 : decode cL_act 39 = .ok (.istore 6, 2) := by decide +kernel
theorem dL_act_41 : decode cL_act 41 = .ok (.aload_n 1, 1) := by decide +kernel
theorem dL_act_42 : decode cL_act 42 = .ok (.iload_n 2, 1) := by decide +kernel
theorem dL_act_43 : decode cL_act 43 = .ok (.iconst 0, 1) := by decide +kernel
theorem dL_act_44 : decode cL_act 44 = .ok (.bipush 12, 2) := by decide +kernel
theorem dL_act_46 : decode cL_act 46 = .ok (.invokestatic 72, 3) := by decide +kernel
theorem dL_act_49 : decode cL_act 49 = .ok (.tableswitch 150 0 10 #[59, 59, 59, 59, 78, 78, 78, 105, 115, 115, 142], 59) := by decide +kernel
theorem dL_act_108 : decode cL_act 108 = .ok (.aload_n 0, 1) := by decide +kernel
theorem dL_act_109 : decode cL_act 109 = .ok (.iload_n 3, 1) := by decide +kernel
theorem dL_act_110 : decode cL_act 110 = .ok (.iconst 3, 1) := by decide +kernel
theorem dL_act_111 : decode cL_act 111 = .ok (.irem, 1) := by decide +kernel
theorem dL_act_112 : decode cL_act 112 = .ok (.ifCond .ne 7, 3) := by decide +kernel
theorem dL_act_115 : decode cL_act 115 = .ok (.iconst 1, 1) := by decide +kernel
theorem dL_act_116 : decode cL_act 116 = .ok (.goto 4, 3) := by decide +kernel
theorem dL_act_119 : decode cL_act 119 = .ok (.iconst 0, 1) := by decide +kernel
theorem dL_act_120 : decode cL_act 120 = .ok (.invokevirtual 115, 3) := by decide +kernel
theorem dL_act_123 : decode cL_act 123 = .ok (.pop, 1) := by decide +kernel
theorem dL_act_124 : decode cL_act 124 = .ok (.goto 116, 3) := by decide +kernel
theorem dL_act_127 : decode cL_act 127 = .ok (.aload_n 0, 1) := by decide +kernel
theorem dL_act_128 : decode cL_act 128 = .ok (.iload 6, 2) := by decide +kernel
theorem dL_act_130 : decode cL_act 130 = .ok (.iconst (-1), 1) := by decide +kernel
theorem dL_act_131 : decode cL_act 131 = .ok (.if_icmp .eq 9, 3) := by decide +kernel
theorem dL_act_134 : decode cL_act 134 = .ok (.iload_n 3, 1) := by decide +kernel
theorem dL_act_135 : decode cL_act 135 = .ok (.iconst 4, 1) := by decide +kernel
theorem dL_act_136 : decode cL_act 136 = .ok (.irem, 1) := by decide +kernel
theorem dL_act_137 : decode cL_act 137 = .ok (.ifCond .ne 8, 3) := by decide +kernel
theorem dL_act_140 : decode cL_act 140 = .ok (.iload 5, 2) := by decide +kernel
theorem dL_act_142 : decode cL_act 142 = .ok (.goto 5, 3) := by decide +kernel
theorem dL_act_145 : decode cL_act 145 = .ok (.iload 6, 2) := by decide +kernel
theorem dL_act_147 : decode cL_act 147 = .ok (.invokestatic 119, 3) := by decide +kernel
theorem dL_act_150 : decode cL_act 150 = .ok (.pop, 1) := by decide +kernel
theorem dL_act_151 : decode cL_act 151 = .ok (.goto 89, 3) := by decide +kernel
theorem dL_act_154 : decode cL_act 154 = .ok (.aload_n 0, 1) := by decide +kernel
theorem dL_act_155 : decode cL_act 155 = .ok (.iload 5, 2) := by decide +kernel
theorem dL_act_157 : decode cL_act 157 = .ok (.invokestatic 119, 3) := by decide +kernel
theorem dL_act_160 : decode cL_act 160 = .ok (.pop, 1) := by decide +kernel
theorem dL_act_161 : decode cL_act 161 = .ok (.goto 79, 3) := by decide +kernel
theorem dL_act_164 : decode cL_act 164 = .ok (.aload_n 0, 1) := by decide +kernel
theorem dL_act_165 : decode cL_act 165 = .ok (.iload 6, 2) := by decide +kernel
theorem dL_act_167 : decode cL_act 167 = .ok (.iconst (-1), 1) := by decide +kernel
theorem dL_act_168 : decode cL_act 168 = .ok (.if_icmp .eq 9, 3) := by decide +kernel
theorem dL_act_171 : decode cL_act 171 = .ok (.iload_n 3, 1) := by decide +kernel
theorem dL_act_172 : decode cL_act 172 = .ok (.iconst 4, 1) := by decide +kernel
theorem dL_act_173 : decode cL_act 173 = .ok (.irem, 1) := by decide +kernel
theorem dL_act_174 : decode cL_act 174 = .ok (.ifCond .ne 8, 3) := by decide +kernel
theorem dL_act_177 : decode cL_act 177 = .ok (.iload 5, 2) := by decide +kernel
theorem dL_act_179 : decode cL_act 179 = .ok (.goto 5, 3) := by decide +kernel
theorem dL_act_182 : decode cL_act 182 = .ok (.iload 6, 2) := by decide +kernel
theorem dL_act_184 : decode cL_act 184 = .ok (.invokestatic 121, 3) := by decide +kernel
theorem dL_act_187 : decode cL_act 187 = .ok (.pop, 1) := by decide +kernel
theorem dL_act_188 : decode cL_act 188 = .ok (.goto 52, 3) := by decide +kernel
theorem dL_act_191 : decode cL_act 191 = .ok (.aload_n 0, 1) := by decide +kernel
theorem dL_act_192 : decode cL_act 192 = .ok (.invokevirtual 123, 3) := by decide +kernel
theorem dL_act_195 : decode cL_act 195 = .ok (.pop, 1) := by decide +kernel
theorem dL_act_196 : decode cL_act 196 = .ok (.goto 44, 3) := by decide +kernel
theorem dL_act_199 : decode cL_act 199 = .ok (.aload_n 0, 1) := by decide +kernel
theorem dL_act_200 : decode cL_act 200 = .ok (.iload_n 3, 1) := by decide +kernel
theorem dL_act_201 : decode cL_act 201 = .ok (.iconst 3, 1) := by decide +kernel
theorem dL_act_202 : decode cL_act 202 = .ok (.irem, 1) := by decide +kernel
theorem dL_act_203 : decode cL_act 203 = .ok (.ifCond .ne 7, 3) := by decide +kernel
theorem dL_act_206 : decode cL_act 206 = .ok (.iconst 1, 1) := by decide +kernel
theorem dL_act_207 : decode cL_act 207 = .ok (.goto 4, 3) := by decide +kernel
theorem dL_act_210 : decode cL_act 210 = .ok (.iconst 0, 1) := by decide +kernel
theorem dL_act_211 : decode cL_act 211 = .ok (.iload_n 3, 1) := by decide +kernel
theorem dL_act_212 : decode cL_act 212 = .ok (.iconst 3, 1) := by decide +kernel
theorem dL_act_213 : decode cL_act 213 = .ok (.irem, 1) := by decide +kernel
theorem dL_act_214 : decode cL_act 214 = .ok (.ifCond .ne 16, 3) := by decide +kernel
theorem dL_act_217 : decode cL_act 217 = .ok (.bipush 20, 2) := by decide +kernel
theorem dL_act_219 : decode cL_act 219 = .ok (.iload_n 3, 1) := by decide +kernel
theorem dL_act_220 : decode cL_act 220 = .ok (.iconst 4, 1) := by decide +kernel
theorem dL_act_221 : decode cL_act 221 = .ok (.idiv, 1) := by decide +kernel
theorem dL_act_222 : decode cL_act 222 = .ok (.sipush 481, 3) := by decide +kernel
theorem dL_act_225 : decode cL_act 225 = .ok (.irem, 1) := by decide +kernel
theorem dL_act_226 : decode cL_act 226 = .ok (.iadd, 1) := by decide +kernel
theorem dL_act_227 : decode cL_act 227 = .ok (.goto 9, 3) := by decide +kernel
theorem dL_act_230 : decode cL_act 230 = .ok (.iload_n 3, 1) := by decide +kernel
theorem dL_act_231 : decode cL_act 231 = .ok (.iconst 4, 1) := by decide +kernel
theorem dL_act_232 : decode cL_act 232 = .ok (.idiv, 1) := by decide +kernel
theorem dL_act_233 : decode cL_act 233 = .ok (.bipush 21, 2) := by decide +kernel
theorem dL_act_235 : decode cL_act 235 = .ok (.irem, 1) := by decide +kernel
theorem dL_act_236 : decode cL_act 236 = .ok (.invokestatic 126, 3) := by decide +kernel
theorem dL_act_239 : decode cL_act 239 = .ok (.pop, 1) := by decide +kernel
theorem dL_act_240 : decode cL_act 240 = .ok (.return_, 1) := by decide +kernel
theorem dL_points_0 : decode cL_points 0 = .ok (.bipush 10, 2) := by decide +kernel
theorem dL_points_2 : decode cL_points 2 = .ok (.iload_n 0, 1) := by decide +kernel
theorem dL_points_3 : decode cL_points 3 = .ok (.bipush 13, 2) := by decide +kernel
theorem dL_points_5 : decode cL_points 5 = .ok (.irem, 1) := by decide +kernel
theorem dL_points_6 : decode cL_points 6 = .ok (.iconst 1, 1) := by decide +kernel
theorem dL_points_7 : decode cL_points 7 = .ok (.iadd, 1) := by decide +kernel
theorem dL_points_8 : decode cL_points 8 = .ok (.invokestatic 129, 3) := by decide +kernel
theorem dL_points_11 : decode cL_points 11 = .ok (.ireturn, 1) := by decide +kernel
theorem dL_isLaid_0 : decode cL_isLaid 0 = .ok (.aload_n 0, 1) := by decide +kernel
theorem dL_isLaid_1 : decode cL_isLaid 1 = .ok (.iload_n 1, 1) := by decide +kernel
theorem dL_isLaid_2 : decode cL_isLaid 2 = .ok (.iconst 0, 1) := by decide +kernel
theorem dL_isLaid_3 : decode cL_isLaid 3 = .ok (.invokestatic 107, 3) := by decide +kernel
theorem dL_isLaid_6 : decode cL_isLaid 6 = .ok (.istore_n 2, 1) := by decide +kernel
theorem dL_isLaid_7 : decode cL_isLaid 7 = .ok (.aload_n 0, 1) := by decide +kernel
theorem dL_isLaid_8 : decode cL_isLaid 8 = .ok (.iload_n 1, 1) := by decide +kernel
theorem dL_isLaid_9 : decode cL_isLaid 9 = .ok (.iconst 2, 1) := by decide +kernel
theorem dL_isLaid_10 : decode cL_isLaid 10 = .ok (.invokestatic 107, 3) := by decide +kernel
theorem dL_isLaid_13 : decode cL_isLaid 13 = .ok (.istore_n 3, 1) := by decide +kernel
theorem dL_isLaid_14 : decode cL_isLaid 14 = .ok (.bipush 12, 2) := by decide +kernel
theorem dL_isLaid_16 : decode cL_isLaid 16 = .ok (.newarray .int, 2) := by decide +kernel
theorem dL_isLaid_18 : decode cL_isLaid 18 = .ok (.astore 4, 2) := by decide +kernel
theorem dL_isLaid_20 : decode cL_isLaid 20 = .ok (.bipush 12, 2) := by decide +kernel
theorem dL_isLaid_22 : decode cL_isLaid 22 = .ok (.newarray .long, 2) := by decide +kernel
theorem dL_isLaid_24 : decode cL_isLaid 24 = .ok (.astore 5, 2) := by decide +kernel
theorem dL_isLaid_26 : decode cL_isLaid 26 = .ok (.iconst 0, 1) := by decide +kernel
theorem dL_isLaid_27 : decode cL_isLaid 27 = .ok (.istore 6, 2) := by decide +kernel
theorem dL_isLaid_29 : decode cL_isLaid 29 = .ok (.iconst 0, 1) := by decide +kernel
theorem dL_isLaid_30 : decode cL_isLaid 30 = .ok (.istore 7, 2) := by decide +kernel
theorem dL_isLaid_32 : decode cL_isLaid 32 = .ok (.iconst 0, 1) := by decide +kernel
theorem dL_isLaid_33 : decode cL_isLaid 33 = .ok (.istore 8, 2) := by decide +kernel
theorem dL_isLaid_35 : decode cL_isLaid 35 = .ok (.iconst (-1), 1) := by decide +kernel
theorem dL_isLaid_36 : decode cL_isLaid 36 = .ok (.istore 9, 2) := by decide +kernel
theorem dL_isLaid_38 : decode cL_isLaid 38 = .ok (.iconst 0, 1) := by decide +kernel
theorem dL_isLaid_39 : decode cL_isLaid 39 = .ok (.istore 10, 2) := by decide +kernel
theorem dL_isLaid_41 : decode cL_isLaid 41 = .ok (.iload 10, 2) := by decide +kernel
theorem dL_isLaid_43 : decode cL_isLaid 43 = .ok (.iload_n 2, 1) := by decide +kernel
theorem dL_isLaid_44 : decode cL_isLaid 44 = .ok (.if_icmp .ge 116, 3) := by decide +kernel
theorem dL_isLaid_47 : decode cL_isLaid 47 = .ok (.aload_n 0, 1) := by decide +kernel
theorem dL_isLaid_48 : decode cL_isLaid 48 = .ok (.iload_n 1, 1) := by decide +kernel
theorem dL_isLaid_49 : decode cL_isLaid 49 = .ok (.iload 10, 2) := by decide +kernel
theorem dL_isLaid_51 : decode cL_isLaid 51 = .ok (.invokestatic 110, 3) := by decide +kernel
theorem dL_isLaid_54 : decode cL_isLaid 54 = .ok (.istore 11, 2) := by decide +kernel
theorem dL_isLaid_56 : decode cL_isLaid 56 = .ok (.iload 11, 2) := by decide +kernel
theorem dL_isLaid_58 : decode cL_isLaid 58 = .ok (.iload 9, 2) := by decide +kernel
theorem dL_isLaid_60 : decode cL_isLaid 60 = .ok (.if_icmp .le 13, 3) := by decide +kernel
theorem dL_isLaid_63 : decode cL_isLaid 63 = .ok (.aload_n 0, 1) := by decide +kernel
theorem dL_isLaid_64 : decode cL_isLaid 64 = .ok (.iload 11, 2) := by decide +kernel
theorem dL_isLaid_66 : decode cL_isLaid 66 = .ok (.invokestatic 132, 3) := by decide +kernel
theorem dL_isLaid_69 : decode cL_isLaid 69 = .ok (.iload_n 1, 1) := by decide +kernel
theorem dL_isLaid_70 : decode cL_isLaid 70 = .ok (.if_icmp .eq 5, 3) := by decide +kernel
theorem dL_isLaid_73 : decode cL_isLaid 73 = .ok (.iconst 0, 1) := by decide +kernel
theorem dL_isLaid_74 : decode cL_isLaid 74 = .ok (.ireturn, 1) := by decide +kernel
theorem dL_isLaid_75 : decode cL_isLaid 75 = .ok (.iload 11, 2) := by decide +kernel
theorem dL_isLaid_77 : decode cL_isLaid 77 = .ok (.istore 9, 2) := by decide +kernel
theorem dL_isLaid_79 : decode cL_isLaid 79 = .ok (.iload 8, 2) := by decide +kernel
theorem dL_isLaid_81 : decode cL_isLaid 81 = .ok (.iload 11, 2) := by decide +kernel
theorem dL_isLaid_83 : decode cL_isLaid 83 = .ok (.invokestatic 134, 3) := by decide +kernel
theorem dL_isLaid_86 : decode cL_isLaid 86 = .ok (.iadd, 1) := by decide +kernel
theorem dL_isLaid_87 : decode cL_isLaid 87 = .ok (.istore 8, 2) := by decide +kernel
theorem dL_isLaid_89 : decode cL_isLaid 89 = .ok (.aload_n 0, 1) := by decide +kernel
theorem dL_isLaid_90 : decode cL_isLaid 90 = .ok (.iload_n 1, 1) := by decide +kernel
theorem dL_isLaid_91 : decode cL_isLaid 91 = .ok (.iload 11, 2) := by decide +kernel
theorem dL_isLaid_93 : decode cL_isLaid 93 = .ok (.invokestatic 137, 3) := by decide +kernel
theorem dL_isLaid_96 : decode cL_isLaid 96 = .ok (.istore 12, 2) := by decide +kernel
theorem dL_isLaid_98 : decode cL_isLaid 98 = .ok (.iload 12, 2) := by decide +kernel
theorem dL_isLaid_100 : decode cL_isLaid 100 = .ok (.iconst (-1), 1) := by decide +kernel
theorem dL_isLaid_101 : decode cL_isLaid 101 = .ok (.if_icmp .ne 19, 3) := by decide +kernel
theorem dL_isLaid_104 : decode cL_isLaid 104 = .ok (.iinc 6 1, 3) := by decide +kernel
theorem dL_isLaid_107 : decode cL_isLaid 107 = .ok (.iload 7, 2) := by decide +kernel
theorem dL_isLaid_109 : decode cL_isLaid 109 = .ok (.iload 11, 2) := by decide +kernel
theorem dL_isLaid_111 : decode cL_isLaid 111 = .ok (.invokestatic 134, 3) := by decide +kernel
theorem dL_isLaid_114 : decode cL_isLaid 114 = .ok (.iadd, 1) := by decide +kernel
theorem dL_isLaid_115 : decode cL_isLaid 115 = .ok (.istore 7, 2) := by decide +kernel
theorem dL_isLaid_117 : decode cL_isLaid 117 = .ok (.goto 37, 3) := by decide +kernel
theorem dL_isLaid_120 : decode cL_isLaid 120 = .ok (.iload 12, 2) := by decide +kernel
theorem dL_isLaid_122 : decode cL_isLaid 122 = .ok (.ifCond .lt 9, 3) := by decide +kernel
theorem dL_isLaid_125 : decode cL_isLaid 125 = .ok (.iload 12, 2) := by decide +kernel
theorem dL_isLaid_127 : decode cL_isLaid 127 = .ok (.iload_n 3, 1) := by decide +kernel
theorem dL_isLaid_128 : decode cL_isLaid 128 = .ok (.if_icmp .lt 5, 3) := by decide +kernel
theorem dL_isLaid_131 : decode cL_isLaid 131 = .ok (.iconst 0, 1) := by decide +kernel
theorem dL_isLaid_132 : decode cL_isLaid 132 = .ok (.ireturn, 1) := by decide +kernel
theorem dL_isLaid_133 : decode cL_isLaid 133 = .ok (.aload 4, 2) := by decide +kernel
theorem dL_isLaid_135 : decode cL_isLaid 135 = .ok (.iload 12, 2) := by decide +kernel
theorem dL_isLaid_137 : decode cL_isLaid 137 = .ok (.dup2, 1) := by decide +kernel
theorem dL_isLaid_138 : decode cL_isLaid 138 = .ok (.iaload, 1) := by decide +kernel
theorem dL_isLaid_139 : decode cL_isLaid 139 = .ok (.iconst 1, 1) := by decide +kernel
theorem dL_isLaid_140 : decode cL_isLaid 140 = .ok (.iadd, 1) := by decide +kernel
theorem dL_isLaid_141 : decode cL_isLaid 141 = .ok (.iastore, 1) := by decide +kernel
theorem dL_isLaid_142 : decode cL_isLaid 142 = .ok (.aload 5, 2) := by decide +kernel
theorem dL_isLaid_144 : decode cL_isLaid 144 = .ok (.iload 12, 2) := by decide +kernel
theorem dL_isLaid_146 : decode cL_isLaid 146 = .ok (.dup2, 1) := by decide +kernel
theorem dL_isLaid_147 : decode cL_isLaid 147 = .ok (.laload, 1) := by decide +kernel
theorem dL_isLaid_148 : decode cL_isLaid 148 = .ok (.lconst 1, 1) := by decide +kernel
theorem dL_isLaid_149 : decode cL_isLaid 149 = .ok (.iload 11, 2) := by decide +kernel
theorem dL_isLaid_151 : decode cL_isLaid 151 = .ok (.lshl, 1) := by decide +kernel
theorem dL_isLaid_152 : decode cL_isLaid 152 = .ok (.lor, 1) := by decide +kernel
theorem dL_isLaid_153 : decode cL_isLaid 153 = .ok (.lastore, 1) := by decide +kernel
theorem dL_isLaid_154 : decode cL_isLaid 154 = .ok (.iinc 10 1, 3) := by decide +kernel
theorem dL_isLaid_157 : decode cL_isLaid 157 = .ok (.goto (-116), 3) := by decide +kernel
theorem dL_isLaid_160 : decode cL_isLaid 160 = .ok (.iconst 0, 1) := by decide +kernel
theorem dL_isLaid_161 : decode cL_isLaid 161 = .ok (.istore 10, 2) := by decide +kernel
theorem dL_isLaid_163 : decode cL_isLaid 163 = .ok (.iconst 0, 1) := by decide +kernel
theorem dL_isLaid_164 : decode cL_isLaid 164 = .ok (.istore 11, 2) := by decide +kernel
theorem dL_isLaid_166 : decode cL_isLaid 166 = .ok (.iload 11, 2) := by decide +kernel
theorem dL_isLaid_168 : decode cL_isLaid 168 = .ok (.iload_n 3, 1) := by decide +kernel
theorem dL_isLaid_169 : decode cL_isLaid 169 = .ok (.if_icmp .ge 70, 3) := by decide +kernel
theorem dL_isLaid_172 : decode cL_isLaid 172 = .ok (.aload_n 0, 1) := by decide +kernel
theorem dL_isLaid_173 : decode cL_isLaid 173 = .ok (.aload 5, 2) := by decide +kernel
theorem dL_isLaid_175 : decode cL_isLaid 175 = .ok (.iload 11, 2) := by decide +kernel
theorem dL_isLaid_177 : decode cL_isLaid 177 = .ok (.laload, 1) := by decide +kernel
theorem dL_isLaid_178 : decode cL_isLaid 178 = .ok (.invokestatic 139, 3) := by decide +kernel
theorem dL_isLaid_181 : decode cL_isLaid 181 = .ok (.aload_n 0, 1) := by decide +kernel
theorem dL_isLaid_182 : decode cL_isLaid 182 = .ok (.iload_n 1, 1) := by decide +kernel
theorem dL_isLaid_183 : decode cL_isLaid 183 = .ok (.iload 11, 2) := by decide +kernel
theorem dL_isLaid_185 : decode cL_isLaid 185 = .ok (.iconst 1, 1) := by decide +kernel
theorem dL_isLaid_186 : decode cL_isLaid 186 = .ok (.invokestatic 142, 3) := by decide +kernel
theorem dL_isLaid_189 : decode cL_isLaid 189 = .ok (.iconst 1, 1) := by decide +kernel
theorem dL_isLaid_190 : decode cL_isLaid 190 = .ok (.iadd, 1) := by decide +kernel
theorem dL_isLaid_191 : decode cL_isLaid 191 = .ok (.if_icmp .ne 19, 3) := by decide +kernel
theorem dL_isLaid_194 : decode cL_isLaid 194 = .ok (.aload 4, 2) := by decide +kernel
theorem dL_isLaid_196 : decode cL_isLaid 196 = .ok (.iload 11, 2) := by decide +kernel
theorem dL_isLaid_198 : decode cL_isLaid 198 = .ok (.iaload, 1) := by decide +kernel
theorem dL_isLaid_199 : decode cL_isLaid 199 = .ok (.aload_n 0, 1) := by decide +kernel
theorem dL_isLaid_200 : decode cL_isLaid 200 = .ok (.iload_n 1, 1) := by decide +kernel
theorem dL_isLaid_201 : decode cL_isLaid 201 = .ok (.iload 11, 2) := by decide +kernel
theorem dL_isLaid_203 : decode cL_isLaid 203 = .ok (.iconst 0, 1) := by decide +kernel
theorem dL_isLaid_204 : decode cL_isLaid 204 = .ok (.invokestatic 142, 3) := by decide +kernel
theorem dL_isLaid_207 : decode cL_isLaid 207 = .ok (.if_icmp .eq 5, 3) := by decide +kernel
theorem dL_isLaid_210 : decode cL_isLaid 210 = .ok (.iconst 0, 1) := by decide +kernel
theorem dL_isLaid_211 : decode cL_isLaid 211 = .ok (.ireturn, 1) := by decide +kernel
theorem dL_isLaid_212 : decode cL_isLaid 212 = .ok (.iload 10, 2) := by decide +kernel
theorem dL_isLaid_214 : decode cL_isLaid 214 = .ok (.aload_n 0, 1) := by decide +kernel
theorem dL_isLaid_215 : decode cL_isLaid 215 = .ok (.iload_n 1, 1) := by decide +kernel
theorem dL_isLaid_216 : decode cL_isLaid 216 = .ok (.iload 11, 2) := by decide +kernel
theorem dL_isLaid_218 : decode cL_isLaid 218 = .ok (.iconst 1, 1) := by decide +kernel
theorem dL_isLaid_219 : decode cL_isLaid 219 = .ok (.invokestatic 142, 3) := by decide +kernel
theorem dL_isLaid_222 : decode cL_isLaid 222 = .ok (.ifCond .ne 7, 3) := by decide +kernel
theorem dL_isLaid_225 : decode cL_isLaid 225 = .ok (.iconst 1, 1) := by decide +kernel
theorem dL_isLaid_226 : decode cL_isLaid 226 = .ok (.goto 4, 3) := by decide +kernel
theorem dL_isLaid_229 : decode cL_isLaid 229 = .ok (.iconst 0, 1) := by decide +kernel
theorem dL_isLaid_230 : decode cL_isLaid 230 = .ok (.iadd, 1) := by decide +kernel
theorem dL_isLaid_231 : decode cL_isLaid 231 = .ok (.istore 10, 2) := by decide +kernel
theorem dL_isLaid_233 : decode cL_isLaid 233 = .ok (.iinc 11 1, 3) := by decide +kernel
theorem dL_isLaid_236 : decode cL_isLaid 236 = .ok (.goto (-70), 3) := by decide +kernel
theorem dL_isLaid_239 : decode cL_isLaid 239 = .ok (.iload 6, 2) := by decide +kernel
theorem dL_isLaid_241 : decode cL_isLaid 241 = .ok (.aload_n 0, 1) := by decide +kernel
theorem dL_isLaid_242 : decode cL_isLaid 242 = .ok (.iload_n 1, 1) := by decide +kernel
theorem dL_isLaid_243 : decode cL_isLaid 243 = .ok (.iconst 3, 1) := by decide +kernel
theorem dL_isLaid_244 : decode cL_isLaid 244 = .ok (.invokestatic 107, 3) := by decide +kernel
theorem dL_isLaid_247 : decode cL_isLaid 247 = .ok (.if_icmp .ne 75, 3) := by decide +kernel
theorem dL_isLaid_250 : decode cL_isLaid 250 = .ok (.iload 7, 2) := by decide +kernel
theorem dL_isLaid_252 : decode cL_isLaid 252 = .ok (.aload_n 0, 1) := by decide +kernel
theorem dL_isLaid_253 : decode cL_isLaid 253 = .ok (.iload_n 1, 1) := by decide +kernel
theorem dL_isLaid_254 : decode cL_isLaid 254 = .ok (.iconst 1, 1) := by decide +kernel
theorem dL_isLaid_255 : decode cL_isLaid 255 = .ok (.invokestatic 107, 3) := by decide +kernel
theorem dL_isLaid_258 : decode cL_isLaid 258 = .ok (.if_icmp .ne 64, 3) := by decide +kernel
theorem dL_isLaid_261 : decode cL_isLaid 261 = .ok (.iload 8, 2) := by decide +kernel
theorem dL_isLaid_263 : decode cL_isLaid 263 = .ok (.aload_n 0, 1) := by decide +kernel
theorem dL_isLaid_264 : decode cL_isLaid 264 = .ok (.iload_n 1, 1) := by decide +kernel
theorem dL_isLaid_265 : decode cL_isLaid 265 = .ok (.bipush 6, 2) := by decide +kernel
theorem dL_isLaid_267 : decode cL_isLaid 267 = .ok (.invokestatic 107, 3) := by decide +kernel
theorem dL_isLaid_270 : decode cL_isLaid 270 = .ok (.if_icmp .ne 52, 3) := by decide +kernel
theorem dL_isLaid_273 : decode cL_isLaid 273 = .ok (.iload 10, 2) := by decide +kernel
theorem dL_isLaid_275 : decode cL_isLaid 275 = .ok (.aload_n 0, 1) := by decide +kernel
theorem dL_isLaid_276 : decode cL_isLaid 276 = .ok (.iload_n 1, 1) := by decide +kernel
theorem dL_isLaid_277 : decode cL_isLaid 277 = .ok (.iconst 4, 1) := by decide +kernel
theorem dL_isLaid_278 : decode cL_isLaid 278 = .ok (.invokestatic 107, 3) := by decide +kernel
theorem dL_isLaid_281 : decode cL_isLaid 281 = .ok (.if_icmp .ne 41, 3) := by decide +kernel
theorem dL_isLaid_284 : decode cL_isLaid 284 = .ok (.iload_n 3, 1) := by decide +kernel
theorem dL_isLaid_285 : decode cL_isLaid 285 = .ok (.iload 10, 2) := by decide +kernel
theorem dL_isLaid_287 : decode cL_isLaid 287 = .ok (.isub, 1) := by decide +kernel
theorem dL_isLaid_288 : decode cL_isLaid 288 = .ok (.aload_n 0, 1) := by decide +kernel
theorem dL_isLaid_289 : decode cL_isLaid 289 = .ok (.iload_n 1, 1) := by decide +kernel
theorem dL_isLaid_290 : decode cL_isLaid 290 = .ok (.iconst 5, 1) := by decide +kernel
theorem dL_isLaid_291 : decode cL_isLaid 291 = .ok (.invokestatic 107, 3) := by decide +kernel
theorem dL_isLaid_294 : decode cL_isLaid 294 = .ok (.if_icmp .ne 28, 3) := by decide +kernel
theorem dL_isLaid_297 : decode cL_isLaid 297 = .ok (.aload_n 0, 1) := by decide +kernel
theorem dL_isLaid_298 : decode cL_isLaid 298 = .ok (.iload_n 1, 1) := by decide +kernel
theorem dL_isLaid_299 : decode cL_isLaid 299 = .ok (.iload_n 2, 1) := by decide +kernel
theorem dL_isLaid_300 : decode cL_isLaid 300 = .ok (.invokestatic 110, 3) := by decide +kernel
theorem dL_isLaid_303 : decode cL_isLaid 303 = .ok (.iconst (-1), 1) := by decide +kernel
theorem dL_isLaid_304 : decode cL_isLaid 304 = .ok (.if_icmp .ne 18, 3) := by decide +kernel
theorem dL_isLaid_307 : decode cL_isLaid 307 = .ok (.aload_n 0, 1) := by decide +kernel
theorem dL_isLaid_308 : decode cL_isLaid 308 = .ok (.iload_n 1, 1) := by decide +kernel
theorem dL_isLaid_309 : decode cL_isLaid 309 = .ok (.iload_n 3, 1) := by decide +kernel
theorem dL_isLaid_310 : decode cL_isLaid 310 = .ok (.iconst 0, 1) := by decide +kernel
theorem dL_isLaid_311 : decode cL_isLaid 311 = .ok (.invokestatic 142, 3) := by decide +kernel
theorem dL_isLaid_314 : decode cL_isLaid 314 = .ok (.iconst (-1), 1) := by decide +kernel
theorem dL_isLaid_315 : decode cL_isLaid 315 = .ok (.if_icmp .ne 7, 3) := by decide +kernel
theorem dL_isLaid_318 : decode cL_isLaid 318 = .ok (.iconst 1, 1) := by decide +kernel
theorem dL_isLaid_319 : decode cL_isLaid 319 = .ok (.goto 4, 3) := by decide +kernel
theorem dL_isLaid_322 : decode cL_isLaid 322 = .ok (.iconst 0, 1) := by decide +kernel
theorem dL_isLaid_323 : decode cL_isLaid 323 = .ok (.ireturn, 1) := by decide +kernel
theorem dL_isSound_0 : decode cL_isSound 0 = .ok (.aload_n 0, 1) := by decide +kernel
theorem dL_isSound_1 : decode cL_isSound 1 = .ok (.invokevirtual 145, 3) := by decide +kernel
theorem dL_isSound_4 : decode cL_isSound 4 = .ok (.ifCond .eq 5, 3) := by decide +kernel
theorem dL_isSound_7 : decode cL_isSound 7 = .ok (.iconst 0, 1) := by decide +kernel
theorem dL_isSound_8 : decode cL_isSound 8 = .ok (.ireturn, 1) := by decide +kernel
theorem dL_isSound_9 : decode cL_isSound 9 = .ok (.iconst 4, 1) := by decide +kernel
theorem dL_isSound_10 : decode cL_isSound 10 = .ok (.newarray .int, 2) := by decide +kernel
theorem dL_isSound_12 : decode cL_isSound 12 = .ok (.astore_n 1, 1) := by decide +kernel
theorem dL_isSound_13 : decode cL_isSound 13 = .ok (.iconst 0, 1) := by decide +kernel
theorem dL_isSound_14 : decode cL_isSound 14 = .ok (.istore_n 2, 1) := by decide +kernel
theorem dL_isSound_15 : decode cL_isSound 15 = .ok (.iload_n 2, 1) := by decide +kernel
theorem dL_isSound_16 : decode cL_isSound 16 = .ok (.bipush 52, 2) := by decide +kernel
theorem dL_isSound_18 : decode cL_isSound 18 = .ok (.if_icmp .ge 20, 3) := by decide +kernel
theorem dL_isSound_21 : decode cL_isSound 21 = .ok (.aload_n 1, 1) := by decide +kernel
theorem dL_isSound_22 : decode cL_isSound 22 = .ok (.aload_n 0, 1) := by decide +kernel
theorem dL_isSound_23 : decode cL_isSound 23 = .ok (.iload_n 2, 1) := by decide +kernel
theorem dL_isSound_24 : decode cL_isSound 24 = .ok (.invokestatic 132, 3) := by decide +kernel
theorem dL_isSound_27 : decode cL_isSound 27 = .ok (.dup2, 1) := by decide +kernel
theorem dL_isSound_28 : decode cL_isSound 28 = .ok (.iaload, 1) := by decide +kernel
theorem dL_isSound_29 : decode cL_isSound 29 = .ok (.iconst 1, 1) := by decide +kernel
theorem dL_isSound_30 : decode cL_isSound 30 = .ok (.iadd, 1) := by decide +kernel
theorem dL_isSound_31 : decode cL_isSound 31 = .ok (.iastore, 1) := by decide +kernel
theorem dL_isSound_32 : decode cL_isSound 32 = .ok (.iinc 2 1, 3) := by decide +kernel
theorem dL_isSound_35 : decode cL_isSound 35 = .ok (.goto (-20), 3) := by decide +kernel
theorem dL_isSound_38 : decode cL_isSound 38 = .ok (.aload_n 0, 1) := by decide +kernel
theorem dL_isSound_39 : decode cL_isSound 39 = .ok (.iconst 0, 1) := by decide +kernel
theorem dL_isSound_40 : decode cL_isSound 40 = .ok (.invokestatic 104, 3) := by decide +kernel
theorem dL_isSound_43 : decode cL_isSound 43 = .ok (.istore_n 2, 1) := by decide +kernel
theorem dL_isSound_44 : decode cL_isSound 44 = .ok (.aload_n 0, 1) := by decide +kernel
theorem dL_isSound_45 : decode cL_isSound 45 = .ok (.iconst 4, 1) := by decide +kernel
theorem dL_isSound_46 : decode cL_isSound 46 = .ok (.invokestatic 104, 3) := by decide +kernel
theorem dL_isSound_49 : decode cL_isSound 49 = .ok (.istore_n 3, 1) := by decide +kernel
theorem dL_isSound_50 : decode cL_isSound 50 = .ok (.aload_n 1, 1) := by decide +kernel
theorem dL_isSound_51 : decode cL_isSound 51 = .ok (.iconst 0, 1) := by decide +kernel
theorem dL_isSound_52 : decode cL_isSound 52 = .ok (.iaload, 1) := by decide +kernel
theorem dL_isSound_53 : decode cL_isSound 53 = .ok (.aload_n 0, 1) := by decide +kernel
theorem dL_isSound_54 : decode cL_isSound 54 = .ok (.iconst 0, 1) := by decide +kernel
theorem dL_isSound_55 : decode cL_isSound 55 = .ok (.iconst 0, 1) := by decide +kernel
theorem dL_isSound_56 : decode cL_isSound 56 = .ok (.invokestatic 107, 3) := by decide +kernel
theorem dL_isSound_59 : decode cL_isSound 59 = .ok (.if_icmp .ne 39, 3) := by decide +kernel
theorem dL_isSound_62 : decode cL_isSound 62 = .ok (.aload_n 1, 1) := by decide +kernel
theorem dL_isSound_63 : decode cL_isSound 63 = .ok (.iconst 1, 1) := by decide +kernel
theorem dL_isSound_64 : decode cL_isSound 64 = .ok (.iaload, 1) := by decide +kernel
theorem dL_isSound_65 : decode cL_isSound 65 = .ok (.aload_n 0, 1) := by decide +kernel
theorem dL_isSound_66 : decode cL_isSound 66 = .ok (.iconst 1, 1) := by decide +kernel
theorem dL_isSound_67 : decode cL_isSound 67 = .ok (.iconst 0, 1) := by decide +kernel
theorem dL_isSound_68 : decode cL_isSound 68 = .ok (.invokestatic 107, 3) := by decide +kernel
theorem dL_isSound_71 : decode cL_isSound 71 = .ok (.if_icmp .ne 27, 3) := by decide +kernel
theorem dL_isSound_74 : decode cL_isSound 74 = .ok (.aload_n 1, 1) := by decide +kernel
theorem dL_isSound_75 : decode cL_isSound 75 = .ok (.iconst 2, 1) := by decide +kernel
theorem dL_isSound_76 : decode cL_isSound 76 = .ok (.iaload, 1) := by decide +kernel
theorem dL_isSound_77 : decode cL_isSound 77 = .ok (.aload_n 0, 1) := by decide +kernel
theorem dL_isSound_78 : decode cL_isSound 78 = .ok (.bipush 9, 2) := by decide +kernel
theorem dL_isSound_80 : decode cL_isSound 80 = .ok (.invokestatic 104, 3) := by decide +kernel
theorem dL_isSound_83 : decode cL_isSound 83 = .ok (.if_icmp .ne 15, 3) := by decide +kernel
theorem dL_isSound_86 : decode cL_isSound 86 = .ok (.aload_n 1, 1) := by decide +kernel
theorem dL_isSound_87 : decode cL_isSound 87 = .ok (.iconst 3, 1) := by decide +kernel
theorem dL_isSound_88 : decode cL_isSound 88 = .ok (.iaload, 1) := by decide +kernel
theorem dL_isSound_89 : decode cL_isSound 89 = .ok (.aload_n 0, 1) := by decide +kernel
theorem dL_isSound_90 : decode cL_isSound 90 = .ok (.bipush 8, 2) := by decide +kernel
theorem dL_isSound_92 : decode cL_isSound 92 = .ok (.invokestatic 104, 3) := by decide +kernel
theorem dL_isSound_95 : decode cL_isSound 95 = .ok (.if_icmp .eq 5, 3) := by decide +kernel
theorem dL_isSound_98 : decode cL_isSound 98 = .ok (.iconst 0, 1) := by decide +kernel
theorem dL_isSound_99 : decode cL_isSound 99 = .ok (.ireturn, 1) := by decide +kernel
theorem dL_isSound_100 : decode cL_isSound 100 = .ok (.aload_n 1, 1) := by decide +kernel
theorem dL_isSound_101 : decode cL_isSound 101 = .ok (.iconst 1, 1) := by decide +kernel
theorem dL_isSound_102 : decode cL_isSound 102 = .ok (.iload_n 3, 1) := by decide +kernel
theorem dL_isSound_103 : decode cL_isSound 103 = .ok (.isub, 1) := by decide +kernel
theorem dL_isSound_104 : decode cL_isSound 104 = .ok (.iaload, 1) := by decide +kernel
theorem dL_isSound_105 : decode cL_isSound 105 = .ok (.iload_n 2, 1) := by decide +kernel
theorem dL_isSound_106 : decode cL_isSound 106 = .ok (.if_icmp .ne 25, 3) := by decide +kernel
theorem dL_isSound_109 : decode cL_isSound 109 = .ok (.aload_n 0, 1) := by decide +kernel
theorem dL_isSound_110 : decode cL_isSound 110 = .ok (.bipush 6, 2) := by decide +kernel
theorem dL_isSound_112 : decode cL_isSound 112 = .ok (.invokestatic 104, 3) := by decide +kernel
theorem dL_isSound_115 : decode cL_isSound 115 = .ok (.ifCond .ne 18, 3) := by decide +kernel
theorem dL_isSound_118 : decode cL_isSound 118 = .ok (.aload_n 1, 1) := by decide +kernel
theorem dL_isSound_119 : decode cL_isSound 119 = .ok (.iload_n 3, 1) := by decide +kernel
theorem dL_isSound_120 : decode cL_isSound 120 = .ok (.iaload, 1) := by decide +kernel
theorem dL_isSound_121 : decode cL_isSound 121 = .ok (.iload_n 2, 1) := by decide +kernel
theorem dL_isSound_122 : decode cL_isSound 122 = .ok (.aload_n 0, 1) := by decide +kernel
theorem dL_isSound_123 : decode cL_isSound 123 = .ok (.iconst 5, 1) := by decide +kernel
theorem dL_isSound_124 : decode cL_isSound 124 = .ok (.invokestatic 104, 3) := by decide +kernel
theorem dL_isSound_127 : decode cL_isSound 127 = .ok (.iadd, 1) := by decide +kernel
theorem dL_isSound_128 : decode cL_isSound 128 = .ok (.if_icmp .eq 5, 3) := by decide +kernel
theorem dL_isSound_131 : decode cL_isSound 131 = .ok (.iconst 0, 1) := by decide +kernel
theorem dL_isSound_132 : decode cL_isSound 132 = .ok (.ireturn, 1) := by decide +kernel
theorem dL_isSound_133 : decode cL_isSound 133 = .ok (.aload_n 0, 1) := by decide +kernel
theorem dL_isSound_134 : decode cL_isSound 134 = .ok (.iconst 0, 1) := by decide +kernel
theorem dL_isSound_135 : decode cL_isSound 135 = .ok (.invokestatic 148, 3) := by decide +kernel
theorem dL_isSound_138 : decode cL_isSound 138 = .ok (.ifCond .eq 15, 3) := by decide +kernel
theorem dL_isSound_141 : decode cL_isSound 141 = .ok (.aload_n 0, 1) := by decide +kernel
theorem dL_isSound_142 : decode cL_isSound 142 = .ok (.iconst 1, 1) := by decide +kernel
theorem dL_isSound_143 : decode cL_isSound 143 = .ok (.invokestatic 148, 3) := by decide +kernel
theorem dL_isSound_146 : decode cL_isSound 146 = .ok (.ifCond .eq 7, 3) := by decide +kernel
theorem dL_isSound_149 : decode cL_isSound 149 = .ok (.iconst 1, 1) := by decide +kernel
theorem dL_isSound_150 : decode cL_isSound 150 = .ok (.goto 4, 3) := by decide +kernel
theorem dL_isSound_153 : decode cL_isSound 153 = .ok (.iconst 0, 1) := by decide +kernel
theorem dL_isSound_154 : decode cL_isSound 154 = .ok (.ireturn, 1) := by decide +kernel
theorem dL_isNotWorse_0 : decode cL_isNotWorse 0 = .ok (.aload_n 0, 1) := by decide +kernel
theorem dL_isNotWorse_1 : decode cL_isNotWorse 1 = .ok (.bipush 6, 2) := by decide +kernel
theorem dL_isNotWorse_3 : decode cL_isNotWorse 3 = .ok (.invokestatic 104, 3) := by decide +kernel
theorem dL_isNotWorse_6 : decode cL_isNotWorse 6 = .ok (.iconst 1, 1) := by decide +kernel
theorem dL_isNotWorse_7 : decode cL_isNotWorse 7 = .ok (.if_icmp .eq 12, 3) := by decide +kernel
theorem dL_isNotWorse_10 : decode cL_isNotWorse 10 = .ok (.aload_n 0, 1) := by decide +kernel
theorem dL_isNotWorse_11 : decode cL_isNotWorse 11 = .ok (.iconst 5, 1) := by decide +kernel
theorem dL_isNotWorse_12 : decode cL_isNotWorse 12 = .ok (.invokestatic 104, 3) := by decide +kernel
theorem dL_isNotWorse_15 : decode cL_isNotWorse 15 = .ok (.iconst 1, 1) := by decide +kernel
theorem dL_isNotWorse_16 : decode cL_isNotWorse 16 = .ok (.if_icmp .ne 5, 3) := by decide +kernel
theorem dL_isNotWorse_19 : decode cL_isNotWorse 19 = .ok (.iconst 1, 1) := by decide +kernel
theorem dL_isNotWorse_20 : decode cL_isNotWorse 20 = .ok (.ireturn, 1) := by decide +kernel
theorem dL_isNotWorse_21 : decode cL_isNotWorse 21 = .ok (.aload_n 0, 1) := by decide +kernel
theorem dL_isNotWorse_22 : decode cL_isNotWorse 22 = .ok (.iconst 4, 1) := by decide +kernel
theorem dL_isNotWorse_23 : decode cL_isNotWorse 23 = .ok (.invokestatic 104, 3) := by decide +kernel
theorem dL_isNotWorse_26 : decode cL_isNotWorse 26 = .ok (.istore_n 1, 1) := by decide +kernel
theorem dL_isNotWorse_27 : decode cL_isNotWorse 27 = .ok (.aload_n 0, 1) := by decide +kernel
theorem dL_isNotWorse_28 : decode cL_isNotWorse 28 = .ok (.iload_n 1, 1) := by decide +kernel
theorem dL_isNotWorse_29 : decode cL_isNotWorse 29 = .ok (.iconst 1, 1) := by decide +kernel
theorem dL_isNotWorse_30 : decode cL_isNotWorse 30 = .ok (.invokestatic 107, 3) := by decide +kernel
theorem dL_isNotWorse_33 : decode cL_isNotWorse 33 = .ok (.istore_n 2, 1) := by decide +kernel
theorem dL_isNotWorse_34 : decode cL_isNotWorse 34 = .ok (.aload_n 0, 1) := by decide +kernel
theorem dL_isNotWorse_35 : decode cL_isNotWorse 35 = .ok (.iconst 0, 1) := by decide +kernel
theorem dL_isNotWorse_36 : decode cL_isNotWorse 36 = .ok (.invokevirtual 115, 3) := by decide +kernel
theorem dL_isNotWorse_39 : decode cL_isNotWorse 39 = .ok (.istore_n 3, 1) := by decide +kernel
theorem dL_isNotWorse_40 : decode cL_isNotWorse 40 = .ok (.iload_n 3, 1) := by decide +kernel
theorem dL_isNotWorse_41 : decode cL_isNotWorse 41 = .ok (.ifCond .lt 29, 3) := by decide +kernel
theorem dL_isNotWorse_44 : decode cL_isNotWorse 44 = .ok (.aload_n 0, 1) := by decide +kernel
theorem dL_isNotWorse_45 : decode cL_isNotWorse 45 = .ok (.iload_n 3, 1) := by decide +kernel
theorem dL_isNotWorse_46 : decode cL_isNotWorse 46 = .ok (.invokestatic 132, 3) := by decide +kernel
theorem dL_isNotWorse_49 : decode cL_isNotWorse 49 = .ok (.iload_n 1, 1) := by decide +kernel
theorem dL_isNotWorse_50 : decode cL_isNotWorse 50 = .ok (.if_icmp .ne 20, 3) := by decide +kernel
theorem dL_isNotWorse_53 : decode cL_isNotWorse 53 = .ok (.aload_n 0, 1) := by decide +kernel
theorem dL_isNotWorse_54 : decode cL_isNotWorse 54 = .ok (.iload_n 3, 1) := by decide +kernel
theorem dL_isNotWorse_55 : decode cL_isNotWorse 55 = .ok (.invokestatic 152, 3) := by decide +kernel
theorem dL_isNotWorse_58 : decode cL_isNotWorse 58 = .ok (.iload_n 2, 1) := by decide +kernel
theorem dL_isNotWorse_59 : decode cL_isNotWorse 59 = .ok (.if_icmp .ne 11, 3) := by decide +kernel
theorem dL_isNotWorse_62 : decode cL_isNotWorse 62 = .ok (.aload_n 0, 1) := by decide +kernel
theorem dL_isNotWorse_63 : decode cL_isNotWorse 63 = .ok (.invokevirtual 154, 3) := by decide +kernel
theorem dL_isNotWorse_66 : decode cL_isNotWorse 66 = .ok (.iload_n 2, 1) := by decide +kernel
theorem dL_isNotWorse_67 : decode cL_isNotWorse 67 = .ok (.if_icmp .le 5, 3) := by decide +kernel
theorem dL_isNotWorse_70 : decode cL_isNotWorse 70 = .ok (.iconst 0, 1) := by decide +kernel
theorem dL_isNotWorse_71 : decode cL_isNotWorse 71 = .ok (.ireturn, 1) := by decide +kernel
theorem dL_isNotWorse_72 : decode cL_isNotWorse 72 = .ok (.aload_n 0, 1) := by decide +kernel
theorem dL_isNotWorse_73 : decode cL_isNotWorse 73 = .ok (.iload_n 1, 1) := by decide +kernel
theorem dL_isNotWorse_74 : decode cL_isNotWorse 74 = .ok (.iconst 1, 1) := by decide +kernel
theorem dL_isNotWorse_75 : decode cL_isNotWorse 75 = .ok (.invokestatic 107, 3) := by decide +kernel
theorem dL_isNotWorse_78 : decode cL_isNotWorse 78 = .ok (.iload_n 2, 1) := by decide +kernel
theorem dL_isNotWorse_79 : decode cL_isNotWorse 79 = .ok (.iload_n 3, 1) := by decide +kernel
theorem dL_isNotWorse_80 : decode cL_isNotWorse 80 = .ok (.invokestatic 134, 3) := by decide +kernel
theorem dL_isNotWorse_83 : decode cL_isNotWorse 83 = .ok (.iadd, 1) := by decide +kernel
theorem dL_isNotWorse_84 : decode cL_isNotWorse 84 = .ok (.if_icmp .le 5, 3) := by decide +kernel
theorem dL_isNotWorse_87 : decode cL_isNotWorse 87 = .ok (.iconst 0, 1) := by decide +kernel
theorem dL_isNotWorse_88 : decode cL_isNotWorse 88 = .ok (.ireturn, 1) := by decide +kernel
theorem dL_isNotWorse_89 : decode cL_isNotWorse 89 = .ok (.aload_n 0, 1) := by decide +kernel
theorem dL_isNotWorse_90 : decode cL_isNotWorse 90 = .ok (.invokevirtual 157, 3) := by decide +kernel
theorem dL_isNotWorse_93 : decode cL_isNotWorse 93 = .ok (.pop, 1) := by decide +kernel
theorem dL_isNotWorse_94 : decode cL_isNotWorse 94 = .ok (.aload_n 0, 1) := by decide +kernel
theorem dL_isNotWorse_95 : decode cL_isNotWorse 95 = .ok (.iload_n 1, 1) := by decide +kernel
theorem dL_isNotWorse_96 : decode cL_isNotWorse 96 = .ok (.iconst 1, 1) := by decide +kernel
theorem dL_isNotWorse_97 : decode cL_isNotWorse 97 = .ok (.invokestatic 107, 3) := by decide +kernel
theorem dL_isNotWorse_100 : decode cL_isNotWorse 100 = .ok (.iload_n 2, 1) := by decide +kernel
theorem dL_isNotWorse_101 : decode cL_isNotWorse 101 = .ok (.if_icmp .ne 7, 3) := by decide +kernel
theorem dL_isNotWorse_104 : decode cL_isNotWorse 104 = .ok (.iconst 1, 1) := by decide +kernel
theorem dL_isNotWorse_105 : decode cL_isNotWorse 105 = .ok (.goto 4, 3) := by decide +kernel
theorem dL_isNotWorse_108 : decode cL_isNotWorse 108 = .ok (.iconst 0, 1) := by decide +kernel
theorem dL_isNotWorse_109 : decode cL_isNotWorse 109 = .ok (.ireturn, 1) := by decide +kernel
theorem dL_law_0 : decode cL_law 0 = .ok (.new 20, 3) := by decide +kernel
theorem dL_law_3 : decode cL_law 3 = .ok (.dup, 1) := by decide +kernel
theorem dL_law_4 : decode cL_law 4 = .ok (.invokespecial 160, 3) := by decide +kernel
theorem dL_law_7 : decode cL_law 7 = .ok (.astore_n 1, 1) := by decide +kernel
theorem dL_law_8 : decode cL_law 8 = .ok (.aload_n 1, 1) := by decide +kernel
theorem dL_law_9 : decode cL_law 9 = .ok (.invokestatic 161, 3) := by decide +kernel
theorem dL_law_12 : decode cL_law 12 = .ok (.ifCond .eq 20, 3) := by decide +kernel
theorem dL_law_15 : decode cL_law 15 = .ok (.aload_n 1, 1) := by decide +kernel
theorem dL_law_16 : decode cL_law 16 = .ok (.invokestatic 165, 3) := by decide +kernel
theorem dL_law_19 : decode cL_law 19 = .ok (.ifCond .eq 13, 3) := by decide +kernel
theorem dL_law_22 : decode cL_law 22 = .ok (.aload_n 1, 1) := by decide +kernel
theorem dL_law_23 : decode cL_law 23 = .ok (.aload_n 0, 1) := by decide +kernel
theorem dL_law_24 : decode cL_law 24 = .ok (.invokestatic 168, 3) := by decide +kernel
theorem dL_law_27 : decode cL_law 27 = .ok (.bipush 7, 2) := by decide +kernel
theorem dL_law_29 : decode cL_law 29 = .ok (.if_icmp .ge 5, 3) := by decide +kernel
theorem dL_law_32 : decode cL_law 32 = .ok (.iconst 0, 1) := by decide +kernel
theorem dL_law_33 : decode cL_law 33 = .ok (.ireturn, 1) := by decide +kernel
theorem dL_law_34 : decode cL_law 34 = .ok (.iconst 4, 1) := by decide +kernel
theorem dL_law_35 : decode cL_law 35 = .ok (.istore_n 2, 1) := by decide +kernel
theorem dL_law_36 : decode cL_law 36 = .ok (.iload_n 2, 1) := by decide +kernel
theorem dL_law_37 : decode cL_law 37 = .ok (.bipush 44, 2) := by decide +kernel
theorem dL_law_39 : decode cL_law 39 = .ok (.if_icmp .ge 31, 3) := by decide +kernel
theorem dL_law_42 : decode cL_law 42 = .ok (.aload_n 1, 1) := by decide +kernel
theorem dL_law_43 : decode cL_law 43 = .ok (.aload_n 0, 1) := by decide +kernel
theorem dL_law_44 : decode cL_law 44 = .ok (.iload_n 2, 1) := by decide +kernel
theorem dL_law_45 : decode cL_law 45 = .ok (.invokestatic 172, 3) := by decide +kernel
theorem dL_law_48 : decode cL_law 48 = .ok (.aload_n 1, 1) := by decide +kernel
theorem dL_law_49 : decode cL_law 49 = .ok (.invokestatic 161, 3) := by decide +kernel
theorem dL_law_52 : decode cL_law 52 = .ok (.ifCond .eq 10, 3) := by decide +kernel
theorem dL_law_55 : decode cL_law 55 = .ok (.aload_n 1, 1) := by decide +kernel
theorem dL_law_56 : decode cL_law 56 = .ok (.invokestatic 165, 3) := by decide +kernel
theorem dL_law_59 : decode cL_law 59 = .ok (.ifCond .ne 5, 3) := by decide +kernel
theorem dL_law_62 : decode cL_law 62 = .ok (.iconst 0, 1) := by decide +kernel
theorem dL_law_63 : decode cL_law 63 = .ok (.ireturn, 1) := by decide +kernel
theorem dL_law_64 : decode cL_law 64 = .ok (.iinc 2 2, 3) := by decide +kernel
theorem dL_law_67 : decode cL_law 67 = .ok (.goto (-31), 3) := by decide +kernel
theorem dL_law_70 : decode cL_law 70 = .ok (.iconst 1, 1) := by decide +kernel
theorem dL_law_71 : decode cL_law 71 = .ok (.ireturn, 1) := by decide +kernel
