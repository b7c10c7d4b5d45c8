theorem dX0_init_0 : decode cX0_init 0 = .ok (.aload_n 0, 1) := by decide +kernel
theorem dX0_init_1 : decode cX0_init 1 = .ok (.invokespecial 1, 3) := by decide +kernel
theorem dX0_init_4 : decode cX0_init 4 = .ok (.aload_n 0, 1) := by decide +kernel
theorem dX0_init_5 : decode cX0_init 5 = .ok (.bipush 10, 2) := by decide +kernel
theorem dX0_init_7 : decode cX0_init 7 = .ok (.anewarray 9, 3) := by decide +kernel
theorem dX0_init_10 : decode cX0_init 10 = .ok (.putfield 11, 3) := by decide +kernel
theorem dX0_init_13 : decode cX0_init 13 = .ok (.return_, 1) := by decide +kernel
theorem dX0_push_0 : decode cX0_push 0 = .ok (.aload_n 0, 1) := by decide +kernel
theorem dX0_push_1 : decode cX0_push 1 = .ok (.getfield 15, 3) := by decide +kernel
theorem dX0_push_4 : decode cX0_push 4 = .ok (.ifCond .lt 19, 3) := by decide +kernel
theorem dX0_push_7 : decode cX0_push 7 = .ok (.aload_n 0, 1) := by decide +kernel
theorem dX0_push_8 : decode cX0_push 8 = .ok (.getfield 15, 3) := by decide +kernel
theorem dX0_push_11 : decode cX0_push 11 = .ok (.bipush 10, 2) := by decide +kernel
theorem dX0_push_13 : decode cX0_push 13 = .ok (.if_icmp .ge 10, 3) := by decide +kernel
theorem dX0_push_16 : decode cX0_push 16 = .ok (.aload_n 0, 1) := by decide +kernel
theorem dX0_push_17 : decode cX0_push 17 = .ok (.getfield 15, 3) := by decide +kernel
theorem dX0_push_20 : decode cX0_push 20 = .ok (.goto 4, 3) := by decide +kernel
theorem dX0_push_23 : decode cX0_push 23 = .ok (.iconst 0, 1) := by decide +kernel
theorem dX0_push_24 : decode cX0_push 24 = .ok (.istore_n 2, 1) := by decide +kernel
theorem dX0_push_25 : decode cX0_push 25 = .ok (.aload_n 0, 1) := by decide +kernel
theorem dX0_push_26 : decode cX0_push 26 = .ok (.getfield 11, 3) := by decide +kernel
theorem dX0_push_29 : decode cX0_push 29 = .ok (.iload_n 2, 1) := by decide +kernel
theorem dX0_push_30 : decode cX0_push 30 = .ok (.aaload, 1) := by decide +kernel
theorem dX0_push_31 : decode cX0_push 31 = .ok (.astore_n 3, 1) := by decide +kernel
theorem dX0_push_32 : decode cX0_push 32 = .ok (.aload_n 3, 1) := by decide +kernel
theorem dX0_push_33 : decode cX0_push 33 = .ok (.ifnonnull 18, 3) := by decide +kernel
theorem dX0_push_36 : decode cX0_push 36 = .ok (.new 9, 3) := by decide +kernel
theorem dX0_push_39 : decode cX0_push 39 = .ok (.dup, 1) := by decide +kernel
theorem dX0_push_40 : decode cX0_push 40 = .ok (.invokespecial 19, 3) := by decide +kernel
theorem dX0_push_43 : decode cX0_push 43 = .ok (.astore_n 3, 1) := by decide +kernel
theorem dX0_push_44 : decode cX0_push 44 = .ok (.aload_n 0, 1) := by decide +kernel
theorem dX0_push_45 : decode cX0_push 45 = .ok (.getfield 11, 3) := by decide +kernel
theorem dX0_push_48 : decode cX0_push 48 = .ok (.iload_n 2, 1) := by decide +kernel
theorem dX0_push_49 : decode cX0_push 49 = .ok (.aload_n 3, 1) := by decide +kernel
theorem dX0_push_50 : decode cX0_push 50 = .ok (.aastore, 1) := by decide +kernel
theorem dX0_push_51 : decode cX0_push 51 = .ok (.aload_n 3, 1) := by decide +kernel
theorem dX0_push_52 : decode cX0_push 52 = .ok (.aload_n 1, 1) := by decide +kernel
theorem dX0_push_53 : decode cX0_push 53 = .ok (.invokevirtual 20, 3) := by decide +kernel
theorem dX0_push_56 : decode cX0_push 56 = .ok (.aload_n 0, 1) := by decide +kernel
theorem dX0_push_57 : decode cX0_push 57 = .ok (.iload_n 2, 1) := by decide +kernel
theorem dX0_push_58 : decode cX0_push 58 = .ok (.iconst 1, 1) := by decide +kernel
theorem dX0_push_59 : decode cX0_push 59 = .ok (.iadd, 1) := by decide +kernel
theorem dX0_push_60 : decode cX0_push 60 = .ok (.putfield 15, 3) := by decide +kernel
theorem dX0_push_63 : decode cX0_push 63 = .ok (.aload_n 0, 1) := by decide +kernel
theorem dX0_push_64 : decode cX0_push 64 = .ok (.aload_n 0, 1) := by decide +kernel
theorem dX0_push_65 : decode cX0_push 65 = .ok (.getfield 24, 3) := by decide +kernel
theorem dX0_push_68 : decode cX0_push 68 = .ok (.iconst 1, 1) := by decide +kernel
theorem dX0_push_69 : decode cX0_push 69 = .ok (.iadd, 1) := by decide +kernel
theorem dX0_push_70 : decode cX0_push 70 = .ok (.bipush 10, 2) := by decide +kernel
theorem dX0_push_72 : decode cX0_push 72 = .ok (.invokestatic 27, 3) := by decide +kernel
theorem dX0_push_75 : decode cX0_push 75 = .ok (.putfield 24, 3) := by decide +kernel
theorem dX0_push_78 : decode cX0_push 78 = .ok (.return_, 1) := by decide +kernel
theorem dX0_pop_0 : decode cX0_pop 0 = .ok (.aload_n 0, 1) := by decide +kernel
theorem dX0_pop_1 : decode cX0_pop 1 = .ok (.getfield 15, 3) := by decide +kernel
theorem dX0_pop_4 : decode cX0_pop 4 = .ok (.ifCond .le 21, 3) := by decide +kernel
theorem dX0_pop_7 : decode cX0_pop 7 = .ok (.aload_n 0, 1) := by decide +kernel
theorem dX0_pop_8 : decode cX0_pop 8 = .ok (.getfield 15, 3) := by decide +kernel
theorem dX0_pop_11 : decode cX0_pop 11 = .ok (.bipush 10, 2) := by decide +kernel
theorem dX0_pop_13 : decode cX0_pop 13 = .ok (.if_icmp .gt 12, 3) := by decide +kernel
theorem dX0_pop_16 : decode cX0_pop 16 = .ok (.aload_n 0, 1) := by decide +kernel
theorem dX0_pop_17 : decode cX0_pop 17 = .ok (.getfield 15, 3) := by decide +kernel
theorem dX0_pop_20 : decode cX0_pop 20 = .ok (.iconst 1, 1) := by decide +kernel
theorem dX0_pop_21 : decode cX0_pop 21 = .ok (.isub, 1) := by decide +kernel
theorem dX0_pop_22 : decode cX0_pop 22 = .ok (.goto 5, 3) := by decide +kernel
theorem dX0_pop_25 : decode cX0_pop 25 = .ok (.bipush 9, 2) := by decide +kernel
theorem dX0_pop_27 : decode cX0_pop 27 = .ok (.istore_n 2, 1) := by decide +kernel
theorem dX0_pop_28 : decode cX0_pop 28 = .ok (.aload_n 0, 1) := by decide +kernel
theorem dX0_pop_29 : decode cX0_pop 29 = .ok (.getfield 11, 3) := by decide +kernel
theorem dX0_pop_32 : decode cX0_pop 32 = .ok (.iload_n 2, 1) := by decide +kernel
theorem dX0_pop_33 : decode cX0_pop 33 = .ok (.aaload, 1) := by decide +kernel
theorem dX0_pop_34 : decode cX0_pop 34 = .ok (.astore_n 3, 1) := by decide +kernel
theorem dX0_pop_35 : decode cX0_pop 35 = .ok (.aload_n 0, 1) := by decide +kernel
theorem dX0_pop_36 : decode cX0_pop 36 = .ok (.getfield 24, 3) := by decide +kernel
theorem dX0_pop_39 : decode cX0_pop 39 = .ok (.ifCond .eq 7, 3) := by decide +kernel
theorem dX0_pop_42 : decode cX0_pop 42 = .ok (.aload_n 3, 1) := by decide +kernel
theorem dX0_pop_43 : decode cX0_pop 43 = .ok (.ifnonnull 5, 3) := by decide +kernel
theorem dX0_pop_46 : decode cX0_pop 46 = .ok (.iconst 0, 1) := by decide +kernel
theorem dX0_pop_47 : decode cX0_pop 47 = .ok (.ireturn, 1) := by decide +kernel
theorem dX0_pop_48 : decode cX0_pop 48 = .ok (.aload_n 1, 1) := by decide +kernel
theorem dX0_pop_49 : decode cX0_pop 49 = .ok (.aload_n 3, 1) := by decide +kernel
theorem dX0_pop_50 : decode cX0_pop 50 = .ok (.invokevirtual 20, 3) := by decide +kernel
theorem dX0_pop_53 : decode cX0_pop 53 = .ok (.aload_n 0, 1) := by decide +kernel
theorem dX0_pop_54 : decode cX0_pop 54 = .ok (.iload_n 2, 1) := by decide +kernel
theorem dX0_pop_55 : decode cX0_pop 55 = .ok (.putfield 15, 3) := by decide +kernel
theorem dX0_pop_58 : decode cX0_pop 58 = .ok (.aload_n 0, 1) := by decide +kernel
theorem dX0_pop_59 : decode cX0_pop 59 = .ok (.dup, 1) := by decide +kernel
theorem dX0_pop_60 : decode cX0_pop 60 = .ok (.getfield 24, 3) := by decide +kernel
theorem dX0_pop_63 : decode cX0_pop 63 = .ok (.iconst 1, 1) := by decide +kernel
theorem dX0_pop_64 : decode cX0_pop 64 = .ok (.isub, 1) := by decide +kernel
theorem dX0_pop_65 : decode cX0_pop 65 = .ok (.putfield 24, 3) := by decide +kernel
theorem dX0_pop_68 : decode cX0_pop 68 = .ok (.iconst 1, 1) := by decide +kernel
theorem dX0_pop_69 : decode cX0_pop 69 = .ok (.ireturn, 1) := by decide +kernel
theorem dX0_forget_0 : decode cX0_forget 0 = .ok (.aload_n 0, 1) := by decide +kernel
theorem dX0_forget_1 : decode cX0_forget 1 = .ok (.iconst 0, 1) := by decide +kernel
theorem dX0_forget_2 : decode cX0_forget 2 = .ok (.putfield 24, 3) := by decide +kernel
theorem dX0_forget_5 : decode cX0_forget 5 = .ok (.return_, 1) := by decide +kernel
theorem dX1_init_0 : decode cX1_init 0 = .ok (.aload_n 0, 1) := by decide +kernel
theorem dX1_init_1 : decode cX1_init 1 = .ok (.invokespecial 3, 3) := by decide +kernel
theorem dX1_init_4 : decode cX1_init 4 = .ok (.aload_n 0, 1) := by decide +kernel
theorem dX1_init_5 : decode cX1_init 5 = .ok (.bipush 64, 2) := by decide +kernel
theorem dX1_init_7 : decode cX1_init 7 = .ok (.newarray .long, 2) := by decide +kernel
theorem dX1_init_9 : decode cX1_init 9 = .ok (.putfield 11, 3) := by decide +kernel
theorem dX1_init_12 : decode cX1_init 12 = .ok (.aload_n 0, 1) := by decide +kernel
theorem dX1_init_13 : decode cX1_init 13 = .ok (.bipush 64, 2) := by decide +kernel
theorem dX1_init_15 : decode cX1_init 15 = .ok (.newarray .int, 2) := by decide +kernel
theorem dX1_init_17 : decode cX1_init 17 = .ok (.putfield 15, 3) := by decide +kernel
theorem dX1_init_20 : decode cX1_init 20 = .ok (.aload_n 0, 1) := by decide +kernel
theorem dX1_init_21 : decode cX1_init 21 = .ok (.bipush 64, 2) := by decide +kernel
theorem dX1_init_23 : decode cX1_init 23 = .ok (.newarray .int, 2) := by decide +kernel
theorem dX1_init_25 : decode cX1_init 25 = .ok (.putfield 19, 3) := by decide +kernel
theorem dX1_init_28 : decode cX1_init 28 = .ok (.aload_n 0, 1) := by decide +kernel
theorem dX1_init_29 : decode cX1_init 29 = .ok (.bipush 64, 2) := by decide +kernel
theorem dX1_init_31 : decode cX1_init 31 = .ok (.newarray .int, 2) := by decide +kernel
theorem dX1_init_33 : decode cX1_init 33 = .ok (.putfield 22, 3) := by decide +kernel
theorem dX1_init_36 : decode cX1_init 36 = .ok (.aload_n 0, 1) := by decide +kernel
theorem dX1_init_37 : decode cX1_init 37 = .ok (.iconst 4, 1) := by decide +kernel
theorem dX1_init_38 : decode cX1_init 38 = .ok (.newarray .long, 2) := by decide +kernel
theorem dX1_init_40 : decode cX1_init 40 = .ok (.putfield 25, 3) := by decide +kernel
theorem dX1_init_43 : decode cX1_init 43 = .ok (.aload_n 0, 1) := by decide +kernel
theorem dX1_init_44 : decode cX1_init 44 = .ok (.iconst 4, 1) := by decide +kernel
theorem dX1_init_45 : decode cX1_init 45 = .ok (.newarray .long, 2) := by decide +kernel
theorem dX1_init_47 : decode cX1_init 47 = .ok (.putfield 28, 3) := by decide +kernel
theorem dX1_init_50 : decode cX1_init 50 = .ok (.return_, 1) := by decide +kernel
theorem dX1_lay_0 : decode cX1_lay 0 = .ok (.aload_n 0, 1) := by decide +kernel
theorem dX1_lay_1 : decode cX1_lay 1 = .ok (.lload_n 1, 1) := by decide +kernel
theorem dX1_lay_2 : decode cX1_lay 2 = .ok (.invokevirtual 31, 3) := by decide +kernel
theorem dX1_lay_5 : decode cX1_lay 5 = .ok (.iconst 0, 1) := by decide +kernel
theorem dX1_lay_6 : decode cX1_lay 6 = .ok (.istore_n 3, 1) := by decide +kernel
theorem dX1_lay_7 : decode cX1_lay 7 = .ok (.iload_n 3, 1) := by decide +kernel
theorem dX1_lay_8 : decode cX1_lay 8 = .ok (.aload_n 0, 1) := by decide +kernel
theorem dX1_lay_9 : decode cX1_lay 9 = .ok (.getfield 35, 3) := by decide +kernel
theorem dX1_lay_12 : decode cX1_lay 12 = .ok (.if_icmp .ge 51, 3) := by decide +kernel
theorem dX1_lay_15 : decode cX1_lay 15 = .ok (.iload_n 3, 1) := by decide +kernel
theorem dX1_lay_16 : decode cX1_lay 16 = .ok (.bipush 64, 2) := by decide +kernel
theorem dX1_lay_18 : decode cX1_lay 18 = .ok (.if_icmp .ge 45, 3) := by decide +kernel
theorem dX1_lay_21 : decode cX1_lay 21 = .ok (.aload_n 0, 1) := by decide +kernel
theorem dX1_lay_22 : decode cX1_lay 22 = .ok (.getfield 19, 3) := by decide +kernel
theorem dX1_lay_25 : decode cX1_lay 25 = .ok (.iload_n 3, 1) := by decide +kernel
theorem dX1_lay_26 : decode cX1_lay 26 = .ok (.aload_n 0, 1) := by decide +kernel
theorem dX1_lay_27 : decode cX1_lay 27 = .ok (.getfield 11, 3) := by decide +kernel
theorem dX1_lay_30 : decode cX1_lay 30 = .ok (.iload_n 3, 1) := by decide +kernel
theorem dX1_lay_31 : decode cX1_lay 31 = .ok (.laload, 1) := by decide +kernel
theorem dX1_lay_32 : decode cX1_lay 32 = .ok (.aload_n 0, 1) := by decide +kernel
theorem dX1_lay_33 : decode cX1_lay 33 = .ok (.getfield 15, 3) := by decide +kernel
theorem dX1_lay_36 : decode cX1_lay 36 = .ok (.iload_n 3, 1) := by decide +kernel
theorem dX1_lay_37 : decode cX1_lay 37 = .ok (.iaload, 1) := by decide +kernel
theorem dX1_lay_38 : decode cX1_lay 38 = .ok (.invokestatic 39, 3) := by decide +kernel
theorem dX1_lay_41 : decode cX1_lay 41 = .ok (.iastore, 1) := by decide +kernel
theorem dX1_lay_42 : decode cX1_lay 42 = .ok (.aload_n 0, 1) := by decide +kernel
theorem dX1_lay_43 : decode cX1_lay 43 = .ok (.getfield 22, 3) := by decide +kernel
theorem dX1_lay_46 : decode cX1_lay 46 = .ok (.iload_n 3, 1) := by decide +kernel
theorem dX1_lay_47 : decode cX1_lay 47 = .ok (.aload_n 0, 1) := by decide +kernel
theorem dX1_lay_48 : decode cX1_lay 48 = .ok (.getfield 11, 3) := by decide +kernel
theorem dX1_lay_51 : decode cX1_lay 51 = .ok (.iload_n 3, 1) := by decide +kernel
theorem dX1_lay_52 : decode cX1_lay 52 = .ok (.laload, 1) := by decide +kernel
theorem dX1_lay_53 : decode cX1_lay 53 = .ok (.invokestatic 43, 3) := by decide +kernel
theorem dX1_lay_56 : decode cX1_lay 56 = .ok (.iastore, 1) := by decide +kernel
theorem dX1_lay_57 : decode cX1_lay 57 = .ok (.iinc 3 1, 3) := by decide +kernel
theorem dX1_lay_60 : decode cX1_lay 60 = .ok (.goto (-53), 3) := by decide +kernel
theorem dX1_lay_63 : decode cX1_lay 63 = .ok (.aload_n 0, 1) := by decide +kernel
theorem dX1_lay_64 : decode cX1_lay 64 = .ok (.invokevirtual 47, 3) := by decide +kernel
theorem dX1_lay_67 : decode cX1_lay 67 = .ok (.aload_n 0, 1) := by decide +kernel
theorem dX1_lay_68 : decode cX1_lay 68 = .ok (.iconst 0, 1) := by decide +kernel
theorem dX1_lay_69 : decode cX1_lay 69 = .ok (.putfield 50, 3) := by decide +kernel
theorem dX1_lay_72 : decode cX1_lay 72 = .ok (.aload_n 0, 1) := by decide +kernel
theorem dX1_lay_73 : decode cX1_lay 73 = .ok (.iconst (-1), 1) := by decide +kernel
theorem dX1_lay_74 : decode cX1_lay 74 = .ok (.putfield 53, 3) := by decide +kernel
theorem dX1_lay_77 : decode cX1_lay 77 = .ok (.aload_n 0, 1) := by decide +kernel
theorem dX1_lay_78 : decode cX1_lay 78 = .ok (.iconst 0, 1) := by decide +kernel
theorem dX1_lay_79 : decode cX1_lay 79 = .ok (.lconst 0, 1) := by decide +kernel
theorem dX1_lay_80 : decode cX1_lay 80 = .ok (.iconst 0, 1) := by decide +kernel
theorem dX1_lay_81 : decode cX1_lay 81 = .ok (.iconst 0, 1) := by decide +kernel
theorem dX1_lay_82 : decode cX1_lay 82 = .ok (.invokevirtual 56, 3) := by decide +kernel
theorem dX1_lay_85 : decode cX1_lay 85 = .ok (.aload_n 0, 1) := by decide +kernel
theorem dX1_lay_86 : decode cX1_lay 86 = .ok (.lload_n 1, 1) := by decide +kernel
theorem dX1_lay_87 : decode cX1_lay 87 = .ok (.putfield 60, 3) := by decide +kernel
theorem dX1_lay_90 : decode cX1_lay 90 = .ok (.iconst 0, 1) := by decide +kernel
theorem dX1_lay_91 : decode cX1_lay 91 = .ok (.istore_n 3, 1) := by decide +kernel
theorem dX1_lay_92 : decode cX1_lay 92 = .ok (.iload_n 3, 1) := by decide +kernel
theorem dX1_lay_93 : decode cX1_lay 93 = .ok (.aload_n 0, 1) := by decide +kernel
theorem dX1_lay_94 : decode cX1_lay 94 = .ok (.getfield 50, 3) := by decide +kernel
theorem dX1_lay_97 : decode cX1_lay 97 = .ok (.if_icmp .ge 37, 3) := by decide +kernel
theorem dX1_lay_100 : decode cX1_lay 100 = .ok (.iload_n 3, 1) := by decide +kernel
theorem dX1_lay_101 : decode cX1_lay 101 = .ok (.aload_n 0, 1) := by decide +kernel
theorem dX1_lay_102 : decode cX1_lay 102 = .ok (.getfield 28, 3) := by decide +kernel
theorem dX1_lay_105 : decode cX1_lay 105 = .ok (.arraylength, 1) := by decide +kernel
theorem dX1_lay_106 : decode cX1_lay 106 = .ok (.if_icmp .ge 28, 3) := by decide +kernel
theorem dX1_lay_109 : decode cX1_lay 109 = .ok (.aload_n 0, 1) := by decide +kernel
theorem dX1_lay_110 : decode cX1_lay 110 = .ok (.dup, 1) := by decide +kernel
theorem dX1_lay_111 : decode cX1_lay 111 = .ok (.getfield 60, 3) := by decide +kernel
theorem dX1_lay_114 : decode cX1_lay 114 = .ok (.aload_n 0, 1) := by decide +kernel
theorem dX1_lay_115 : decode cX1_lay 115 = .ok (.getfield 28, 3) := by decide +kernel
theorem dX1_lay_118 : decode cX1_lay 118 = .ok (.iload_n 3, 1) := by decide +kernel
theorem dX1_lay_119 : decode cX1_lay 119 = .ok (.laload, 1) := by decide +kernel
theorem dX1_lay_120 : decode cX1_lay 120 = .ok (.ldc2_w 64, 3) := by decide +kernel
theorem dX1_lay_123 : decode cX1_lay 123 = .ok (.lxor, 1) := by decide +kernel
theorem dX1_lay_124 : decode cX1_lay 124 = .ok (.land, 1) := by decide +kernel
theorem dX1_lay_125 : decode cX1_lay 125 = .ok (.putfield 60, 3) := by decide +kernel
theorem dX1_lay_128 : decode cX1_lay 128 = .ok (.iinc 3 1, 3) := by decide +kernel
theorem dX1_lay_131 : decode cX1_lay 131 = .ok (.goto (-39), 3) := by decide +kernel
theorem dX1_lay_134 : decode cX1_lay 134 = .ok (.aload_n 0, 1) := by decide +kernel
theorem dX1_lay_135 : decode cX1_lay 135 = .ok (.aload_n 0, 1) := by decide +kernel
theorem dX1_lay_136 : decode cX1_lay 136 = .ok (.getfield 60, 3) := by decide +kernel
theorem dX1_lay_139 : decode cX1_lay 139 = .ok (.invokestatic 43, 3) := by decide +kernel
theorem dX1_lay_142 : decode cX1_lay 142 = .ok (.putfield 66, 3) := by decide +kernel
theorem dX1_lay_145 : decode cX1_lay 145 = .ok (.return_, 1) := by decide +kernel
theorem dX1_restBehindDrop_0 : decode cX1_restBehindDrop 0 = .ok (.aload_n 0, 1) := by decide +kernel
theorem dX1_restBehindDrop_1 : decode cX1_restBehindDrop 1 = .ok (.lload_n 1, 1) := by decide +kernel
theorem dX1_restBehindDrop_2 : decode cX1_restBehindDrop 2 = .ok (.invokevirtual 31, 3) := by decide +kernel
theorem dX1_restBehindDrop_5 : decode cX1_restBehindDrop 5 = .ok (.aload_n 0, 1) := by decide +kernel
theorem dX1_restBehindDrop_6 : decode cX1_restBehindDrop 6 = .ok (.lload_n 1, 1) := by decide +kernel
theorem dX1_restBehindDrop_7 : decode cX1_restBehindDrop 7 = .ok (.putfield 69, 3) := by decide +kernel
theorem dX1_restBehindDrop_10 : decode cX1_restBehindDrop 10 = .ok (.aload_n 0, 1) := by decide +kernel
theorem dX1_restBehindDrop_11 : decode cX1_restBehindDrop 11 = .ok (.lload_n 1, 1) := by decide +kernel
theorem dX1_restBehindDrop_12 : decode cX1_restBehindDrop 12 = .ok (.iload_n 3, 1) := by decide +kernel
theorem dX1_restBehindDrop_13 : decode cX1_restBehindDrop 13 = .ok (.invokestatic 72, 3) := by decide +kernel
theorem dX1_restBehindDrop_16 : decode cX1_restBehindDrop 16 = .ok (.ldc2_w 64, 3) := by decide +kernel
theorem dX1_restBehindDrop_19 : decode cX1_restBehindDrop 19 = .ok (.lxor, 1) := by decide +kernel
theorem dX1_restBehindDrop_20 : decode cX1_restBehindDrop 20 = .ok (.land, 1) := by decide +kernel
theorem dX1_restBehindDrop_21 : decode cX1_restBehindDrop 21 = .ok (.putfield 76, 3) := by decide +kernel
theorem dX1_restBehindDrop_24 : decode cX1_restBehindDrop 24 = .ok (.aload_n 0, 1) := by decide +kernel
theorem dX1_restBehindDrop_25 : decode cX1_restBehindDrop 25 = .ok (.iconst (-1), 1) := by decide +kernel
theorem dX1_restBehindDrop_26 : decode cX1_restBehindDrop 26 = .ok (.putfield 79, 3) := by decide +kernel
theorem dX1_restBehindDrop_29 : decode cX1_restBehindDrop 29 = .ok (.aload_n 0, 1) := by decide +kernel
theorem dX1_restBehindDrop_30 : decode cX1_restBehindDrop 30 = .ok (.iconst 0, 1) := by decide +kernel
theorem dX1_restBehindDrop_31 : decode cX1_restBehindDrop 31 = .ok (.lconst 0, 1) := by decide +kernel
theorem dX1_restBehindDrop_32 : decode cX1_restBehindDrop 32 = .ok (.iconst 0, 1) := by decide +kernel
theorem dX1_restBehindDrop_33 : decode cX1_restBehindDrop 33 = .ok (.invokevirtual 82, 3) := by decide +kernel
theorem dX1_restBehindDrop_36 : decode cX1_restBehindDrop 36 = .ok (.aload_n 0, 1) := by decide +kernel
theorem dX1_restBehindDrop_37 : decode cX1_restBehindDrop 37 = .ok (.getfield 79, 3) := by decide +kernel
theorem dX1_restBehindDrop_40 : decode cX1_restBehindDrop 40 = .ok (.ireturn, 1) := by decide +kernel
theorem dX1_collect_0 : decode cX1_collect 0 = .ok (.aload_n 0, 1) := by decide +kernel
theorem dX1_collect_1 : decode cX1_collect 1 = .ok (.iconst 0, 1) := by decide +kernel
theorem dX1_collect_2 : decode cX1_collect 2 = .ok (.putfield 35, 3) := by decide +kernel
theorem dX1_collect_5 : decode cX1_collect 5 = .ok (.iconst 0, 1) := by decide +kernel
theorem dX1_collect_6 : decode cX1_collect 6 = .ok (.istore_n 3, 1) := by decide +kernel
theorem dX1_collect_7 : decode cX1_collect 7 = .ok (.iload_n 3, 1) := by decide +kernel
theorem dX1_collect_8 : decode cX1_collect 8 = .ok (.bipush 13, 2) := by decide +kernel
theorem dX1_collect_10 : decode cX1_collect 10 = .ok (.if_icmp .ge 20, 3) := by decide +kernel
theorem dX1_collect_13 : decode cX1_collect 13 = .ok (.aload_n 0, 1) := by decide +kernel
theorem dX1_collect_14 : decode cX1_collect 14 = .ok (.lload_n 1, 1) := by decide +kernel
theorem dX1_collect_15 : decode cX1_collect 15 = .ok (.ldc2_w 86, 3) := by decide +kernel
theorem dX1_collect_18 : decode cX1_collect 18 = .ok (.iload_n 3, 1) := by decide +kernel
theorem dX1_collect_19 : decode cX1_collect 19 = .ok (.lshl, 1) := by decide +kernel
theorem dX1_collect_20 : decode cX1_collect 20 = .ok (.land, 1) := by decide +kernel
theorem dX1_collect_21 : decode cX1_collect 21 = .ok (.invokevirtual 88, 3) := by decide +kernel
theorem dX1_collect_24 : decode cX1_collect 24 = .ok (.iinc 3 1, 3) := by decide +kernel
theorem dX1_collect_27 : decode cX1_collect 27 = .ok (.goto (-20), 3) := by decide +kernel
theorem dX1_collect_30 : decode cX1_collect 30 = .ok (.iconst 0, 1) := by decide +kernel
theorem dX1_collect_31 : decode cX1_collect 31 = .ok (.istore_n 3, 1) := by decide +kernel
theorem dX1_collect_32 : decode cX1_collect 32 = .ok (.iload_n 3, 1) := by decide +kernel
theorem dX1_collect_33 : decode cX1_collect 33 = .ok (.iconst 4, 1) := by decide +kernel
theorem dX1_collect_34 : decode cX1_collect 34 = .ok (.if_icmp .ge 27, 3) := by decide +kernel
theorem dX1_collect_37 : decode cX1_collect 37 = .ok (.aload_n 0, 1) := by decide +kernel
theorem dX1_collect_38 : decode cX1_collect 38 = .ok (.lload_n 1, 1) := by decide +kernel
theorem dX1_collect_39 : decode cX1_collect 39 = .ok (.iload_n 3, 1) := by decide +kernel
theorem dX1_collect_40 : decode cX1_collect 40 = .ok (.bipush 13, 2) := by decide +kernel
theorem dX1_collect_42 : decode cX1_collect 42 = .ok (.imul, 1) := by decide +kernel
theorem dX1_collect_43 : decode cX1_collect 43 = .ok (.lushr, 1) := by decide +kernel
theorem dX1_collect_44 : decode cX1_collect 44 = .ok (.ldc2_w 91, 3) := by decide +kernel
theorem dX1_collect_47 : decode cX1_collect 47 = .ok (.land, 1) := by decide +kernel
theorem dX1_collect_48 : decode cX1_collect 48 = .ok (.iload_n 3, 1) := by decide +kernel
theorem dX1_collect_49 : decode cX1_collect 49 = .ok (.bipush 13, 2) := by decide +kernel
theorem dX1_collect_51 : decode cX1_collect 51 = .ok (.imul, 1) := by decide +kernel
theorem dX1_collect_52 : decode cX1_collect 52 = .ok (.invokevirtual 93, 3) := by decide +kernel
theorem dX1_collect_55 : decode cX1_collect 55 = .ok (.iinc 3 1, 3) := by decide +kernel
theorem dX1_collect_58 : decode cX1_collect 58 = .ok (.goto (-26), 3) := by decide +kernel
theorem dX1_collect_61 : decode cX1_collect 61 = .ok (.return_, 1) := by decide +kernel
theorem dX1_collectSets_0 : decode cX1_collectSets 0 = .ok (.lload_n 1, 1) := by decide +kernel
theorem dX1_collectSets_1 : decode cX1_collectSets 1 = .ok (.invokestatic 97, 3) := by decide +kernel
theorem dX1_collectSets_4 : decode cX1_collectSets 4 = .ok (.istore_n 3, 1) := by decide +kernel
theorem dX1_collectSets_5 : decode cX1_collectSets 5 = .ok (.iload_n 3, 1) := by decide +kernel
theorem dX1_collectSets_6 : decode cX1_collectSets 6 = .ok (.iconst 3, 1) := by decide +kernel
theorem dX1_collectSets_7 : decode cX1_collectSets 7 = .ok (.if_icmp .ge 4, 3) := by decide +kernel
theorem dX1_collectSets_10 : decode cX1_collectSets 10 = .ok (.return_, 1) := by decide +kernel
theorem dX1_collectSets_11 : decode cX1_collectSets 11 = .ok (.aload_n 0, 1) := by decide +kernel
theorem dX1_collectSets_12 : decode cX1_collectSets 12 = .ok (.lload_n 1, 1) := by decide +kernel
theorem dX1_collectSets_13 : decode cX1_collectSets 13 = .ok (.iconst 1, 1) := by decide +kernel
theorem dX1_collectSets_14 : decode cX1_collectSets 14 = .ok (.invokevirtual 102, 3) := by decide +kernel
theorem dX1_collectSets_17 : decode cX1_collectSets 17 = .ok (.iconst 0, 1) := by decide +kernel
theorem dX1_collectSets_18 : decode cX1_collectSets 18 = .ok (.istore 4, 2) := by decide +kernel
theorem dX1_collectSets_20 : decode cX1_collectSets 20 = .ok (.iload 4, 2) := by decide +kernel
theorem dX1_collectSets_22 : decode cX1_collectSets 22 = .ok (.iconst 4, 1) := by decide +kernel
theorem dX1_collectSets_23 : decode cX1_collectSets 23 = .ok (.if_icmp .ge 34, 3) := by decide +kernel
theorem dX1_collectSets_26 : decode cX1_collectSets 26 = .ok (.iload_n 3, 1) := by decide +kernel
theorem dX1_collectSets_27 : decode cX1_collectSets 27 = .ok (.iconst 4, 1) := by decide +kernel
theorem dX1_collectSets_28 : decode cX1_collectSets 28 = .ok (.if_icmp .ne 29, 3) := by decide +kernel
theorem dX1_collectSets_31 : decode cX1_collectSets 31 = .ok (.aload_n 0, 1) := by decide +kernel
theorem dX1_collectSets_32 : decode cX1_collectSets 32 = .ok (.lload_n 1, 1) := by decide +kernel
theorem dX1_collectSets_33 : decode cX1_collectSets 33 = .ok (.ldc2_w 91, 3) := by decide +kernel
theorem dX1_collectSets_36 : decode cX1_collectSets 36 = .ok (.iload 4, 2) := by decide +kernel
theorem dX1_collectSets_38 : decode cX1_collectSets 38 = .ok (.bipush 13, 2) := by decide +kernel
theorem dX1_collectSets_40 : decode cX1_collectSets 40 = .ok (.imul, 1) := by decide +kernel
theorem dX1_collectSets_41 : decode cX1_collectSets 41 = .ok (.lshl, 1) := by decide +kernel
theorem dX1_collectSets_42 : decode cX1_collectSets 42 = .ok (.ldc2_w 64, 3) := by decide +kernel
theorem dX1_collectSets_45 : decode cX1_collectSets 45 = .ok (.lxor, 1) := by decide +kernel
theorem dX1_collectSets_46 : decode cX1_collectSets 46 = .ok (.land, 1) := by decide +kernel
theorem dX1_collectSets_47 : decode cX1_collectSets 47 = .ok (.iconst 1, 1) := by decide +kernel
theorem dX1_collectSets_48 : decode cX1_collectSets 48 = .ok (.invokevirtual 102, 3) := by decide +kernel
theorem dX1_collectSets_51 : decode cX1_collectSets 51 = .ok (.iinc 4 1, 3) := by decide +kernel
theorem dX1_collectSets_54 : decode cX1_collectSets 54 = .ok (.goto (-34), 3) := by decide +kernel
theorem dX1_collectSets_57 : decode cX1_collectSets 57 = .ok (.return_, 1) := by decide +kernel
theorem dX1_collectRuns_0 : decode cX1_collectRuns 0 = .ok (.lload_n 1, 1) := by decide +kernel
theorem dX1_collectRuns_1 : decode cX1_collectRuns 1 = .ok (.invokestatic 97, 3) := by decide +kernel
theorem dX1_collectRuns_4 : decode cX1_collectRuns 4 = .ok (.iconst 3, 1) := by decide +kernel
theorem dX1_collectRuns_5 : decode cX1_collectRuns 5 = .ok (.if_icmp .ge 4, 3) := by decide +kernel
theorem dX1_collectRuns_8 : decode cX1_collectRuns 8 = .ok (.return_, 1) := by decide +kernel
theorem dX1_collectRuns_9 : decode cX1_collectRuns 9 = .ok (.iconst 0, 1) := by decide +kernel
theorem dX1_collectRuns_10 : decode cX1_collectRuns 10 = .ok (.istore 4, 2) := by decide +kernel
theorem dX1_collectRuns_12 : decode cX1_collectRuns 12 = .ok (.iload 4, 2) := by decide +kernel
theorem dX1_collectRuns_14 : decode cX1_collectRuns 14 = .ok (.bipush 13, 2) := by decide +kernel
theorem dX1_collectRuns_16 : decode cX1_collectRuns 16 = .ok (.if_icmp .ge 90, 3) := by decide +kernel
theorem dX1_collectRuns_19 : decode cX1_collectRuns 19 = .ok (.lconst 0, 1) := by decide +kernel
theorem dX1_collectRuns_20 : decode cX1_collectRuns 20 = .ok (.lstore 5, 2) := by decide +kernel
theorem dX1_collectRuns_22 : decode cX1_collectRuns 22 = .ok (.iload 4, 2) := by decide +kernel
theorem dX1_collectRuns_24 : decode cX1_collectRuns 24 = .ok (.ifCond .ne 8, 3) := by decide +kernel
theorem dX1_collectRuns_27 : decode cX1_collectRuns 27 = .ok (.bipush 13, 2) := by decide +kernel
theorem dX1_collectRuns_29 : decode cX1_collectRuns 29 = .ok (.goto 5, 3) := by decide +kernel
theorem dX1_collectRuns_32 : decode cX1_collectRuns 32 = .ok (.bipush 12, 2) := by decide +kernel
theorem dX1_collectRuns_34 : decode cX1_collectRuns 34 = .ok (.istore 7, 2) := by decide +kernel
theorem dX1_collectRuns_36 : decode cX1_collectRuns 36 = .ok (.iconst 1, 1) := by decide +kernel
theorem dX1_collectRuns_37 : decode cX1_collectRuns 37 = .ok (.istore 8, 2) := by decide +kernel
theorem dX1_collectRuns_39 : decode cX1_collectRuns 39 = .ok (.iload 8, 2) := by decide +kernel
theorem dX1_collectRuns_41 : decode cX1_collectRuns 41 = .ok (.iload 7, 2) := by decide +kernel
theorem dX1_collectRuns_43 : decode cX1_collectRuns 43 = .ok (.if_icmp .gt 57, 3) := by decide +kernel
theorem dX1_collectRuns_46 : decode cX1_collectRuns 46 = .ok (.lconst 1, 1) := by decide +kernel
theorem dX1_collectRuns_47 : decode cX1_collectRuns 47 = .ok (.iload 4, 2) := by decide +kernel
theorem dX1_collectRuns_49 : decode cX1_collectRuns 49 = .ok (.iload 8, 2) := by decide +kernel
theorem dX1_collectRuns_51 : decode cX1_collectRuns 51 = .ok (.iadd, 1) := by decide +kernel
theorem dX1_collectRuns_52 : decode cX1_collectRuns 52 = .ok (.iconst 1, 1) := by decide +kernel
theorem dX1_collectRuns_53 : decode cX1_collectRuns 53 = .ok (.isub, 1) := by decide +kernel
theorem dX1_collectRuns_54 : decode cX1_collectRuns 54 = .ok (.bipush 13, 2) := by decide +kernel
theorem dX1_collectRuns_56 : decode cX1_collectRuns 56 = .ok (.irem, 1) := by decide +kernel
theorem dX1_collectRuns_57 : decode cX1_collectRuns 57 = .ok (.lshl, 1) := by decide +kernel
theorem dX1_collectRuns_58 : decode cX1_collectRuns 58 = .ok (.lstore 9, 2) := by decide +kernel
theorem dX1_collectRuns_60 : decode cX1_collectRuns 60 = .ok (.lload_n 1, 1) := by decide +kernel
theorem dX1_collectRuns_61 : decode cX1_collectRuns 61 = .ok (.lload 9, 2) := by decide +kernel
theorem dX1_collectRuns_63 : decode cX1_collectRuns 63 = .ok (.land, 1) := by decide +kernel
theorem dX1_collectRuns_64 : decode cX1_collectRuns 64 = .ok (.lconst 0, 1) := by decide +kernel
theorem dX1_collectRuns_65 : decode cX1_collectRuns 65 = .ok (.lcmp, 1) := by decide +kernel
theorem dX1_collectRuns_66 : decode cX1_collectRuns 66 = .ok (.ifCond .ne 6, 3) := by decide +kernel
theorem dX1_collectRuns_69 : decode cX1_collectRuns 69 = .ok (.goto 31, 3) := by decide +kernel
theorem dX1_collectRuns_72 : decode cX1_collectRuns 72 = .ok (.lload 5, 2) := by decide +kernel
theorem dX1_collectRuns_74 : decode cX1_collectRuns 74 = .ok (.lload 9, 2) := by decide +kernel
theorem dX1_collectRuns_76 : decode cX1_collectRuns 76 = .ok (.lor, 1) := by decide +kernel
theorem dX1_collectRuns_77 : decode cX1_collectRuns 77 = .ok (.lstore 5, 2) := by decide +kernel
theorem dX1_collectRuns_79 : decode cX1_collectRuns 79 = .ok (.iload 8, 2) := by decide +kernel
theorem dX1_collectRuns_81 : decode cX1_collectRuns 81 = .ok (.iconst 3, 1) := by decide +kernel
theorem dX1_collectRuns_82 : decode cX1_collectRuns 82 = .ok (.if_icmp .lt 12, 3) := by decide +kernel
theorem dX1_collectRuns_85 : decode cX1_collectRuns 85 = .ok (.aload_n 0, 1) := by decide +kernel
theorem dX1_collectRuns_86 : decode cX1_collectRuns 86 = .ok (.lload 5, 2) := by decide +kernel
theorem dX1_collectRuns_88 : decode cX1_collectRuns 88 = .ok (.iload_n 3, 1) := by decide +kernel
theorem dX1_collectRuns_89 : decode cX1_collectRuns 89 = .ok (.lshl, 1) := by decide +kernel
theorem dX1_collectRuns_90 : decode cX1_collectRuns 90 = .ok (.iconst 2, 1) := by decide +kernel
theorem dX1_collectRuns_91 : decode cX1_collectRuns 91 = .ok (.invokevirtual 102, 3) := by decide +kernel
theorem dX1_collectRuns_94 : decode cX1_collectRuns 94 = .ok (.iinc 8 1, 3) := by decide +kernel
theorem dX1_collectRuns_97 : decode cX1_collectRuns 97 = .ok (.goto (-58), 3) := by decide +kernel
theorem dX1_collectRuns_100 : decode cX1_collectRuns 100 = .ok (.iinc 4 1, 3) := by decide +kernel
theorem dX1_collectRuns_103 : decode cX1_collectRuns 103 = .ok (.goto (-91), 3) := by decide +kernel
theorem dX1_collectRuns_106 : decode cX1_collectRuns 106 = .ok (.return_, 1) := by decide +kernel
theorem dX1_addMeld_0 : decode cX1_addMeld 0 = .ok (.aload_n 0, 1) := by decide +kernel
theorem dX1_addMeld_1 : decode cX1_addMeld 1 = .ok (.getfield 35, 3) := by decide +kernel
theorem dX1_addMeld_4 : decode cX1_addMeld 4 = .ok (.bipush 64, 2) := by decide +kernel
theorem dX1_addMeld_6 : decode cX1_addMeld 6 = .ok (.if_icmp .ge 33, 3) := by decide +kernel
theorem dX1_addMeld_9 : decode cX1_addMeld 9 = .ok (.aload_n 0, 1) := by decide +kernel
theorem dX1_addMeld_10 : decode cX1_addMeld 10 = .ok (.getfield 11, 3) := by decide +kernel
theorem dX1_addMeld_13 : decode cX1_addMeld 13 = .ok (.aload_n 0, 1) := by decide +kernel
theorem dX1_addMeld_14 : decode cX1_addMeld 14 = .ok (.getfield 35, 3) := by decide +kernel
theorem dX1_addMeld_17 : decode cX1_addMeld 17 = .ok (.lload_n 1, 1) := by decide +kernel
theorem dX1_addMeld_18 : decode cX1_addMeld 18 = .ok (.lastore, 1) := by decide +kernel
theorem dX1_addMeld_19 : decode cX1_addMeld 19 = .ok (.aload_n 0, 1) := by decide +kernel
theorem dX1_addMeld_20 : decode cX1_addMeld 20 = .ok (.getfield 15, 3) := by decide +kernel
theorem dX1_addMeld_23 : decode cX1_addMeld 23 = .ok (.aload_n 0, 1) := by decide +kernel
theorem dX1_addMeld_24 : decode cX1_addMeld 24 = .ok (.getfield 35, 3) := by decide +kernel
theorem dX1_addMeld_27 : decode cX1_addMeld 27 = .ok (.iload_n 3, 1) := by decide +kernel
theorem dX1_addMeld_28 : decode cX1_addMeld 28 = .ok (.iastore, 1) := by decide +kernel
theorem dX1_addMeld_29 : decode cX1_addMeld 29 = .ok (.aload_n 0, 1) := by decide +kernel
theorem dX1_addMeld_30 : decode cX1_addMeld 30 = .ok (.dup, 1) := by decide +kernel
theorem dX1_addMeld_31 : decode cX1_addMeld 31 = .ok (.getfield 35, 3) := by decide +kernel
theorem dX1_addMeld_34 : decode cX1_addMeld 34 = .ok (.iconst 1, 1) := by decide +kernel
theorem dX1_addMeld_35 : decode cX1_addMeld 35 = .ok (.iadd, 1) := by decide +kernel
theorem dX1_addMeld_36 : decode cX1_addMeld 36 = .ok (.putfield 35, 3) := by decide +kernel
theorem dX1_addMeld_39 : decode cX1_addMeld 39 = .ok (.return_, 1) := by decide +kernel
theorem dX1_keyOf_0 : decode cX1_keyOf 0 = .ok (.lload_n 0, 1) := by decide +kernel
theorem dX1_keyOf_1 : decode cX1_keyOf 1 = .ok (.invokestatic 105, 3) := by decide +kernel
theorem dX1_keyOf_4 : decode cX1_keyOf 4 = .ok (.bipush 14, 2) := by decide +kernel
theorem dX1_keyOf_6 : decode cX1_keyOf 6 = .ok (.imul, 1) := by decide +kernel
theorem dX1_keyOf_7 : decode cX1_keyOf 7 = .ok (.lload_n 0, 1) := by decide +kernel
theorem dX1_keyOf_8 : decode cX1_keyOf 8 = .ok (.invokestatic 97, 3) := by decide +kernel
theorem dX1_keyOf_11 : decode cX1_keyOf 11 = .ok (.iadd, 1) := by decide +kernel
theorem dX1_keyOf_12 : decode cX1_keyOf 12 = .ok (.iconst 4, 1) := by decide +kernel
theorem dX1_keyOf_13 : decode cX1_keyOf 13 = .ok (.imul, 1) := by decide +kernel
theorem dX1_keyOf_14 : decode cX1_keyOf 14 = .ok (.iload_n 2, 1) := by decide +kernel
theorem dX1_keyOf_15 : decode cX1_keyOf 15 = .ok (.iadd, 1) := by decide +kernel
theorem dX1_keyOf_16 : decode cX1_keyOf 16 = .ok (.ireturn, 1) := by decide +kernel
theorem dX1_sort_0 : decode cX1_sort 0 = .ok (.iconst 1, 1) := by decide +kernel
theorem dX1_sort_1 : decode cX1_sort 1 = .ok (.istore_n 1, 1) := by decide +kernel
theorem dX1_sort_2 : decode cX1_sort 2 = .ok (.iload_n 1, 1) := by decide +kernel
theorem dX1_sort_3 : decode cX1_sort 3 = .ok (.aload_n 0, 1) := by decide +kernel
theorem dX1_sort_4 : decode cX1_sort 4 = .ok (.getfield 35, 3) := by decide +kernel
theorem dX1_sort_7 : decode cX1_sort 7 = .ok (.if_icmp .ge 132, 3) := by decide +kernel
theorem dX1_sort_10 : decode cX1_sort 10 = .ok (.iload_n 1, 1) := by decide +kernel
theorem dX1_sort_11 : decode cX1_sort 11 = .ok (.bipush 64, 2) := by decide +kernel
theorem dX1_sort_13 : decode cX1_sort 13 = .ok (.if_icmp .ge 126, 3) := by decide +kernel
theorem dX1_sort_16 : decode cX1_sort 16 = .ok (.iload_n 1, 1) := by decide +kernel
theorem dX1_sort_17 : decode cX1_sort 17 = .ok (.istore_n 2, 1) := by decide +kernel
theorem dX1_sort_18 : decode cX1_sort 18 = .ok (.iload_n 2, 1) := by decide +kernel
theorem dX1_sort_19 : decode cX1_sort 19 = .ok (.ifCond .le 114, 3) := by decide +kernel
theorem dX1_sort_22 : decode cX1_sort 22 = .ok (.aload_n 0, 1) := by decide +kernel
theorem dX1_sort_23 : decode cX1_sort 23 = .ok (.iload_n 2, 1) := by decide +kernel
theorem dX1_sort_24 : decode cX1_sort 24 = .ok (.iload_n 2, 1) := by decide +kernel
theorem dX1_sort_25 : decode cX1_sort 25 = .ok (.iconst 1, 1) := by decide +kernel
theorem dX1_sort_26 : decode cX1_sort 26 = .ok (.isub, 1) := by decide +kernel
theorem dX1_sort_27 : decode cX1_sort 27 = .ok (.invokevirtual 108, 3) := by decide +kernel
theorem dX1_sort_30 : decode cX1_sort 30 = .ok (.ifCond .eq 103, 3) := by decide +kernel
theorem dX1_sort_33 : decode cX1_sort 33 = .ok (.aload_n 0, 1) := by decide +kernel
theorem dX1_sort_34 : decode cX1_sort 34 = .ok (.getfield 11, 3) := by decide +kernel
theorem dX1_sort_37 : decode cX1_sort 37 = .ok (.iload_n 2, 1) := by decide +kernel
theorem dX1_sort_38 : decode cX1_sort 38 = .ok (.laload, 1) := by decide +kernel
theorem dX1_sort_39 : decode cX1_sort 39 = .ok (.lstore_n 3, 1) := by decide +kernel
theorem dX1_sort_40 : decode cX1_sort 40 = .ok (.aload_n 0, 1) := by decide +kernel
theorem dX1_sort_41 : decode cX1_sort 41 = .ok (.getfield 11, 3) := by decide +kernel
theorem dX1_sort_44 : decode cX1_sort 44 = .ok (.iload_n 2, 1) := by decide +kernel
theorem dX1_sort_45 : decode cX1_sort 45 = .ok (.aload_n 0, 1) := by decide +kernel
theorem dX1_sort_46 : decode cX1_sort 46 = .ok (.getfield 11, 3) := by decide +kernel
theorem dX1_sort_49 : decode cX1_sort 49 = .ok (.iload_n 2, 1) := by decide +kernel
theorem dX1_sort_50 : decode cX1_sort 50 = .ok (.iconst 1, 1) := by decide +kernel
theorem dX1_sort_51 : decode cX1_sort 51 = .ok (.isub, 1) := by decide +kernel
theorem dX1_sort_52 : decode cX1_sort 52 = .ok (.laload, 1) := by decide +kernel
theorem dX1_sort_53 : decode cX1_sort 53 = .ok (.lastore, 1) := by decide +kernel
theorem dX1_sort_54 : decode cX1_sort 54 = .ok (.aload_n 0, 1) := by decide +kernel
theorem dX1_sort_55 : decode cX1_sort 55 = .ok (.getfield 11, 3) := by decide +kernel
theorem dX1_sort_58 : decode cX1_sort 58 = .ok (.iload_n 2, 1) := by decide +kernel
theorem dX1_sort_59 : decode cX1_sort 59 = .ok (.iconst 1, 1) := by decide +kernel
theorem dX1_sort_60 : decode cX1_sort 60 = .ok (.isub, 1) := by decide +kernel
theorem dX1_sort_61 : decode cX1_sort 61 = .ok (.lload_n 3, 1) := by decide +kernel
theorem dX1_sort_62 : decode cX1_sort 62 = .ok (.lastore, 1) := by decide +kernel
theorem dX1_sort_63 : decode cX1_sort 63 = .ok (.aload_n 0, 1) := by decide +kernel
theorem dX1_sort_64 : decode cX1_sort 64 = .ok (.getfield 19, 3) := by decide +kernel
theorem dX1_sort_67 : decode cX1_sort 67 = .ok (.iload_n 2, 1) := by decide +kernel
theorem dX1_sort_68 : decode cX1_sort 68 = .ok (.iaload, 1) := by decide +kernel
theorem dX1_sort_69 : decode cX1_sort 69 = .ok (.istore 5, 2) := by decide +kernel
theorem dX1_sort_71 : decode cX1_sort 71 = .ok (.aload_n 0, 1) := by decide +kernel
theorem dX1_sort_72 : decode cX1_sort 72 = .ok (.getfield 19, 3) := by decide +kernel
theorem dX1_sort_75 : decode cX1_sort 75 = .ok (.iload_n 2, 1) := by decide +kernel
theorem dX1_sort_76 : decode cX1_sort 76 = .ok (.aload_n 0, 1) := by decide +kernel
theorem dX1_sort_77 : decode cX1_sort 77 = .ok (.getfield 19, 3) := by decide +kernel
theorem dX1_sort_80 : decode cX1_sort 80 = .ok (.iload_n 2, 1) := by decide +kernel
theorem dX1_sort_81 : decode cX1_sort 81 = .ok (.iconst 1, 1) := by decide +kernel
theorem dX1_sort_82 : decode cX1_sort 82 = .ok (.isub, 1) := by decide +kernel
theorem dX1_sort_83 : decode cX1_sort 83 = .ok (.iaload, 1) := by decide +kernel
theorem dX1_sort_84 : decode cX1_sort 84 = .ok (.iastore, 1) := by decide +kernel
theorem dX1_sort_85 : decode cX1_sort 85 = .ok (.aload_n 0, 1) := by decide +kernel
theorem dX1_sort_86 : decode cX1_sort 86 = .ok (.getfield 19, 3) := by decide +kernel
theorem dX1_sort_89 : decode cX1_sort 89 = .ok (.iload_n 2, 1) := by decide +kernel
theorem dX1_sort_90 : decode cX1_sort 90 = .ok (.iconst 1, 1) := by decide +kernel
theorem dX1_sort_91 : decode cX1_sort 91 = .ok (.isub, 1) := by decide +kernel
theorem dX1_sort_92 : decode cX1_sort 92 = .ok (.iload 5, 2) := by decide +kernel
theorem dX1_sort_94 : decode cX1_sort 94 = .ok (.iastore, 1) := by decide +kernel
theorem dX1_sort_95 : decode cX1_sort 95 = .ok (.aload_n 0, 1) := by decide +kernel
theorem dX1_sort_96 : decode cX1_sort 96 = .ok (.getfield 22, 3) := by decide +kernel
theorem dX1_sort_99 : decode cX1_sort 99 = .ok (.iload_n 2, 1) := by decide +kernel
theorem dX1_sort_100 : decode cX1_sort 100 = .ok (.iaload, 1) := by decide +kernel
theorem dX1_sort_101 : decode cX1_sort 101 = .ok (.istore 6, 2) := by decide +kernel
theorem dX1_sort_103 : decode cX1_sort 103 = .ok (.aload_n 0, 1) := by decide +kernel
theorem dX1_sort_104 : decode cX1_sort 104 = .ok (.getfield 22, 3) := by decide +kernel
theorem dX1_sort_107 : decode cX1_sort 107 = .ok (.iload_n 2, 1) := by decide +kernel
theorem dX1_sort_108 : decode cX1_sort 108 = .ok (.aload_n 0, 1) := by decide +kernel
theorem dX1_sort_109 : decode cX1_sort 109 = .ok (.getfield 22, 3) := by decide +kernel
theorem dX1_sort_112 : decode cX1_sort 112 = .ok (.iload_n 2, 1) := by decide +kernel
theorem dX1_sort_113 : decode cX1_sort 113 = .ok (.iconst 1, 1) := by decide +kernel
theorem dX1_sort_114 : decode cX1_sort 114 = .ok (.isub, 1) := by decide +kernel
theorem dX1_sort_115 : decode cX1_sort 115 = .ok (.iaload, 1) := by decide +kernel
theorem dX1_sort_116 : decode cX1_sort 116 = .ok (.iastore, 1) := by decide +kernel
theorem dX1_sort_117 : decode cX1_sort 117 = .ok (.aload_n 0, 1) := by decide +kernel
theorem dX1_sort_118 : decode cX1_sort 118 = .ok (.getfield 22, 3) := by decide +kernel
theorem dX1_sort_121 : decode cX1_sort 121 = .ok (.iload_n 2, 1) := by decide +kernel
theorem dX1_sort_122 : decode cX1_sort 122 = .ok (.iconst 1, 1) := by decide +kernel
theorem dX1_sort_123 : decode cX1_sort 123 = .ok (.isub, 1) := by decide +kernel
theorem dX1_sort_124 : decode cX1_sort 124 = .ok (.iload 6, 2) := by decide +kernel
theorem dX1_sort_126 : decode cX1_sort 126 = .ok (.iastore, 1) := by decide +kernel
theorem dX1_sort_127 : decode cX1_sort 127 = .ok (.iinc 2 (-1), 3) := by decide +kernel
theorem dX1_sort_130 : decode cX1_sort 130 = .ok (.goto (-112), 3) := by decide +kernel
theorem dX1_sort_133 : decode cX1_sort 133 = .ok (.iinc 1 1, 3) := by decide +kernel
theorem dX1_sort_136 : decode cX1_sort 136 = .ok (.goto (-134), 3) := by decide +kernel
theorem dX1_sort_139 : decode cX1_sort 139 = .ok (.return_, 1) := by decide +kernel
theorem dX1_isAhead_0 : decode cX1_isAhead 0 = .ok (.aload_n 0, 1) := by decide +kernel
theorem dX1_isAhead_1 : decode cX1_isAhead 1 = .ok (.getfield 19, 3) := by decide +kernel
theorem dX1_isAhead_4 : decode cX1_isAhead 4 = .ok (.iload_n 1, 1) := by decide +kernel
theorem dX1_isAhead_5 : decode cX1_isAhead 5 = .ok (.iaload, 1) := by decide +kernel
theorem dX1_isAhead_6 : decode cX1_isAhead 6 = .ok (.aload_n 0, 1) := by decide +kernel
theorem dX1_isAhead_7 : decode cX1_isAhead 7 = .ok (.getfield 19, 3) := by decide +kernel
theorem dX1_isAhead_10 : decode cX1_isAhead 10 = .ok (.iload_n 2, 1) := by decide +kernel
theorem dX1_isAhead_11 : decode cX1_isAhead 11 = .ok (.iaload, 1) := by decide +kernel
theorem dX1_isAhead_12 : decode cX1_isAhead 12 = .ok (.if_icmp .eq 24, 3) := by decide +kernel
theorem dX1_isAhead_15 : decode cX1_isAhead 15 = .ok (.aload_n 0, 1) := by decide +kernel
theorem dX1_isAhead_16 : decode cX1_isAhead 16 = .ok (.getfield 19, 3) := by decide +kernel
theorem dX1_isAhead_19 : decode cX1_isAhead 19 = .ok (.iload_n 1, 1) := by decide +kernel
theorem dX1_isAhead_20 : decode cX1_isAhead 20 = .ok (.iaload, 1) := by decide +kernel
theorem dX1_isAhead_21 : decode cX1_isAhead 21 = .ok (.aload_n 0, 1) := by decide +kernel
theorem dX1_isAhead_22 : decode cX1_isAhead 22 = .ok (.getfield 19, 3) := by decide +kernel
theorem dX1_isAhead_25 : decode cX1_isAhead 25 = .ok (.iload_n 2, 1) := by decide +kernel
theorem dX1_isAhead_26 : decode cX1_isAhead 26 = .ok (.iaload, 1) := by decide +kernel
theorem dX1_isAhead_27 : decode cX1_isAhead 27 = .ok (.if_icmp .ge 7, 3) := by decide +kernel
theorem dX1_isAhead_30 : decode cX1_isAhead 30 = .ok (.iconst 1, 1) := by decide +kernel
theorem dX1_isAhead_31 : decode cX1_isAhead 31 = .ok (.goto 4, 3) := by decide +kernel
theorem dX1_isAhead_34 : decode cX1_isAhead 34 = .ok (.iconst 0, 1) := by decide +kernel
theorem dX1_isAhead_35 : decode cX1_isAhead 35 = .ok (.ireturn, 1) := by decide +kernel
theorem dX1_isAhead_36 : decode cX1_isAhead 36 = .ok (.aload_n 0, 1) := by decide +kernel
theorem dX1_isAhead_37 : decode cX1_isAhead 37 = .ok (.getfield 11, 3) := by decide +kernel
theorem dX1_isAhead_40 : decode cX1_isAhead 40 = .ok (.iload_n 1, 1) := by decide +kernel
theorem dX1_isAhead_41 : decode cX1_isAhead 41 = .ok (.laload, 1) := by decide +kernel
theorem dX1_isAhead_42 : decode cX1_isAhead 42 = .ok (.aload_n 0, 1) := by decide +kernel
theorem dX1_isAhead_43 : decode cX1_isAhead 43 = .ok (.getfield 11, 3) := by decide +kernel
theorem dX1_isAhead_46 : decode cX1_isAhead 46 = .ok (.iload_n 2, 1) := by decide +kernel
theorem dX1_isAhead_47 : decode cX1_isAhead 47 = .ok (.laload, 1) := by decide +kernel
theorem dX1_isAhead_48 : decode cX1_isAhead 48 = .ok (.lxor, 1) := by decide +kernel
theorem dX1_isAhead_49 : decode cX1_isAhead 49 = .ok (.lstore_n 3, 1) := by decide +kernel
theorem dX1_isAhead_50 : decode cX1_isAhead 50 = .ok (.aload_n 0, 1) := by decide +kernel
theorem dX1_isAhead_51 : decode cX1_isAhead 51 = .ok (.getfield 11, 3) := by decide +kernel
theorem dX1_isAhead_54 : decode cX1_isAhead 54 = .ok (.iload_n 1, 1) := by decide +kernel
theorem dX1_isAhead_55 : decode cX1_isAhead 55 = .ok (.laload, 1) := by decide +kernel
theorem dX1_isAhead_56 : decode cX1_isAhead 56 = .ok (.lload_n 3, 1) := by decide +kernel
theorem dX1_isAhead_57 : decode cX1_isAhead 57 = .ok (.land, 1) := by decide +kernel
theorem dX1_isAhead_58 : decode cX1_isAhead 58 = .ok (.lload_n 3, 1) := by decide +kernel
theorem dX1_isAhead_59 : decode cX1_isAhead 59 = .ok (.lneg, 1) := by decide +kernel
theorem dX1_isAhead_60 : decode cX1_isAhead 60 = .ok (.land, 1) := by decide +kernel
theorem dX1_isAhead_61 : decode cX1_isAhead 61 = .ok (.lconst 0, 1) := by decide +kernel
theorem dX1_isAhead_62 : decode cX1_isAhead 62 = .ok (.lcmp, 1) := by decide +kernel
theorem dX1_isAhead_63 : decode cX1_isAhead 63 = .ok (.ifCond .eq 7, 3) := by decide +kernel
theorem dX1_isAhead_66 : decode cX1_isAhead 66 = .ok (.iconst 1, 1) := by decide +kernel
theorem dX1_isAhead_67 : decode cX1_isAhead 67 = .ok (.goto 4, 3) := by decide +kernel
theorem dX1_isAhead_70 : decode cX1_isAhead 70 = .ok (.iconst 0, 1) := by decide +kernel
theorem dX1_isAhead_71 : decode cX1_isAhead 71 = .ok (.ireturn, 1) := by decide +kernel
theorem dX1_search_0 : decode cX1_search 0 = .ok (.iload 5, 2) := by decide +kernel
theorem dX1_search_2 : decode cX1_search 2 = .ok (.ifCond .lt 9, 3) := by decide +kernel
theorem dX1_search_5 : decode cX1_search 5 = .ok (.iload 5, 2) := by decide +kernel
theorem dX1_search_7 : decode cX1_search 7 = .ok (.iconst 4, 1) := by decide +kernel
theorem dX1_search_8 : decode cX1_search 8 = .ok (.if_icmp .le 4, 3) := by decide +kernel
theorem dX1_search_11 : decode cX1_search 11 = .ok (.return_, 1) := by decide +kernel
theorem dX1_search_12 : decode cX1_search 12 = .ok (.iload_n 1, 1) := by decide +kernel
theorem dX1_search_13 : decode cX1_search 13 = .ok (.istore 6, 2) := by decide +kernel
theorem dX1_search_15 : decode cX1_search 15 = .ok (.iload 6, 2) := by decide +kernel
theorem dX1_search_17 : decode cX1_search 17 = .ok (.ifCond .lt 90, 3) := by decide +kernel
theorem dX1_search_20 : decode cX1_search 20 = .ok (.iload 6, 2) := by decide +kernel
theorem dX1_search_22 : decode cX1_search 22 = .ok (.aload_n 0, 1) := by decide +kernel
theorem dX1_search_23 : decode cX1_search 23 = .ok (.getfield 35, 3) := by decide +kernel
theorem dX1_search_26 : decode cX1_search 26 = .ok (.if_icmp .ge 81, 3) := by decide +kernel
theorem dX1_search_29 : decode cX1_search 29 = .ok (.iload 6, 2) := by decide +kernel
theorem dX1_search_31 : decode cX1_search 31 = .ok (.bipush 64, 2) := by decide +kernel
theorem dX1_search_33 : decode cX1_search 33 = .ok (.if_icmp .ge 74, 3) := by decide +kernel
theorem dX1_search_36 : decode cX1_search 36 = .ok (.iload 5, 2) := by decide +kernel
theorem dX1_search_38 : decode cX1_search 38 = .ok (.iconst 4, 1) := by decide +kernel
theorem dX1_search_39 : decode cX1_search 39 = .ok (.if_icmp .ge 68, 3) := by decide +kernel
theorem dX1_search_42 : decode cX1_search 42 = .ok (.aload_n 0, 1) := by decide +kernel
theorem dX1_search_43 : decode cX1_search 43 = .ok (.getfield 11, 3) := by decide +kernel
theorem dX1_search_46 : decode cX1_search 46 = .ok (.iload 6, 2) := by decide +kernel
theorem dX1_search_48 : decode cX1_search 48 = .ok (.laload, 1) := by decide +kernel
theorem dX1_search_49 : decode cX1_search 49 = .ok (.lload_n 2, 1) := by decide +kernel
theorem dX1_search_50 : decode cX1_search 50 = .ok (.land, 1) := by decide +kernel
theorem dX1_search_51 : decode cX1_search 51 = .ok (.lconst 0, 1) := by decide +kernel
theorem dX1_search_52 : decode cX1_search 52 = .ok (.lcmp, 1) := by decide +kernel
theorem dX1_search_53 : decode cX1_search 53 = .ok (.ifCond .ne 48, 3) := by decide +kernel
theorem dX1_search_56 : decode cX1_search 56 = .ok (.aload_n 0, 1) := by decide +kernel
theorem dX1_search_57 : decode cX1_search 57 = .ok (.getfield 25, 3) := by decide +kernel
theorem dX1_search_60 : decode cX1_search 60 = .ok (.iload 5, 2) := by decide +kernel
theorem dX1_search_62 : decode cX1_search 62 = .ok (.aload_n 0, 1) := by decide +kernel
theorem dX1_search_63 : decode cX1_search 63 = .ok (.getfield 11, 3) := by decide +kernel
theorem dX1_search_66 : decode cX1_search 66 = .ok (.iload 6, 2) := by decide +kernel
theorem dX1_search_68 : decode cX1_search 68 = .ok (.laload, 1) := by decide +kernel
theorem dX1_search_69 : decode cX1_search 69 = .ok (.lastore, 1) := by decide +kernel
theorem dX1_search_70 : decode cX1_search 70 = .ok (.aload_n 0, 1) := by decide +kernel
theorem dX1_search_71 : decode cX1_search 71 = .ok (.iload 6, 2) := by decide +kernel
theorem dX1_search_73 : decode cX1_search 73 = .ok (.iconst 1, 1) := by decide +kernel
theorem dX1_search_74 : decode cX1_search 74 = .ok (.iadd, 1) := by decide +kernel
theorem dX1_search_75 : decode cX1_search 75 = .ok (.lload_n 2, 1) := by decide +kernel
theorem dX1_search_76 : decode cX1_search 76 = .ok (.aload_n 0, 1) := by decide +kernel
theorem dX1_search_77 : decode cX1_search 77 = .ok (.getfield 11, 3) := by decide +kernel
theorem dX1_search_80 : decode cX1_search 80 = .ok (.iload 6, 2) := by decide +kernel
theorem dX1_search_82 : decode cX1_search 82 = .ok (.laload, 1) := by decide +kernel
theorem dX1_search_83 : decode cX1_search 83 = .ok (.lor, 1) := by decide +kernel
theorem dX1_search_84 : decode cX1_search 84 = .ok (.iload 4, 2) := by decide +kernel
theorem dX1_search_86 : decode cX1_search 86 = .ok (.aload_n 0, 1) := by decide +kernel
theorem dX1_search_87 : decode cX1_search 87 = .ok (.getfield 22, 3) := by decide +kernel
theorem dX1_search_90 : decode cX1_search 90 = .ok (.iload 6, 2) := by decide +kernel
theorem dX1_search_92 : decode cX1_search 92 = .ok (.iaload, 1) := by decide +kernel
theorem dX1_search_93 : decode cX1_search 93 = .ok (.iadd, 1) := by decide +kernel
theorem dX1_search_94 : decode cX1_search 94 = .ok (.iload 5, 2) := by decide +kernel
theorem dX1_search_96 : decode cX1_search 96 = .ok (.iconst 1, 1) := by decide +kernel
theorem dX1_search_97 : decode cX1_search 97 = .ok (.iadd, 1) := by decide +kernel
theorem dX1_search_98 : decode cX1_search 98 = .ok (.invokevirtual 56, 3) := by decide +kernel
theorem dX1_search_101 : decode cX1_search 101 = .ok (.iinc 6 1, 3) := by decide +kernel
theorem dX1_search_104 : decode cX1_search 104 = .ok (.goto (-89), 3) := by decide +kernel
theorem dX1_search_107 : decode cX1_search 107 = .ok (.iload 4, 2) := by decide +kernel
theorem dX1_search_109 : decode cX1_search 109 = .ok (.aload_n 0, 1) := by decide +kernel
theorem dX1_search_110 : decode cX1_search 110 = .ok (.getfield 53, 3) := by decide +kernel
theorem dX1_search_113 : decode cX1_search 113 = .ok (.if_icmp .le 51, 3) := by decide +kernel
theorem dX1_search_116 : decode cX1_search 116 = .ok (.aload_n 0, 1) := by decide +kernel
theorem dX1_search_117 : decode cX1_search 117 = .ok (.iload 4, 2) := by decide +kernel
theorem dX1_search_119 : decode cX1_search 119 = .ok (.putfield 53, 3) := by decide +kernel
theorem dX1_search_122 : decode cX1_search 122 = .ok (.aload_n 0, 1) := by decide +kernel
theorem dX1_search_123 : decode cX1_search 123 = .ok (.iload 5, 2) := by decide +kernel
theorem dX1_search_125 : decode cX1_search 125 = .ok (.putfield 50, 3) := by decide +kernel
theorem dX1_search_128 : decode cX1_search 128 = .ok (.iconst 0, 1) := by decide +kernel
theorem dX1_search_129 : decode cX1_search 129 = .ok (.istore 6, 2) := by decide +kernel
theorem dX1_search_131 : decode cX1_search 131 = .ok (.iload 6, 2) := by decide +kernel
theorem dX1_search_133 : decode cX1_search 133 = .ok (.iload 5, 2) := by decide +kernel
theorem dX1_search_135 : decode cX1_search 135 = .ok (.if_icmp .ge 29, 3) := by decide +kernel
theorem dX1_search_138 : decode cX1_search 138 = .ok (.iload 6, 2) := by decide +kernel
theorem dX1_search_140 : decode cX1_search 140 = .ok (.iconst 4, 1) := by decide +kernel
theorem dX1_search_141 : decode cX1_search 141 = .ok (.if_icmp .ge 23, 3) := by decide +kernel
theorem dX1_search_144 : decode cX1_search 144 = .ok (.aload_n 0, 1) := by decide +kernel
theorem dX1_search_145 : decode cX1_search 145 = .ok (.getfield 28, 3) := by decide +kernel
theorem dX1_search_148 : decode cX1_search 148 = .ok (.iload 6, 2) := by decide +kernel
theorem dX1_search_150 : decode cX1_search 150 = .ok (.aload_n 0, 1) := by decide +kernel
theorem dX1_search_151 : decode cX1_search 151 = .ok (.getfield 25, 3) := by decide +kernel
theorem dX1_search_154 : decode cX1_search 154 = .ok (.iload 6, 2) := by decide +kernel
theorem dX1_search_156 : decode cX1_search 156 = .ok (.laload, 1) := by decide +kernel
theorem dX1_search_157 : decode cX1_search 157 = .ok (.lastore, 1) := by decide +kernel
theorem dX1_search_158 : decode cX1_search 158 = .ok (.iinc 6 1, 3) := by decide +kernel
theorem dX1_search_161 : decode cX1_search 161 = .ok (.goto (-30), 3) := by decide +kernel
theorem dX1_search_164 : decode cX1_search 164 = .ok (.return_, 1) := by decide +kernel
theorem dX1_searchDrop_0 : decode cX1_searchDrop 0 = .ok (.iload 4, 2) := by decide +kernel
theorem dX1_searchDrop_2 : decode cX1_searchDrop 2 = .ok (.ifCond .lt 9, 3) := by decide +kernel
theorem dX1_searchDrop_5 : decode cX1_searchDrop 5 = .ok (.iload 4, 2) := by decide +kernel
theorem dX1_searchDrop_7 : decode cX1_searchDrop 7 = .ok (.iconst 4, 1) := by decide +kernel
theorem dX1_searchDrop_8 : decode cX1_searchDrop 8 = .ok (.if_icmp .le 4, 3) := by decide +kernel
theorem dX1_searchDrop_11 : decode cX1_searchDrop 11 = .ok (.return_, 1) := by decide +kernel
theorem dX1_searchDrop_12 : decode cX1_searchDrop 12 = .ok (.iload_n 1, 1) := by decide +kernel
theorem dX1_searchDrop_13 : decode cX1_searchDrop 13 = .ok (.istore 5, 2) := by decide +kernel
theorem dX1_searchDrop_15 : decode cX1_searchDrop 15 = .ok (.iload 5, 2) := by decide +kernel
theorem dX1_searchDrop_17 : decode cX1_searchDrop 17 = .ok (.ifCond .lt 60, 3) := by decide +kernel
theorem dX1_searchDrop_20 : decode cX1_searchDrop 20 = .ok (.iload 5, 2) := by decide +kernel
theorem dX1_searchDrop_22 : decode cX1_searchDrop 22 = .ok (.aload_n 0, 1) := by decide +kernel
theorem dX1_searchDrop_23 : decode cX1_searchDrop 23 = .ok (.getfield 35, 3) := by decide +kernel
theorem dX1_searchDrop_26 : decode cX1_searchDrop 26 = .ok (.if_icmp .ge 51, 3) := by decide +kernel
theorem dX1_searchDrop_29 : decode cX1_searchDrop 29 = .ok (.iload 5, 2) := by decide +kernel
theorem dX1_searchDrop_31 : decode cX1_searchDrop 31 = .ok (.bipush 64, 2) := by decide +kernel
theorem dX1_searchDrop_33 : decode cX1_searchDrop 33 = .ok (.if_icmp .ge 44, 3) := by decide +kernel
theorem dX1_searchDrop_36 : decode cX1_searchDrop 36 = .ok (.aload_n 0, 1) := by decide +kernel
theorem dX1_searchDrop_37 : decode cX1_searchDrop 37 = .ok (.getfield 11, 3) := by decide +kernel
theorem dX1_searchDrop_40 : decode cX1_searchDrop 40 = .ok (.iload 5, 2) := by decide +kernel
theorem dX1_searchDrop_42 : decode cX1_searchDrop 42 = .ok (.laload, 1) := by decide +kernel
theorem dX1_searchDrop_43 : decode cX1_searchDrop 43 = .ok (.lload_n 2, 1) := by decide +kernel
theorem dX1_searchDrop_44 : decode cX1_searchDrop 44 = .ok (.land, 1) := by decide +kernel
theorem dX1_searchDrop_45 : decode cX1_searchDrop 45 = .ok (.lconst 0, 1) := by decide +kernel
theorem dX1_searchDrop_46 : decode cX1_searchDrop 46 = .ok (.lcmp, 1) := by decide +kernel
theorem dX1_searchDrop_47 : decode cX1_searchDrop 47 = .ok (.ifCond .ne 24, 3) := by decide +kernel
theorem dX1_searchDrop_50 : decode cX1_searchDrop 50 = .ok (.aload_n 0, 1) := by decide +kernel
theorem dX1_searchDrop_51 : decode cX1_searchDrop 51 = .ok (.iload 5, 2) := by decide +kernel
theorem dX1_searchDrop_53 : decode cX1_searchDrop 53 = .ok (.iconst 1, 1) := by decide +kernel
theorem dX1_searchDrop_54 : decode cX1_searchDrop 54 = .ok (.iadd, 1) := by decide +kernel
theorem dX1_searchDrop_55 : decode cX1_searchDrop 55 = .ok (.lload_n 2, 1) := by decide +kernel
theorem dX1_searchDrop_56 : decode cX1_searchDrop 56 = .ok (.aload_n 0, 1) := by decide +kernel
theorem dX1_searchDrop_57 : decode cX1_searchDrop 57 = .ok (.getfield 11, 3) := by decide +kernel
theorem dX1_searchDrop_60 : decode cX1_searchDrop 60 = .ok (.iload 5, 2) := by decide +kernel
theorem dX1_searchDrop_62 : decode cX1_searchDrop 62 = .ok (.laload, 1) := by decide +kernel
theorem dX1_searchDrop_63 : decode cX1_searchDrop 63 = .ok (.lor, 1) := by decide +kernel
theorem dX1_searchDrop_64 : decode cX1_searchDrop 64 = .ok (.iload 4, 2) := by decide +kernel
theorem dX1_searchDrop_66 : decode cX1_searchDrop 66 = .ok (.iconst 1, 1) := by decide +kernel
theorem dX1_searchDrop_67 : decode cX1_searchDrop 67 = .ok (.iadd, 1) := by decide +kernel
theorem dX1_searchDrop_68 : decode cX1_searchDrop 68 = .ok (.invokevirtual 82, 3) := by decide +kernel
theorem dX1_searchDrop_71 : decode cX1_searchDrop 71 = .ok (.iinc 5 1, 3) := by decide +kernel
theorem dX1_searchDrop_74 : decode cX1_searchDrop 74 = .ok (.goto (-59), 3) := by decide +kernel
theorem dX1_searchDrop_77 : decode cX1_searchDrop 77 = .ok (.aload_n 0, 1) := by decide +kernel
theorem dX1_searchDrop_78 : decode cX1_searchDrop 78 = .ok (.getfield 76, 3) := by decide +kernel
theorem dX1_searchDrop_81 : decode cX1_searchDrop 81 = .ok (.lload_n 2, 1) := by decide +kernel
theorem dX1_searchDrop_82 : decode cX1_searchDrop 82 = .ok (.ldc2_w 64, 3) := by decide +kernel
theorem dX1_searchDrop_85 : decode cX1_searchDrop 85 = .ok (.lxor, 1) := by decide +kernel
theorem dX1_searchDrop_86 : decode cX1_searchDrop 86 = .ok (.land, 1) := by decide +kernel
theorem dX1_searchDrop_87 : decode cX1_searchDrop 87 = .ok (.invokestatic 112, 3) := by decide +kernel
theorem dX1_searchDrop_90 : decode cX1_searchDrop 90 = .ok (.istore 5, 2) := by decide +kernel
theorem dX1_searchDrop_92 : decode cX1_searchDrop 92 = .ok (.aload_n 0, 1) := by decide +kernel
theorem dX1_searchDrop_93 : decode cX1_searchDrop 93 = .ok (.getfield 69, 3) := by decide +kernel
theorem dX1_searchDrop_96 : decode cX1_searchDrop 96 = .ok (.lload_n 2, 1) := by decide +kernel
theorem dX1_searchDrop_97 : decode cX1_searchDrop 97 = .ok (.ldc2_w 64, 3) := by decide +kernel
theorem dX1_searchDrop_100 : decode cX1_searchDrop 100 = .ok (.lxor, 1) := by decide +kernel
theorem dX1_searchDrop_101 : decode cX1_searchDrop 101 = .ok (.land, 1) := by decide +kernel
theorem dX1_searchDrop_102 : decode cX1_searchDrop 102 = .ok (.invokestatic 43, 3) := by decide +kernel
theorem dX1_searchDrop_105 : decode cX1_searchDrop 105 = .ok (.iload 5, 2) := by decide +kernel
theorem dX1_searchDrop_107 : decode cX1_searchDrop 107 = .ok (.isub, 1) := by decide +kernel
theorem dX1_searchDrop_108 : decode cX1_searchDrop 108 = .ok (.istore 6, 2) := by decide +kernel
theorem dX1_searchDrop_110 : decode cX1_searchDrop 110 = .ok (.iload 5, 2) := by decide +kernel
theorem dX1_searchDrop_112 : decode cX1_searchDrop 112 = .ok (.ifCond .le 26, 3) := by decide +kernel
theorem dX1_searchDrop_115 : decode cX1_searchDrop 115 = .ok (.aload_n 0, 1) := by decide +kernel
theorem dX1_searchDrop_116 : decode cX1_searchDrop 116 = .ok (.getfield 79, 3) := by decide +kernel
theorem dX1_searchDrop_119 : decode cX1_searchDrop 119 = .ok (.iconst (-1), 1) := by decide +kernel
theorem dX1_searchDrop_120 : decode cX1_searchDrop 120 = .ok (.if_icmp .eq 12, 3) := by decide +kernel
theorem dX1_searchDrop_123 : decode cX1_searchDrop 123 = .ok (.iload 6, 2) := by decide +kernel
theorem dX1_searchDrop_125 : decode cX1_searchDrop 125 = .ok (.aload_n 0, 1) := by decide +kernel
theorem dX1_searchDrop_126 : decode cX1_searchDrop 126 = .ok (.getfield 79, 3) := by decide +kernel
theorem dX1_searchDrop_129 : decode cX1_searchDrop 129 = .ok (.if_icmp .ge 9, 3) := by decide +kernel
theorem dX1_searchDrop_132 : decode cX1_searchDrop 132 = .ok (.aload_n 0, 1) := by decide +kernel
theorem dX1_searchDrop_133 : decode cX1_searchDrop 133 = .ok (.iload 6, 2) := by decide +kernel
theorem dX1_searchDrop_135 : decode cX1_searchDrop 135 = .ok (.putfield 79, 3) := by decide +kernel
theorem dX1_searchDrop_138 : decode cX1_searchDrop 138 = .ok (.return_, 1) := by decide +kernel
theorem dX1_mostPointsOf_0 : decode cX1_mostPointsOf 0 = .ok (.iconst 0, 1) := by decide +kernel
theorem dX1_mostPointsOf_1 : decode cX1_mostPointsOf 1 = .ok (.istore_n 2, 1) := by decide +kernel
theorem dX1_mostPointsOf_2 : decode cX1_mostPointsOf 2 = .ok (.lload_n 0, 1) := by decide +kernel
theorem dX1_mostPointsOf_3 : decode cX1_mostPointsOf 3 = .ok (.lstore_n 3, 1) := by decide +kernel
theorem dX1_mostPointsOf_4 : decode cX1_mostPointsOf 4 = .ok (.iconst 0, 1) := by decide +kernel
theorem dX1_mostPointsOf_5 : decode cX1_mostPointsOf 5 = .ok (.istore 5, 2) := by decide +kernel
theorem dX1_mostPointsOf_7 : decode cX1_mostPointsOf 7 = .ok (.iload 5, 2) := by decide +kernel
theorem dX1_mostPointsOf_9 : decode cX1_mostPointsOf 9 = .ok (.bipush 52, 2) := by decide +kernel
theorem dX1_mostPointsOf_11 : decode cX1_mostPointsOf 11 = .ok (.if_icmp .ge 33, 3) := by decide +kernel
theorem dX1_mostPointsOf_14 : decode cX1_mostPointsOf 14 = .ok (.lload_n 3, 1) := by decide +kernel
theorem dX1_mostPointsOf_15 : decode cX1_mostPointsOf 15 = .ok (.lconst 0, 1) := by decide +kernel
theorem dX1_mostPointsOf_16 : decode cX1_mostPointsOf 16 = .ok (.lcmp, 1) := by decide +kernel
theorem dX1_mostPointsOf_17 : decode cX1_mostPointsOf 17 = .ok (.ifCond .eq 27, 3) := by decide +kernel
theorem dX1_mostPointsOf_20 : decode cX1_mostPointsOf 20 = .ok (.iload_n 2, 1) := by decide +kernel
theorem dX1_mostPointsOf_21 : decode cX1_mostPointsOf 21 = .ok (.lload_n 3, 1) := by decide +kernel
theorem dX1_mostPointsOf_22 : decode cX1_mostPointsOf 22 = .ok (.invokestatic 105, 3) := by decide +kernel
theorem dX1_mostPointsOf_25 : decode cX1_mostPointsOf 25 = .ok (.invokestatic 115, 3) := by decide +kernel
theorem dX1_mostPointsOf_28 : decode cX1_mostPointsOf 28 = .ok (.invokestatic 119, 3) := by decide +kernel
theorem dX1_mostPointsOf_31 : decode cX1_mostPointsOf 31 = .ok (.istore_n 2, 1) := by decide +kernel
theorem dX1_mostPointsOf_32 : decode cX1_mostPointsOf 32 = .ok (.lload_n 3, 1) := by decide +kernel
theorem dX1_mostPointsOf_33 : decode cX1_mostPointsOf 33 = .ok (.lload_n 3, 1) := by decide +kernel
theorem dX1_mostPointsOf_34 : decode cX1_mostPointsOf 34 = .ok (.lconst 1, 1) := by decide +kernel
theorem dX1_mostPointsOf_35 : decode cX1_mostPointsOf 35 = .ok (.lsub, 1) := by decide +kernel
theorem dX1_mostPointsOf_36 : decode cX1_mostPointsOf 36 = .ok (.land, 1) := by decide +kernel
theorem dX1_mostPointsOf_37 : decode cX1_mostPointsOf 37 = .ok (.lstore_n 3, 1) := by decide +kernel
theorem dX1_mostPointsOf_38 : decode cX1_mostPointsOf 38 = .ok (.iinc 5 1, 3) := by decide +kernel
theorem dX1_mostPointsOf_41 : decode cX1_mostPointsOf 41 = .ok (.goto (-34), 3) := by decide +kernel
theorem dX1_mostPointsOf_44 : decode cX1_mostPointsOf 44 = .ok (.iload_n 2, 1) := by decide +kernel
theorem dX1_mostPointsOf_45 : decode cX1_mostPointsOf 45 = .ok (.ireturn, 1) := by decide +kernel
theorem dX1_foundAt_0 : decode cX1_foundAt 0 = .ok (.iload_n 1, 1) := by decide +kernel
theorem dX1_foundAt_1 : decode cX1_foundAt 1 = .ok (.ifCond .lt 29, 3) := by decide +kernel
theorem dX1_foundAt_4 : decode cX1_foundAt 4 = .ok (.iload_n 1, 1) := by decide +kernel
theorem dX1_foundAt_5 : decode cX1_foundAt 5 = .ok (.aload_n 0, 1) := by decide +kernel
theorem dX1_foundAt_6 : decode cX1_foundAt 6 = .ok (.getfield 50, 3) := by decide +kernel
theorem dX1_foundAt_9 : decode cX1_foundAt 9 = .ok (.if_icmp .ge 21, 3) := by decide +kernel
theorem dX1_foundAt_12 : decode cX1_foundAt 12 = .ok (.iload_n 1, 1) := by decide +kernel
theorem dX1_foundAt_13 : decode cX1_foundAt 13 = .ok (.aload_n 0, 1) := by decide +kernel
theorem dX1_foundAt_14 : decode cX1_foundAt 14 = .ok (.getfield 28, 3) := by decide +kernel
theorem dX1_foundAt_17 : decode cX1_foundAt 17 = .ok (.arraylength, 1) := by decide +kernel
theorem dX1_foundAt_18 : decode cX1_foundAt 18 = .ok (.if_icmp .ge 12, 3) := by decide +kernel
theorem dX1_foundAt_21 : decode cX1_foundAt 21 = .ok (.aload_n 0, 1) := by decide +kernel
theorem dX1_foundAt_22 : decode cX1_foundAt 22 = .ok (.getfield 28, 3) := by decide +kernel
theorem dX1_foundAt_25 : decode cX1_foundAt 25 = .ok (.iload_n 1, 1) := by decide +kernel
theorem dX1_foundAt_26 : decode cX1_foundAt 26 = .ok (.laload, 1) := by decide +kernel
theorem dX1_foundAt_27 : decode cX1_foundAt 27 = .ok (.goto 4, 3) := by decide +kernel
theorem dX1_foundAt_30 : decode cX1_foundAt 30 = .ok (.lconst 0, 1) := by decide +kernel
theorem dX1_foundAt_31 : decode cX1_foundAt 31 = .ok (.lreturn, 1) := by decide +kernel
theorem dX1_indexOf_0 : decode cX1_indexOf 0 = .ok (.iconst 0, 1) := by decide +kernel
theorem dX1_indexOf_1 : decode cX1_indexOf 1 = .ok (.istore_n 2, 1) := by decide +kernel
theorem dX1_indexOf_2 : decode cX1_indexOf 2 = .ok (.iload_n 2, 1) := by decide +kernel
theorem dX1_indexOf_3 : decode cX1_indexOf 3 = .ok (.aload_n 0, 1) := by decide +kernel
theorem dX1_indexOf_4 : decode cX1_indexOf 4 = .ok (.getfield 50, 3) := by decide +kernel
theorem dX1_indexOf_7 : decode cX1_indexOf 7 = .ok (.if_icmp .ge 23, 3) := by decide +kernel
theorem dX1_indexOf_10 : decode cX1_indexOf 10 = .ok (.aload_n 0, 1) := by decide +kernel
theorem dX1_indexOf_11 : decode cX1_indexOf 11 = .ok (.iload_n 2, 1) := by decide +kernel
theorem dX1_indexOf_12 : decode cX1_indexOf 12 = .ok (.invokevirtual 125, 3) := by decide +kernel
theorem dX1_indexOf_15 : decode cX1_indexOf 15 = .ok (.iload_n 1, 1) := by decide +kernel
theorem dX1_indexOf_16 : decode cX1_indexOf 16 = .ok (.invokestatic 128, 3) := by decide +kernel
theorem dX1_indexOf_19 : decode cX1_indexOf 19 = .ok (.ifCond .eq 5, 3) := by decide +kernel
theorem dX1_indexOf_22 : decode cX1_indexOf 22 = .ok (.iload_n 2, 1) := by decide +kernel
theorem dX1_indexOf_23 : decode cX1_indexOf 23 = .ok (.ireturn, 1) := by decide +kernel
theorem dX1_indexOf_24 : decode cX1_indexOf 24 = .ok (.iinc 2 1, 3) := by decide +kernel
theorem dX1_indexOf_27 : decode cX1_indexOf 27 = .ok (.goto (-25), 3) := by decide +kernel
theorem dX1_indexOf_30 : decode cX1_indexOf 30 = .ok (.iconst (-1), 1) := by decide +kernel
theorem dX1_indexOf_31 : decode cX1_indexOf 31 = .ok (.ireturn, 1) := by decide +kernel
theorem dX1_countKind_0 : decode cX1_countKind 0 = .ok (.iconst 0, 1) := by decide +kernel
theorem dX1_countKind_1 : decode cX1_countKind 1 = .ok (.istore_n 2, 1) := by decide +kernel
theorem dX1_countKind_2 : decode cX1_countKind 2 = .ok (.iconst 0, 1) := by decide +kernel
theorem dX1_countKind_3 : decode cX1_countKind 3 = .ok (.istore_n 3, 1) := by decide +kernel
theorem dX1_countKind_4 : decode cX1_countKind 4 = .ok (.iload_n 3, 1) := by decide +kernel
theorem dX1_countKind_5 : decode cX1_countKind 5 = .ok (.aload_n 0, 1) := by decide +kernel
theorem dX1_countKind_6 : decode cX1_countKind 6 = .ok (.getfield 50, 3) := by decide +kernel
theorem dX1_countKind_9 : decode cX1_countKind 9 = .ok (.if_icmp .ge 24, 3) := by decide +kernel
theorem dX1_countKind_12 : decode cX1_countKind 12 = .ok (.aload_n 0, 1) := by decide +kernel
theorem dX1_countKind_13 : decode cX1_countKind 13 = .ok (.iload_n 3, 1) := by decide +kernel
theorem dX1_countKind_14 : decode cX1_countKind 14 = .ok (.invokevirtual 125, 3) := by decide +kernel
theorem dX1_countKind_17 : decode cX1_countKind 17 = .ok (.invokestatic 132, 3) := by decide +kernel
theorem dX1_countKind_20 : decode cX1_countKind 20 = .ok (.iload_n 1, 1) := by decide +kernel
theorem dX1_countKind_21 : decode cX1_countKind 21 = .ok (.if_icmp .ne 6, 3) := by decide +kernel
theorem dX1_countKind_24 : decode cX1_countKind 24 = .ok (.iinc 2 1, 3) := by decide +kernel
theorem dX1_countKind_27 : decode cX1_countKind 27 = .ok (.iinc 3 1, 3) := by decide +kernel
theorem dX1_countKind_30 : decode cX1_countKind 30 = .ok (.goto (-26), 3) := by decide +kernel
theorem dX1_countKind_33 : decode cX1_countKind 33 = .ok (.iload_n 2, 1) := by decide +kernel
theorem dX1_countKind_34 : decode cX1_countKind 34 = .ok (.ireturn, 1) := by decide +kernel
theorem dX1_countWrapped_0 : decode cX1_countWrapped 0 = .ok (.iconst 0, 1) := by decide +kernel
theorem dX1_countWrapped_1 : decode cX1_countWrapped 1 = .ok (.istore_n 1, 1) := by decide +kernel
theorem dX1_countWrapped_2 : decode cX1_countWrapped 2 = .ok (.iconst 0, 1) := by decide +kernel
theorem dX1_countWrapped_3 : decode cX1_countWrapped 3 = .ok (.istore_n 2, 1) := by decide +kernel
theorem dX1_countWrapped_4 : decode cX1_countWrapped 4 = .ok (.iload_n 2, 1) := by decide +kernel
theorem dX1_countWrapped_5 : decode cX1_countWrapped 5 = .ok (.aload_n 0, 1) := by decide +kernel
theorem dX1_countWrapped_6 : decode cX1_countWrapped 6 = .ok (.getfield 50, 3) := by decide +kernel
theorem dX1_countWrapped_9 : decode cX1_countWrapped 9 = .ok (.if_icmp .ge 65, 3) := by decide +kernel
theorem dX1_countWrapped_12 : decode cX1_countWrapped 12 = .ok (.aload_n 0, 1) := by decide +kernel
theorem dX1_countWrapped_13 : decode cX1_countWrapped 13 = .ok (.iload_n 2, 1) := by decide +kernel
theorem dX1_countWrapped_14 : decode cX1_countWrapped 14 = .ok (.invokevirtual 125, 3) := by decide +kernel
theorem dX1_countWrapped_17 : decode cX1_countWrapped 17 = .ok (.lstore_n 3, 1) := by decide +kernel
theorem dX1_countWrapped_18 : decode cX1_countWrapped 18 = .ok (.lload_n 3, 1) := by decide +kernel
theorem dX1_countWrapped_19 : decode cX1_countWrapped 19 = .ok (.invokestatic 132, 3) := by decide +kernel
theorem dX1_countWrapped_22 : decode cX1_countWrapped 22 = .ok (.iconst 2, 1) := by decide +kernel
theorem dX1_countWrapped_23 : decode cX1_countWrapped 23 = .ok (.if_icmp .ne 10, 3) := by decide +kernel
theorem dX1_countWrapped_26 : decode cX1_countWrapped 26 = .ok (.lload_n 3, 1) := by decide +kernel
theorem dX1_countWrapped_27 : decode cX1_countWrapped 27 = .ok (.invokestatic 135, 3) := by decide +kernel
theorem dX1_countWrapped_30 : decode cX1_countWrapped 30 = .ok (.goto 4, 3) := by decide +kernel
theorem dX1_countWrapped_33 : decode cX1_countWrapped 33 = .ok (.iconst (-1), 1) := by decide +kernel
theorem dX1_countWrapped_34 : decode cX1_countWrapped 34 = .ok (.istore 5, 2) := by decide +kernel
theorem dX1_countWrapped_36 : decode cX1_countWrapped 36 = .ok (.iload 5, 2) := by decide +kernel
theorem dX1_countWrapped_38 : decode cX1_countWrapped 38 = .ok (.iconst (-1), 1) := by decide +kernel
theorem dX1_countWrapped_39 : decode cX1_countWrapped 39 = .ok (.if_icmp .eq 29, 3) := by decide +kernel
theorem dX1_countWrapped_42 : decode cX1_countWrapped 42 = .ok (.iload 5, 2) := by decide +kernel
theorem dX1_countWrapped_44 : decode cX1_countWrapped 44 = .ok (.bipush 13, 2) := by decide +kernel
theorem dX1_countWrapped_46 : decode cX1_countWrapped 46 = .ok (.irem, 1) := by decide +kernel
theorem dX1_countWrapped_47 : decode cX1_countWrapped 47 = .ok (.ifCond .le 21, 3) := by decide +kernel
theorem dX1_countWrapped_50 : decode cX1_countWrapped 50 = .ok (.lload_n 3, 1) := by decide +kernel
theorem dX1_countWrapped_51 : decode cX1_countWrapped 51 = .ok (.iload 5, 2) := by decide +kernel
theorem dX1_countWrapped_53 : decode cX1_countWrapped 53 = .ok (.bipush 13, 2) := by decide +kernel
theorem dX1_countWrapped_55 : decode cX1_countWrapped 55 = .ok (.idiv, 1) := by decide +kernel
theorem dX1_countWrapped_56 : decode cX1_countWrapped 56 = .ok (.bipush 13, 2) := by decide +kernel
theorem dX1_countWrapped_58 : decode cX1_countWrapped 58 = .ok (.imul, 1) := by decide +kernel
theorem dX1_countWrapped_59 : decode cX1_countWrapped 59 = .ok (.invokestatic 128, 3) := by decide +kernel
theorem dX1_countWrapped_62 : decode cX1_countWrapped 62 = .ok (.ifCond .eq 6, 3) := by decide +kernel
theorem dX1_countWrapped_65 : decode cX1_countWrapped 65 = .ok (.iinc 1 1, 3) := by decide +kernel
theorem dX1_countWrapped_68 : decode cX1_countWrapped 68 = .ok (.iinc 2 1, 3) := by decide +kernel
theorem dX1_countWrapped_71 : decode cX1_countWrapped 71 = .ok (.goto (-67), 3) := by decide +kernel
theorem dX1_countWrapped_74 : decode cX1_countWrapped 74 = .ok (.iload_n 1, 1) := by decide +kernel
theorem dX1_countWrapped_75 : decode cX1_countWrapped 75 = .ok (.ireturn, 1) := by decide +kernel
theorem dX1_foundPoints_0 : decode cX1_foundPoints 0 = .ok (.iconst 0, 1) := by decide +kernel
theorem dX1_foundPoints_1 : decode cX1_foundPoints 1 = .ok (.istore_n 1, 1) := by decide +kernel
theorem dX1_foundPoints_2 : decode cX1_foundPoints 2 = .ok (.iconst 0, 1) := by decide +kernel
theorem dX1_foundPoints_3 : decode cX1_foundPoints 3 = .ok (.istore_n 2, 1) := by decide +kernel
theorem dX1_foundPoints_4 : decode cX1_foundPoints 4 = .ok (.iload_n 2, 1) := by decide +kernel
theorem dX1_foundPoints_5 : decode cX1_foundPoints 5 = .ok (.aload_n 0, 1) := by decide +kernel
theorem dX1_foundPoints_6 : decode cX1_foundPoints 6 = .ok (.getfield 50, 3) := by decide +kernel
theorem dX1_foundPoints_9 : decode cX1_foundPoints 9 = .ok (.if_icmp .ge 20, 3) := by decide +kernel
theorem dX1_foundPoints_12 : decode cX1_foundPoints 12 = .ok (.iload_n 1, 1) := by decide +kernel
theorem dX1_foundPoints_13 : decode cX1_foundPoints 13 = .ok (.aload_n 0, 1) := by decide +kernel
theorem dX1_foundPoints_14 : decode cX1_foundPoints 14 = .ok (.iload_n 2, 1) := by decide +kernel
theorem dX1_foundPoints_15 : decode cX1_foundPoints 15 = .ok (.invokevirtual 125, 3) := by decide +kernel
theorem dX1_foundPoints_18 : decode cX1_foundPoints 18 = .ok (.invokestatic 43, 3) := by decide +kernel
theorem dX1_foundPoints_21 : decode cX1_foundPoints 21 = .ok (.iadd, 1) := by decide +kernel
theorem dX1_foundPoints_22 : decode cX1_foundPoints 22 = .ok (.istore_n 1, 1) := by decide +kernel
theorem dX1_foundPoints_23 : decode cX1_foundPoints 23 = .ok (.iinc 2 1, 3) := by decide +kernel
theorem dX1_foundPoints_26 : decode cX1_foundPoints 26 = .ok (.goto (-22), 3) := by decide +kernel
theorem dX1_foundPoints_29 : decode cX1_foundPoints 29 = .ok (.iload_n 1, 1) := by decide +kernel
theorem dX1_foundPoints_30 : decode cX1_foundPoints 30 = .ok (.ireturn, 1) := by decide +kernel
theorem dX1_widen_0 : decode cX1_widen 0 = .ok (.iload_n 1, 1) := by decide +kernel
theorem dX1_widen_1 : decode cX1_widen 1 = .ok (.ifCond .lt 33, 3) := by decide +kernel
theorem dX1_widen_4 : decode cX1_widen 4 = .ok (.iload_n 1, 1) := by decide +kernel
theorem dX1_widen_5 : decode cX1_widen 5 = .ok (.aload_n 0, 1) := by decide +kernel
theorem dX1_widen_6 : decode cX1_widen 6 = .ok (.getfield 50, 3) := by decide +kernel
theorem dX1_widen_9 : decode cX1_widen 9 = .ok (.if_icmp .ge 25, 3) := by decide +kernel
theorem dX1_widen_12 : decode cX1_widen 12 = .ok (.iload_n 1, 1) := by decide +kernel
theorem dX1_widen_13 : decode cX1_widen 13 = .ok (.aload_n 0, 1) := by decide +kernel
theorem dX1_widen_14 : decode cX1_widen 14 = .ok (.getfield 28, 3) := by decide +kernel
theorem dX1_widen_17 : decode cX1_widen 17 = .ok (.arraylength, 1) := by decide +kernel
theorem dX1_widen_18 : decode cX1_widen 18 = .ok (.if_icmp .ge 16, 3) := by decide +kernel
theorem dX1_widen_21 : decode cX1_widen 21 = .ok (.aload_n 0, 1) := by decide +kernel
theorem dX1_widen_22 : decode cX1_widen 22 = .ok (.getfield 28, 3) := by decide +kernel
theorem dX1_widen_25 : decode cX1_widen 25 = .ok (.iload_n 1, 1) := by decide +kernel
theorem dX1_widen_26 : decode cX1_widen 26 = .ok (.dup2, 1) := by decide +kernel
theorem dX1_widen_27 : decode cX1_widen 27 = .ok (.laload, 1) := by decide +kernel
theorem dX1_widen_28 : decode cX1_widen 28 = .ok (.iload_n 2, 1) := by decide +kernel
theorem dX1_widen_29 : decode cX1_widen 29 = .ok (.invokestatic 72, 3) := by decide +kernel
theorem dX1_widen_32 : decode cX1_widen 32 = .ok (.lor, 1) := by decide +kernel
theorem dX1_widen_33 : decode cX1_widen 33 = .ok (.lastore, 1) := by decide +kernel
theorem dX1_widen_34 : decode cX1_widen 34 = .ok (.return_, 1) := by decide +kernel
theorem dX2_init_0 : decode cX2_init 0 = .ok (.aload_n 0, 1) := by decide +kernel
theorem dX2_init_1 : decode cX2_init 1 = .ok (.invokespecial 3, 3) := by decide +kernel
theorem dX2_init_4 : decode cX2_init 4 = .ok (.aload_n 0, 1) := by decide +kernel
theorem dX2_init_5 : decode cX2_init 5 = .ok (.iconst 2, 1) := by decide +kernel
theorem dX2_init_6 : decode cX2_init 6 = .ok (.newarray .int, 2) := by decide +kernel
theorem dX2_init_8 : decode cX2_init 8 = .ok (.putfield 9, 3) := by decide +kernel
theorem dX2_init_11 : decode cX2_init 11 = .ok (.aload_n 0, 1) := by decide +kernel
theorem dX2_init_12 : decode cX2_init 12 = .ok (.iconst 2, 1) := by decide +kernel
theorem dX2_init_13 : decode cX2_init 13 = .ok (.newarray .long, 2) := by decide +kernel
theorem dX2_init_15 : decode cX2_init 15 = .ok (.putfield 15, 3) := by decide +kernel
theorem dX2_init_18 : decode cX2_init 18 = .ok (.aload_n 0, 1) := by decide +kernel
theorem dX2_init_19 : decode cX2_init 19 = .ok (.bipush 52, 2) := by decide +kernel
theorem dX2_init_21 : decode cX2_init 21 = .ok (.newarray .int, 2) := by decide +kernel
theorem dX2_init_23 : decode cX2_init 23 = .ok (.putfield 19, 3) := by decide +kernel
theorem dX2_init_26 : decode cX2_init 26 = .ok (.aload_n 0, 1) := by decide +kernel
theorem dX2_init_27 : decode cX2_init 27 = .ok (.bipush 52, 2) := by decide +kernel
theorem dX2_init_29 : decode cX2_init 29 = .ok (.newarray .int, 2) := by decide +kernel
theorem dX2_init_31 : decode cX2_init 31 = .ok (.putfield 22, 3) := by decide +kernel
theorem dX2_init_34 : decode cX2_init 34 = .ok (.return_, 1) := by decide +kernel
theorem dX2_copyFrom_0 : decode cX2_copyFrom 0 = .ok (.aload_n 0, 1) := by decide +kernel
theorem dX2_copyFrom_1 : decode cX2_copyFrom 1 = .ok (.aload_n 1, 1) := by decide +kernel
theorem dX2_copyFrom_2 : decode cX2_copyFrom 2 = .ok (.getfield 25, 3) := by decide +kernel
theorem dX2_copyFrom_5 : decode cX2_copyFrom 5 = .ok (.putfield 25, 3) := by decide +kernel
theorem dX2_copyFrom_8 : decode cX2_copyFrom 8 = .ok (.aload_n 0, 1) := by decide +kernel
theorem dX2_copyFrom_9 : decode cX2_copyFrom 9 = .ok (.aload_n 1, 1) := by decide +kernel
theorem dX2_copyFrom_10 : decode cX2_copyFrom 10 = .ok (.getfield 29, 3) := by decide +kernel
theorem dX2_copyFrom_13 : decode cX2_copyFrom 13 = .ok (.putfield 29, 3) := by decide +kernel
theorem dX2_copyFrom_16 : decode cX2_copyFrom 16 = .ok (.aload_n 0, 1) := by decide +kernel
theorem dX2_copyFrom_17 : decode cX2_copyFrom 17 = .ok (.aload_n 1, 1) := by decide +kernel
theorem dX2_copyFrom_18 : decode cX2_copyFrom 18 = .ok (.getfield 32, 3) := by decide +kernel
theorem dX2_copyFrom_21 : decode cX2_copyFrom 21 = .ok (.putfield 32, 3) := by decide +kernel
theorem dX2_copyFrom_24 : decode cX2_copyFrom 24 = .ok (.aload_n 0, 1) := by decide +kernel
theorem dX2_copyFrom_25 : decode cX2_copyFrom 25 = .ok (.aload_n 1, 1) := by decide +kernel
theorem dX2_copyFrom_26 : decode cX2_copyFrom 26 = .ok (.getfield 35, 3) := by decide +kernel
theorem dX2_copyFrom_29 : decode cX2_copyFrom 29 = .ok (.putfield 35, 3) := by decide +kernel
theorem dX2_copyFrom_32 : decode cX2_copyFrom 32 = .ok (.aload_n 0, 1) := by decide +kernel
theorem dX2_copyFrom_33 : decode cX2_copyFrom 33 = .ok (.aload_n 1, 1) := by decide +kernel
theorem dX2_copyFrom_34 : decode cX2_copyFrom 34 = .ok (.getfield 39, 3) := by decide +kernel
theorem dX2_copyFrom_37 : decode cX2_copyFrom 37 = .ok (.putfield 39, 3) := by decide +kernel
theorem dX2_copyFrom_40 : decode cX2_copyFrom 40 = .ok (.aload_n 0, 1) := by decide +kernel
theorem dX2_copyFrom_41 : decode cX2_copyFrom 41 = .ok (.aload_n 1, 1) := by decide +kernel
theorem dX2_copyFrom_42 : decode cX2_copyFrom 42 = .ok (.getfield 42, 3) := by decide +kernel
theorem dX2_copyFrom_45 : decode cX2_copyFrom 45 = .ok (.putfield 42, 3) := by decide +kernel
theorem dX2_copyFrom_48 : decode cX2_copyFrom 48 = .ok (.aload_n 0, 1) := by decide +kernel
theorem dX2_copyFrom_49 : decode cX2_copyFrom 49 = .ok (.aload_n 1, 1) := by decide +kernel
theorem dX2_copyFrom_50 : decode cX2_copyFrom 50 = .ok (.getfield 45, 3) := by decide +kernel
theorem dX2_copyFrom_53 : decode cX2_copyFrom 53 = .ok (.putfield 45, 3) := by decide +kernel
theorem dX2_copyFrom_56 : decode cX2_copyFrom 56 = .ok (.aload_n 0, 1) := by decide +kernel
theorem dX2_copyFrom_57 : decode cX2_copyFrom 57 = .ok (.aload_n 1, 1) := by decide +kernel
theorem dX2_copyFrom_58 : decode cX2_copyFrom 58 = .ok (.getfield 49, 3) := by decide +kernel
theorem dX2_copyFrom_61 : decode cX2_copyFrom 61 = .ok (.putfield 49, 3) := by decide +kernel
theorem dX2_copyFrom_64 : decode cX2_copyFrom 64 = .ok (.aload_n 0, 1) := by decide +kernel
theorem dX2_copyFrom_65 : decode cX2_copyFrom 65 = .ok (.aload_n 1, 1) := by decide +kernel
theorem dX2_copyFrom_66 : decode cX2_copyFrom 66 = .ok (.getfield 52, 3) := by decide +kernel
theorem dX2_copyFrom_69 : decode cX2_copyFrom 69 = .ok (.putfield 52, 3) := by decide +kernel
theorem dX2_copyFrom_72 : decode cX2_copyFrom 72 = .ok (.aload_n 0, 1) := by decide +kernel
theorem dX2_copyFrom_73 : decode cX2_copyFrom 73 = .ok (.aload_n 1, 1) := by decide +kernel
theorem dX2_copyFrom_74 : decode cX2_copyFrom 74 = .ok (.getfield 55, 3) := by decide +kernel
theorem dX2_copyFrom_77 : decode cX2_copyFrom 77 = .ok (.putfield 55, 3) := by decide +kernel
theorem dX2_copyFrom_80 : decode cX2_copyFrom 80 = .ok (.aload_n 0, 1) := by decide +kernel
theorem dX2_copyFrom_81 : decode cX2_copyFrom 81 = .ok (.aload_n 1, 1) := by decide +kernel
theorem dX2_copyFrom_82 : decode cX2_copyFrom 82 = .ok (.getfield 58, 3) := by decide +kernel
theorem dX2_copyFrom_85 : decode cX2_copyFrom 85 = .ok (.putfield 58, 3) := by decide +kernel
theorem dX2_copyFrom_88 : decode cX2_copyFrom 88 = .ok (.aload_n 0, 1) := by decide +kernel
theorem dX2_copyFrom_89 : decode cX2_copyFrom 89 = .ok (.aload_n 1, 1) := by decide +kernel
theorem dX2_copyFrom_90 : decode cX2_copyFrom 90 = .ok (.getfield 61, 3) := by decide +kernel
theorem dX2_copyFrom_93 : decode cX2_copyFrom 93 = .ok (.putfield 61, 3) := by decide +kernel
theorem dX2_copyFrom_96 : decode cX2_copyFrom 96 = .ok (.aload_n 0, 1) := by decide +kernel
theorem dX2_copyFrom_97 : decode cX2_copyFrom 97 = .ok (.aload_n 1, 1) := by decide +kernel
theorem dX2_copyFrom_98 : decode cX2_copyFrom 98 = .ok (.getfield 64, 3) := by decide +kernel
theorem dX2_copyFrom_101 : decode cX2_copyFrom 101 = .ok (.putfield 64, 3) := by decide +kernel
theorem dX2_copyFrom_104 : decode cX2_copyFrom 104 = .ok (.aload_n 1, 1) := by decide +kernel
theorem dX2_copyFrom_105 : decode cX2_copyFrom 105 = .ok (.getfield 9, 3) := by decide +kernel
theorem dX2_copyFrom_108 : decode cX2_copyFrom 108 = .ok (.iconst 0, 1) := by decide +kernel
theorem dX2_copyFrom_109 : decode cX2_copyFrom 109 = .ok (.aload_n 0, 1) := by decide +kernel
theorem dX2_copyFrom_110 : decode cX2_copyFrom 110 = .ok (.getfield 9, 3) := by decide +kernel
theorem dX2_copyFrom_113 : decode cX2_copyFrom 113 = .ok (.iconst 0, 1) := by decide +kernel
theorem dX2_copyFrom_114 : decode cX2_copyFrom 114 = .ok (.iconst 2, 1) := by decide +kernel
theorem dX2_copyFrom_115 : decode cX2_copyFrom 115 = .ok (.invokestatic 67, 3) := by decide +kernel
theorem dX2_copyFrom_118 : decode cX2_copyFrom 118 = .ok (.aload_n 1, 1) := by decide +kernel
theorem dX2_copyFrom_119 : decode cX2_copyFrom 119 = .ok (.getfield 15, 3) := by decide +kernel
theorem dX2_copyFrom_122 : decode cX2_copyFrom 122 = .ok (.iconst 0, 1) := by decide +kernel
theorem dX2_copyFrom_123 : decode cX2_copyFrom 123 = .ok (.aload_n 0, 1) := by decide +kernel
theorem dX2_copyFrom_124 : decode cX2_copyFrom 124 = .ok (.getfield 15, 3) := by decide +kernel
theorem dX2_copyFrom_127 : decode cX2_copyFrom 127 = .ok (.iconst 0, 1) := by decide +kernel
theorem dX2_copyFrom_128 : decode cX2_copyFrom 128 = .ok (.iconst 2, 1) := by decide +kernel
theorem dX2_copyFrom_129 : decode cX2_copyFrom 129 = .ok (.invokestatic 67, 3) := by decide +kernel
theorem dX2_copyFrom_132 : decode cX2_copyFrom 132 = .ok (.aload_n 1, 1) := by decide +kernel
theorem dX2_copyFrom_133 : decode cX2_copyFrom 133 = .ok (.getfield 19, 3) := by decide +kernel
theorem dX2_copyFrom_136 : decode cX2_copyFrom 136 = .ok (.iconst 0, 1) := by decide +kernel
theorem dX2_copyFrom_137 : decode cX2_copyFrom 137 = .ok (.aload_n 0, 1) := by decide +kernel
theorem dX2_copyFrom_138 : decode cX2_copyFrom 138 = .ok (.getfield 19, 3) := by decide +kernel
theorem dX2_copyFrom_141 : decode cX2_copyFrom 141 = .ok (.iconst 0, 1) := by decide +kernel
theorem dX2_copyFrom_142 : decode cX2_copyFrom 142 = .ok (.bipush 52, 2) := by decide +kernel
theorem dX2_copyFrom_144 : decode cX2_copyFrom 144 = .ok (.invokestatic 67, 3) := by decide +kernel
theorem dX2_copyFrom_147 : decode cX2_copyFrom 147 = .ok (.aload_n 1, 1) := by decide +kernel
theorem dX2_copyFrom_148 : decode cX2_copyFrom 148 = .ok (.getfield 22, 3) := by decide +kernel
theorem dX2_copyFrom_151 : decode cX2_copyFrom 151 = .ok (.iconst 0, 1) := by decide +kernel
theorem dX2_copyFrom_152 : decode cX2_copyFrom 152 = .ok (.aload_n 0, 1) := by decide +kernel
theorem dX2_copyFrom_153 : decode cX2_copyFrom 153 = .ok (.getfield 22, 3) := by decide +kernel
theorem dX2_copyFrom_156 : decode cX2_copyFrom 156 = .ok (.iconst 0, 1) := by decide +kernel
theorem dX2_copyFrom_157 : decode cX2_copyFrom 157 = .ok (.bipush 52, 2) := by decide +kernel
theorem dX2_copyFrom_159 : decode cX2_copyFrom 159 = .ok (.invokestatic 67, 3) := by decide +kernel
theorem dX2_copyFrom_162 : decode cX2_copyFrom 162 = .ok (.return_, 1) := by decide +kernel
theorem dX2_begin_0 : decode cX2_begin 0 = .ok (.aload_n 0, 1) := by decide +kernel
theorem dX2_begin_1 : decode cX2_begin 1 = .ok (.iconst 0, 1) := by decide +kernel
theorem dX2_begin_2 : decode cX2_begin 2 = .ok (.putfield 39, 3) := by decide +kernel
theorem dX2_begin_5 : decode cX2_begin 5 = .ok (.aload_n 0, 1) := by decide +kernel
theorem dX2_begin_6 : decode cX2_begin 6 = .ok (.iconst 0, 1) := by decide +kernel
theorem dX2_begin_7 : decode cX2_begin 7 = .ok (.putfield 55, 3) := by decide +kernel
theorem dX2_begin_10 : decode cX2_begin 10 = .ok (.aload_n 0, 1) := by decide +kernel
theorem dX2_begin_11 : decode cX2_begin 11 = .ok (.iconst (-1), 1) := by decide +kernel
theorem dX2_begin_12 : decode cX2_begin 12 = .ok (.putfield 58, 3) := by decide +kernel
theorem dX2_begin_15 : decode cX2_begin 15 = .ok (.aload_n 0, 1) := by decide +kernel
theorem dX2_begin_16 : decode cX2_begin 16 = .ok (.getfield 9, 3) := by decide +kernel
theorem dX2_begin_19 : decode cX2_begin 19 = .ok (.iconst 0, 1) := by decide +kernel
theorem dX2_begin_20 : decode cX2_begin 20 = .ok (.iconst 0, 1) := by decide +kernel
theorem dX2_begin_21 : decode cX2_begin 21 = .ok (.iastore, 1) := by decide +kernel
theorem dX2_begin_22 : decode cX2_begin 22 = .ok (.aload_n 0, 1) := by decide +kernel
theorem dX2_begin_23 : decode cX2_begin 23 = .ok (.getfield 9, 3) := by decide +kernel
theorem dX2_begin_26 : decode cX2_begin 26 = .ok (.iconst 1, 1) := by decide +kernel
theorem dX2_begin_27 : decode cX2_begin 27 = .ok (.iconst 0, 1) := by decide +kernel
theorem dX2_begin_28 : decode cX2_begin 28 = .ok (.iastore, 1) := by decide +kernel
theorem dX2_begin_29 : decode cX2_begin 29 = .ok (.return_, 1) := by decide +kernel
theorem dX2_shuffle_0 : decode cX2_shuffle 0 = .ok (.iconst 0, 1) := by decide +kernel
theorem dX2_shuffle_1 : decode cX2_shuffle 1 = .ok (.istore_n 1, 1) := by decide +kernel
theorem dX2_shuffle_2 : decode cX2_shuffle 2 = .ok (.iload_n 1, 1) := by decide +kernel
theorem dX2_shuffle_3 : decode cX2_shuffle 3 = .ok (.bipush 52, 2) := by decide +kernel
theorem dX2_shuffle_5 : decode cX2_shuffle 5 = .ok (.if_icmp .ge 16, 3) := by decide +kernel
theorem dX2_shuffle_8 : decode cX2_shuffle 8 = .ok (.aload_n 0, 1) := by decide +kernel
theorem dX2_shuffle_9 : decode cX2_shuffle 9 = .ok (.getfield 19, 3) := by decide +kernel
theorem dX2_shuffle_12 : decode cX2_shuffle 12 = .ok (.iload_n 1, 1) := by decide +kernel
theorem dX2_shuffle_13 : decode cX2_shuffle 13 = .ok (.iload_n 1, 1) := by decide +kernel
theorem dX2_shuffle_14 : decode cX2_shuffle 14 = .ok (.iastore, 1) := by decide +kernel
theorem dX2_shuffle_15 : decode cX2_shuffle 15 = .ok (.iinc 1 1, 3) := by decide +kernel
theorem dX2_shuffle_18 : decode cX2_shuffle 18 = .ok (.goto (-16), 3) := by decide +kernel
theorem dX2_shuffle_21 : decode cX2_shuffle 21 = .ok (.bipush 51, 2) := by decide +kernel
theorem dX2_shuffle_23 : decode cX2_shuffle 23 = .ok (.istore_n 1, 1) := by decide +kernel
theorem dX2_shuffle_24 : decode cX2_shuffle 24 = .ok (.iload_n 1, 1) := by decide +kernel
theorem dX2_shuffle_25 : decode cX2_shuffle 25 = .ok (.ifCond .le 80, 3) := by decide +kernel
theorem dX2_shuffle_28 : decode cX2_shuffle 28 = .ok (.aload_n 0, 1) := by decide +kernel
theorem dX2_shuffle_29 : decode cX2_shuffle 29 = .ok (.aload_n 0, 1) := by decide +kernel
theorem dX2_shuffle_30 : decode cX2_shuffle 30 = .ok (.getfield 35, 3) := by decide +kernel
theorem dX2_shuffle_33 : decode cX2_shuffle 33 = .ok (.ldc2_w 73, 3) := by decide +kernel
theorem dX2_shuffle_36 : decode cX2_shuffle 36 = .ok (.lmul, 1) := by decide +kernel
theorem dX2_shuffle_37 : decode cX2_shuffle 37 = .ok (.ldc2_w 75, 3) := by decide +kernel
theorem dX2_shuffle_40 : decode cX2_shuffle 40 = .ok (.ladd, 1) := by decide +kernel
theorem dX2_shuffle_41 : decode cX2_shuffle 41 = .ok (.ldc2_w 77, 3) := by decide +kernel
theorem dX2_shuffle_44 : decode cX2_shuffle 44 = .ok (.lrem, 1) := by decide +kernel
theorem dX2_shuffle_45 : decode cX2_shuffle 45 = .ok (.putfield 35, 3) := by decide +kernel
theorem dX2_shuffle_48 : decode cX2_shuffle 48 = .ok (.aload_n 0, 1) := by decide +kernel
theorem dX2_shuffle_49 : decode cX2_shuffle 49 = .ok (.getfield 35, 3) := by decide +kernel
theorem dX2_shuffle_52 : decode cX2_shuffle 52 = .ok (.ldc2_w 79, 3) := by decide +kernel
theorem dX2_shuffle_55 : decode cX2_shuffle 55 = .ok (.ldiv, 1) := by decide +kernel
theorem dX2_shuffle_56 : decode cX2_shuffle 56 = .ok (.iload_n 1, 1) := by decide +kernel
theorem dX2_shuffle_57 : decode cX2_shuffle 57 = .ok (.iconst 1, 1) := by decide +kernel
theorem dX2_shuffle_58 : decode cX2_shuffle 58 = .ok (.iadd, 1) := by decide +kernel
theorem dX2_shuffle_59 : decode cX2_shuffle 59 = .ok (.i2l, 1) := by decide +kernel
theorem dX2_shuffle_60 : decode cX2_shuffle 60 = .ok (.lrem, 1) := by decide +kernel
theorem dX2_shuffle_61 : decode cX2_shuffle 61 = .ok (.l2i, 1) := by decide +kernel
theorem dX2_shuffle_62 : decode cX2_shuffle 62 = .ok (.istore_n 2, 1) := by decide +kernel
theorem dX2_shuffle_63 : decode cX2_shuffle 63 = .ok (.iload_n 2, 1) := by decide +kernel
theorem dX2_shuffle_64 : decode cX2_shuffle 64 = .ok (.ifCond .lt 35, 3) := by decide +kernel
theorem dX2_shuffle_67 : decode cX2_shuffle 67 = .ok (.iload_n 2, 1) := by decide +kernel
theorem dX2_shuffle_68 : decode cX2_shuffle 68 = .ok (.bipush 52, 2) := by decide +kernel
theorem dX2_shuffle_70 : decode cX2_shuffle 70 = .ok (.if_icmp .ge 29, 3) := by decide +kernel
theorem dX2_shuffle_73 : decode cX2_shuffle 73 = .ok (.aload_n 0, 1) := by decide +kernel
theorem dX2_shuffle_74 : decode cX2_shuffle 74 = .ok (.getfield 19, 3) := by decide +kernel
theorem dX2_shuffle_77 : decode cX2_shuffle 77 = .ok (.iload_n 1, 1) := by decide +kernel
theorem dX2_shuffle_78 : decode cX2_shuffle 78 = .ok (.iaload, 1) := by decide +kernel
theorem dX2_shuffle_79 : decode cX2_shuffle 79 = .ok (.istore_n 3, 1) := by decide +kernel
theorem dX2_shuffle_80 : decode cX2_shuffle 80 = .ok (.aload_n 0, 1) := by decide +kernel
theorem dX2_shuffle_81 : decode cX2_shuffle 81 = .ok (.getfield 19, 3) := by decide +kernel
theorem dX2_shuffle_84 : decode cX2_shuffle 84 = .ok (.iload_n 1, 1) := by decide +kernel
theorem dX2_shuffle_85 : decode cX2_shuffle 85 = .ok (.aload_n 0, 1) := by decide +kernel
theorem dX2_shuffle_86 : decode cX2_shuffle 86 = .ok (.getfield 19, 3) := by decide +kernel
theorem dX2_shuffle_89 : decode cX2_shuffle 89 = .ok (.iload_n 2, 1) := by decide +kernel
theorem dX2_shuffle_90 : decode cX2_shuffle 90 = .ok (.iaload, 1) := by decide +kernel
theorem dX2_shuffle_91 : decode cX2_shuffle 91 = .ok (.iastore, 1) := by decide +kernel
theorem dX2_shuffle_92 : decode cX2_shuffle 92 = .ok (.aload_n 0, 1) := by decide +kernel
theorem dX2_shuffle_93 : decode cX2_shuffle 93 = .ok (.getfield 19, 3) := by decide +kernel
theorem dX2_shuffle_96 : decode cX2_shuffle 96 = .ok (.iload_n 2, 1) := by decide +kernel
theorem dX2_shuffle_97 : decode cX2_shuffle 97 = .ok (.iload_n 3, 1) := by decide +kernel
theorem dX2_shuffle_98 : decode cX2_shuffle 98 = .ok (.iastore, 1) := by decide +kernel
theorem dX2_shuffle_99 : decode cX2_shuffle 99 = .ok (.iinc 1 (-1), 3) := by decide +kernel
theorem dX2_shuffle_102 : decode cX2_shuffle 102 = .ok (.goto (-78), 3) := by decide +kernel
theorem dX2_shuffle_105 : decode cX2_shuffle 105 = .ok (.return_, 1) := by decide +kernel
theorem dX2_dealOut_0 : decode cX2_dealOut 0 = .ok (.iconst 0, 1) := by decide +kernel
theorem dX2_dealOut_1 : decode cX2_dealOut 1 = .ok (.istore_n 1, 1) := by decide +kernel
theorem dX2_dealOut_2 : decode cX2_dealOut 2 = .ok (.iload_n 1, 1) := by decide +kernel
theorem dX2_dealOut_3 : decode cX2_dealOut 3 = .ok (.iconst 2, 1) := by decide +kernel
theorem dX2_dealOut_4 : decode cX2_dealOut 4 = .ok (.if_icmp .ge 56, 3) := by decide +kernel
theorem dX2_dealOut_7 : decode cX2_dealOut 7 = .ok (.aload_n 0, 1) := by decide +kernel
theorem dX2_dealOut_8 : decode cX2_dealOut 8 = .ok (.getfield 15, 3) := by decide +kernel
theorem dX2_dealOut_11 : decode cX2_dealOut 11 = .ok (.iload_n 1, 1) := by decide +kernel
theorem dX2_dealOut_12 : decode cX2_dealOut 12 = .ok (.lconst 0, 1) := by decide +kernel
theorem dX2_dealOut_13 : decode cX2_dealOut 13 = .ok (.lastore, 1) := by decide +kernel
theorem dX2_dealOut_14 : decode cX2_dealOut 14 = .ok (.iconst 0, 1) := by decide +kernel
theorem dX2_dealOut_15 : decode cX2_dealOut 15 = .ok (.istore_n 2, 1) := by decide +kernel
theorem dX2_dealOut_16 : decode cX2_dealOut 16 = .ok (.iload_n 2, 1) := by decide +kernel
theorem dX2_dealOut_17 : decode cX2_dealOut 17 = .ok (.aload_n 0, 1) := by decide +kernel
theorem dX2_dealOut_18 : decode cX2_dealOut 18 = .ok (.getfield 25, 3) := by decide +kernel
theorem dX2_dealOut_21 : decode cX2_dealOut 21 = .ok (.if_icmp .ge 33, 3) := by decide +kernel
theorem dX2_dealOut_24 : decode cX2_dealOut 24 = .ok (.aload_n 0, 1) := by decide +kernel
theorem dX2_dealOut_25 : decode cX2_dealOut 25 = .ok (.getfield 15, 3) := by decide +kernel
theorem dX2_dealOut_28 : decode cX2_dealOut 28 = .ok (.iload_n 1, 1) := by decide +kernel
theorem dX2_dealOut_29 : decode cX2_dealOut 29 = .ok (.dup2, 1) := by decide +kernel
theorem dX2_dealOut_30 : decode cX2_dealOut 30 = .ok (.laload, 1) := by decide +kernel
theorem dX2_dealOut_31 : decode cX2_dealOut 31 = .ok (.aload_n 0, 1) := by decide +kernel
theorem dX2_dealOut_32 : decode cX2_dealOut 32 = .ok (.iload_n 1, 1) := by decide +kernel
theorem dX2_dealOut_33 : decode cX2_dealOut 33 = .ok (.aload_n 0, 1) := by decide +kernel
theorem dX2_dealOut_34 : decode cX2_dealOut 34 = .ok (.getfield 25, 3) := by decide +kernel
theorem dX2_dealOut_37 : decode cX2_dealOut 37 = .ok (.imul, 1) := by decide +kernel
theorem dX2_dealOut_38 : decode cX2_dealOut 38 = .ok (.iload_n 2, 1) := by decide +kernel
theorem dX2_dealOut_39 : decode cX2_dealOut 39 = .ok (.iadd, 1) := by decide +kernel
theorem dX2_dealOut_40 : decode cX2_dealOut 40 = .ok (.invokevirtual 81, 3) := by decide +kernel
theorem dX2_dealOut_43 : decode cX2_dealOut 43 = .ok (.invokestatic 85, 3) := by decide +kernel
theorem dX2_dealOut_46 : decode cX2_dealOut 46 = .ok (.lor, 1) := by decide +kernel
theorem dX2_dealOut_47 : decode cX2_dealOut 47 = .ok (.lastore, 1) := by decide +kernel
theorem dX2_dealOut_48 : decode cX2_dealOut 48 = .ok (.iinc 2 1, 3) := by decide +kernel
theorem dX2_dealOut_51 : decode cX2_dealOut 51 = .ok (.goto (-35), 3) := by decide +kernel
theorem dX2_dealOut_54 : decode cX2_dealOut 54 = .ok (.iinc 1 1, 3) := by decide +kernel
theorem dX2_dealOut_57 : decode cX2_dealOut 57 = .ok (.goto (-55), 3) := by decide +kernel
theorem dX2_dealOut_60 : decode cX2_dealOut 60 = .ok (.aload_n 0, 1) := by decide +kernel
theorem dX2_dealOut_61 : decode cX2_dealOut 61 = .ok (.getfield 22, 3) := by decide +kernel
theorem dX2_dealOut_64 : decode cX2_dealOut 64 = .ok (.iconst 0, 1) := by decide +kernel
theorem dX2_dealOut_65 : decode cX2_dealOut 65 = .ok (.aload_n 0, 1) := by decide +kernel
theorem dX2_dealOut_66 : decode cX2_dealOut 66 = .ok (.iconst 2, 1) := by decide +kernel
theorem dX2_dealOut_67 : decode cX2_dealOut 67 = .ok (.aload_n 0, 1) := by decide +kernel
theorem dX2_dealOut_68 : decode cX2_dealOut 68 = .ok (.getfield 25, 3) := by decide +kernel
theorem dX2_dealOut_71 : decode cX2_dealOut 71 = .ok (.imul, 1) := by decide +kernel
theorem dX2_dealOut_72 : decode cX2_dealOut 72 = .ok (.invokevirtual 81, 3) := by decide +kernel
theorem dX2_dealOut_75 : decode cX2_dealOut 75 = .ok (.iastore, 1) := by decide +kernel
theorem dX2_dealOut_76 : decode cX2_dealOut 76 = .ok (.aload_n 0, 1) := by decide +kernel
theorem dX2_dealOut_77 : decode cX2_dealOut 77 = .ok (.iconst 1, 1) := by decide +kernel
theorem dX2_dealOut_78 : decode cX2_dealOut 78 = .ok (.putfield 64, 3) := by decide +kernel
theorem dX2_dealOut_81 : decode cX2_dealOut 81 = .ok (.aload_n 0, 1) := by decide +kernel
theorem dX2_dealOut_82 : decode cX2_dealOut 82 = .ok (.iconst 2, 1) := by decide +kernel
theorem dX2_dealOut_83 : decode cX2_dealOut 83 = .ok (.aload_n 0, 1) := by decide +kernel
theorem dX2_dealOut_84 : decode cX2_dealOut 84 = .ok (.getfield 25, 3) := by decide +kernel
theorem dX2_dealOut_87 : decode cX2_dealOut 87 = .ok (.imul, 1) := by decide +kernel
theorem dX2_dealOut_88 : decode cX2_dealOut 88 = .ok (.iconst 1, 1) := by decide +kernel
theorem dX2_dealOut_89 : decode cX2_dealOut 89 = .ok (.iadd, 1) := by decide +kernel
theorem dX2_dealOut_90 : decode cX2_dealOut 90 = .ok (.putfield 61, 3) := by decide +kernel
theorem dX2_dealOut_93 : decode cX2_dealOut 93 = .ok (.aload_n 0, 1) := by decide +kernel
theorem dX2_dealOut_94 : decode cX2_dealOut 94 = .ok (.aload_n 0, 1) := by decide +kernel
theorem dX2_dealOut_95 : decode cX2_dealOut 95 = .ok (.getfield 39, 3) := by decide +kernel
theorem dX2_dealOut_98 : decode cX2_dealOut 98 = .ok (.iconst 1, 1) := by decide +kernel
theorem dX2_dealOut_99 : decode cX2_dealOut 99 = .ok (.iand, 1) := by decide +kernel
theorem dX2_dealOut_100 : decode cX2_dealOut 100 = .ok (.ifCond .ne 7, 3) := by decide +kernel
theorem dX2_dealOut_103 : decode cX2_dealOut 103 = .ok (.iconst 0, 1) := by decide +kernel
theorem dX2_dealOut_104 : decode cX2_dealOut 104 = .ok (.goto 4, 3) := by decide +kernel
theorem dX2_dealOut_107 : decode cX2_dealOut 107 = .ok (.iconst 1, 1) := by decide +kernel
theorem dX2_dealOut_108 : decode cX2_dealOut 108 = .ok (.putfield 42, 3) := by decide +kernel
theorem dX2_dealOut_111 : decode cX2_dealOut 111 = .ok (.aload_n 0, 1) := by decide +kernel
theorem dX2_dealOut_112 : decode cX2_dealOut 112 = .ok (.iconst 0, 1) := by decide +kernel
theorem dX2_dealOut_113 : decode cX2_dealOut 113 = .ok (.putfield 45, 3) := by decide +kernel
theorem dX2_dealOut_116 : decode cX2_dealOut 116 = .ok (.aload_n 0, 1) := by decide +kernel
theorem dX2_dealOut_117 : decode cX2_dealOut 117 = .ok (.iconst (-1), 1) := by decide +kernel
theorem dX2_dealOut_118 : decode cX2_dealOut 118 = .ok (.putfield 49, 3) := by decide +kernel
theorem dX2_dealOut_121 : decode cX2_dealOut 121 = .ok (.aload_n 0, 1) := by decide +kernel
theorem dX2_dealOut_122 : decode cX2_dealOut 122 = .ok (.iconst 0, 1) := by decide +kernel
theorem dX2_dealOut_123 : decode cX2_dealOut 123 = .ok (.putfield 52, 3) := by decide +kernel
theorem dX2_dealOut_126 : decode cX2_dealOut 126 = .ok (.return_, 1) := by decide +kernel
theorem dX2_beginNextRound_0 : decode cX2_beginNextRound 0 = .ok (.aload_n 0, 1) := by decide +kernel
theorem dX2_beginNextRound_1 : decode cX2_beginNextRound 1 = .ok (.dup, 1) := by decide +kernel
theorem dX2_beginNextRound_2 : decode cX2_beginNextRound 2 = .ok (.getfield 39, 3) := by decide +kernel
theorem dX2_beginNextRound_5 : decode cX2_beginNextRound 5 = .ok (.iconst 1, 1) := by decide +kernel
theorem dX2_beginNextRound_6 : decode cX2_beginNextRound 6 = .ok (.iadd, 1) := by decide +kernel
theorem dX2_beginNextRound_7 : decode cX2_beginNextRound 7 = .ok (.putfield 39, 3) := by decide +kernel
theorem dX2_beginNextRound_10 : decode cX2_beginNextRound 10 = .ok (.aload_n 0, 1) := by decide +kernel
theorem dX2_beginNextRound_11 : decode cX2_beginNextRound 11 = .ok (.invokevirtual 89, 3) := by decide +kernel
theorem dX2_beginNextRound_14 : decode cX2_beginNextRound 14 = .ok (.aload_n 0, 1) := by decide +kernel
theorem dX2_beginNextRound_15 : decode cX2_beginNextRound 15 = .ok (.invokevirtual 92, 3) := by decide +kernel
theorem dX2_beginNextRound_18 : decode cX2_beginNextRound 18 = .ok (.return_, 1) := by decide +kernel
theorem dX2_takeCard_0 : decode cX2_takeCard 0 = .ok (.iload_n 1, 1) := by decide +kernel
theorem dX2_takeCard_1 : decode cX2_takeCard 1 = .ok (.ifCond .eq 10, 3) := by decide +kernel
theorem dX2_takeCard_4 : decode cX2_takeCard 4 = .ok (.aload_n 0, 1) := by decide +kernel
theorem dX2_takeCard_5 : decode cX2_takeCard 5 = .ok (.invokevirtual 95, 3) := by decide +kernel
theorem dX2_takeCard_8 : decode cX2_takeCard 8 = .ok (.goto 11, 3) := by decide +kernel
theorem dX2_takeCard_11 : decode cX2_takeCard 11 = .ok (.aload_n 0, 1) := by decide +kernel
theorem dX2_takeCard_12 : decode cX2_takeCard 12 = .ok (.aload_n 0, 1) := by decide +kernel
theorem dX2_takeCard_13 : decode cX2_takeCard 13 = .ok (.getfield 61, 3) := by decide +kernel
theorem dX2_takeCard_16 : decode cX2_takeCard 16 = .ok (.invokevirtual 81, 3) := by decide +kernel
theorem dX2_takeCard_19 : decode cX2_takeCard 19 = .ok (.istore_n 2, 1) := by decide +kernel
theorem dX2_takeCard_20 : decode cX2_takeCard 20 = .ok (.iload_n 2, 1) := by decide +kernel
theorem dX2_takeCard_21 : decode cX2_takeCard 21 = .ok (.iconst (-1), 1) := by decide +kernel
theorem dX2_takeCard_22 : decode cX2_takeCard 22 = .ok (.if_icmp .ne 5, 3) := by decide +kernel
theorem dX2_takeCard_25 : decode cX2_takeCard 25 = .ok (.iconst (-1), 1) := by decide +kernel
theorem dX2_takeCard_26 : decode cX2_takeCard 26 = .ok (.ireturn, 1) := by decide +kernel
theorem dX2_takeCard_27 : decode cX2_takeCard 27 = .ok (.iload_n 1, 1) := by decide +kernel
theorem dX2_takeCard_28 : decode cX2_takeCard 28 = .ok (.ifCond .eq 21, 3) := by decide +kernel
theorem dX2_takeCard_31 : decode cX2_takeCard 31 = .ok (.aload_n 0, 1) := by decide +kernel
theorem dX2_takeCard_32 : decode cX2_takeCard 32 = .ok (.dup, 1) := by decide +kernel
theorem dX2_takeCard_33 : decode cX2_takeCard 33 = .ok (.getfield 64, 3) := by decide +kernel
theorem dX2_takeCard_36 : decode cX2_takeCard 36 = .ok (.iconst 1, 1) := by decide +kernel
theorem dX2_takeCard_37 : decode cX2_takeCard 37 = .ok (.isub, 1) := by decide +kernel
theorem dX2_takeCard_38 : decode cX2_takeCard 38 = .ok (.putfield 64, 3) := by decide +kernel
theorem dX2_takeCard_41 : decode cX2_takeCard 41 = .ok (.aload_n 0, 1) := by decide +kernel
theorem dX2_takeCard_42 : decode cX2_takeCard 42 = .ok (.iload_n 2, 1) := by decide +kernel
theorem dX2_takeCard_43 : decode cX2_takeCard 43 = .ok (.putfield 49, 3) := by decide +kernel
theorem dX2_takeCard_46 : decode cX2_takeCard 46 = .ok (.goto 13, 3) := by decide +kernel
theorem dX2_takeCard_49 : decode cX2_takeCard 49 = .ok (.aload_n 0, 1) := by decide +kernel
theorem dX2_takeCard_50 : decode cX2_takeCard 50 = .ok (.dup, 1) := by decide +kernel
theorem dX2_takeCard_51 : decode cX2_takeCard 51 = .ok (.getfield 61, 3) := by decide +kernel
theorem dX2_takeCard_54 : decode cX2_takeCard 54 = .ok (.iconst 1, 1) := by decide +kernel
theorem dX2_takeCard_55 : decode cX2_takeCard 55 = .ok (.iadd, 1) := by decide +kernel
theorem dX2_takeCard_56 : decode cX2_takeCard 56 = .ok (.putfield 61, 3) := by decide +kernel
theorem dX2_takeCard_59 : decode cX2_takeCard 59 = .ok (.aload_n 0, 1) := by decide +kernel
theorem dX2_takeCard_60 : decode cX2_takeCard 60 = .ok (.getfield 15, 3) := by decide +kernel
theorem dX2_takeCard_63 : decode cX2_takeCard 63 = .ok (.aload_n 0, 1) := by decide +kernel
theorem dX2_takeCard_64 : decode cX2_takeCard 64 = .ok (.getfield 42, 3) := by decide +kernel
theorem dX2_takeCard_67 : decode cX2_takeCard 67 = .ok (.iconst 1, 1) := by decide +kernel
theorem dX2_takeCard_68 : decode cX2_takeCard 68 = .ok (.iand, 1) := by decide +kernel
theorem dX2_takeCard_69 : decode cX2_takeCard 69 = .ok (.dup2, 1) := by decide +kernel
theorem dX2_takeCard_70 : decode cX2_takeCard 70 = .ok (.laload, 1) := by decide +kernel
theorem dX2_takeCard_71 : decode cX2_takeCard 71 = .ok (.iload_n 2, 1) := by decide +kernel
theorem dX2_takeCard_72 : decode cX2_takeCard 72 = .ok (.invokestatic 85, 3) := by decide +kernel
theorem dX2_takeCard_75 : decode cX2_takeCard 75 = .ok (.lor, 1) := by decide +kernel
theorem dX2_takeCard_76 : decode cX2_takeCard 76 = .ok (.lastore, 1) := by decide +kernel
theorem dX2_takeCard_77 : decode cX2_takeCard 77 = .ok (.aload_n 0, 1) := by decide +kernel
theorem dX2_takeCard_78 : decode cX2_takeCard 78 = .ok (.iconst 1, 1) := by decide +kernel
theorem dX2_takeCard_79 : decode cX2_takeCard 79 = .ok (.putfield 45, 3) := by decide +kernel
theorem dX2_takeCard_82 : decode cX2_takeCard 82 = .ok (.iload_n 2, 1) := by decide +kernel
theorem dX2_takeCard_83 : decode cX2_takeCard 83 = .ok (.ireturn, 1) := by decide +kernel
theorem dX2_putDown_0 : decode cX2_putDown 0 = .ok (.aload_n 0, 1) := by decide +kernel
theorem dX2_putDown_1 : decode cX2_putDown 1 = .ok (.getfield 15, 3) := by decide +kernel
theorem dX2_putDown_4 : decode cX2_putDown 4 = .ok (.aload_n 0, 1) := by decide +kernel
theorem dX2_putDown_5 : decode cX2_putDown 5 = .ok (.getfield 42, 3) := by decide +kernel
theorem dX2_putDown_8 : decode cX2_putDown 8 = .ok (.iconst 1, 1) := by decide +kernel
theorem dX2_putDown_9 : decode cX2_putDown 9 = .ok (.iand, 1) := by decide +kernel
theorem dX2_putDown_10 : decode cX2_putDown 10 = .ok (.dup2, 1) := by decide +kernel
theorem dX2_putDown_11 : decode cX2_putDown 11 = .ok (.laload, 1) := by decide +kernel
theorem dX2_putDown_12 : decode cX2_putDown 12 = .ok (.iload_n 1, 1) := by decide +kernel
theorem dX2_putDown_13 : decode cX2_putDown 13 = .ok (.invokestatic 85, 3) := by decide +kernel
theorem dX2_putDown_16 : decode cX2_putDown 16 = .ok (.ldc2_w 99, 3) := by decide +kernel
theorem dX2_putDown_19 : decode cX2_putDown 19 = .ok (.lxor, 1) := by decide +kernel
theorem dX2_putDown_20 : decode cX2_putDown 20 = .ok (.land, 1) := by decide +kernel
theorem dX2_putDown_21 : decode cX2_putDown 21 = .ok (.lastore, 1) := by decide +kernel
theorem dX2_putDown_22 : decode cX2_putDown 22 = .ok (.aload_n 0, 1) := by decide +kernel
theorem dX2_putDown_23 : decode cX2_putDown 23 = .ok (.getfield 64, 3) := by decide +kernel
theorem dX2_putDown_26 : decode cX2_putDown 26 = .ok (.ifCond .lt 32, 3) := by decide +kernel
theorem dX2_putDown_29 : decode cX2_putDown 29 = .ok (.aload_n 0, 1) := by decide +kernel
theorem dX2_putDown_30 : decode cX2_putDown 30 = .ok (.getfield 64, 3) := by decide +kernel
theorem dX2_putDown_33 : decode cX2_putDown 33 = .ok (.bipush 52, 2) := by decide +kernel
theorem dX2_putDown_35 : decode cX2_putDown 35 = .ok (.if_icmp .ge 23, 3) := by decide +kernel
theorem dX2_putDown_38 : decode cX2_putDown 38 = .ok (.aload_n 0, 1) := by decide +kernel
theorem dX2_putDown_39 : decode cX2_putDown 39 = .ok (.getfield 22, 3) := by decide +kernel
theorem dX2_putDown_42 : decode cX2_putDown 42 = .ok (.aload_n 0, 1) := by decide +kernel
theorem dX2_putDown_43 : decode cX2_putDown 43 = .ok (.getfield 64, 3) := by decide +kernel
theorem dX2_putDown_46 : decode cX2_putDown 46 = .ok (.iload_n 1, 1) := by decide +kernel
theorem dX2_putDown_47 : decode cX2_putDown 47 = .ok (.iastore, 1) := by decide +kernel
theorem dX2_putDown_48 : decode cX2_putDown 48 = .ok (.aload_n 0, 1) := by decide +kernel
theorem dX2_putDown_49 : decode cX2_putDown 49 = .ok (.dup, 1) := by decide +kernel
theorem dX2_putDown_50 : decode cX2_putDown 50 = .ok (.getfield 64, 3) := by decide +kernel
theorem dX2_putDown_53 : decode cX2_putDown 53 = .ok (.iconst 1, 1) := by decide +kernel
theorem dX2_putDown_54 : decode cX2_putDown 54 = .ok (.iadd, 1) := by decide +kernel
theorem dX2_putDown_55 : decode cX2_putDown 55 = .ok (.putfield 64, 3) := by decide +kernel
theorem dX2_putDown_58 : decode cX2_putDown 58 = .ok (.aload_n 0, 1) := by decide +kernel
theorem dX2_putDown_59 : decode cX2_putDown 59 = .ok (.iconst 0, 1) := by decide +kernel
theorem dX2_putDown_60 : decode cX2_putDown 60 = .ok (.putfield 45, 3) := by decide +kernel
theorem dX2_putDown_63 : decode cX2_putDown 63 = .ok (.aload_n 0, 1) := by decide +kernel
theorem dX2_putDown_64 : decode cX2_putDown 64 = .ok (.iconst (-1), 1) := by decide +kernel
theorem dX2_putDown_65 : decode cX2_putDown 65 = .ok (.putfield 49, 3) := by decide +kernel
theorem dX2_putDown_68 : decode cX2_putDown 68 = .ok (.return_, 1) := by decide +kernel
theorem dX2_endTurn_0 : decode cX2_endTurn 0 = .ok (.aload_n 0, 1) := by decide +kernel
theorem dX2_endTurn_1 : decode cX2_endTurn 1 = .ok (.iload_n 1, 1) := by decide +kernel
theorem dX2_endTurn_2 : decode cX2_endTurn 2 = .ok (.invokevirtual 101, 3) := by decide +kernel
theorem dX2_endTurn_5 : decode cX2_endTurn 5 = .ok (.aload_n 0, 1) := by decide +kernel
theorem dX2_endTurn_6 : decode cX2_endTurn 6 = .ok (.invokevirtual 105, 3) := by decide +kernel
theorem dX2_endTurn_9 : decode cX2_endTurn 9 = .ok (.ifCond .le 14, 3) := by decide +kernel
theorem dX2_endTurn_12 : decode cX2_endTurn 12 = .ok (.aload_n 0, 1) := by decide +kernel
theorem dX2_endTurn_13 : decode cX2_endTurn 13 = .ok (.iconst 1, 1) := by decide +kernel
theorem dX2_endTurn_14 : decode cX2_endTurn 14 = .ok (.aload_n 0, 1) := by decide +kernel
theorem dX2_endTurn_15 : decode cX2_endTurn 15 = .ok (.getfield 42, 3) := by decide +kernel
theorem dX2_endTurn_18 : decode cX2_endTurn 18 = .ok (.isub, 1) := by decide +kernel
theorem dX2_endTurn_19 : decode cX2_endTurn 19 = .ok (.putfield 42, 3) := by decide +kernel
theorem dX2_endTurn_22 : decode cX2_endTurn 22 = .ok (.return_, 1) := by decide +kernel
theorem dX2_endTurn_23 : decode cX2_endTurn 23 = .ok (.aload_n 0, 1) := by decide +kernel
theorem dX2_endTurn_24 : decode cX2_endTurn 24 = .ok (.iconst 1, 1) := by decide +kernel
theorem dX2_endTurn_25 : decode cX2_endTurn 25 = .ok (.putfield 52, 3) := by decide +kernel
theorem dX2_endTurn_28 : decode cX2_endTurn 28 = .ok (.aload_n 0, 1) := by decide +kernel
theorem dX2_endTurn_29 : decode cX2_endTurn 29 = .ok (.iconst 0, 1) := by decide +kernel
theorem dX2_endTurn_30 : decode cX2_endTurn 30 = .ok (.putfield 55, 3) := by decide +kernel
theorem dX2_endTurn_33 : decode cX2_endTurn 33 = .ok (.aload_n 0, 1) := by decide +kernel
theorem dX2_endTurn_34 : decode cX2_endTurn 34 = .ok (.iconst (-1), 1) := by decide +kernel
theorem dX2_endTurn_35 : decode cX2_endTurn 35 = .ok (.putfield 58, 3) := by decide +kernel
theorem dX2_endTurn_38 : decode cX2_endTurn 38 = .ok (.return_, 1) := by decide +kernel
theorem dX2_endRound_0 : decode cX2_endRound 0 = .ok (.aload_n 0, 1) := by decide +kernel
theorem dX2_endRound_1 : decode cX2_endRound 1 = .ok (.iload_n 1, 1) := by decide +kernel
theorem dX2_endRound_2 : decode cX2_endRound 2 = .ok (.invokevirtual 101, 3) := by decide +kernel
theorem dX2_endRound_5 : decode cX2_endRound 5 = .ok (.aload_n 0, 1) := by decide +kernel
theorem dX2_endRound_6 : decode cX2_endRound 6 = .ok (.iconst 1, 1) := by decide +kernel
theorem dX2_endRound_7 : decode cX2_endRound 7 = .ok (.putfield 52, 3) := by decide +kernel
theorem dX2_endRound_10 : decode cX2_endRound 10 = .ok (.aload_n 0, 1) := by decide +kernel
theorem dX2_endRound_11 : decode cX2_endRound 11 = .ok (.iload_n 2, 1) := by decide +kernel
theorem dX2_endRound_12 : decode cX2_endRound 12 = .ok (.invokestatic 108, 3) := by decide +kernel
theorem dX2_endRound_15 : decode cX2_endRound 15 = .ok (.putfield 55, 3) := by decide +kernel
theorem dX2_endRound_18 : decode cX2_endRound 18 = .ok (.aload_n 0, 1) := by decide +kernel
theorem dX2_endRound_19 : decode cX2_endRound 19 = .ok (.iload_n 2, 1) := by decide +kernel
theorem dX2_endRound_20 : decode cX2_endRound 20 = .ok (.ifCond .le 10, 3) := by decide +kernel
theorem dX2_endRound_23 : decode cX2_endRound 23 = .ok (.aload_n 0, 1) := by decide +kernel
theorem dX2_endRound_24 : decode cX2_endRound 24 = .ok (.getfield 42, 3) := by decide +kernel
theorem dX2_endRound_27 : decode cX2_endRound 27 = .ok (.goto 9, 3) := by decide +kernel
theorem dX2_endRound_30 : decode cX2_endRound 30 = .ok (.iconst 1, 1) := by decide +kernel
theorem dX2_endRound_31 : decode cX2_endRound 31 = .ok (.aload_n 0, 1) := by decide +kernel
theorem dX2_endRound_32 : decode cX2_endRound 32 = .ok (.getfield 42, 3) := by decide +kernel
theorem dX2_endRound_35 : decode cX2_endRound 35 = .ok (.isub, 1) := by decide +kernel
theorem dX2_endRound_36 : decode cX2_endRound 36 = .ok (.putfield 58, 3) := by decide +kernel
theorem dX2_endRound_39 : decode cX2_endRound 39 = .ok (.aload_n 0, 1) := by decide +kernel
theorem dX2_endRound_40 : decode cX2_endRound 40 = .ok (.getfield 9, 3) := by decide +kernel
theorem dX2_endRound_43 : decode cX2_endRound 43 = .ok (.aload_n 0, 1) := by decide +kernel
theorem dX2_endRound_44 : decode cX2_endRound 44 = .ok (.getfield 58, 3) := by decide +kernel
theorem dX2_endRound_47 : decode cX2_endRound 47 = .ok (.iconst 1, 1) := by decide +kernel
theorem dX2_endRound_48 : decode cX2_endRound 48 = .ok (.iand, 1) := by decide +kernel
theorem dX2_endRound_49 : decode cX2_endRound 49 = .ok (.dup2, 1) := by decide +kernel
theorem dX2_endRound_50 : decode cX2_endRound 50 = .ok (.iaload, 1) := by decide +kernel
theorem dX2_endRound_51 : decode cX2_endRound 51 = .ok (.aload_n 0, 1) := by decide +kernel
theorem dX2_endRound_52 : decode cX2_endRound 52 = .ok (.getfield 55, 3) := by decide +kernel
theorem dX2_endRound_55 : decode cX2_endRound 55 = .ok (.iadd, 1) := by decide +kernel
theorem dX2_endRound_56 : decode cX2_endRound 56 = .ok (.iastore, 1) := by decide +kernel
theorem dX2_endRound_57 : decode cX2_endRound 57 = .ok (.return_, 1) := by decide +kernel
theorem dX2_reasonAgainstDraw_0 : decode cX2_reasonAgainstDraw 0 = .ok (.aload_n 0, 1) := by decide +kernel
theorem dX2_reasonAgainstDraw_1 : decode cX2_reasonAgainstDraw 1 = .ok (.getfield 52, 3) := by decide +kernel
theorem dX2_reasonAgainstDraw_4 : decode cX2_reasonAgainstDraw 4 = .ok (.ifCond .eq 5, 3) := by decide +kernel
theorem dX2_reasonAgainstDraw_7 : decode cX2_reasonAgainstDraw 7 = .ok (.iconst 2, 1) := by decide +kernel
theorem dX2_reasonAgainstDraw_8 : decode cX2_reasonAgainstDraw 8 = .ok (.ireturn, 1) := by decide +kernel
theorem dX2_reasonAgainstDraw_9 : decode cX2_reasonAgainstDraw 9 = .ok (.aload_n 0, 1) := by decide +kernel
theorem dX2_reasonAgainstDraw_10 : decode cX2_reasonAgainstDraw 10 = .ok (.getfield 45, 3) := by decide +kernel
theorem dX2_reasonAgainstDraw_13 : decode cX2_reasonAgainstDraw 13 = .ok (.ifCond .eq 7, 3) := by decide +kernel
theorem dX2_reasonAgainstDraw_16 : decode cX2_reasonAgainstDraw 16 = .ok (.iconst 3, 1) := by decide +kernel
theorem dX2_reasonAgainstDraw_17 : decode cX2_reasonAgainstDraw 17 = .ok (.goto 4, 3) := by decide +kernel
theorem dX2_reasonAgainstDraw_20 : decode cX2_reasonAgainstDraw 20 = .ok (.iconst 0, 1) := by decide +kernel
theorem dX2_reasonAgainstDraw_21 : decode cX2_reasonAgainstDraw 21 = .ok (.ireturn, 1) := by decide +kernel
theorem dX2_reasonAgainstDrop_0 : decode cX2_reasonAgainstDrop 0 = .ok (.aload_n 0, 1) := by decide +kernel
theorem dX2_reasonAgainstDrop_1 : decode cX2_reasonAgainstDrop 1 = .ok (.getfield 52, 3) := by decide +kernel
theorem dX2_reasonAgainstDrop_4 : decode cX2_reasonAgainstDrop 4 = .ok (.ifCond .eq 5, 3) := by decide +kernel
theorem dX2_reasonAgainstDrop_7 : decode cX2_reasonAgainstDrop 7 = .ok (.iconst 2, 1) := by decide +kernel
theorem dX2_reasonAgainstDrop_8 : decode cX2_reasonAgainstDrop 8 = .ok (.ireturn, 1) := by decide +kernel
theorem dX2_reasonAgainstDrop_9 : decode cX2_reasonAgainstDrop 9 = .ok (.aload_n 0, 1) := by decide +kernel
theorem dX2_reasonAgainstDrop_10 : decode cX2_reasonAgainstDrop 10 = .ok (.getfield 45, 3) := by decide +kernel
theorem dX2_reasonAgainstDrop_13 : decode cX2_reasonAgainstDrop 13 = .ok (.ifCond .ne 5, 3) := by decide +kernel
theorem dX2_reasonAgainstDrop_16 : decode cX2_reasonAgainstDrop 16 = .ok (.iconst 4, 1) := by decide +kernel
theorem dX2_reasonAgainstDrop_17 : decode cX2_reasonAgainstDrop 17 = .ok (.ireturn, 1) := by decide +kernel
theorem dX2_reasonAgainstDrop_18 : decode cX2_reasonAgainstDrop 18 = .ok (.iload_n 1, 1) := by decide +kernel
theorem dX2_reasonAgainstDrop_19 : decode cX2_reasonAgainstDrop 19 = .ok (.aload_n 0, 1) := by decide +kernel
theorem dX2_reasonAgainstDrop_20 : decode cX2_reasonAgainstDrop 20 = .ok (.getfield 49, 3) := by decide +kernel
theorem dX2_reasonAgainstDrop_23 : decode cX2_reasonAgainstDrop 23 = .ok (.if_icmp .ne 7, 3) := by decide +kernel
theorem dX2_reasonAgainstDrop_26 : decode cX2_reasonAgainstDrop 26 = .ok (.iconst 5, 1) := by decide +kernel
theorem dX2_reasonAgainstDrop_27 : decode cX2_reasonAgainstDrop 27 = .ok (.goto 4, 3) := by decide +kernel
theorem dX2_reasonAgainstDrop_30 : decode cX2_reasonAgainstDrop 30 = .ok (.iconst 0, 1) := by decide +kernel
theorem dX2_reasonAgainstDrop_31 : decode cX2_reasonAgainstDrop 31 = .ok (.ireturn, 1) := by decide +kernel
theorem dX2_reasonAgainstKnock_0 : decode cX2_reasonAgainstKnock 0 = .ok (.aload_n 0, 1) := by decide +kernel
theorem dX2_reasonAgainstKnock_1 : decode cX2_reasonAgainstKnock 1 = .ok (.iload_n 1, 1) := by decide +kernel
theorem dX2_reasonAgainstKnock_2 : decode cX2_reasonAgainstKnock 2 = .ok (.invokevirtual 113, 3) := by decide +kernel
theorem dX2_reasonAgainstKnock_5 : decode cX2_reasonAgainstKnock 5 = .ok (.istore_n 3, 1) := by decide +kernel
theorem dX2_reasonAgainstKnock_6 : decode cX2_reasonAgainstKnock 6 = .ok (.iload_n 3, 1) := by decide +kernel
theorem dX2_reasonAgainstKnock_7 : decode cX2_reasonAgainstKnock 7 = .ok (.ifCond .eq 5, 3) := by decide +kernel
theorem dX2_reasonAgainstKnock_10 : decode cX2_reasonAgainstKnock 10 = .ok (.iload_n 3, 1) := by decide +kernel
theorem dX2_reasonAgainstKnock_11 : decode cX2_reasonAgainstKnock 11 = .ok (.ireturn, 1) := by decide +kernel
theorem dX2_reasonAgainstKnock_12 : decode cX2_reasonAgainstKnock 12 = .ok (.iload_n 2, 1) := by decide +kernel
theorem dX2_reasonAgainstKnock_13 : decode cX2_reasonAgainstKnock 13 = .ok (.aload_n 0, 1) := by decide +kernel
theorem dX2_reasonAgainstKnock_14 : decode cX2_reasonAgainstKnock 14 = .ok (.getfield 29, 3) := by decide +kernel
theorem dX2_reasonAgainstKnock_17 : decode cX2_reasonAgainstKnock 17 = .ok (.if_icmp .le 8, 3) := by decide +kernel
theorem dX2_reasonAgainstKnock_20 : decode cX2_reasonAgainstKnock 20 = .ok (.bipush 6, 2) := by decide +kernel
theorem dX2_reasonAgainstKnock_22 : decode cX2_reasonAgainstKnock 22 = .ok (.goto 4, 3) := by decide +kernel
theorem dX2_reasonAgainstKnock_25 : decode cX2_reasonAgainstKnock 25 = .ok (.iconst 0, 1) := by decide +kernel
theorem dX2_reasonAgainstKnock_26 : decode cX2_reasonAgainstKnock 26 = .ok (.ireturn, 1) := by decide +kernel
theorem dX2_reasonAgainstDeal_0 : decode cX2_reasonAgainstDeal 0 = .ok (.aload_n 0, 1) := by decide +kernel
theorem dX2_reasonAgainstDeal_1 : decode cX2_reasonAgainstDeal 1 = .ok (.getfield 52, 3) := by decide +kernel
theorem dX2_reasonAgainstDeal_4 : decode cX2_reasonAgainstDeal 4 = .ok (.ifCond .ne 6, 3) := by decide +kernel
theorem dX2_reasonAgainstDeal_7 : decode cX2_reasonAgainstDeal 7 = .ok (.bipush 7, 2) := by decide +kernel
theorem dX2_reasonAgainstDeal_9 : decode cX2_reasonAgainstDeal 9 = .ok (.ireturn, 1) := by decide +kernel
theorem dX2_reasonAgainstDeal_10 : decode cX2_reasonAgainstDeal 10 = .ok (.aload_n 0, 1) := by decide +kernel
theorem dX2_reasonAgainstDeal_11 : decode cX2_reasonAgainstDeal 11 = .ok (.invokevirtual 116, 3) := by decide +kernel
theorem dX2_reasonAgainstDeal_14 : decode cX2_reasonAgainstDeal 14 = .ok (.ifCond .eq 8, 3) := by decide +kernel
theorem dX2_reasonAgainstDeal_17 : decode cX2_reasonAgainstDeal 17 = .ok (.bipush 8, 2) := by decide +kernel
theorem dX2_reasonAgainstDeal_19 : decode cX2_reasonAgainstDeal 19 = .ok (.goto 4, 3) := by decide +kernel
theorem dX2_reasonAgainstDeal_22 : decode cX2_reasonAgainstDeal 22 = .ok (.iconst 0, 1) := by decide +kernel
theorem dX2_reasonAgainstDeal_23 : decode cX2_reasonAgainstDeal 23 = .ok (.ireturn, 1) := by decide +kernel
theorem dX2_isMatchOver_0 : decode cX2_isMatchOver 0 = .ok (.aload_n 0, 1) := by decide +kernel
theorem dX2_isMatchOver_1 : decode cX2_isMatchOver 1 = .ok (.getfield 52, 3) := by decide +kernel
theorem dX2_isMatchOver_4 : decode cX2_isMatchOver 4 = .ok (.ifCond .eq 33, 3) := by decide +kernel
theorem dX2_isMatchOver_7 : decode cX2_isMatchOver 7 = .ok (.aload_n 0, 1) := by decide +kernel
theorem dX2_isMatchOver_8 : decode cX2_isMatchOver 8 = .ok (.getfield 9, 3) := by decide +kernel
theorem dX2_isMatchOver_11 : decode cX2_isMatchOver 11 = .ok (.iconst 0, 1) := by decide +kernel
theorem dX2_isMatchOver_12 : decode cX2_isMatchOver 12 = .ok (.iaload, 1) := by decide +kernel
theorem dX2_isMatchOver_13 : decode cX2_isMatchOver 13 = .ok (.aload_n 0, 1) := by decide +kernel
theorem dX2_isMatchOver_14 : decode cX2_isMatchOver 14 = .ok (.getfield 32, 3) := by decide +kernel
theorem dX2_isMatchOver_17 : decode cX2_isMatchOver 17 = .ok (.if_icmp .ge 16, 3) := by decide +kernel
theorem dX2_isMatchOver_20 : decode cX2_isMatchOver 20 = .ok (.aload_n 0, 1) := by decide +kernel
theorem dX2_isMatchOver_21 : decode cX2_isMatchOver 21 = .ok (.getfield 9, 3) := by decide +kernel
theorem dX2_isMatchOver_24 : decode cX2_isMatchOver 24 = .ok (.iconst 1, 1) := by decide +kernel
theorem dX2_isMatchOver_25 : decode cX2_isMatchOver 25 = .ok (.iaload, 1) := by decide +kernel
theorem dX2_isMatchOver_26 : decode cX2_isMatchOver 26 = .ok (.aload_n 0, 1) := by decide +kernel
theorem dX2_isMatchOver_27 : decode cX2_isMatchOver 27 = .ok (.getfield 32, 3) := by decide +kernel
theorem dX2_isMatchOver_30 : decode cX2_isMatchOver 30 = .ok (.if_icmp .lt 7, 3) := by decide +kernel
theorem dX2_isMatchOver_33 : decode cX2_isMatchOver 33 = .ok (.iconst 1, 1) := by decide +kernel
theorem dX2_isMatchOver_34 : decode cX2_isMatchOver 34 = .ok (.goto 4, 3) := by decide +kernel
theorem dX2_isMatchOver_37 : decode cX2_isMatchOver 37 = .ok (.iconst 0, 1) := by decide +kernel
theorem dX2_isMatchOver_38 : decode cX2_isMatchOver 38 = .ok (.ireturn, 1) := by decide +kernel
theorem dX2_isDropDue_0 : decode cX2_isDropDue 0 = .ok (.aload_n 0, 1) := by decide +kernel
theorem dX2_isDropDue_1 : decode cX2_isDropDue 1 = .ok (.getfield 45, 3) := by decide +kernel
theorem dX2_isDropDue_4 : decode cX2_isDropDue 4 = .ok (.ifCond .eq 14, 3) := by decide +kernel
theorem dX2_isDropDue_7 : decode cX2_isDropDue 7 = .ok (.aload_n 0, 1) := by decide +kernel
theorem dX2_isDropDue_8 : decode cX2_isDropDue 8 = .ok (.getfield 52, 3) := by decide +kernel
theorem dX2_isDropDue_11 : decode cX2_isDropDue 11 = .ok (.ifCond .ne 7, 3) := by decide +kernel
theorem dX2_isDropDue_14 : decode cX2_isDropDue 14 = .ok (.iconst 1, 1) := by decide +kernel
theorem dX2_isDropDue_15 : decode cX2_isDropDue 15 = .ok (.goto 4, 3) := by decide +kernel
theorem dX2_isDropDue_18 : decode cX2_isDropDue 18 = .ok (.iconst 0, 1) := by decide +kernel
theorem dX2_isDropDue_19 : decode cX2_isDropDue 19 = .ok (.ireturn, 1) := by decide +kernel
theorem dX2_deckAt_0 : decode cX2_deckAt 0 = .ok (.iload_n 1, 1) := by decide +kernel
theorem dX2_deckAt_1 : decode cX2_deckAt 1 = .ok (.ifCond .lt 18, 3) := by decide +kernel
theorem dX2_deckAt_4 : decode cX2_deckAt 4 = .ok (.iload_n 1, 1) := by decide +kernel
theorem dX2_deckAt_5 : decode cX2_deckAt 5 = .ok (.bipush 52, 2) := by decide +kernel
theorem dX2_deckAt_7 : decode cX2_deckAt 7 = .ok (.if_icmp .ge 12, 3) := by decide +kernel
theorem dX2_deckAt_10 : decode cX2_deckAt 10 = .ok (.aload_n 0, 1) := by decide +kernel
theorem dX2_deckAt_11 : decode cX2_deckAt 11 = .ok (.getfield 19, 3) := by decide +kernel
theorem dX2_deckAt_14 : decode cX2_deckAt 14 = .ok (.iload_n 1, 1) := by decide +kernel
theorem dX2_deckAt_15 : decode cX2_deckAt 15 = .ok (.iaload, 1) := by decide +kernel
theorem dX2_deckAt_16 : decode cX2_deckAt 16 = .ok (.goto 4, 3) := by decide +kernel
theorem dX2_deckAt_19 : decode cX2_deckAt 19 = .ok (.iconst (-1), 1) := by decide +kernel
theorem dX2_deckAt_20 : decode cX2_deckAt 20 = .ok (.ireturn, 1) := by decide +kernel
theorem dX2_stockCount_0 : decode cX2_stockCount 0 = .ok (.bipush 52, 2) := by decide +kernel
theorem dX2_stockCount_2 : decode cX2_stockCount 2 = .ok (.aload_n 0, 1) := by decide +kernel
theorem dX2_stockCount_3 : decode cX2_stockCount 3 = .ok (.getfield 61, 3) := by decide +kernel
theorem dX2_stockCount_6 : decode cX2_stockCount 6 = .ok (.isub, 1) := by decide +kernel
theorem dX2_stockCount_7 : decode cX2_stockCount 7 = .ok (.ireturn, 1) := by decide +kernel
theorem dX2_topOfPile_0 : decode cX2_topOfPile 0 = .ok (.aload_n 0, 1) := by decide +kernel
theorem dX2_topOfPile_1 : decode cX2_topOfPile 1 = .ok (.getfield 64, 3) := by decide +kernel
theorem dX2_topOfPile_4 : decode cX2_topOfPile 4 = .ok (.ifCond .le 26, 3) := by decide +kernel
theorem dX2_topOfPile_7 : decode cX2_topOfPile 7 = .ok (.aload_n 0, 1) := by decide +kernel
theorem dX2_topOfPile_8 : decode cX2_topOfPile 8 = .ok (.getfield 64, 3) := by decide +kernel
theorem dX2_topOfPile_11 : decode cX2_topOfPile 11 = .ok (.bipush 52, 2) := by decide +kernel
theorem dX2_topOfPile_13 : decode cX2_topOfPile 13 = .ok (.if_icmp .gt 17, 3) := by decide +kernel
theorem dX2_topOfPile_16 : decode cX2_topOfPile 16 = .ok (.aload_n 0, 1) := by decide +kernel
theorem dX2_topOfPile_17 : decode cX2_topOfPile 17 = .ok (.getfield 22, 3) := by decide +kernel
theorem dX2_topOfPile_20 : decode cX2_topOfPile 20 = .ok (.aload_n 0, 1) := by decide +kernel
theorem dX2_topOfPile_21 : decode cX2_topOfPile 21 = .ok (.getfield 64, 3) := by decide +kernel
theorem dX2_topOfPile_24 : decode cX2_topOfPile 24 = .ok (.iconst 1, 1) := by decide +kernel
theorem dX2_topOfPile_25 : decode cX2_topOfPile 25 = .ok (.isub, 1) := by decide +kernel
theorem dX2_topOfPile_26 : decode cX2_topOfPile 26 = .ok (.iaload, 1) := by decide +kernel
theorem dX2_topOfPile_27 : decode cX2_topOfPile 27 = .ok (.goto 4, 3) := by decide +kernel
theorem dX2_topOfPile_30 : decode cX2_topOfPile 30 = .ok (.iconst (-1), 1) := by decide +kernel
theorem dX2_topOfPile_31 : decode cX2_topOfPile 31 = .ok (.ireturn, 1) := by decide +kernel
theorem dX2_score_0 : decode cX2_score 0 = .ok (.aload_n 0, 1) := by decide +kernel
theorem dX2_score_1 : decode cX2_score 1 = .ok (.getfield 9, 3) := by decide +kernel
theorem dX2_score_4 : decode cX2_score 4 = .ok (.iload_n 1, 1) := by decide +kernel
theorem dX2_score_5 : decode cX2_score 5 = .ok (.iconst 1, 1) := by decide +kernel
theorem dX2_score_6 : decode cX2_score 6 = .ok (.iand, 1) := by decide +kernel
theorem dX2_score_7 : decode cX2_score 7 = .ok (.iaload, 1) := by decide +kernel
theorem dX2_score_8 : decode cX2_score 8 = .ok (.ireturn, 1) := by decide +kernel
theorem dX2_handOf_0 : decode cX2_handOf 0 = .ok (.aload_n 0, 1) := by decide +kernel
theorem dX2_handOf_1 : decode cX2_handOf 1 = .ok (.getfield 15, 3) := by decide +kernel
theorem dX2_handOf_4 : decode cX2_handOf 4 = .ok (.iload_n 1, 1) := by decide +kernel
theorem dX2_handOf_5 : decode cX2_handOf 5 = .ok (.iconst 1, 1) := by decide +kernel
theorem dX2_handOf_6 : decode cX2_handOf 6 = .ok (.iand, 1) := by decide +kernel
theorem dX2_handOf_7 : decode cX2_handOf 7 = .ok (.laload, 1) := by decide +kernel
theorem dX2_handOf_8 : decode cX2_handOf 8 = .ok (.lreturn, 1) := by decide +kernel
theorem dX2_otherHand_0 : decode cX2_otherHand 0 = .ok (.aload_n 0, 1) := by decide +kernel
theorem dX2_otherHand_1 : decode cX2_otherHand 1 = .ok (.iconst 1, 1) := by decide +kernel
theorem dX2_otherHand_2 : decode cX2_otherHand 2 = .ok (.aload_n 0, 1) := by decide +kernel
theorem dX2_otherHand_3 : decode cX2_otherHand 3 = .ok (.getfield 42, 3) := by decide +kernel
theorem dX2_otherHand_6 : decode cX2_otherHand 6 = .ok (.isub, 1) := by decide +kernel
theorem dX2_otherHand_7 : decode cX2_otherHand 7 = .ok (.invokevirtual 120, 3) := by decide +kernel
theorem dX2_otherHand_10 : decode cX2_otherHand 10 = .ok (.lreturn, 1) := by decide +kernel
theorem dX2_handWithout_0 : decode cX2_handWithout 0 = .ok (.aload_n 0, 1) := by decide +kernel
theorem dX2_handWithout_1 : decode cX2_handWithout 1 = .ok (.aload_n 0, 1) := by decide +kernel
theorem dX2_handWithout_2 : decode cX2_handWithout 2 = .ok (.getfield 42, 3) := by decide +kernel
theorem dX2_handWithout_5 : decode cX2_handWithout 5 = .ok (.invokevirtual 120, 3) := by decide +kernel
theorem dX2_handWithout_8 : decode cX2_handWithout 8 = .ok (.iload_n 1, 1) := by decide +kernel
theorem dX2_handWithout_9 : decode cX2_handWithout 9 = .ok (.invokestatic 85, 3) := by decide +kernel
theorem dX2_handWithout_12 : decode cX2_handWithout 12 = .ok (.ldc2_w 99, 3) := by decide +kernel
theorem dX2_handWithout_15 : decode cX2_handWithout 15 = .ok (.lxor, 1) := by decide +kernel
theorem dX2_handWithout_16 : decode cX2_handWithout 16 = .ok (.land, 1) := by decide +kernel
theorem dX2_handWithout_17 : decode cX2_handWithout 17 = .ok (.lreturn, 1) := by decide +kernel
theorem dX2_placeOf_0 : decode cX2_placeOf 0 = .ok (.iconst 0, 1) := by decide +kernel
theorem dX2_placeOf_1 : decode cX2_placeOf 1 = .ok (.istore_n 2, 1) := by decide +kernel
theorem dX2_placeOf_2 : decode cX2_placeOf 2 = .ok (.iload_n 2, 1) := by decide +kernel
theorem dX2_placeOf_3 : decode cX2_placeOf 3 = .ok (.iconst 2, 1) := by decide +kernel
theorem dX2_placeOf_4 : decode cX2_placeOf 4 = .ok (.if_icmp .ge 24, 3) := by decide +kernel
theorem dX2_placeOf_7 : decode cX2_placeOf 7 = .ok (.aload_n 0, 1) := by decide +kernel
theorem dX2_placeOf_8 : decode cX2_placeOf 8 = .ok (.getfield 15, 3) := by decide +kernel
theorem dX2_placeOf_11 : decode cX2_placeOf 11 = .ok (.iload_n 2, 1) := by decide +kernel
theorem dX2_placeOf_12 : decode cX2_placeOf 12 = .ok (.laload, 1) := by decide +kernel
theorem dX2_placeOf_13 : decode cX2_placeOf 13 = .ok (.iload_n 1, 1) := by decide +kernel
theorem dX2_placeOf_14 : decode cX2_placeOf 14 = .ok (.invokestatic 123, 3) := by decide +kernel
theorem dX2_placeOf_17 : decode cX2_placeOf 17 = .ok (.ifCond .eq 5, 3) := by decide +kernel
theorem dX2_placeOf_20 : decode cX2_placeOf 20 = .ok (.iload_n 2, 1) := by decide +kernel
theorem dX2_placeOf_21 : decode cX2_placeOf 21 = .ok (.ireturn, 1) := by decide +kernel
theorem dX2_placeOf_22 : decode cX2_placeOf 22 = .ok (.iinc 2 1, 3) := by decide +kernel
theorem dX2_placeOf_25 : decode cX2_placeOf 25 = .ok (.goto (-23), 3) := by decide +kernel
theorem dX2_placeOf_28 : decode cX2_placeOf 28 = .ok (.iconst 0, 1) := by decide +kernel
theorem dX2_placeOf_29 : decode cX2_placeOf 29 = .ok (.istore_n 2, 1) := by decide +kernel
theorem dX2_placeOf_30 : decode cX2_placeOf 30 = .ok (.iload_n 2, 1) := by decide +kernel
theorem dX2_placeOf_31 : decode cX2_placeOf 31 = .ok (.aload_n 0, 1) := by decide +kernel
theorem dX2_placeOf_32 : decode cX2_placeOf 32 = .ok (.getfield 64, 3) := by decide +kernel
theorem dX2_placeOf_35 : decode cX2_placeOf 35 = .ok (.if_icmp .ge 27, 3) := by decide +kernel
theorem dX2_placeOf_38 : decode cX2_placeOf 38 = .ok (.iload_n 2, 1) := by decide +kernel
theorem dX2_placeOf_39 : decode cX2_placeOf 39 = .ok (.bipush 52, 2) := by decide +kernel
theorem dX2_placeOf_41 : decode cX2_placeOf 41 = .ok (.if_icmp .ge 21, 3) := by decide +kernel
theorem dX2_placeOf_44 : decode cX2_placeOf 44 = .ok (.aload_n 0, 1) := by decide +kernel
theorem dX2_placeOf_45 : decode cX2_placeOf 45 = .ok (.getfield 22, 3) := by decide +kernel
theorem dX2_placeOf_48 : decode cX2_placeOf 48 = .ok (.iload_n 2, 1) := by decide +kernel
theorem dX2_placeOf_49 : decode cX2_placeOf 49 = .ok (.iaload, 1) := by decide +kernel
theorem dX2_placeOf_50 : decode cX2_placeOf 50 = .ok (.iload_n 1, 1) := by decide +kernel
theorem dX2_placeOf_51 : decode cX2_placeOf 51 = .ok (.if_icmp .ne 5, 3) := by decide +kernel
theorem dX2_placeOf_54 : decode cX2_placeOf 54 = .ok (.iconst 2, 1) := by decide +kernel
theorem dX2_placeOf_55 : decode cX2_placeOf 55 = .ok (.ireturn, 1) := by decide +kernel
theorem dX2_placeOf_56 : decode cX2_placeOf 56 = .ok (.iinc 2 1, 3) := by decide +kernel
theorem dX2_placeOf_59 : decode cX2_placeOf 59 = .ok (.goto (-29), 3) := by decide +kernel
theorem dX2_placeOf_62 : decode cX2_placeOf 62 = .ok (.iconst 3, 1) := by decide +kernel
theorem dX2_placeOf_63 : decode cX2_placeOf 63 = .ok (.ireturn, 1) := by decide +kernel
theorem dX3_init_0 : decode cX3_init 0 = .ok (.aload_n 0, 1) := by decide +kernel
theorem dX3_init_1 : decode cX3_init 1 = .ok (.invokespecial 3, 3) := by decide +kernel
theorem dX3_init_4 : decode cX3_init 4 = .ok (.aload_n 0, 1) := by decide +kernel
theorem dX3_init_5 : decode cX3_init 5 = .ok (.sipush 500, 3) := by decide +kernel
theorem dX3_init_8 : decode cX3_init 8 = .ok (.newarray .byte, 2) := by decide +kernel
theorem dX3_init_10 : decode cX3_init 10 = .ok (.putfield 9, 3) := by decide +kernel
theorem dX3_init_13 : decode cX3_init 13 = .ok (.aload_n 0, 1) := by decide +kernel
theorem dX3_init_14 : decode cX3_init 14 = .ok (.bipush 52, 2) := by decide +kernel
theorem dX3_init_16 : decode cX3_init 16 = .ok (.newarray .int, 2) := by decide +kernel
theorem dX3_init_18 : decode cX3_init 18 = .ok (.putfield 15, 3) := by decide +kernel
theorem dX3_init_21 : decode cX3_init 21 = .ok (.return_, 1) := by decide +kernel
theorem dX3_writeByte_0 : decode cX3_writeByte 0 = .ok (.aload_n 0, 1) := by decide +kernel
theorem dX3_writeByte_1 : decode cX3_writeByte 1 = .ok (.getfield 19, 3) := by decide +kernel
theorem dX3_writeByte_4 : decode cX3_writeByte 4 = .ok (.ifCond .lt 34, 3) := by decide +kernel
theorem dX3_writeByte_7 : decode cX3_writeByte 7 = .ok (.aload_n 0, 1) := by decide +kernel
theorem dX3_writeByte_8 : decode cX3_writeByte 8 = .ok (.getfield 19, 3) := by decide +kernel
theorem dX3_writeByte_11 : decode cX3_writeByte 11 = .ok (.sipush 500, 3) := by decide +kernel
theorem dX3_writeByte_14 : decode cX3_writeByte 14 = .ok (.if_icmp .ge 24, 3) := by decide +kernel
theorem dX3_writeByte_17 : decode cX3_writeByte 17 = .ok (.aload_n 0, 1) := by decide +kernel
theorem dX3_writeByte_18 : decode cX3_writeByte 18 = .ok (.getfield 9, 3) := by decide +kernel
theorem dX3_writeByte_21 : decode cX3_writeByte 21 = .ok (.aload_n 0, 1) := by decide +kernel
theorem dX3_writeByte_22 : decode cX3_writeByte 22 = .ok (.getfield 19, 3) := by decide +kernel
theorem dX3_writeByte_25 : decode cX3_writeByte 25 = .ok (.iload_n 1, 1) := by decide +kernel
theorem dX3_writeByte_26 : decode cX3_writeByte 26 = .ok (.i2b, 1) := by decide +kernel
theorem dX3_writeByte_27 : decode cX3_writeByte 27 = .ok (.bastore, 1) := by decide +kernel
theorem dX3_writeByte_28 : decode cX3_writeByte 28 = .ok (.aload_n 0, 1) := by decide +kernel
theorem dX3_writeByte_29 : decode cX3_writeByte 29 = .ok (.dup, 1) := by decide +kernel
theorem dX3_writeByte_30 : decode cX3_writeByte 30 = .ok (.getfield 19, 3) := by decide +kernel
theorem dX3_writeByte_33 : decode cX3_writeByte 33 = .ok (.iconst 1, 1) := by decide +kernel
theorem dX3_writeByte_34 : decode cX3_writeByte 34 = .ok (.iadd, 1) := by decide +kernel
theorem dX3_writeByte_35 : decode cX3_writeByte 35 = .ok (.putfield 19, 3) := by decide +kernel
theorem dX3_writeByte_38 : decode cX3_writeByte 38 = .ok (.return_, 1) := by decide +kernel
theorem dX3_writeFour_0 : decode cX3_writeFour 0 = .ok (.bipush 24, 2) := by decide +kernel
theorem dX3_writeFour_2 : decode cX3_writeFour 2 = .ok (.istore_n 2, 1) := by decide +kernel
theorem dX3_writeFour_3 : decode cX3_writeFour 3 = .ok (.iload_n 2, 1) := by decide +kernel
theorem dX3_writeFour_4 : decode cX3_writeFour 4 = .ok (.ifCond .lt 16, 3) := by decide +kernel
theorem dX3_writeFour_7 : decode cX3_writeFour 7 = .ok (.aload_n 0, 1) := by decide +kernel
theorem dX3_writeFour_8 : decode cX3_writeFour 8 = .ok (.iload_n 1, 1) := by decide +kernel
theorem dX3_writeFour_9 : decode cX3_writeFour 9 = .ok (.iload_n 2, 1) := by decide +kernel
theorem dX3_writeFour_10 : decode cX3_writeFour 10 = .ok (.iushr, 1) := by decide +kernel
theorem dX3_writeFour_11 : decode cX3_writeFour 11 = .ok (.invokevirtual 23, 3) := by decide +kernel
theorem dX3_writeFour_14 : decode cX3_writeFour 14 = .ok (.iinc 2 (-8), 3) := by decide +kernel
theorem dX3_writeFour_17 : decode cX3_writeFour 17 = .ok (.goto (-14), 3) := by decide +kernel
theorem dX3_writeFour_20 : decode cX3_writeFour 20 = .ok (.return_, 1) := by decide +kernel
theorem dX3_write_0 : decode cX3_write 0 = .ok (.iconst 0, 1) := by decide +kernel
theorem dX3_write_1 : decode cX3_write 1 = .ok (.istore_n 2, 1) := by decide +kernel
theorem dX3_write_2 : decode cX3_write 2 = .ok (.iload_n 2, 1) := by decide +kernel
theorem dX3_write_3 : decode cX3_write 3 = .ok (.aload_n 1, 1) := by decide +kernel
theorem dX3_write_4 : decode cX3_write 4 = .ok (.invokevirtual 27, 3) := by decide +kernel
theorem dX3_write_7 : decode cX3_write 7 = .ok (.if_icmp .ge 18, 3) := by decide +kernel
theorem dX3_write_10 : decode cX3_write 10 = .ok (.aload_n 0, 1) := by decide +kernel
theorem dX3_write_11 : decode cX3_write 11 = .ok (.aload_n 1, 1) := by decide +kernel
theorem dX3_write_12 : decode cX3_write 12 = .ok (.iload_n 2, 1) := by decide +kernel
theorem dX3_write_13 : decode cX3_write 13 = .ok (.invokevirtual 32, 3) := by decide +kernel
theorem dX3_write_16 : decode cX3_write 16 = .ok (.invokevirtual 23, 3) := by decide +kernel
theorem dX3_write_19 : decode cX3_write 19 = .ok (.iinc 2 1, 3) := by decide +kernel
theorem dX3_write_22 : decode cX3_write 22 = .ok (.goto (-20), 3) := by decide +kernel
theorem dX3_write_25 : decode cX3_write 25 = .ok (.return_, 1) := by decide +kernel
theorem dX3_shorten_0 : decode cX3_shorten 0 = .ok (.aload_n 0, 1) := by decide +kernel
theorem dX3_shorten_1 : decode cX3_shorten 1 = .ok (.iload_n 1, 1) := by decide +kernel
theorem dX3_shorten_2 : decode cX3_shorten 2 = .ok (.putfield 19, 3) := by decide +kernel
theorem dX3_shorten_5 : decode cX3_shorten 5 = .ok (.return_, 1) := by decide +kernel
theorem dX3_readDeal_0 : decode cX3_readDeal 0 = .ok (.aload_n 0, 1) := by decide +kernel
theorem dX3_readDeal_1 : decode cX3_readDeal 1 = .ok (.iconst 0, 1) := by decide +kernel
theorem dX3_readDeal_2 : decode cX3_readDeal 2 = .ok (.putfield 36, 3) := by decide +kernel
theorem dX3_readDeal_5 : decode cX3_readDeal 5 = .ok (.aload_n 0, 1) := by decide +kernel
theorem dX3_readDeal_6 : decode cX3_readDeal 6 = .ok (.aload_n 1, 1) := by decide +kernel
theorem dX3_readDeal_7 : decode cX3_readDeal 7 = .ok (.invokevirtual 39, 3) := by decide +kernel
theorem dX3_readDeal_10 : decode cX3_readDeal 10 = .ok (.istore_n 2, 1) := by decide +kernel
theorem dX3_readDeal_11 : decode cX3_readDeal 11 = .ok (.iload_n 2, 1) := by decide +kernel
theorem dX3_readDeal_12 : decode cX3_readDeal 12 = .ok (.ifCond .ne 8, 3) := by decide +kernel
theorem dX3_readDeal_15 : decode cX3_readDeal 15 = .ok (.aload_n 0, 1) := by decide +kernel
theorem dX3_readDeal_16 : decode cX3_readDeal 16 = .ok (.invokevirtual 43, 3) := by decide +kernel
theorem dX3_readDeal_19 : decode cX3_readDeal 19 = .ok (.istore_n 2, 1) := by decide +kernel
theorem dX3_readDeal_20 : decode cX3_readDeal 20 = .ok (.iload_n 2, 1) := by decide +kernel
theorem dX3_readDeal_21 : decode cX3_readDeal 21 = .ok (.ifCond .ne 20, 3) := by decide +kernel
theorem dX3_readDeal_24 : decode cX3_readDeal 24 = .ok (.aload_n 1, 1) := by decide +kernel
theorem dX3_readDeal_25 : decode cX3_readDeal 25 = .ok (.invokevirtual 46, 3) := by decide +kernel
theorem dX3_readDeal_28 : decode cX3_readDeal 28 = .ok (.aload_n 1, 1) := by decide +kernel
theorem dX3_readDeal_29 : decode cX3_readDeal 29 = .ok (.invokevirtual 51, 3) := by decide +kernel
theorem dX3_readDeal_32 : decode cX3_readDeal 32 = .ok (.aload_n 0, 1) := by decide +kernel
theorem dX3_readDeal_33 : decode cX3_readDeal 33 = .ok (.aload_n 1, 1) := by decide +kernel
theorem dX3_readDeal_34 : decode cX3_readDeal 34 = .ok (.invokevirtual 54, 3) := by decide +kernel
theorem dX3_readDeal_37 : decode cX3_readDeal 37 = .ok (.aload_n 1, 1) := by decide +kernel
theorem dX3_readDeal_38 : decode cX3_readDeal 38 = .ok (.invokevirtual 58, 3) := by decide +kernel
theorem dX3_readDeal_41 : decode cX3_readDeal 41 = .ok (.iload_n 2, 1) := by decide +kernel
theorem dX3_readDeal_42 : decode cX3_readDeal 42 = .ok (.ireturn, 1) := by decide +kernel
theorem dX3_isAtEnd_0 : decode cX3_isAtEnd 0 = .ok (.aload_n 0, 1) := by decide +kernel
theorem dX3_isAtEnd_1 : decode cX3_isAtEnd 1 = .ok (.getfield 61, 3) := by decide +kernel
theorem dX3_isAtEnd_4 : decode cX3_isAtEnd 4 = .ok (.ifCond .ne 7, 3) := by decide +kernel
theorem dX3_isAtEnd_7 : decode cX3_isAtEnd 7 = .ok (.iconst 1, 1) := by decide +kernel
theorem dX3_isAtEnd_8 : decode cX3_isAtEnd 8 = .ok (.goto 4, 3) := by decide +kernel
theorem dX3_isAtEnd_11 : decode cX3_isAtEnd 11 = .ok (.iconst 0, 1) := by decide +kernel
theorem dX3_isAtEnd_12 : decode cX3_isAtEnd 12 = .ok (.ireturn, 1) := by decide +kernel
theorem dX3_readHead_0 : decode cX3_readHead 0 = .ok (.aload_n 0, 1) := by decide +kernel
theorem dX3_readHead_1 : decode cX3_readHead 1 = .ok (.invokevirtual 64, 3) := by decide +kernel
theorem dX3_readHead_4 : decode cX3_readHead 4 = .ok (.aload_n 0, 1) := by decide +kernel
theorem dX3_readHead_5 : decode cX3_readHead 5 = .ok (.ldc 67, 2) := by decide +kernel
theorem dX3_readHead_7 : decode cX3_readHead 7 = .ok (.invokevirtual 69, 3) := by decide +kernel
theorem dX3_readHead_10 : decode cX3_readHead 10 = .ok (.ifCond .ne 9, 3) := by decide +kernel
theorem dX3_readHead_13 : decode cX3_readHead 13 = .ok (.aload_n 0, 1) := by decide +kernel
theorem dX3_readHead_14 : decode cX3_readHead 14 = .ok (.iconst 1, 1) := by decide +kernel
theorem dX3_readHead_15 : decode cX3_readHead 15 = .ok (.invokevirtual 73, 3) := by decide +kernel
theorem dX3_readHead_18 : decode cX3_readHead 18 = .ok (.ireturn, 1) := by decide +kernel
theorem dX3_readHead_19 : decode cX3_readHead 19 = .ok (.aload_n 0, 1) := by decide +kernel
theorem dX3_readHead_20 : decode cX3_readHead 20 = .ok (.iconst 0, 1) := by decide +kernel
theorem dX3_readHead_21 : decode cX3_readHead 21 = .ok (.ldc 77, 2) := by decide +kernel
theorem dX3_readHead_23 : decode cX3_readHead 23 = .ok (.invokevirtual 78, 3) := by decide +kernel
theorem dX3_readHead_26 : decode cX3_readHead 26 = .ok (.istore_n 2, 1) := by decide +kernel
theorem dX3_readHead_27 : decode cX3_readHead 27 = .ok (.aload_n 1, 1) := by decide +kernel
theorem dX3_readHead_28 : decode cX3_readHead 28 = .ok (.aload_n 0, 1) := by decide +kernel
theorem dX3_readHead_29 : decode cX3_readHead 29 = .ok (.getfield 82, 3) := by decide +kernel
theorem dX3_readHead_32 : decode cX3_readHead 32 = .ok (.i2l, 1) := by decide +kernel
theorem dX3_readHead_33 : decode cX3_readHead 33 = .ok (.putfield 85, 3) := by decide +kernel
theorem dX3_readHead_36 : decode cX3_readHead 36 = .ok (.iload_n 2, 1) := by decide +kernel
theorem dX3_readHead_37 : decode cX3_readHead 37 = .ok (.ifCond .ne 20, 3) := by decide +kernel
theorem dX3_readHead_40 : decode cX3_readHead 40 = .ok (.aload_n 0, 1) := by decide +kernel
theorem dX3_readHead_41 : decode cX3_readHead 41 = .ok (.bipush 7, 2) := by decide +kernel
theorem dX3_readHead_43 : decode cX3_readHead 43 = .ok (.bipush 10, 2) := by decide +kernel
theorem dX3_readHead_45 : decode cX3_readHead 45 = .ok (.invokevirtual 78, 3) := by decide +kernel
theorem dX3_readHead_48 : decode cX3_readHead 48 = .ok (.istore_n 2, 1) := by decide +kernel
theorem dX3_readHead_49 : decode cX3_readHead 49 = .ok (.aload_n 1, 1) := by decide +kernel
theorem dX3_readHead_50 : decode cX3_readHead 50 = .ok (.aload_n 0, 1) := by decide +kernel
theorem dX3_readHead_51 : decode cX3_readHead 51 = .ok (.getfield 82, 3) := by decide +kernel
theorem dX3_readHead_54 : decode cX3_readHead 54 = .ok (.putfield 89, 3) := by decide +kernel
theorem dX3_readHead_57 : decode cX3_readHead 57 = .ok (.iload_n 2, 1) := by decide +kernel
theorem dX3_readHead_58 : decode cX3_readHead 58 = .ok (.ifCond .ne 19, 3) := by decide +kernel
theorem dX3_readHead_61 : decode cX3_readHead 61 = .ok (.aload_n 0, 1) := by decide +kernel
theorem dX3_readHead_62 : decode cX3_readHead 62 = .ok (.iconst 0, 1) := by decide +kernel
theorem dX3_readHead_63 : decode cX3_readHead 63 = .ok (.bipush 20, 2) := by decide +kernel
theorem dX3_readHead_65 : decode cX3_readHead 65 = .ok (.invokevirtual 78, 3) := by decide +kernel
theorem dX3_readHead_68 : decode cX3_readHead 68 = .ok (.istore_n 2, 1) := by decide +kernel
theorem dX3_readHead_69 : decode cX3_readHead 69 = .ok (.aload_n 1, 1) := by decide +kernel
theorem dX3_readHead_70 : decode cX3_readHead 70 = .ok (.aload_n 0, 1) := by decide +kernel
theorem dX3_readHead_71 : decode cX3_readHead 71 = .ok (.getfield 82, 3) := by decide +kernel
theorem dX3_readHead_74 : decode cX3_readHead 74 = .ok (.putfield 92, 3) := by decide +kernel
theorem dX3_readHead_77 : decode cX3_readHead 77 = .ok (.iload_n 2, 1) := by decide +kernel
theorem dX3_readHead_78 : decode cX3_readHead 78 = .ok (.ifCond .ne 21, 3) := by decide +kernel
theorem dX3_readHead_81 : decode cX3_readHead 81 = .ok (.aload_n 0, 1) := by decide +kernel
theorem dX3_readHead_82 : decode cX3_readHead 82 = .ok (.bipush 20, 2) := by decide +kernel
theorem dX3_readHead_84 : decode cX3_readHead 84 = .ok (.sipush 500, 3) := by decide +kernel
theorem dX3_readHead_87 : decode cX3_readHead 87 = .ok (.invokevirtual 78, 3) := by decide +kernel
theorem dX3_readHead_90 : decode cX3_readHead 90 = .ok (.istore_n 2, 1) := by decide +kernel
theorem dX3_readHead_91 : decode cX3_readHead 91 = .ok (.aload_n 1, 1) := by decide +kernel
theorem dX3_readHead_92 : decode cX3_readHead 92 = .ok (.aload_n 0, 1) := by decide +kernel
theorem dX3_readHead_93 : decode cX3_readHead 93 = .ok (.getfield 82, 3) := by decide +kernel
theorem dX3_readHead_96 : decode cX3_readHead 96 = .ok (.putfield 95, 3) := by decide +kernel
theorem dX3_readHead_99 : decode cX3_readHead 99 = .ok (.iload_n 2, 1) := by decide +kernel
theorem dX3_readHead_100 : decode cX3_readHead 100 = .ok (.ifCond .ne 8, 3) := by decide +kernel
theorem dX3_readHead_103 : decode cX3_readHead 103 = .ok (.aload_n 0, 1) := by decide +kernel
theorem dX3_readHead_104 : decode cX3_readHead 104 = .ok (.invokevirtual 98, 3) := by decide +kernel
theorem dX3_readHead_107 : decode cX3_readHead 107 = .ok (.istore_n 2, 1) := by decide +kernel
theorem dX3_readHead_108 : decode cX3_readHead 108 = .ok (.iload_n 2, 1) := by decide +kernel
theorem dX3_readHead_109 : decode cX3_readHead 109 = .ok (.ireturn, 1) := by decide +kernel
theorem dX3_readDeck_0 : decode cX3_readDeck 0 = .ok (.aload_n 0, 1) := by decide +kernel
theorem dX3_readDeck_1 : decode cX3_readDeck 1 = .ok (.iconst 0, 1) := by decide +kernel
theorem dX3_readDeck_2 : decode cX3_readDeck 2 = .ok (.putfield 101, 3) := by decide +kernel
theorem dX3_readDeck_5 : decode cX3_readDeck 5 = .ok (.lconst 0, 1) := by decide +kernel
theorem dX3_readDeck_6 : decode cX3_readDeck 6 = .ok (.lstore_n 1, 1) := by decide +kernel
theorem dX3_readDeck_7 : decode cX3_readDeck 7 = .ok (.aload_n 0, 1) := by decide +kernel
theorem dX3_readDeck_8 : decode cX3_readDeck 8 = .ok (.invokevirtual 64, 3) := by decide +kernel
theorem dX3_readDeck_11 : decode cX3_readDeck 11 = .ok (.aload_n 0, 1) := by decide +kernel
theorem dX3_readDeck_12 : decode cX3_readDeck 12 = .ok (.ldc 104, 2) := by decide +kernel
theorem dX3_readDeck_14 : decode cX3_readDeck 14 = .ok (.invokevirtual 69, 3) := by decide +kernel
theorem dX3_readDeck_17 : decode cX3_readDeck 17 = .ok (.ifCond .ne 5, 3) := by decide +kernel
theorem dX3_readDeck_20 : decode cX3_readDeck 20 = .ok (.iconst 0, 1) := by decide +kernel
theorem dX3_readDeck_21 : decode cX3_readDeck 21 = .ok (.ireturn, 1) := by decide +kernel
theorem dX3_readDeck_22 : decode cX3_readDeck 22 = .ok (.aload_n 0, 1) := by decide +kernel
theorem dX3_readDeck_23 : decode cX3_readDeck 23 = .ok (.iconst 0, 1) := by decide +kernel
theorem dX3_readDeck_24 : decode cX3_readDeck 24 = .ok (.bipush 51, 2) := by decide +kernel
theorem dX3_readDeck_26 : decode cX3_readDeck 26 = .ok (.invokevirtual 78, 3) := by decide +kernel
theorem dX3_readDeck_29 : decode cX3_readDeck 29 = .ok (.istore_n 3, 1) := by decide +kernel
theorem dX3_readDeck_30 : decode cX3_readDeck 30 = .ok (.iconst 0, 1) := by decide +kernel
theorem dX3_readDeck_31 : decode cX3_readDeck 31 = .ok (.istore 4, 2) := by decide +kernel
theorem dX3_readDeck_33 : decode cX3_readDeck 33 = .ok (.iload 4, 2) := by decide +kernel
theorem dX3_readDeck_35 : decode cX3_readDeck 35 = .ok (.bipush 52, 2) := by decide +kernel
theorem dX3_readDeck_37 : decode cX3_readDeck 37 = .ok (.if_icmp .gt 100, 3) := by decide +kernel
theorem dX3_readDeck_40 : decode cX3_readDeck 40 = .ok (.iload_n 3, 1) := by decide +kernel
theorem dX3_readDeck_41 : decode cX3_readDeck 41 = .ok (.ifCond .ne 96, 3) := by decide +kernel
theorem dX3_readDeck_44 : decode cX3_readDeck 44 = .ok (.aload_n 0, 1) := by decide +kernel
theorem dX3_readDeck_45 : decode cX3_readDeck 45 = .ok (.getfield 61, 3) := by decide +kernel
theorem dX3_readDeck_48 : decode cX3_readDeck 48 = .ok (.iconst 2, 1) := by decide +kernel
theorem dX3_readDeck_49 : decode cX3_readDeck 49 = .ok (.if_icmp .ne 88, 3) := by decide +kernel
theorem dX3_readDeck_52 : decode cX3_readDeck 52 = .ok (.lload_n 1, 1) := by decide +kernel
theorem dX3_readDeck_53 : decode cX3_readDeck 53 = .ok (.aload_n 0, 1) := by decide +kernel
theorem dX3_readDeck_54 : decode cX3_readDeck 54 = .ok (.getfield 82, 3) := by decide +kernel
theorem dX3_readDeck_57 : decode cX3_readDeck 57 = .ok (.invokestatic 106, 3) := by decide +kernel
theorem dX3_readDeck_60 : decode cX3_readDeck 60 = .ok (.ifCond .ne 12, 3) := by decide +kernel
theorem dX3_readDeck_63 : decode cX3_readDeck 63 = .ok (.aload_n 0, 1) := by decide +kernel
theorem dX3_readDeck_64 : decode cX3_readDeck 64 = .ok (.getfield 101, 3) := by decide +kernel
theorem dX3_readDeck_67 : decode cX3_readDeck 67 = .ok (.bipush 52, 2) := by decide +kernel
theorem dX3_readDeck_69 : decode cX3_readDeck 69 = .ok (.if_icmp .lt 9, 3) := by decide +kernel
theorem dX3_readDeck_72 : decode cX3_readDeck 72 = .ok (.aload_n 0, 1) := by decide +kernel
theorem dX3_readDeck_73 : decode cX3_readDeck 73 = .ok (.iconst 3, 1) := by decide +kernel
theorem dX3_readDeck_74 : decode cX3_readDeck 74 = .ok (.invokevirtual 73, 3) := by decide +kernel
theorem dX3_readDeck_77 : decode cX3_readDeck 77 = .ok (.ireturn, 1) := by decide +kernel
theorem dX3_readDeck_78 : decode cX3_readDeck 78 = .ok (.lload_n 1, 1) := by decide +kernel
theorem dX3_readDeck_79 : decode cX3_readDeck 79 = .ok (.aload_n 0, 1) := by decide +kernel
theorem dX3_readDeck_80 : decode cX3_readDeck 80 = .ok (.getfield 82, 3) := by decide +kernel
theorem dX3_readDeck_83 : decode cX3_readDeck 83 = .ok (.invokestatic 110, 3) := by decide +kernel
theorem dX3_readDeck_86 : decode cX3_readDeck 86 = .ok (.lor, 1) := by decide +kernel
theorem dX3_readDeck_87 : decode cX3_readDeck 87 = .ok (.lstore_n 1, 1) := by decide +kernel
theorem dX3_readDeck_88 : decode cX3_readDeck 88 = .ok (.aload_n 0, 1) := by decide +kernel
theorem dX3_readDeck_89 : decode cX3_readDeck 89 = .ok (.getfield 15, 3) := by decide +kernel
theorem dX3_readDeck_92 : decode cX3_readDeck 92 = .ok (.aload_n 0, 1) := by decide +kernel
theorem dX3_readDeck_93 : decode cX3_readDeck 93 = .ok (.getfield 101, 3) := by decide +kernel
theorem dX3_readDeck_96 : decode cX3_readDeck 96 = .ok (.aload_n 0, 1) := by decide +kernel
theorem dX3_readDeck_97 : decode cX3_readDeck 97 = .ok (.getfield 82, 3) := by decide +kernel
theorem dX3_readDeck_100 : decode cX3_readDeck 100 = .ok (.iastore, 1) := by decide +kernel
theorem dX3_readDeck_101 : decode cX3_readDeck 101 = .ok (.aload_n 0, 1) := by decide +kernel
theorem dX3_readDeck_102 : decode cX3_readDeck 102 = .ok (.dup, 1) := by decide +kernel
theorem dX3_readDeck_103 : decode cX3_readDeck 103 = .ok (.getfield 101, 3) := by decide +kernel
theorem dX3_readDeck_106 : decode cX3_readDeck 106 = .ok (.iconst 1, 1) := by decide +kernel
theorem dX3_readDeck_107 : decode cX3_readDeck 107 = .ok (.iadd, 1) := by decide +kernel
theorem dX3_readDeck_108 : decode cX3_readDeck 108 = .ok (.putfield 101, 3) := by decide +kernel
theorem dX3_readDeck_111 : decode cX3_readDeck 111 = .ok (.aload_n 0, 1) := by decide +kernel
theorem dX3_readDeck_112 : decode cX3_readDeck 112 = .ok (.invokevirtual 64, 3) := by decide +kernel
theorem dX3_readDeck_115 : decode cX3_readDeck 115 = .ok (.aload_n 0, 1) := by decide +kernel
theorem dX3_readDeck_116 : decode cX3_readDeck 116 = .ok (.getfield 61, 3) := by decide +kernel
theorem dX3_readDeck_119 : decode cX3_readDeck 119 = .ok (.iconst 2, 1) := by decide +kernel
theorem dX3_readDeck_120 : decode cX3_readDeck 120 = .ok (.if_icmp .ne 11, 3) := by decide +kernel
theorem dX3_readDeck_123 : decode cX3_readDeck 123 = .ok (.aload_n 0, 1) := by decide +kernel
theorem dX3_readDeck_124 : decode cX3_readDeck 124 = .ok (.iconst 0, 1) := by decide +kernel
theorem dX3_readDeck_125 : decode cX3_readDeck 125 = .ok (.bipush 51, 2) := by decide +kernel
theorem dX3_readDeck_127 : decode cX3_readDeck 127 = .ok (.invokevirtual 114, 3) := by decide +kernel
theorem dX3_readDeck_130 : decode cX3_readDeck 130 = .ok (.istore_n 3, 1) := by decide +kernel
theorem dX3_readDeck_131 : decode cX3_readDeck 131 = .ok (.iinc 4 1, 3) := by decide +kernel
theorem dX3_readDeck_134 : decode cX3_readDeck 134 = .ok (.goto (-101), 3) := by decide +kernel
theorem dX3_readDeck_137 : decode cX3_readDeck 137 = .ok (.iload_n 3, 1) := by decide +kernel
theorem dX3_readDeck_138 : decode cX3_readDeck 138 = .ok (.ifCond .eq 5, 3) := by decide +kernel
theorem dX3_readDeck_141 : decode cX3_readDeck 141 = .ok (.iload_n 3, 1) := by decide +kernel
theorem dX3_readDeck_142 : decode cX3_readDeck 142 = .ok (.ireturn, 1) := by decide +kernel
theorem dX3_readDeck_143 : decode cX3_readDeck 143 = .ok (.aload_n 0, 1) := by decide +kernel
theorem dX3_readDeck_144 : decode cX3_readDeck 144 = .ok (.getfield 61, 3) := by decide +kernel
theorem dX3_readDeck_147 : decode cX3_readDeck 147 = .ok (.iconst 3, 1) := by decide +kernel
theorem dX3_readDeck_148 : decode cX3_readDeck 148 = .ok (.if_icmp .eq 9, 3) := by decide +kernel
theorem dX3_readDeck_151 : decode cX3_readDeck 151 = .ok (.aload_n 0, 1) := by decide +kernel
theorem dX3_readDeck_152 : decode cX3_readDeck 152 = .ok (.iconst 1, 1) := by decide +kernel
theorem dX3_readDeck_153 : decode cX3_readDeck 153 = .ok (.invokevirtual 73, 3) := by decide +kernel
theorem dX3_readDeck_156 : decode cX3_readDeck 156 = .ok (.ireturn, 1) := by decide +kernel
theorem dX3_readDeck_157 : decode cX3_readDeck 157 = .ok (.aload_n 0, 1) := by decide +kernel
theorem dX3_readDeck_158 : decode cX3_readDeck 158 = .ok (.invokevirtual 64, 3) := by decide +kernel
theorem dX3_readDeck_161 : decode cX3_readDeck 161 = .ok (.iconst 0, 1) := by decide +kernel
theorem dX3_readDeck_162 : decode cX3_readDeck 162 = .ok (.ireturn, 1) := by decide +kernel
theorem dX3_arrange_0 : decode cX3_arrange 0 = .ok (.lconst 0, 1) := by decide +kernel
theorem dX3_arrange_1 : decode cX3_arrange 1 = .ok (.lstore_n 2, 1) := by decide +kernel
theorem dX3_arrange_2 : decode cX3_arrange 2 = .ok (.iconst 0, 1) := by decide +kernel
theorem dX3_arrange_3 : decode cX3_arrange 3 = .ok (.istore 4, 2) := by decide +kernel
theorem dX3_arrange_5 : decode cX3_arrange 5 = .ok (.iload 4, 2) := by decide +kernel
theorem dX3_arrange_7 : decode cX3_arrange 7 = .ok (.aload_n 0, 1) := by decide +kernel
theorem dX3_arrange_8 : decode cX3_arrange 8 = .ok (.getfield 101, 3) := by decide +kernel
theorem dX3_arrange_11 : decode cX3_arrange 11 = .ok (.if_icmp .ge 29, 3) := by decide +kernel
theorem dX3_arrange_14 : decode cX3_arrange 14 = .ok (.iload 4, 2) := by decide +kernel
theorem dX3_arrange_16 : decode cX3_arrange 16 = .ok (.bipush 52, 2) := by decide +kernel
theorem dX3_arrange_18 : decode cX3_arrange 18 = .ok (.if_icmp .ge 22, 3) := by decide +kernel
theorem dX3_arrange_21 : decode cX3_arrange 21 = .ok (.lload_n 2, 1) := by decide +kernel
theorem dX3_arrange_22 : decode cX3_arrange 22 = .ok (.aload_n 0, 1) := by decide +kernel
theorem dX3_arrange_23 : decode cX3_arrange 23 = .ok (.getfield 15, 3) := by decide +kernel
theorem dX3_arrange_26 : decode cX3_arrange 26 = .ok (.iload 4, 2) := by decide +kernel
theorem dX3_arrange_28 : decode cX3_arrange 28 = .ok (.iaload, 1) := by decide +kernel
theorem dX3_arrange_29 : decode cX3_arrange 29 = .ok (.invokestatic 110, 3) := by decide +kernel
theorem dX3_arrange_32 : decode cX3_arrange 32 = .ok (.lor, 1) := by decide +kernel
theorem dX3_arrange_33 : decode cX3_arrange 33 = .ok (.lstore_n 2, 1) := by decide +kernel
theorem dX3_arrange_34 : decode cX3_arrange 34 = .ok (.iinc 4 1, 3) := by decide +kernel
theorem dX3_arrange_37 : decode cX3_arrange 37 = .ok (.goto (-32), 3) := by decide +kernel
theorem dX3_arrange_40 : decode cX3_arrange 40 = .ok (.aload_n 0, 1) := by decide +kernel
theorem dX3_arrange_41 : decode cX3_arrange 41 = .ok (.getfield 101, 3) := by decide +kernel
theorem dX3_arrange_44 : decode cX3_arrange 44 = .ok (.istore 4, 2) := by decide +kernel
theorem dX3_arrange_46 : decode cX3_arrange 46 = .ok (.iconst 0, 1) := by decide +kernel
theorem dX3_arrange_47 : decode cX3_arrange 47 = .ok (.istore 5, 2) := by decide +kernel
theorem dX3_arrange_49 : decode cX3_arrange 49 = .ok (.iload 5, 2) := by decide +kernel
theorem dX3_arrange_51 : decode cX3_arrange 51 = .ok (.bipush 52, 2) := by decide +kernel
theorem dX3_arrange_53 : decode cX3_arrange 53 = .ok (.if_icmp .ge 45, 3) := by decide +kernel
theorem dX3_arrange_56 : decode cX3_arrange 56 = .ok (.iload 4, 2) := by decide +kernel
theorem dX3_arrange_58 : decode cX3_arrange 58 = .ok (.bipush 52, 2) := by decide +kernel
theorem dX3_arrange_60 : decode cX3_arrange 60 = .ok (.if_icmp .ge 38, 3) := by decide +kernel
theorem dX3_arrange_63 : decode cX3_arrange 63 = .ok (.aload_n 1, 1) := by decide +kernel
theorem dX3_arrange_64 : decode cX3_arrange 64 = .ok (.iload 5, 2) := by decide +kernel
theorem dX3_arrange_66 : decode cX3_arrange 66 = .ok (.invokevirtual 117, 3) := by decide +kernel
theorem dX3_arrange_69 : decode cX3_arrange 69 = .ok (.istore 6, 2) := by decide +kernel
theorem dX3_arrange_71 : decode cX3_arrange 71 = .ok (.lload_n 2, 1) := by decide +kernel
theorem dX3_arrange_72 : decode cX3_arrange 72 = .ok (.iload 6, 2) := by decide +kernel
theorem dX3_arrange_74 : decode cX3_arrange 74 = .ok (.invokestatic 106, 3) := by decide +kernel
theorem dX3_arrange_77 : decode cX3_arrange 77 = .ok (.ifCond .ne 15, 3) := by decide +kernel
theorem dX3_arrange_80 : decode cX3_arrange 80 = .ok (.aload_n 0, 1) := by decide +kernel
theorem dX3_arrange_81 : decode cX3_arrange 81 = .ok (.getfield 15, 3) := by decide +kernel
theorem dX3_arrange_84 : decode cX3_arrange 84 = .ok (.iload 4, 2) := by decide +kernel
theorem dX3_arrange_86 : decode cX3_arrange 86 = .ok (.iload 6, 2) := by decide +kernel
theorem dX3_arrange_88 : decode cX3_arrange 88 = .ok (.iastore, 1) := by decide +kernel
theorem dX3_arrange_89 : decode cX3_arrange 89 = .ok (.iinc 4 1, 3) := by decide +kernel
theorem dX3_arrange_92 : decode cX3_arrange 92 = .ok (.iinc 5 1, 3) := by decide +kernel
theorem dX3_arrange_95 : decode cX3_arrange 95 = .ok (.goto (-46), 3) := by decide +kernel
theorem dX3_arrange_98 : decode cX3_arrange 98 = .ok (.aload_n 0, 1) := by decide +kernel
theorem dX3_arrange_99 : decode cX3_arrange 99 = .ok (.getfield 15, 3) := by decide +kernel
theorem dX3_arrange_102 : decode cX3_arrange 102 = .ok (.iconst 0, 1) := by decide +kernel
theorem dX3_arrange_103 : decode cX3_arrange 103 = .ok (.aload_n 1, 1) := by decide +kernel
theorem dX3_arrange_104 : decode cX3_arrange 104 = .ok (.getfield 120, 3) := by decide +kernel
theorem dX3_arrange_107 : decode cX3_arrange 107 = .ok (.iconst 0, 1) := by decide +kernel
theorem dX3_arrange_108 : decode cX3_arrange 108 = .ok (.bipush 52, 2) := by decide +kernel
theorem dX3_arrange_110 : decode cX3_arrange 110 = .ok (.invokestatic 122, 3) := by decide +kernel
theorem dX3_arrange_113 : decode cX3_arrange 113 = .ok (.return_, 1) := by decide +kernel
theorem dX3_readMove_0 : decode cX3_readMove 0 = .ok (.aload_n 0, 1) := by decide +kernel
theorem dX3_readMove_1 : decode cX3_readMove 1 = .ok (.invokevirtual 128, 3) := by decide +kernel
theorem dX3_readMove_4 : decode cX3_readMove 4 = .ok (.istore_n 3, 1) := by decide +kernel
theorem dX3_readMove_5 : decode cX3_readMove 5 = .ok (.iload_n 3, 1) := by decide +kernel
theorem dX3_readMove_6 : decode cX3_readMove 6 = .ok (.ifCond .ne 9, 3) := by decide +kernel
theorem dX3_readMove_9 : decode cX3_readMove 9 = .ok (.aload_n 0, 1) := by decide +kernel
theorem dX3_readMove_10 : decode cX3_readMove 10 = .ok (.iconst 1, 1) := by decide +kernel
theorem dX3_readMove_11 : decode cX3_readMove 11 = .ok (.invokevirtual 73, 3) := by decide +kernel
theorem dX3_readMove_14 : decode cX3_readMove 14 = .ok (.ireturn, 1) := by decide +kernel
theorem dX3_readMove_15 : decode cX3_readMove 15 = .ok (.iconst (-1), 1) := by decide +kernel
theorem dX3_readMove_16 : decode cX3_readMove 16 = .ok (.istore 4, 2) := by decide +kernel
theorem dX3_readMove_18 : decode cX3_readMove 18 = .ok (.iconst 0, 1) := by decide +kernel
theorem dX3_readMove_19 : decode cX3_readMove 19 = .ok (.istore 5, 2) := by decide +kernel
theorem dX3_readMove_21 : decode cX3_readMove 21 = .ok (.iload_n 3, 1) := by decide +kernel
theorem dX3_readMove_22 : decode cX3_readMove 22 = .ok (.iconst 3, 1) := by decide +kernel
theorem dX3_readMove_23 : decode cX3_readMove 23 = .ok (.if_icmp .eq 8, 3) := by decide +kernel
theorem dX3_readMove_26 : decode cX3_readMove 26 = .ok (.iload_n 3, 1) := by decide +kernel
theorem dX3_readMove_27 : decode cX3_readMove 27 = .ok (.iconst 4, 1) := by decide +kernel
theorem dX3_readMove_28 : decode cX3_readMove 28 = .ok (.if_icmp .ne 16, 3) := by decide +kernel
theorem dX3_readMove_31 : decode cX3_readMove 31 = .ok (.aload_n 0, 1) := by decide +kernel
theorem dX3_readMove_32 : decode cX3_readMove 32 = .ok (.aload_n 1, 1) := by decide +kernel
theorem dX3_readMove_33 : decode cX3_readMove 33 = .ok (.invokevirtual 131, 3) := by decide +kernel
theorem dX3_readMove_36 : decode cX3_readMove 36 = .ok (.istore 5, 2) := by decide +kernel
theorem dX3_readMove_38 : decode cX3_readMove 38 = .ok (.aload_n 0, 1) := by decide +kernel
theorem dX3_readMove_39 : decode cX3_readMove 39 = .ok (.getfield 82, 3) := by decide +kernel
theorem dX3_readMove_42 : decode cX3_readMove 42 = .ok (.istore 4, 2) := by decide +kernel
theorem dX3_readMove_44 : decode cX3_readMove 44 = .ok (.iload 5, 2) := by decide +kernel
theorem dX3_readMove_46 : decode cX3_readMove 46 = .ok (.ifCond .ne 9, 3) := by decide +kernel
theorem dX3_readMove_49 : decode cX3_readMove 49 = .ok (.aload_n 0, 1) := by decide +kernel
theorem dX3_readMove_50 : decode cX3_readMove 50 = .ok (.invokevirtual 98, 3) := by decide +kernel
theorem dX3_readMove_53 : decode cX3_readMove 53 = .ok (.istore 5, 2) := by decide +kernel
theorem dX3_readMove_55 : decode cX3_readMove 55 = .ok (.iload 5, 2) := by decide +kernel
theorem dX3_readMove_57 : decode cX3_readMove 57 = .ok (.ifCond .eq 6, 3) := by decide +kernel
theorem dX3_readMove_60 : decode cX3_readMove 60 = .ok (.iload 5, 2) := by decide +kernel
theorem dX3_readMove_62 : decode cX3_readMove 62 = .ok (.ireturn, 1) := by decide +kernel
theorem dX3_readMove_63 : decode cX3_readMove 63 = .ok (.aload_n 1, 1) := by decide +kernel
theorem dX3_readMove_64 : decode cX3_readMove 64 = .ok (.iload_n 3, 1) := by decide +kernel
theorem dX3_readMove_65 : decode cX3_readMove 65 = .ok (.iload 4, 2) := by decide +kernel
theorem dX3_readMove_67 : decode cX3_readMove 67 = .ok (.aload_n 2, 1) := by decide +kernel
theorem dX3_readMove_68 : decode cX3_readMove 68 = .ok (.invokestatic 134, 3) := by decide +kernel
theorem dX3_readMove_71 : decode cX3_readMove 71 = .ok (.ifCond .ne 9, 3) := by decide +kernel
theorem dX3_readMove_74 : decode cX3_readMove 74 = .ok (.aload_n 0, 1) := by decide +kernel
theorem dX3_readMove_75 : decode cX3_readMove 75 = .ok (.iconst 4, 1) := by decide +kernel
theorem dX3_readMove_76 : decode cX3_readMove 76 = .ok (.invokevirtual 73, 3) := by decide +kernel
theorem dX3_readMove_79 : decode cX3_readMove 79 = .ok (.ireturn, 1) := by decide +kernel
theorem dX3_readMove_80 : decode cX3_readMove 80 = .ok (.aload_n 0, 1) := by decide +kernel
theorem dX3_readMove_81 : decode cX3_readMove 81 = .ok (.invokevirtual 64, 3) := by decide +kernel
theorem dX3_readMove_84 : decode cX3_readMove 84 = .ok (.iconst 0, 1) := by decide +kernel
theorem dX3_readMove_85 : decode cX3_readMove 85 = .ok (.ireturn, 1) := by decide +kernel
theorem dX3_moveTold_0 : decode cX3_moveTold 0 = .ok (.aload_n 0, 1) := by decide +kernel
theorem dX3_moveTold_1 : decode cX3_moveTold 1 = .ok (.ldc 138, 2) := by decide +kernel
theorem dX3_moveTold_3 : decode cX3_moveTold 3 = .ok (.invokevirtual 69, 3) := by decide +kernel
theorem dX3_moveTold_6 : decode cX3_moveTold 6 = .ok (.ifCond .eq 5, 3) := by decide +kernel
theorem dX3_moveTold_9 : decode cX3_moveTold 9 = .ok (.iconst 1, 1) := by decide +kernel
theorem dX3_moveTold_10 : decode cX3_moveTold 10 = .ok (.ireturn, 1) := by decide +kernel
theorem dX3_moveTold_11 : decode cX3_moveTold 11 = .ok (.aload_n 0, 1) := by decide +kernel
theorem dX3_moveTold_12 : decode cX3_moveTold 12 = .ok (.ldc 140, 2) := by decide +kernel
theorem dX3_moveTold_14 : decode cX3_moveTold 14 = .ok (.invokevirtual 69, 3) := by decide +kernel
theorem dX3_moveTold_17 : decode cX3_moveTold 17 = .ok (.ifCond .eq 5, 3) := by decide +kernel
theorem dX3_moveTold_20 : decode cX3_moveTold 20 = .ok (.iconst 2, 1) := by decide +kernel
theorem dX3_moveTold_21 : decode cX3_moveTold 21 = .ok (.ireturn, 1) := by decide +kernel
theorem dX3_moveTold_22 : decode cX3_moveTold 22 = .ok (.aload_n 0, 1) := by decide +kernel
theorem dX3_moveTold_23 : decode cX3_moveTold 23 = .ok (.ldc 142, 2) := by decide +kernel
theorem dX3_moveTold_25 : decode cX3_moveTold 25 = .ok (.invokevirtual 69, 3) := by decide +kernel
theorem dX3_moveTold_28 : decode cX3_moveTold 28 = .ok (.ifCond .eq 5, 3) := by decide +kernel
theorem dX3_moveTold_31 : decode cX3_moveTold 31 = .ok (.iconst 3, 1) := by decide +kernel
theorem dX3_moveTold_32 : decode cX3_moveTold 32 = .ok (.ireturn, 1) := by decide +kernel
theorem dX3_moveTold_33 : decode cX3_moveTold 33 = .ok (.aload_n 0, 1) := by decide +kernel
theorem dX3_moveTold_34 : decode cX3_moveTold 34 = .ok (.ldc 144, 2) := by decide +kernel
theorem dX3_moveTold_36 : decode cX3_moveTold 36 = .ok (.invokevirtual 69, 3) := by decide +kernel
theorem dX3_moveTold_39 : decode cX3_moveTold 39 = .ok (.ifCond .eq 5, 3) := by decide +kernel
theorem dX3_moveTold_42 : decode cX3_moveTold 42 = .ok (.iconst 4, 1) := by decide +kernel
theorem dX3_moveTold_43 : decode cX3_moveTold 43 = .ok (.ireturn, 1) := by decide +kernel
theorem dX3_moveTold_44 : decode cX3_moveTold 44 = .ok (.aload_n 0, 1) := by decide +kernel
theorem dX3_moveTold_45 : decode cX3_moveTold 45 = .ok (.ldc 146, 2) := by decide +kernel
theorem dX3_moveTold_47 : decode cX3_moveTold 47 = .ok (.invokevirtual 69, 3) := by decide +kernel
theorem dX3_moveTold_50 : decode cX3_moveTold 50 = .ok (.ifCond .eq 7, 3) := by decide +kernel
theorem dX3_moveTold_53 : decode cX3_moveTold 53 = .ok (.iconst 5, 1) := by decide +kernel
theorem dX3_moveTold_54 : decode cX3_moveTold 54 = .ok (.goto 4, 3) := by decide +kernel
theorem dX3_moveTold_57 : decode cX3_moveTold 57 = .ok (.iconst 0, 1) := by decide +kernel
theorem dX3_moveTold_58 : decode cX3_moveTold 58 = .ok (.ireturn, 1) := by decide +kernel
theorem dX3_readHeldCard_0 : decode cX3_readHeldCard 0 = .ok (.aload_n 0, 1) := by decide +kernel
theorem dX3_readHeldCard_1 : decode cX3_readHeldCard 1 = .ok (.iconst 0, 1) := by decide +kernel
theorem dX3_readHeldCard_2 : decode cX3_readHeldCard 2 = .ok (.bipush 51, 2) := by decide +kernel
theorem dX3_readHeldCard_4 : decode cX3_readHeldCard 4 = .ok (.invokevirtual 78, 3) := by decide +kernel
theorem dX3_readHeldCard_7 : decode cX3_readHeldCard 7 = .ok (.istore_n 2, 1) := by decide +kernel
theorem dX3_readHeldCard_8 : decode cX3_readHeldCard 8 = .ok (.iload_n 2, 1) := by decide +kernel
theorem dX3_readHeldCard_9 : decode cX3_readHeldCard 9 = .ok (.ifCond .ne 27, 3) := by decide +kernel
theorem dX3_readHeldCard_12 : decode cX3_readHeldCard 12 = .ok (.aload_n 1, 1) := by decide +kernel
theorem dX3_readHeldCard_13 : decode cX3_readHeldCard 13 = .ok (.aload_n 1, 1) := by decide +kernel
theorem dX3_readHeldCard_14 : decode cX3_readHeldCard 14 = .ok (.getfield 148, 3) := by decide +kernel
theorem dX3_readHeldCard_17 : decode cX3_readHeldCard 17 = .ok (.invokevirtual 151, 3) := by decide +kernel
theorem dX3_readHeldCard_20 : decode cX3_readHeldCard 20 = .ok (.aload_n 0, 1) := by decide +kernel
theorem dX3_readHeldCard_21 : decode cX3_readHeldCard 21 = .ok (.getfield 82, 3) := by decide +kernel
theorem dX3_readHeldCard_24 : decode cX3_readHeldCard 24 = .ok (.invokestatic 106, 3) := by decide +kernel
theorem dX3_readHeldCard_27 : decode cX3_readHeldCard 27 = .ok (.ifCond .ne 9, 3) := by decide +kernel
theorem dX3_readHeldCard_30 : decode cX3_readHeldCard 30 = .ok (.aload_n 0, 1) := by decide +kernel
theorem dX3_readHeldCard_31 : decode cX3_readHeldCard 31 = .ok (.iconst 3, 1) := by decide +kernel
theorem dX3_readHeldCard_32 : decode cX3_readHeldCard 32 = .ok (.invokevirtual 73, 3) := by decide +kernel
theorem dX3_readHeldCard_35 : decode cX3_readHeldCard 35 = .ok (.istore_n 2, 1) := by decide +kernel
theorem dX3_readHeldCard_36 : decode cX3_readHeldCard 36 = .ok (.iload_n 2, 1) := by decide +kernel
theorem dX3_readHeldCard_37 : decode cX3_readHeldCard 37 = .ok (.ireturn, 1) := by decide +kernel
theorem dX3_play_0 : decode cX3_play 0 = .ok (.iload_n 1, 1) := by decide +kernel
theorem dX3_play_1 : decode cX3_play 1 = .ok (.tableswitch 106 3 5 #[27, 47, 88], 27) := by decide +kernel
theorem dX3_play_28 : decode cX3_play 28 = .ok (.aload_n 0, 1) := by decide +kernel
theorem dX3_play_29 : decode cX3_play 29 = .ok (.iload_n 2, 1) := by decide +kernel
theorem dX3_play_30 : decode cX3_play 30 = .ok (.invokevirtual 154, 3) := by decide +kernel
theorem dX3_play_33 : decode cX3_play 33 = .ok (.istore 4, 2) := by decide +kernel
theorem dX3_play_35 : decode cX3_play 35 = .ok (.iload 4, 2) := by decide +kernel
theorem dX3_play_37 : decode cX3_play 37 = .ok (.ifCond .ne 96, 3) := by decide +kernel
theorem dX3_play_40 : decode cX3_play 40 = .ok (.aload_n 0, 1) := by decide +kernel
theorem dX3_play_41 : decode cX3_play 41 = .ok (.iload_n 2, 1) := by decide +kernel
theorem dX3_play_42 : decode cX3_play 42 = .ok (.invokevirtual 157, 3) := by decide +kernel
theorem dX3_play_45 : decode cX3_play 45 = .ok (.goto 88, 3) := by decide +kernel
theorem dX3_play_48 : decode cX3_play 48 = .ok (.aload_n 3, 1) := by decide +kernel
theorem dX3_play_49 : decode cX3_play 49 = .ok (.aload_n 0, 1) := by decide +kernel
theorem dX3_play_50 : decode cX3_play 50 = .ok (.iload_n 2, 1) := by decide +kernel
theorem dX3_play_51 : decode cX3_play 51 = .ok (.invokevirtual 160, 3) := by decide +kernel
theorem dX3_play_54 : decode cX3_play 54 = .ok (.aload_n 0, 1) := by decide +kernel
theorem dX3_play_55 : decode cX3_play 55 = .ok (.invokevirtual 163, 3) := by decide +kernel
theorem dX3_play_58 : decode cX3_play 58 = .ok (.invokevirtual 167, 3) := by decide +kernel
theorem dX3_play_61 : decode cX3_play 61 = .ok (.aload_n 0, 1) := by decide +kernel
theorem dX3_play_62 : decode cX3_play 62 = .ok (.iload_n 2, 1) := by decide +kernel
theorem dX3_play_63 : decode cX3_play 63 = .ok (.aload_n 3, 1) := by decide +kernel
theorem dX3_play_64 : decode cX3_play 64 = .ok (.getfield 173, 3) := by decide +kernel
theorem dX3_play_67 : decode cX3_play 67 = .ok (.invokevirtual 176, 3) := by decide +kernel
theorem dX3_play_70 : decode cX3_play 70 = .ok (.istore 4, 2) := by decide +kernel
theorem dX3_play_72 : decode cX3_play 72 = .ok (.iload 4, 2) := by decide +kernel
theorem dX3_play_74 : decode cX3_play 74 = .ok (.ifCond .ne 59, 3) := by decide +kernel
theorem dX3_play_77 : decode cX3_play 77 = .ok (.aload_n 0, 1) := by decide +kernel
theorem dX3_play_78 : decode cX3_play 78 = .ok (.iload_n 2, 1) := by decide +kernel
theorem dX3_play_79 : decode cX3_play 79 = .ok (.aload_n 3, 1) := by decide +kernel
theorem dX3_play_80 : decode cX3_play 80 = .ok (.invokevirtual 179, 3) := by decide +kernel
theorem dX3_play_83 : decode cX3_play 83 = .ok (.invokevirtual 182, 3) := by decide +kernel
theorem dX3_play_86 : decode cX3_play 86 = .ok (.goto 47, 3) := by decide +kernel
theorem dX3_play_89 : decode cX3_play 89 = .ok (.aload_n 0, 1) := by decide +kernel
theorem dX3_play_90 : decode cX3_play 90 = .ok (.invokevirtual 186, 3) := by decide +kernel
theorem dX3_play_93 : decode cX3_play 93 = .ok (.istore 4, 2) := by decide +kernel
theorem dX3_play_95 : decode cX3_play 95 = .ok (.iload 4, 2) := by decide +kernel
theorem dX3_play_97 : decode cX3_play 97 = .ok (.ifCond .ne 36, 3) := by decide +kernel
theorem dX3_play_100 : decode cX3_play 100 = .ok (.aload_n 0, 1) := by decide +kernel
theorem dX3_play_101 : decode cX3_play 101 = .ok (.invokevirtual 189, 3) := by decide +kernel
theorem dX3_play_104 : decode cX3_play 104 = .ok (.goto 29, 3) := by decide +kernel
theorem dX3_play_107 : decode cX3_play 107 = .ok (.aload_n 0, 1) := by decide +kernel
theorem dX3_play_108 : decode cX3_play 108 = .ok (.invokevirtual 192, 3) := by decide +kernel
theorem dX3_play_111 : decode cX3_play 111 = .ok (.istore 4, 2) := by decide +kernel
theorem dX3_play_113 : decode cX3_play 113 = .ok (.iload 4, 2) := by decide +kernel
theorem dX3_play_115 : decode cX3_play 115 = .ok (.ifCond .ne 18, 3) := by decide +kernel
theorem dX3_play_118 : decode cX3_play 118 = .ok (.aload_n 0, 1) := by decide +kernel
theorem dX3_play_119 : decode cX3_play 119 = .ok (.iload_n 1, 1) := by decide +kernel
theorem dX3_play_120 : decode cX3_play 120 = .ok (.iconst 2, 1) := by decide +kernel
theorem dX3_play_121 : decode cX3_play 121 = .ok (.if_icmp .ne 7, 3) := by decide +kernel
theorem dX3_play_124 : decode cX3_play 124 = .ok (.iconst 1, 1) := by decide +kernel
theorem dX3_play_125 : decode cX3_play 125 = .ok (.goto 4, 3) := by decide +kernel
theorem dX3_play_128 : decode cX3_play 128 = .ok (.iconst 0, 1) := by decide +kernel
theorem dX3_play_129 : decode cX3_play 129 = .ok (.invokevirtual 195, 3) := by decide +kernel
theorem dX3_play_132 : decode cX3_play 132 = .ok (.pop, 1) := by decide +kernel
theorem dX3_play_133 : decode cX3_play 133 = .ok (.iload 4, 2) := by decide +kernel
theorem dX3_play_135 : decode cX3_play 135 = .ok (.ifCond .ne 7, 3) := by decide +kernel
theorem dX3_play_138 : decode cX3_play 138 = .ok (.iconst 1, 1) := by decide +kernel
theorem dX3_play_139 : decode cX3_play 139 = .ok (.goto 4, 3) := by decide +kernel
theorem dX3_play_142 : decode cX3_play 142 = .ok (.iconst 0, 1) := by decide +kernel
theorem dX3_play_143 : decode cX3_play 143 = .ok (.ireturn, 1) := by decide +kernel
theorem dX3_readNumber_0 : decode cX3_readNumber 0 = .ok (.aload_n 0, 1) := by decide +kernel
theorem dX3_readNumber_1 : decode cX3_readNumber 1 = .ok (.invokevirtual 64, 3) := by decide +kernel
theorem dX3_readNumber_4 : decode cX3_readNumber 4 = .ok (.aload_n 0, 1) := by decide +kernel
theorem dX3_readNumber_5 : decode cX3_readNumber 5 = .ok (.getfield 61, 3) := by decide +kernel
theorem dX3_readNumber_8 : decode cX3_readNumber 8 = .ok (.iconst 2, 1) := by decide +kernel
theorem dX3_readNumber_9 : decode cX3_readNumber 9 = .ok (.if_icmp .ne 12, 3) := by decide +kernel
theorem dX3_readNumber_12 : decode cX3_readNumber 12 = .ok (.aload_n 0, 1) := by decide +kernel
theorem dX3_readNumber_13 : decode cX3_readNumber 13 = .ok (.iload_n 1, 1) := by decide +kernel
theorem dX3_readNumber_14 : decode cX3_readNumber 14 = .ok (.iload_n 2, 1) := by decide +kernel
theorem dX3_readNumber_15 : decode cX3_readNumber 15 = .ok (.invokevirtual 114, 3) := by decide +kernel
theorem dX3_readNumber_18 : decode cX3_readNumber 18 = .ok (.goto 8, 3) := by decide +kernel
theorem dX3_readNumber_21 : decode cX3_readNumber 21 = .ok (.aload_n 0, 1) := by decide +kernel
theorem dX3_readNumber_22 : decode cX3_readNumber 22 = .ok (.iconst 1, 1) := by decide +kernel
theorem dX3_readNumber_23 : decode cX3_readNumber 23 = .ok (.invokevirtual 73, 3) := by decide +kernel
theorem dX3_readNumber_26 : decode cX3_readNumber 26 = .ok (.ireturn, 1) := by decide +kernel
theorem dX3_rangeError_0 : decode cX3_rangeError 0 = .ok (.aload_n 0, 1) := by decide +kernel
theorem dX3_rangeError_1 : decode cX3_rangeError 1 = .ok (.getfield 82, 3) := by decide +kernel
theorem dX3_rangeError_4 : decode cX3_rangeError 4 = .ok (.iload_n 1, 1) := by decide +kernel
theorem dX3_rangeError_5 : decode cX3_rangeError 5 = .ok (.if_icmp .lt 11, 3) := by decide +kernel
theorem dX3_rangeError_8 : decode cX3_rangeError 8 = .ok (.aload_n 0, 1) := by decide +kernel
theorem dX3_rangeError_9 : decode cX3_rangeError 9 = .ok (.getfield 82, 3) := by decide +kernel
theorem dX3_rangeError_12 : decode cX3_rangeError 12 = .ok (.iload_n 2, 1) := by decide +kernel
theorem dX3_rangeError_13 : decode cX3_rangeError 13 = .ok (.if_icmp .le 11, 3) := by decide +kernel
theorem dX3_rangeError_16 : decode cX3_rangeError 16 = .ok (.aload_n 0, 1) := by decide +kernel
theorem dX3_rangeError_17 : decode cX3_rangeError 17 = .ok (.iconst 2, 1) := by decide +kernel
theorem dX3_rangeError_18 : decode cX3_rangeError 18 = .ok (.invokevirtual 73, 3) := by decide +kernel
theorem dX3_rangeError_21 : decode cX3_rangeError 21 = .ok (.goto 4, 3) := by decide +kernel
theorem dX3_rangeError_24 : decode cX3_rangeError 24 = .ok (.iconst 0, 1) := by decide +kernel
theorem dX3_rangeError_25 : decode cX3_rangeError 25 = .ok (.ireturn, 1) := by decide +kernel
theorem dX3_readSemicolon_0 : decode cX3_readSemicolon 0 = .ok (.aload_n 0, 1) := by decide +kernel
theorem dX3_readSemicolon_1 : decode cX3_readSemicolon 1 = .ok (.invokevirtual 64, 3) := by decide +kernel
theorem dX3_readSemicolon_4 : decode cX3_readSemicolon 4 = .ok (.aload_n 0, 1) := by decide +kernel
theorem dX3_readSemicolon_5 : decode cX3_readSemicolon 5 = .ok (.getfield 61, 3) := by decide +kernel
theorem dX3_readSemicolon_8 : decode cX3_readSemicolon 8 = .ok (.iconst 3, 1) := by decide +kernel
theorem dX3_readSemicolon_9 : decode cX3_readSemicolon 9 = .ok (.if_icmp .ne 7, 3) := by decide +kernel
theorem dX3_readSemicolon_12 : decode cX3_readSemicolon 12 = .ok (.iconst 0, 1) := by decide +kernel
theorem dX3_readSemicolon_13 : decode cX3_readSemicolon 13 = .ok (.goto 8, 3) := by decide +kernel
theorem dX3_readSemicolon_16 : decode cX3_readSemicolon 16 = .ok (.aload_n 0, 1) := by decide +kernel
theorem dX3_readSemicolon_17 : decode cX3_readSemicolon 17 = .ok (.iconst 1, 1) := by decide +kernel
theorem dX3_readSemicolon_18 : decode cX3_readSemicolon 18 = .ok (.invokevirtual 73, 3) := by decide +kernel
theorem dX3_readSemicolon_21 : decode cX3_readSemicolon 21 = .ok (.ireturn, 1) := by decide +kernel
theorem dX3_errorAs_0 : decode cX3_errorAs 0 = .ok (.bipush 8, 2) := by decide +kernel
theorem dX3_errorAs_2 : decode cX3_errorAs 2 = .ok (.aload_n 0, 1) := by decide +kernel
theorem dX3_errorAs_3 : decode cX3_errorAs 3 = .ok (.getfield 199, 3) := by decide +kernel
theorem dX3_errorAs_6 : decode cX3_errorAs 6 = .ok (.imul, 1) := by decide +kernel
theorem dX3_errorAs_7 : decode cX3_errorAs 7 = .ok (.iload_n 1, 1) := by decide +kernel
theorem dX3_errorAs_8 : decode cX3_errorAs 8 = .ok (.iadd, 1) := by decide +kernel
theorem dX3_errorAs_9 : decode cX3_errorAs 9 = .ok (.ireturn, 1) := by decide +kernel
theorem dX3_advance_0 : decode cX3_advance 0 = .ok (.aload_n 0, 1) := by decide +kernel
theorem dX3_advance_1 : decode cX3_advance 1 = .ok (.getfield 36, 3) := by decide +kernel
theorem dX3_advance_4 : decode cX3_advance 4 = .ok (.aload_n 0, 1) := by decide +kernel
theorem dX3_advance_5 : decode cX3_advance 5 = .ok (.getfield 19, 3) := by decide +kernel
theorem dX3_advance_8 : decode cX3_advance 8 = .ok (.if_icmp .ge 30, 3) := by decide +kernel
theorem dX3_advance_11 : decode cX3_advance 11 = .ok (.aload_n 0, 1) := by decide +kernel
theorem dX3_advance_12 : decode cX3_advance 12 = .ok (.aload_n 0, 1) := by decide +kernel
theorem dX3_advance_13 : decode cX3_advance 13 = .ok (.getfield 36, 3) := by decide +kernel
theorem dX3_advance_16 : decode cX3_advance 16 = .ok (.invokevirtual 202, 3) := by decide +kernel
theorem dX3_advance_19 : decode cX3_advance 19 = .ok (.invokestatic 205, 3) := by decide +kernel
theorem dX3_advance_22 : decode cX3_advance 22 = .ok (.ifCond .eq 16, 3) := by decide +kernel
theorem dX3_advance_25 : decode cX3_advance 25 = .ok (.aload_n 0, 1) := by decide +kernel
theorem dX3_advance_26 : decode cX3_advance 26 = .ok (.dup, 1) := by decide +kernel
theorem dX3_advance_27 : decode cX3_advance 27 = .ok (.getfield 36, 3) := by decide +kernel
theorem dX3_advance_30 : decode cX3_advance 30 = .ok (.iconst 1, 1) := by decide +kernel
theorem dX3_advance_31 : decode cX3_advance 31 = .ok (.iadd, 1) := by decide +kernel
theorem dX3_advance_32 : decode cX3_advance 32 = .ok (.putfield 36, 3) := by decide +kernel
theorem dX3_advance_35 : decode cX3_advance 35 = .ok (.goto (-35), 3) := by decide +kernel
theorem dX3_advance_38 : decode cX3_advance 38 = .ok (.aload_n 0, 1) := by decide +kernel
theorem dX3_advance_39 : decode cX3_advance 39 = .ok (.aload_n 0, 1) := by decide +kernel
theorem dX3_advance_40 : decode cX3_advance 40 = .ok (.getfield 36, 3) := by decide +kernel
theorem dX3_advance_43 : decode cX3_advance 43 = .ok (.putfield 199, 3) := by decide +kernel
theorem dX3_advance_46 : decode cX3_advance 46 = .ok (.aload_n 0, 1) := by decide +kernel
theorem dX3_advance_47 : decode cX3_advance 47 = .ok (.iconst 0, 1) := by decide +kernel
theorem dX3_advance_48 : decode cX3_advance 48 = .ok (.putfield 82, 3) := by decide +kernel
theorem dX3_advance_51 : decode cX3_advance 51 = .ok (.aload_n 0, 1) := by decide +kernel
theorem dX3_advance_52 : decode cX3_advance 52 = .ok (.aload_n 0, 1) := by decide +kernel
theorem dX3_advance_53 : decode cX3_advance 53 = .ok (.getfield 36, 3) := by decide +kernel
theorem dX3_advance_56 : decode cX3_advance 56 = .ok (.invokevirtual 202, 3) := by decide +kernel
theorem dX3_advance_59 : decode cX3_advance 59 = .ok (.istore_n 1, 1) := by decide +kernel
theorem dX3_advance_60 : decode cX3_advance 60 = .ok (.iload_n 1, 1) := by decide +kernel
theorem dX3_advance_61 : decode cX3_advance 61 = .ok (.iconst (-1), 1) := by decide +kernel
theorem dX3_advance_62 : decode cX3_advance 62 = .ok (.if_icmp .ne 11, 3) := by decide +kernel
theorem dX3_advance_65 : decode cX3_advance 65 = .ok (.aload_n 0, 1) := by decide +kernel
theorem dX3_advance_66 : decode cX3_advance 66 = .ok (.iconst 0, 1) := by decide +kernel
theorem dX3_advance_67 : decode cX3_advance 67 = .ok (.putfield 61, 3) := by decide +kernel
theorem dX3_advance_70 : decode cX3_advance 70 = .ok (.goto 92, 3) := by decide +kernel
theorem dX3_advance_73 : decode cX3_advance 73 = .ok (.iload_n 1, 1) := by decide +kernel
theorem dX3_advance_74 : decode cX3_advance 74 = .ok (.invokestatic 209, 3) := by decide +kernel
theorem dX3_advance_77 : decode cX3_advance 77 = .ok (.ifCond .eq 46, 3) := by decide +kernel
theorem dX3_advance_80 : decode cX3_advance 80 = .ok (.aload_n 0, 1) := by decide +kernel
theorem dX3_advance_81 : decode cX3_advance 81 = .ok (.iconst 1, 1) := by decide +kernel
theorem dX3_advance_82 : decode cX3_advance 82 = .ok (.putfield 61, 3) := by decide +kernel
theorem dX3_advance_85 : decode cX3_advance 85 = .ok (.aload_n 0, 1) := by decide +kernel
theorem dX3_advance_86 : decode cX3_advance 86 = .ok (.getfield 36, 3) := by decide +kernel
theorem dX3_advance_89 : decode cX3_advance 89 = .ok (.aload_n 0, 1) := by decide +kernel
theorem dX3_advance_90 : decode cX3_advance 90 = .ok (.getfield 19, 3) := by decide +kernel
theorem dX3_advance_93 : decode cX3_advance 93 = .ok (.if_icmp .ge 69, 3) := by decide +kernel
theorem dX3_advance_96 : decode cX3_advance 96 = .ok (.aload_n 0, 1) := by decide +kernel
theorem dX3_advance_97 : decode cX3_advance 97 = .ok (.aload_n 0, 1) := by decide +kernel
theorem dX3_advance_98 : decode cX3_advance 98 = .ok (.getfield 36, 3) := by decide +kernel
theorem dX3_advance_101 : decode cX3_advance 101 = .ok (.invokevirtual 202, 3) := by decide +kernel
theorem dX3_advance_104 : decode cX3_advance 104 = .ok (.invokestatic 209, 3) := by decide +kernel
theorem dX3_advance_107 : decode cX3_advance 107 = .ok (.ifCond .eq 55, 3) := by decide +kernel
theorem dX3_advance_110 : decode cX3_advance 110 = .ok (.aload_n 0, 1) := by decide +kernel
theorem dX3_advance_111 : decode cX3_advance 111 = .ok (.dup, 1) := by decide +kernel
theorem dX3_advance_112 : decode cX3_advance 112 = .ok (.getfield 36, 3) := by decide +kernel
theorem dX3_advance_115 : decode cX3_advance 115 = .ok (.iconst 1, 1) := by decide +kernel
theorem dX3_advance_116 : decode cX3_advance 116 = .ok (.iadd, 1) := by decide +kernel
theorem dX3_advance_117 : decode cX3_advance 117 = .ok (.putfield 36, 3) := by decide +kernel
theorem dX3_advance_120 : decode cX3_advance 120 = .ok (.goto (-35), 3) := by decide +kernel
theorem dX3_advance_123 : decode cX3_advance 123 = .ok (.iload_n 1, 1) := by decide +kernel
theorem dX3_advance_124 : decode cX3_advance 124 = .ok (.invokestatic 212, 3) := by decide +kernel
theorem dX3_advance_127 : decode cX3_advance 127 = .ok (.ifCond .eq 10, 3) := by decide +kernel
theorem dX3_advance_130 : decode cX3_advance 130 = .ok (.aload_n 0, 1) := by decide +kernel
theorem dX3_advance_131 : decode cX3_advance 131 = .ok (.invokevirtual 215, 3) := by decide +kernel
theorem dX3_advance_134 : decode cX3_advance 134 = .ok (.goto 28, 3) := by decide +kernel
theorem dX3_advance_137 : decode cX3_advance 137 = .ok (.aload_n 0, 1) := by decide +kernel
theorem dX3_advance_138 : decode cX3_advance 138 = .ok (.iload_n 1, 1) := by decide +kernel
theorem dX3_advance_139 : decode cX3_advance 139 = .ok (.bipush 59, 2) := by decide +kernel
theorem dX3_advance_141 : decode cX3_advance 141 = .ok (.if_icmp .ne 7, 3) := by decide +kernel
theorem dX3_advance_144 : decode cX3_advance 144 = .ok (.iconst 3, 1) := by decide +kernel
theorem dX3_advance_145 : decode cX3_advance 145 = .ok (.goto 4, 3) := by decide +kernel
theorem dX3_advance_148 : decode cX3_advance 148 = .ok (.iconst 4, 1) := by decide +kernel
theorem dX3_advance_149 : decode cX3_advance 149 = .ok (.putfield 61, 3) := by decide +kernel
theorem dX3_advance_152 : decode cX3_advance 152 = .ok (.aload_n 0, 1) := by decide +kernel
theorem dX3_advance_153 : decode cX3_advance 153 = .ok (.dup, 1) := by decide +kernel
theorem dX3_advance_154 : decode cX3_advance 154 = .ok (.getfield 36, 3) := by decide +kernel
theorem dX3_advance_157 : decode cX3_advance 157 = .ok (.iconst 1, 1) := by decide +kernel
theorem dX3_advance_158 : decode cX3_advance 158 = .ok (.iadd, 1) := by decide +kernel
theorem dX3_advance_159 : decode cX3_advance 159 = .ok (.putfield 36, 3) := by decide +kernel
theorem dX3_advance_162 : decode cX3_advance 162 = .ok (.return_, 1) := by decide +kernel
theorem dX3_readFigures_0 : decode cX3_readFigures 0 = .ok (.aload_n 0, 1) := by decide +kernel
theorem dX3_readFigures_1 : decode cX3_readFigures 1 = .ok (.getfield 36, 3) := by decide +kernel
theorem dX3_readFigures_4 : decode cX3_readFigures 4 = .ok (.aload_n 0, 1) := by decide +kernel
theorem dX3_readFigures_5 : decode cX3_readFigures 5 = .ok (.getfield 19, 3) := by decide +kernel
theorem dX3_readFigures_8 : decode cX3_readFigures 8 = .ok (.if_icmp .ge 67, 3) := by decide +kernel
theorem dX3_readFigures_11 : decode cX3_readFigures 11 = .ok (.aload_n 0, 1) := by decide +kernel
theorem dX3_readFigures_12 : decode cX3_readFigures 12 = .ok (.aload_n 0, 1) := by decide +kernel
theorem dX3_readFigures_13 : decode cX3_readFigures 13 = .ok (.getfield 36, 3) := by decide +kernel
theorem dX3_readFigures_16 : decode cX3_readFigures 16 = .ok (.invokevirtual 202, 3) := by decide +kernel
theorem dX3_readFigures_19 : decode cX3_readFigures 19 = .ok (.invokestatic 212, 3) := by decide +kernel
theorem dX3_readFigures_22 : decode cX3_readFigures 22 = .ok (.ifCond .eq 53, 3) := by decide +kernel
theorem dX3_readFigures_25 : decode cX3_readFigures 25 = .ok (.aload_n 0, 1) := by decide +kernel
theorem dX3_readFigures_26 : decode cX3_readFigures 26 = .ok (.getfield 36, 3) := by decide +kernel
theorem dX3_readFigures_29 : decode cX3_readFigures 29 = .ok (.aload_n 0, 1) := by decide +kernel
theorem dX3_readFigures_30 : decode cX3_readFigures 30 = .ok (.getfield 199, 3) := by decide +kernel
theorem dX3_readFigures_33 : decode cX3_readFigures 33 = .ok (.isub, 1) := by decide +kernel
theorem dX3_readFigures_34 : decode cX3_readFigures 34 = .ok (.bipush 9, 2) := by decide +kernel
theorem dX3_readFigures_36 : decode cX3_readFigures 36 = .ok (.if_icmp .ge 26, 3) := by decide +kernel
theorem dX3_readFigures_39 : decode cX3_readFigures 39 = .ok (.aload_n 0, 1) := by decide +kernel
theorem dX3_readFigures_40 : decode cX3_readFigures 40 = .ok (.aload_n 0, 1) := by decide +kernel
theorem dX3_readFigures_41 : decode cX3_readFigures 41 = .ok (.getfield 82, 3) := by decide +kernel
theorem dX3_readFigures_44 : decode cX3_readFigures 44 = .ok (.bipush 10, 2) := by decide +kernel
theorem dX3_readFigures_46 : decode cX3_readFigures 46 = .ok (.imul, 1) := by decide +kernel
theorem dX3_readFigures_47 : decode cX3_readFigures 47 = .ok (.aload_n 0, 1) := by decide +kernel
theorem dX3_readFigures_48 : decode cX3_readFigures 48 = .ok (.aload_n 0, 1) := by decide +kernel
theorem dX3_readFigures_49 : decode cX3_readFigures 49 = .ok (.getfield 36, 3) := by decide +kernel
theorem dX3_readFigures_52 : decode cX3_readFigures 52 = .ok (.invokevirtual 202, 3) := by decide +kernel
theorem dX3_readFigures_55 : decode cX3_readFigures 55 = .ok (.iadd, 1) := by decide +kernel
theorem dX3_readFigures_56 : decode cX3_readFigures 56 = .ok (.bipush 48, 2) := by decide +kernel
theorem dX3_readFigures_58 : decode cX3_readFigures 58 = .ok (.isub, 1) := by decide +kernel
theorem dX3_readFigures_59 : decode cX3_readFigures 59 = .ok (.putfield 82, 3) := by decide +kernel
theorem dX3_readFigures_62 : decode cX3_readFigures 62 = .ok (.aload_n 0, 1) := by decide +kernel
theorem dX3_readFigures_63 : decode cX3_readFigures 63 = .ok (.dup, 1) := by decide +kernel
theorem dX3_readFigures_64 : decode cX3_readFigures 64 = .ok (.getfield 36, 3) := by decide +kernel
theorem dX3_readFigures_67 : decode cX3_readFigures 67 = .ok (.iconst 1, 1) := by decide +kernel
theorem dX3_readFigures_68 : decode cX3_readFigures 68 = .ok (.iadd, 1) := by decide +kernel
theorem dX3_readFigures_69 : decode cX3_readFigures 69 = .ok (.putfield 36, 3) := by decide +kernel
theorem dX3_readFigures_72 : decode cX3_readFigures 72 = .ok (.goto (-72), 3) := by decide +kernel
theorem dX3_readFigures_75 : decode cX3_readFigures 75 = .ok (.aload_n 0, 1) := by decide +kernel
theorem dX3_readFigures_76 : decode cX3_readFigures 76 = .ok (.aload_n 0, 1) := by decide +kernel
theorem dX3_readFigures_77 : decode cX3_readFigures 77 = .ok (.getfield 36, 3) := by decide +kernel
theorem dX3_readFigures_80 : decode cX3_readFigures 80 = .ok (.aload_n 0, 1) := by decide +kernel
theorem dX3_readFigures_81 : decode cX3_readFigures 81 = .ok (.getfield 199, 3) := by decide +kernel
theorem dX3_readFigures_84 : decode cX3_readFigures 84 = .ok (.isub, 1) := by decide +kernel
theorem dX3_readFigures_85 : decode cX3_readFigures 85 = .ok (.bipush 9, 2) := by decide +kernel
theorem dX3_readFigures_87 : decode cX3_readFigures 87 = .ok (.if_icmp .gt 7, 3) := by decide +kernel
theorem dX3_readFigures_90 : decode cX3_readFigures 90 = .ok (.iconst 2, 1) := by decide +kernel
theorem dX3_readFigures_91 : decode cX3_readFigures 91 = .ok (.goto 4, 3) := by decide +kernel
theorem dX3_readFigures_94 : decode cX3_readFigures 94 = .ok (.iconst 4, 1) := by decide +kernel
theorem dX3_readFigures_95 : decode cX3_readFigures 95 = .ok (.putfield 61, 3) := by decide +kernel
theorem dX3_readFigures_98 : decode cX3_readFigures 98 = .ok (.return_, 1) := by decide +kernel
theorem dX3_isWord_0 : decode cX3_isWord 0 = .ok (.aload_n 0, 1) := by decide +kernel
theorem dX3_isWord_1 : decode cX3_isWord 1 = .ok (.getfield 61, 3) := by decide +kernel
theorem dX3_isWord_4 : decode cX3_isWord 4 = .ok (.iconst 1, 1) := by decide +kernel
theorem dX3_isWord_5 : decode cX3_isWord 5 = .ok (.if_icmp .ne 19, 3) := by decide +kernel
theorem dX3_isWord_8 : decode cX3_isWord 8 = .ok (.aload_n 0, 1) := by decide +kernel
theorem dX3_isWord_9 : decode cX3_isWord 9 = .ok (.getfield 36, 3) := by decide +kernel
theorem dX3_isWord_12 : decode cX3_isWord 12 = .ok (.aload_n 0, 1) := by decide +kernel
theorem dX3_isWord_13 : decode cX3_isWord 13 = .ok (.getfield 199, 3) := by decide +kernel
theorem dX3_isWord_16 : decode cX3_isWord 16 = .ok (.isub, 1) := by decide +kernel
theorem dX3_isWord_17 : decode cX3_isWord 17 = .ok (.aload_n 1, 1) := by decide +kernel
theorem dX3_isWord_18 : decode cX3_isWord 18 = .ok (.invokevirtual 27, 3) := by decide +kernel
theorem dX3_isWord_21 : decode cX3_isWord 21 = .ok (.if_icmp .eq 5, 3) := by decide +kernel
theorem dX3_isWord_24 : decode cX3_isWord 24 = .ok (.iconst 0, 1) := by decide +kernel
theorem dX3_isWord_25 : decode cX3_isWord 25 = .ok (.ireturn, 1) := by decide +kernel
theorem dX3_isWord_26 : decode cX3_isWord 26 = .ok (.iconst 0, 1) := by decide +kernel
theorem dX3_isWord_27 : decode cX3_isWord 27 = .ok (.istore_n 2, 1) := by decide +kernel
theorem dX3_isWord_28 : decode cX3_isWord 28 = .ok (.iload_n 2, 1) := by decide +kernel
theorem dX3_isWord_29 : decode cX3_isWord 29 = .ok (.aload_n 1, 1) := by decide +kernel
theorem dX3_isWord_30 : decode cX3_isWord 30 = .ok (.invokevirtual 27, 3) := by decide +kernel
theorem dX3_isWord_33 : decode cX3_isWord 33 = .ok (.if_icmp .ge 29, 3) := by decide +kernel
theorem dX3_isWord_36 : decode cX3_isWord 36 = .ok (.aload_n 0, 1) := by decide +kernel
theorem dX3_isWord_37 : decode cX3_isWord 37 = .ok (.aload_n 0, 1) := by decide +kernel
theorem dX3_isWord_38 : decode cX3_isWord 38 = .ok (.getfield 199, 3) := by decide +kernel
theorem dX3_isWord_41 : decode cX3_isWord 41 = .ok (.iload_n 2, 1) := by decide +kernel
theorem dX3_isWord_42 : decode cX3_isWord 42 = .ok (.iadd, 1) := by decide +kernel
theorem dX3_isWord_43 : decode cX3_isWord 43 = .ok (.invokevirtual 202, 3) := by decide +kernel
theorem dX3_isWord_46 : decode cX3_isWord 46 = .ok (.aload_n 1, 1) := by decide +kernel
theorem dX3_isWord_47 : decode cX3_isWord 47 = .ok (.iload_n 2, 1) := by decide +kernel
theorem dX3_isWord_48 : decode cX3_isWord 48 = .ok (.invokevirtual 32, 3) := by decide +kernel
theorem dX3_isWord_51 : decode cX3_isWord 51 = .ok (.if_icmp .eq 5, 3) := by decide +kernel
theorem dX3_isWord_54 : decode cX3_isWord 54 = .ok (.iconst 0, 1) := by decide +kernel
theorem dX3_isWord_55 : decode cX3_isWord 55 = .ok (.ireturn, 1) := by decide +kernel
theorem dX3_isWord_56 : decode cX3_isWord 56 = .ok (.iinc 2 1, 3) := by decide +kernel
theorem dX3_isWord_59 : decode cX3_isWord 59 = .ok (.goto (-31), 3) := by decide +kernel
theorem dX3_isWord_62 : decode cX3_isWord 62 = .ok (.iconst 1, 1) := by decide +kernel
theorem dX3_isWord_63 : decode cX3_isWord 63 = .ok (.ireturn, 1) := by decide +kernel
theorem dX3_signAt_0 : decode cX3_signAt 0 = .ok (.iload_n 1, 1) := by decide +kernel
theorem dX3_signAt_1 : decode cX3_signAt 1 = .ok (.ifCond .lt 31, 3) := by decide +kernel
theorem dX3_signAt_4 : decode cX3_signAt 4 = .ok (.iload_n 1, 1) := by decide +kernel
theorem dX3_signAt_5 : decode cX3_signAt 5 = .ok (.aload_n 0, 1) := by decide +kernel
theorem dX3_signAt_6 : decode cX3_signAt 6 = .ok (.getfield 19, 3) := by decide +kernel
theorem dX3_signAt_9 : decode cX3_signAt 9 = .ok (.if_icmp .ge 23, 3) := by decide +kernel
theorem dX3_signAt_12 : decode cX3_signAt 12 = .ok (.iload_n 1, 1) := by decide +kernel
theorem dX3_signAt_13 : decode cX3_signAt 13 = .ok (.sipush 500, 3) := by decide +kernel
theorem dX3_signAt_16 : decode cX3_signAt 16 = .ok (.if_icmp .ge 16, 3) := by decide +kernel
theorem dX3_signAt_19 : decode cX3_signAt 19 = .ok (.aload_n 0, 1) := by decide +kernel
theorem dX3_signAt_20 : decode cX3_signAt 20 = .ok (.getfield 9, 3) := by decide +kernel
theorem dX3_signAt_23 : decode cX3_signAt 23 = .ok (.iload_n 1, 1) := by decide +kernel
theorem dX3_signAt_24 : decode cX3_signAt 24 = .ok (.baload, 1) := by decide +kernel
theorem dX3_signAt_25 : decode cX3_signAt 25 = .ok (.sipush 255, 3) := by decide +kernel
theorem dX3_signAt_28 : decode cX3_signAt 28 = .ok (.iand, 1) := by decide +kernel
theorem dX3_signAt_29 : decode cX3_signAt 29 = .ok (.goto 4, 3) := by decide +kernel
theorem dX3_signAt_32 : decode cX3_signAt 32 = .ok (.iconst (-1), 1) := by decide +kernel
theorem dX3_signAt_33 : decode cX3_signAt 33 = .ok (.ireturn, 1) := by decide +kernel
theorem dX3_isBlank_0 : decode cX3_isBlank 0 = .ok (.iload_n 0, 1) := by decide +kernel
theorem dX3_isBlank_1 : decode cX3_isBlank 1 = .ok (.bipush 32, 2) := by decide +kernel
theorem dX3_isBlank_3 : decode cX3_isBlank 3 = .ok (.if_icmp .eq 9, 3) := by decide +kernel
theorem dX3_isBlank_6 : decode cX3_isBlank 6 = .ok (.iload_n 0, 1) := by decide +kernel
theorem dX3_isBlank_7 : decode cX3_isBlank 7 = .ok (.bipush 10, 2) := by decide +kernel
theorem dX3_isBlank_9 : decode cX3_isBlank 9 = .ok (.if_icmp .ne 7, 3) := by decide +kernel
theorem dX3_isBlank_12 : decode cX3_isBlank 12 = .ok (.iconst 1, 1) := by decide +kernel
theorem dX3_isBlank_13 : decode cX3_isBlank 13 = .ok (.goto 4, 3) := by decide +kernel
theorem dX3_isBlank_16 : decode cX3_isBlank 16 = .ok (.iconst 0, 1) := by decide +kernel
theorem dX3_isBlank_17 : decode cX3_isBlank 17 = .ok (.ireturn, 1) := by decide +kernel
theorem dX3_isLetter_0 : decode cX3_isLetter 0 = .ok (.iload_n 0, 1) := by decide +kernel
theorem dX3_isLetter_1 : decode cX3_isLetter 1 = .ok (.bipush 97, 2) := by decide +kernel
theorem dX3_isLetter_3 : decode cX3_isLetter 3 = .ok (.if_icmp .lt 13, 3) := by decide +kernel
theorem dX3_isLetter_6 : decode cX3_isLetter 6 = .ok (.iload_n 0, 1) := by decide +kernel
theorem dX3_isLetter_7 : decode cX3_isLetter 7 = .ok (.bipush 122, 2) := by decide +kernel
theorem dX3_isLetter_9 : decode cX3_isLetter 9 = .ok (.if_icmp .gt 7, 3) := by decide +kernel
theorem dX3_isLetter_12 : decode cX3_isLetter 12 = .ok (.iconst 1, 1) := by decide +kernel
theorem dX3_isLetter_13 : decode cX3_isLetter 13 = .ok (.goto 4, 3) := by decide +kernel
theorem dX3_isLetter_16 : decode cX3_isLetter 16 = .ok (.iconst 0, 1) := by decide +kernel
theorem dX3_isLetter_17 : decode cX3_isLetter 17 = .ok (.ireturn, 1) := by decide +kernel
theorem dX3_isFigure_0 : decode cX3_isFigure 0 = .ok (.iload_n 0, 1) := by decide +kernel
theorem dX3_isFigure_1 : decode cX3_isFigure 1 = .ok (.bipush 48, 2) := by decide +kernel
theorem dX3_isFigure_3 : decode cX3_isFigure 3 = .ok (.if_icmp .lt 13, 3) := by decide +kernel
theorem dX3_isFigure_6 : decode cX3_isFigure 6 = .ok (.iload_n 0, 1) := by decide +kernel
theorem dX3_isFigure_7 : decode cX3_isFigure 7 = .ok (.bipush 57, 2) := by decide +kernel
theorem dX3_isFigure_9 : decode cX3_isFigure 9 = .ok (.if_icmp .gt 7, 3) := by decide +kernel
theorem dX3_isFigure_12 : decode cX3_isFigure 12 = .ok (.iconst 1, 1) := by decide +kernel
theorem dX3_isFigure_13 : decode cX3_isFigure 13 = .ok (.goto 4, 3) := by decide +kernel
theorem dX3_isFigure_16 : decode cX3_isFigure 16 = .ok (.iconst 0, 1) := by decide +kernel
theorem dX3_isFigure_17 : decode cX3_isFigure 17 = .ok (.ireturn, 1) := by decide +kernel
theorem dX4_init_0 : decode cX4_init 0 = .ok (.aload_n 0, 1) := by decide +kernel
theorem dX4_init_1 : decode cX4_init 1 = .ok (.invokespecial 3, 3) := by decide +kernel
theorem dX4_init_4 : decode cX4_init 4 = .ok (.aload_n 0, 1) := by decide +kernel
theorem dX4_init_5 : decode cX4_init 5 = .ok (.bipush 64, 2) := by decide +kernel
theorem dX4_init_7 : decode cX4_init 7 = .ok (.newarray .byte, 2) := by decide +kernel
theorem dX4_init_9 : decode cX4_init 9 = .ok (.putfield 11, 3) := by decide +kernel
theorem dX4_init_12 : decode cX4_init 12 = .ok (.return_, 1) := by decide +kernel
theorem dX4_write_0 : decode cX4_write 0 = .ok (.aload_n 0, 1) := by decide +kernel
theorem dX4_write_1 : decode cX4_write 1 = .ok (.iconst 0, 1) := by decide +kernel
theorem dX4_write_2 : decode cX4_write 2 = .ok (.putfield 15, 3) := by decide +kernel
theorem dX4_write_5 : decode cX4_write 5 = .ok (.iconst 0, 1) := by decide +kernel
theorem dX4_write_6 : decode cX4_write 6 = .ok (.istore_n 2, 1) := by decide +kernel
theorem dX4_write_7 : decode cX4_write 7 = .ok (.iload_n 2, 1) := by decide +kernel
theorem dX4_write_8 : decode cX4_write 8 = .ok (.aload_n 1, 1) := by decide +kernel
theorem dX4_write_9 : decode cX4_write 9 = .ok (.getfield 19, 3) := by decide +kernel
theorem dX4_write_12 : decode cX4_write 12 = .ok (.if_icmp .ge 28, 3) := by decide +kernel
theorem dX4_write_15 : decode cX4_write 15 = .ok (.iload_n 2, 1) := by decide +kernel
theorem dX4_write_16 : decode cX4_write 16 = .ok (.ifCond .le 9, 3) := by decide +kernel
theorem dX4_write_19 : decode cX4_write 19 = .ok (.aload_n 0, 1) := by decide +kernel
theorem dX4_write_20 : decode cX4_write 20 = .ok (.bipush 32, 2) := by decide +kernel
theorem dX4_write_22 : decode cX4_write 22 = .ok (.invokevirtual 24, 3) := by decide +kernel
theorem dX4_write_25 : decode cX4_write 25 = .ok (.aload_n 0, 1) := by decide +kernel
theorem dX4_write_26 : decode cX4_write 26 = .ok (.aload_n 1, 1) := by decide +kernel
theorem dX4_write_27 : decode cX4_write 27 = .ok (.iload_n 2, 1) := by decide +kernel
theorem dX4_write_28 : decode cX4_write 28 = .ok (.invokevirtual 28, 3) := by decide +kernel
theorem dX4_write_31 : decode cX4_write 31 = .ok (.invokevirtual 32, 3) := by decide +kernel
theorem dX4_write_34 : decode cX4_write 34 = .ok (.iinc 2 1, 3) := by decide +kernel
theorem dX4_write_37 : decode cX4_write 37 = .ok (.goto (-30), 3) := by decide +kernel
theorem dX4_write_40 : decode cX4_write 40 = .ok (.aload_n 1, 1) := by decide +kernel
theorem dX4_write_41 : decode cX4_write 41 = .ok (.getfield 36, 3) := by decide +kernel
theorem dX4_write_44 : decode cX4_write 44 = .ok (.lconst 0, 1) := by decide +kernel
theorem dX4_write_45 : decode cX4_write 45 = .ok (.lcmp, 1) := by decide +kernel
theorem dX4_write_46 : decode cX4_write 46 = .ok (.ifCond .eq 37, 3) := by decide +kernel
theorem dX4_write_49 : decode cX4_write 49 = .ok (.aload_n 0, 1) := by decide +kernel
theorem dX4_write_50 : decode cX4_write 50 = .ok (.getfield 15, 3) := by decide +kernel
theorem dX4_write_53 : decode cX4_write 53 = .ok (.ifCond .le 9, 3) := by decide +kernel
theorem dX4_write_56 : decode cX4_write 56 = .ok (.aload_n 0, 1) := by decide +kernel
theorem dX4_write_57 : decode cX4_write 57 = .ok (.bipush 32, 2) := by decide +kernel
theorem dX4_write_59 : decode cX4_write 59 = .ok (.invokevirtual 24, 3) := by decide +kernel
theorem dX4_write_62 : decode cX4_write 62 = .ok (.aload_n 0, 1) := by decide +kernel
theorem dX4_write_63 : decode cX4_write 63 = .ok (.bipush 45, 2) := by decide +kernel
theorem dX4_write_65 : decode cX4_write 65 = .ok (.invokevirtual 24, 3) := by decide +kernel
theorem dX4_write_68 : decode cX4_write 68 = .ok (.aload_n 0, 1) := by decide +kernel
theorem dX4_write_69 : decode cX4_write 69 = .ok (.aload_n 1, 1) := by decide +kernel
theorem dX4_write_70 : decode cX4_write 70 = .ok (.getfield 36, 3) := by decide +kernel
theorem dX4_write_73 : decode cX4_write 73 = .ok (.aload_n 1, 1) := by decide +kernel
theorem dX4_write_74 : decode cX4_write 74 = .ok (.getfield 36, 3) := by decide +kernel
theorem dX4_write_77 : decode cX4_write 77 = .ok (.invokestatic 40, 3) := by decide +kernel
theorem dX4_write_80 : decode cX4_write 80 = .ok (.invokevirtual 44, 3) := by decide +kernel
theorem dX4_write_83 : decode cX4_write 83 = .ok (.return_, 1) := by decide +kernel
theorem dX4_writeMeld_0 : decode cX4_writeMeld 0 = .ok (.aload_n 0, 1) := by decide +kernel
theorem dX4_writeMeld_1 : decode cX4_writeMeld 1 = .ok (.lload_n 1, 1) := by decide +kernel
theorem dX4_writeMeld_2 : decode cX4_writeMeld 2 = .ok (.lload_n 1, 1) := by decide +kernel
theorem dX4_writeMeld_3 : decode cX4_writeMeld 3 = .ok (.invokestatic 48, 3) := by decide +kernel
theorem dX4_writeMeld_6 : decode cX4_writeMeld 6 = .ok (.iconst 2, 1) := by decide +kernel
theorem dX4_writeMeld_7 : decode cX4_writeMeld 7 = .ok (.if_icmp .ne 10, 3) := by decide +kernel
theorem dX4_writeMeld_10 : decode cX4_writeMeld 10 = .ok (.lload_n 1, 1) := by decide +kernel
theorem dX4_writeMeld_11 : decode cX4_writeMeld 11 = .ok (.invokestatic 51, 3) := by decide +kernel
theorem dX4_writeMeld_14 : decode cX4_writeMeld 14 = .ok (.goto 7, 3) := by decide +kernel
theorem dX4_writeMeld_17 : decode cX4_writeMeld 17 = .ok (.lload_n 1, 1) := by decide +kernel
theorem dX4_writeMeld_18 : decode cX4_writeMeld 18 = .ok (.invokestatic 40, 3) := by decide +kernel
theorem dX4_writeMeld_21 : decode cX4_writeMeld 21 = .ok (.invokevirtual 44, 3) := by decide +kernel
theorem dX4_writeMeld_24 : decode cX4_writeMeld 24 = .ok (.return_, 1) := by decide +kernel
theorem dX4_writeCards_0 : decode cX4_writeCards 0 = .ok (.iconst 0, 1) := by decide +kernel
theorem dX4_writeCards_1 : decode cX4_writeCards 1 = .ok (.istore 4, 2) := by decide +kernel
theorem dX4_writeCards_3 : decode cX4_writeCards 3 = .ok (.iconst 0, 1) := by decide +kernel
theorem dX4_writeCards_4 : decode cX4_writeCards 4 = .ok (.istore 5, 2) := by decide +kernel
theorem dX4_writeCards_6 : decode cX4_writeCards 6 = .ok (.iload 5, 2) := by decide +kernel
theorem dX4_writeCards_8 : decode cX4_writeCards 8 = .ok (.bipush 52, 2) := by decide +kernel
theorem dX4_writeCards_10 : decode cX4_writeCards 10 = .ok (.if_icmp .ge 47, 3) := by decide +kernel
theorem dX4_writeCards_13 : decode cX4_writeCards 13 = .ok (.iload_n 3, 1) := by decide +kernel
theorem dX4_writeCards_14 : decode cX4_writeCards 14 = .ok (.iload 5, 2) := by decide +kernel
theorem dX4_writeCards_16 : decode cX4_writeCards 16 = .ok (.iadd, 1) := by decide +kernel
theorem dX4_writeCards_17 : decode cX4_writeCards 17 = .ok (.bipush 52, 2) := by decide +kernel
theorem dX4_writeCards_19 : decode cX4_writeCards 19 = .ok (.irem, 1) := by decide +kernel
theorem dX4_writeCards_20 : decode cX4_writeCards 20 = .ok (.istore 6, 2) := by decide +kernel
theorem dX4_writeCards_22 : decode cX4_writeCards 22 = .ok (.lload_n 1, 1) := by decide +kernel
theorem dX4_writeCards_23 : decode cX4_writeCards 23 = .ok (.iload 6, 2) := by decide +kernel
theorem dX4_writeCards_25 : decode cX4_writeCards 25 = .ok (.invokestatic 54, 3) := by decide +kernel
theorem dX4_writeCards_28 : decode cX4_writeCards 28 = .ok (.ifCond .eq 23, 3) := by decide +kernel
theorem dX4_writeCards_31 : decode cX4_writeCards 31 = .ok (.iload 4, 2) := by decide +kernel
theorem dX4_writeCards_33 : decode cX4_writeCards 33 = .ok (.ifCond .eq 9, 3) := by decide +kernel
theorem dX4_writeCards_36 : decode cX4_writeCards 36 = .ok (.aload_n 0, 1) := by decide +kernel
theorem dX4_writeCards_37 : decode cX4_writeCards 37 = .ok (.bipush 44, 2) := by decide +kernel
theorem dX4_writeCards_39 : decode cX4_writeCards 39 = .ok (.invokevirtual 24, 3) := by decide +kernel
theorem dX4_writeCards_42 : decode cX4_writeCards 42 = .ok (.aload_n 0, 1) := by decide +kernel
theorem dX4_writeCards_43 : decode cX4_writeCards 43 = .ok (.iload 6, 2) := by decide +kernel
theorem dX4_writeCards_45 : decode cX4_writeCards 45 = .ok (.invokevirtual 58, 3) := by decide +kernel
theorem dX4_writeCards_48 : decode cX4_writeCards 48 = .ok (.iconst 1, 1) := by decide +kernel
theorem dX4_writeCards_49 : decode cX4_writeCards 49 = .ok (.istore 4, 2) := by decide +kernel
theorem dX4_writeCards_51 : decode cX4_writeCards 51 = .ok (.iinc 5 1, 3) := by decide +kernel
theorem dX4_writeCards_54 : decode cX4_writeCards 54 = .ok (.goto (-48), 3) := by decide +kernel
theorem dX4_writeCards_57 : decode cX4_writeCards 57 = .ok (.return_, 1) := by decide +kernel
theorem dX4_writeCard_0 : decode cX4_writeCard 0 = .ok (.iload_n 1, 1) := by decide +kernel
theorem dX4_writeCard_1 : decode cX4_writeCard 1 = .ok (.bipush 13, 2) := by decide +kernel
theorem dX4_writeCard_3 : decode cX4_writeCard 3 = .ok (.irem, 1) := by decide +kernel
theorem dX4_writeCard_4 : decode cX4_writeCard 4 = .ok (.istore_n 2, 1) := by decide +kernel
theorem dX4_writeCard_5 : decode cX4_writeCard 5 = .ok (.iload_n 1, 1) := by decide +kernel
theorem dX4_writeCard_6 : decode cX4_writeCard 6 = .ok (.bipush 13, 2) := by decide +kernel
theorem dX4_writeCard_8 : decode cX4_writeCard 8 = .ok (.idiv, 1) := by decide +kernel
theorem dX4_writeCard_9 : decode cX4_writeCard 9 = .ok (.istore_n 3, 1) := by decide +kernel
theorem dX4_writeCard_10 : decode cX4_writeCard 10 = .ok (.iload_n 2, 1) := by decide +kernel
theorem dX4_writeCard_11 : decode cX4_writeCard 11 = .ok (.ifCond .lt 45, 3) := by decide +kernel
theorem dX4_writeCard_14 : decode cX4_writeCard 14 = .ok (.iload_n 2, 1) := by decide +kernel
theorem dX4_writeCard_15 : decode cX4_writeCard 15 = .ok (.ldc 61, 2) := by decide +kernel
theorem dX4_writeCard_17 : decode cX4_writeCard 17 = .ok (.invokevirtual 63, 3) := by decide +kernel
theorem dX4_writeCard_20 : decode cX4_writeCard 20 = .ok (.if_icmp .ge 36, 3) := by decide +kernel
theorem dX4_writeCard_23 : decode cX4_writeCard 23 = .ok (.iload_n 3, 1) := by decide +kernel
theorem dX4_writeCard_24 : decode cX4_writeCard 24 = .ok (.ifCond .lt 32, 3) := by decide +kernel
theorem dX4_writeCard_27 : decode cX4_writeCard 27 = .ok (.iload_n 3, 1) := by decide +kernel
theorem dX4_writeCard_28 : decode cX4_writeCard 28 = .ok (.ldc 68, 2) := by decide +kernel
theorem dX4_writeCard_30 : decode cX4_writeCard 30 = .ok (.invokevirtual 63, 3) := by decide +kernel
theorem dX4_writeCard_33 : decode cX4_writeCard 33 = .ok (.if_icmp .ge 23, 3) := by decide +kernel
theorem dX4_writeCard_36 : decode cX4_writeCard 36 = .ok (.aload_n 0, 1) := by decide +kernel
theorem dX4_writeCard_37 : decode cX4_writeCard 37 = .ok (.ldc 61, 2) := by decide +kernel
theorem dX4_writeCard_39 : decode cX4_writeCard 39 = .ok (.iload_n 2, 1) := by decide +kernel
theorem dX4_writeCard_40 : decode cX4_writeCard 40 = .ok (.invokevirtual 70, 3) := by decide +kernel
theorem dX4_writeCard_43 : decode cX4_writeCard 43 = .ok (.invokevirtual 24, 3) := by decide +kernel
theorem dX4_writeCard_46 : decode cX4_writeCard 46 = .ok (.aload_n 0, 1) := by decide +kernel
theorem dX4_writeCard_47 : decode cX4_writeCard 47 = .ok (.ldc 68, 2) := by decide +kernel
theorem dX4_writeCard_49 : decode cX4_writeCard 49 = .ok (.iload_n 3, 1) := by decide +kernel
theorem dX4_writeCard_50 : decode cX4_writeCard 50 = .ok (.invokevirtual 70, 3) := by decide +kernel
theorem dX4_writeCard_53 : decode cX4_writeCard 53 = .ok (.invokevirtual 24, 3) := by decide +kernel
theorem dX4_writeCard_56 : decode cX4_writeCard 56 = .ok (.return_, 1) := by decide +kernel
theorem dX4_writeSign_0 : decode cX4_writeSign 0 = .ok (.aload_n 0, 1) := by decide +kernel
theorem dX4_writeSign_1 : decode cX4_writeSign 1 = .ok (.getfield 15, 3) := by decide +kernel
theorem dX4_writeSign_4 : decode cX4_writeSign 4 = .ok (.ifCond .lt 33, 3) := by decide +kernel
theorem dX4_writeSign_7 : decode cX4_writeSign 7 = .ok (.aload_n 0, 1) := by decide +kernel
theorem dX4_writeSign_8 : decode cX4_writeSign 8 = .ok (.getfield 15, 3) := by decide +kernel
theorem dX4_writeSign_11 : decode cX4_writeSign 11 = .ok (.bipush 64, 2) := by decide +kernel
theorem dX4_writeSign_13 : decode cX4_writeSign 13 = .ok (.if_icmp .ge 24, 3) := by decide +kernel
theorem dX4_writeSign_16 : decode cX4_writeSign 16 = .ok (.aload_n 0, 1) := by decide +kernel
theorem dX4_writeSign_17 : decode cX4_writeSign 17 = .ok (.getfield 11, 3) := by decide +kernel
theorem dX4_writeSign_20 : decode cX4_writeSign 20 = .ok (.aload_n 0, 1) := by decide +kernel
theorem dX4_writeSign_21 : decode cX4_writeSign 21 = .ok (.getfield 15, 3) := by decide +kernel
theorem dX4_writeSign_24 : decode cX4_writeSign 24 = .ok (.iload_n 1, 1) := by decide +kernel
theorem dX4_writeSign_25 : decode cX4_writeSign 25 = .ok (.i2b, 1) := by decide +kernel
theorem dX4_writeSign_26 : decode cX4_writeSign 26 = .ok (.bastore, 1) := by decide +kernel
theorem dX4_writeSign_27 : decode cX4_writeSign 27 = .ok (.aload_n 0, 1) := by decide +kernel
theorem dX4_writeSign_28 : decode cX4_writeSign 28 = .ok (.dup, 1) := by decide +kernel
theorem dX4_writeSign_29 : decode cX4_writeSign 29 = .ok (.getfield 15, 3) := by decide +kernel
theorem dX4_writeSign_32 : decode cX4_writeSign 32 = .ok (.iconst 1, 1) := by decide +kernel
theorem dX4_writeSign_33 : decode cX4_writeSign 33 = .ok (.iadd, 1) := by decide +kernel
theorem dX4_writeSign_34 : decode cX4_writeSign 34 = .ok (.putfield 15, 3) := by decide +kernel
theorem dX4_writeSign_37 : decode cX4_writeSign 37 = .ok (.return_, 1) := by decide +kernel
theorem dX4_signAt_0 : decode cX4_signAt 0 = .ok (.iload_n 1, 1) := by decide +kernel
theorem dX4_signAt_1 : decode cX4_signAt 1 = .ok (.ifCond .lt 26, 3) := by decide +kernel
theorem dX4_signAt_4 : decode cX4_signAt 4 = .ok (.iload_n 1, 1) := by decide +kernel
theorem dX4_signAt_5 : decode cX4_signAt 5 = .ok (.aload_n 0, 1) := by decide +kernel
theorem dX4_signAt_6 : decode cX4_signAt 6 = .ok (.getfield 15, 3) := by decide +kernel
theorem dX4_signAt_9 : decode cX4_signAt 9 = .ok (.if_icmp .ge 18, 3) := by decide +kernel
theorem dX4_signAt_12 : decode cX4_signAt 12 = .ok (.iload_n 1, 1) := by decide +kernel
theorem dX4_signAt_13 : decode cX4_signAt 13 = .ok (.bipush 64, 2) := by decide +kernel
theorem dX4_signAt_15 : decode cX4_signAt 15 = .ok (.if_icmp .ge 12, 3) := by decide +kernel
theorem dX4_signAt_18 : decode cX4_signAt 18 = .ok (.aload_n 0, 1) := by decide +kernel
theorem dX4_signAt_19 : decode cX4_signAt 19 = .ok (.getfield 11, 3) := by decide +kernel
theorem dX4_signAt_22 : decode cX4_signAt 22 = .ok (.iload_n 1, 1) := by decide +kernel
theorem dX4_signAt_23 : decode cX4_signAt 23 = .ok (.baload, 1) := by decide +kernel
theorem dX4_signAt_24 : decode cX4_signAt 24 = .ok (.goto 4, 3) := by decide +kernel
theorem dX4_signAt_27 : decode cX4_signAt 27 = .ok (.iconst (-1), 1) := by decide +kernel
theorem dX4_signAt_28 : decode cX4_signAt 28 = .ok (.ireturn, 1) := by decide +kernel
theorem dX5_init_0 : decode cX5_init 0 = .ok (.aload_n 0, 1) := by decide +kernel
theorem dX5_init_1 : decode cX5_init 1 = .ok (.invokespecial 3, 3) := by decide +kernel
theorem dX5_init_4 : decode cX5_init 4 = .ok (.aload_n 0, 1) := by decide +kernel
theorem dX5_init_5 : decode cX5_init 5 = .ok (.new 9, 3) := by decide +kernel
theorem dX5_init_8 : decode cX5_init 8 = .ok (.dup, 1) := by decide +kernel
theorem dX5_init_9 : decode cX5_init 9 = .ok (.invokespecial 11, 3) := by decide +kernel
theorem dX5_init_12 : decode cX5_init 12 = .ok (.putfield 12, 3) := by decide +kernel
theorem dX5_init_15 : decode cX5_init 15 = .ok (.aload_n 0, 1) := by decide +kernel
theorem dX5_init_16 : decode cX5_init 16 = .ok (.new 9, 3) := by decide +kernel
theorem dX5_init_19 : decode cX5_init 19 = .ok (.dup, 1) := by decide +kernel
theorem dX5_init_20 : decode cX5_init 20 = .ok (.invokespecial 11, 3) := by decide +kernel
theorem dX5_init_23 : decode cX5_init 23 = .ok (.putfield 18, 3) := by decide +kernel
theorem dX5_init_26 : decode cX5_init 26 = .ok (.return_, 1) := by decide +kernel
theorem dX5_settle_0 : decode cX5_settle 0 = .ok (.aload_n 0, 1) := by decide +kernel
theorem dX5_settle_1 : decode cX5_settle 1 = .ok (.getfield 12, 3) := by decide +kernel
theorem dX5_settle_4 : decode cX5_settle 4 = .ok (.lload_n 1, 1) := by decide +kernel
theorem dX5_settle_5 : decode cX5_settle 5 = .ok (.invokevirtual 21, 3) := by decide +kernel
theorem dX5_settle_8 : decode cX5_settle 8 = .ok (.aload_n 0, 1) := by decide +kernel
theorem dX5_settle_9 : decode cX5_settle 9 = .ok (.getfield 18, 3) := by decide +kernel
theorem dX5_settle_12 : decode cX5_settle 12 = .ok (.lload_n 3, 1) := by decide +kernel
theorem dX5_settle_13 : decode cX5_settle 13 = .ok (.invokevirtual 21, 3) := by decide +kernel
theorem dX5_settle_16 : decode cX5_settle 16 = .ok (.aload_n 0, 1) := by decide +kernel
theorem dX5_settle_17 : decode cX5_settle 17 = .ok (.aload_n 0, 1) := by decide +kernel
theorem dX5_settle_18 : decode cX5_settle 18 = .ok (.getfield 12, 3) := by decide +kernel
theorem dX5_settle_21 : decode cX5_settle 21 = .ok (.getfield 25, 3) := by decide +kernel
theorem dX5_settle_24 : decode cX5_settle 24 = .ok (.putfield 29, 3) := by decide +kernel
theorem dX5_settle_27 : decode cX5_settle 27 = .ok (.aload_n 0, 1) := by decide +kernel
theorem dX5_settle_28 : decode cX5_settle 28 = .ok (.iconst 0, 1) := by decide +kernel
theorem dX5_settle_29 : decode cX5_settle 29 = .ok (.putfield 32, 3) := by decide +kernel
theorem dX5_settle_32 : decode cX5_settle 32 = .ok (.aload_n 0, 1) := by decide +kernel
theorem dX5_settle_33 : decode cX5_settle 33 = .ok (.getfield 18, 3) := by decide +kernel
theorem dX5_settle_36 : decode cX5_settle 36 = .ok (.getfield 35, 3) := by decide +kernel
theorem dX5_settle_39 : decode cX5_settle 39 = .ok (.lstore 5, 2) := by decide +kernel
theorem dX5_settle_41 : decode cX5_settle 41 = .ok (.iconst 0, 1) := by decide +kernel
theorem dX5_settle_42 : decode cX5_settle 42 = .ok (.istore 7, 2) := by decide +kernel
theorem dX5_settle_44 : decode cX5_settle 44 = .ok (.iload 7, 2) := by decide +kernel
theorem dX5_settle_46 : decode cX5_settle 46 = .ok (.bipush 52, 2) := by decide +kernel
theorem dX5_settle_48 : decode cX5_settle 48 = .ok (.if_icmp .ge 57, 3) := by decide +kernel
theorem dX5_settle_51 : decode cX5_settle 51 = .ok (.aload_n 0, 1) := by decide +kernel
theorem dX5_settle_52 : decode cX5_settle 52 = .ok (.getfield 29, 3) := by decide +kernel
theorem dX5_settle_55 : decode cX5_settle 55 = .ok (.ifCond .le 50, 3) := by decide +kernel
theorem dX5_settle_58 : decode cX5_settle 58 = .ok (.aload_n 0, 1) := by decide +kernel
theorem dX5_settle_59 : decode cX5_settle 59 = .ok (.lload 5, 2) := by decide +kernel
theorem dX5_settle_61 : decode cX5_settle 61 = .ok (.invokevirtual 39, 3) := by decide +kernel
theorem dX5_settle_64 : decode cX5_settle 64 = .ok (.istore 8, 2) := by decide +kernel
theorem dX5_settle_66 : decode cX5_settle 66 = .ok (.iload 8, 2) := by decide +kernel
theorem dX5_settle_68 : decode cX5_settle 68 = .ok (.iconst (-1), 1) := by decide +kernel
theorem dX5_settle_69 : decode cX5_settle 69 = .ok (.if_icmp .ne 6, 3) := by decide +kernel
theorem dX5_settle_72 : decode cX5_settle 72 = .ok (.goto 33, 3) := by decide +kernel
theorem dX5_settle_75 : decode cX5_settle 75 = .ok (.lload 5, 2) := by decide +kernel
theorem dX5_settle_77 : decode cX5_settle 77 = .ok (.iload 8, 2) := by decide +kernel
theorem dX5_settle_79 : decode cX5_settle 79 = .ok (.invokestatic 43, 3) := by decide +kernel
theorem dX5_settle_82 : decode cX5_settle 82 = .ok (.ldc2_w 47, 3) := by decide +kernel
theorem dX5_settle_85 : decode cX5_settle 85 = .ok (.lxor, 1) := by decide +kernel
theorem dX5_settle_86 : decode cX5_settle 86 = .ok (.land, 1) := by decide +kernel
theorem dX5_settle_87 : decode cX5_settle 87 = .ok (.lstore 5, 2) := by decide +kernel
theorem dX5_settle_89 : decode cX5_settle 89 = .ok (.aload_n 0, 1) := by decide +kernel
theorem dX5_settle_90 : decode cX5_settle 90 = .ok (.dup, 1) := by decide +kernel
theorem dX5_settle_91 : decode cX5_settle 91 = .ok (.getfield 32, 3) := by decide +kernel
theorem dX5_settle_94 : decode cX5_settle 94 = .ok (.iconst 1, 1) := by decide +kernel
theorem dX5_settle_95 : decode cX5_settle 95 = .ok (.iadd, 1) := by decide +kernel
theorem dX5_settle_96 : decode cX5_settle 96 = .ok (.putfield 32, 3) := by decide +kernel
theorem dX5_settle_99 : decode cX5_settle 99 = .ok (.iinc 7 1, 3) := by decide +kernel
theorem dX5_settle_102 : decode cX5_settle 102 = .ok (.goto (-58), 3) := by decide +kernel
theorem dX5_settle_105 : decode cX5_settle 105 = .ok (.aload_n 0, 1) := by decide +kernel
theorem dX5_settle_106 : decode cX5_settle 106 = .ok (.lload 5, 2) := by decide +kernel
theorem dX5_settle_108 : decode cX5_settle 108 = .ok (.invokestatic 49, 3) := by decide +kernel
theorem dX5_settle_111 : decode cX5_settle 111 = .ok (.putfield 52, 3) := by decide +kernel
theorem dX5_settle_114 : decode cX5_settle 114 = .ok (.return_, 1) := by decide +kernel
theorem dX5_addOne_0 : decode cX5_addOne 0 = .ok (.iconst 0, 1) := by decide +kernel
theorem dX5_addOne_1 : decode cX5_addOne 1 = .ok (.istore_n 3, 1) := by decide +kernel
theorem dX5_addOne_2 : decode cX5_addOne 2 = .ok (.iload_n 3, 1) := by decide +kernel
theorem dX5_addOne_3 : decode cX5_addOne 3 = .ok (.bipush 52, 2) := by decide +kernel
theorem dX5_addOne_5 : decode cX5_addOne 5 = .ok (.if_icmp .ge 70, 3) := by decide +kernel
theorem dX5_addOne_8 : decode cX5_addOne 8 = .ok (.iconst 0, 1) := by decide +kernel
theorem dX5_addOne_9 : decode cX5_addOne 9 = .ok (.istore 4, 2) := by decide +kernel
theorem dX5_addOne_11 : decode cX5_addOne 11 = .ok (.iload 4, 2) := by decide +kernel
theorem dX5_addOne_13 : decode cX5_addOne 13 = .ok (.aload_n 0, 1) := by decide +kernel
theorem dX5_addOne_14 : decode cX5_addOne 14 = .ok (.getfield 12, 3) := by decide +kernel
theorem dX5_addOne_17 : decode cX5_addOne 17 = .ok (.getfield 55, 3) := by decide +kernel
theorem dX5_addOne_20 : decode cX5_addOne 20 = .ok (.if_icmp .ge 49, 3) := by decide +kernel
theorem dX5_addOne_23 : decode cX5_addOne 23 = .ok (.lload_n 1, 1) := by decide +kernel
theorem dX5_addOne_24 : decode cX5_addOne 24 = .ok (.iload_n 3, 1) := by decide +kernel
theorem dX5_addOne_25 : decode cX5_addOne 25 = .ok (.invokestatic 58, 3) := by decide +kernel
theorem dX5_addOne_28 : decode cX5_addOne 28 = .ok (.ifCond .eq 41, 3) := by decide +kernel
theorem dX5_addOne_31 : decode cX5_addOne 31 = .ok (.aload_n 0, 1) := by decide +kernel
theorem dX5_addOne_32 : decode cX5_addOne 32 = .ok (.getfield 12, 3) := by decide +kernel
theorem dX5_addOne_35 : decode cX5_addOne 35 = .ok (.iload 4, 2) := by decide +kernel
theorem dX5_addOne_37 : decode cX5_addOne 37 = .ok (.invokevirtual 62, 3) := by decide +kernel
theorem dX5_addOne_40 : decode cX5_addOne 40 = .ok (.iload_n 3, 1) := by decide +kernel
theorem dX5_addOne_41 : decode cX5_addOne 41 = .ok (.invokestatic 43, 3) := by decide +kernel
theorem dX5_addOne_44 : decode cX5_addOne 44 = .ok (.lor, 1) := by decide +kernel
theorem dX5_addOne_45 : decode cX5_addOne 45 = .ok (.invokestatic 65, 3) := by decide +kernel
theorem dX5_addOne_48 : decode cX5_addOne 48 = .ok (.ifCond .eq 15, 3) := by decide +kernel
theorem dX5_addOne_51 : decode cX5_addOne 51 = .ok (.aload_n 0, 1) := by decide +kernel
theorem dX5_addOne_52 : decode cX5_addOne 52 = .ok (.getfield 12, 3) := by decide +kernel
theorem dX5_addOne_55 : decode cX5_addOne 55 = .ok (.iload 4, 2) := by decide +kernel
theorem dX5_addOne_57 : decode cX5_addOne 57 = .ok (.iload_n 3, 1) := by decide +kernel
theorem dX5_addOne_58 : decode cX5_addOne 58 = .ok (.invokevirtual 68, 3) := by decide +kernel
theorem dX5_addOne_61 : decode cX5_addOne 61 = .ok (.iload_n 3, 1) := by decide +kernel
theorem dX5_addOne_62 : decode cX5_addOne 62 = .ok (.ireturn, 1) := by decide +kernel
theorem dX5_addOne_63 : decode cX5_addOne 63 = .ok (.iinc 4 1, 3) := by decide +kernel
theorem dX5_addOne_66 : decode cX5_addOne 66 = .ok (.goto (-55), 3) := by decide +kernel
theorem dX5_addOne_69 : decode cX5_addOne 69 = .ok (.iinc 3 1, 3) := by decide +kernel
theorem dX5_addOne_72 : decode cX5_addOne 72 = .ok (.goto (-70), 3) := by decide +kernel
theorem dX5_addOne_75 : decode cX5_addOne 75 = .ok (.iconst (-1), 1) := by decide +kernel
theorem dX5_addOne_76 : decode cX5_addOne 76 = .ok (.ireturn, 1) := by decide +kernel
theorem dX5_gain_0 : decode cX5_gain 0 = .ok (.aload_n 0, 1) := by decide +kernel
theorem dX5_gain_1 : decode cX5_gain 1 = .ok (.getfield 29, 3) := by decide +kernel
theorem dX5_gain_4 : decode cX5_gain 4 = .ok (.ifCond .ne 11, 3) := by decide +kernel
theorem dX5_gain_7 : decode cX5_gain 7 = .ok (.aload_n 0, 1) := by decide +kernel
theorem dX5_gain_8 : decode cX5_gain 8 = .ok (.getfield 52, 3) := by decide +kernel
theorem dX5_gain_11 : decode cX5_gain 11 = .ok (.bipush 20, 2) := by decide +kernel
theorem dX5_gain_13 : decode cX5_gain 13 = .ok (.iadd, 1) := by decide +kernel
theorem dX5_gain_14 : decode cX5_gain 14 = .ok (.ireturn, 1) := by decide +kernel
theorem dX5_gain_15 : decode cX5_gain 15 = .ok (.aload_n 0, 1) := by decide +kernel
theorem dX5_gain_16 : decode cX5_gain 16 = .ok (.getfield 29, 3) := by decide +kernel
theorem dX5_gain_19 : decode cX5_gain 19 = .ok (.aload_n 0, 1) := by decide +kernel
theorem dX5_gain_20 : decode cX5_gain 20 = .ok (.getfield 52, 3) := by decide +kernel
theorem dX5_gain_23 : decode cX5_gain 23 = .ok (.if_icmp .ge 15, 3) := by decide +kernel
theorem dX5_gain_26 : decode cX5_gain 26 = .ok (.aload_n 0, 1) := by decide +kernel
theorem dX5_gain_27 : decode cX5_gain 27 = .ok (.getfield 52, 3) := by decide +kernel
theorem dX5_gain_30 : decode cX5_gain 30 = .ok (.aload_n 0, 1) := by decide +kernel
theorem dX5_gain_31 : decode cX5_gain 31 = .ok (.getfield 29, 3) := by decide +kernel
theorem dX5_gain_34 : decode cX5_gain 34 = .ok (.isub, 1) := by decide +kernel
theorem dX5_gain_35 : decode cX5_gain 35 = .ok (.goto 15, 3) := by decide +kernel
theorem dX5_gain_38 : decode cX5_gain 38 = .ok (.aload_n 0, 1) := by decide +kernel
theorem dX5_gain_39 : decode cX5_gain 39 = .ok (.getfield 52, 3) := by decide +kernel
theorem dX5_gain_42 : decode cX5_gain 42 = .ok (.aload_n 0, 1) := by decide +kernel
theorem dX5_gain_43 : decode cX5_gain 43 = .ok (.getfield 29, 3) := by decide +kernel
theorem dX5_gain_46 : decode cX5_gain 46 = .ok (.isub, 1) := by decide +kernel
theorem dX5_gain_47 : decode cX5_gain 47 = .ok (.bipush 10, 2) := by decide +kernel
theorem dX5_gain_49 : decode cX5_gain 49 = .ok (.isub, 1) := by decide +kernel
theorem dX5_gain_50 : decode cX5_gain 50 = .ok (.ireturn, 1) := by decide +kernel
theorem dX6_init_0 : decode cX6_init 0 = .ok (.aload_n 0, 1) := by decide +kernel
theorem dX6_init_1 : decode cX6_init 1 = .ok (.invokespecial 3, 3) := by decide +kernel
theorem dX6_init_4 : decode cX6_init 4 = .ok (.aload_n 0, 1) := by decide +kernel
theorem dX6_init_5 : decode cX6_init 5 = .ok (.new 9, 3) := by decide +kernel
theorem dX6_init_8 : decode cX6_init 8 = .ok (.dup, 1) := by decide +kernel
theorem dX6_init_9 : decode cX6_init 9 = .ok (.invokespecial 11, 3) := by decide +kernel
theorem dX6_init_12 : decode cX6_init 12 = .ok (.putfield 12, 3) := by decide +kernel
theorem dX6_init_15 : decode cX6_init 15 = .ok (.aload_n 0, 1) := by decide +kernel
theorem dX6_init_16 : decode cX6_init 16 = .ok (.new 9, 3) := by decide +kernel
theorem dX6_init_19 : decode cX6_init 19 = .ok (.dup, 1) := by decide +kernel
theorem dX6_init_20 : decode cX6_init 20 = .ok (.invokespecial 11, 3) := by decide +kernel
theorem dX6_init_23 : decode cX6_init 23 = .ok (.putfield 16, 3) := by decide +kernel
theorem dX6_init_26 : decode cX6_init 26 = .ok (.aload_n 0, 1) := by decide +kernel
theorem dX6_init_27 : decode cX6_init 27 = .ok (.new 19, 3) := by decide +kernel
theorem dX6_init_30 : decode cX6_init 30 = .ok (.dup, 1) := by decide +kernel
theorem dX6_init_31 : decode cX6_init 31 = .ok (.invokespecial 21, 3) := by decide +kernel
theorem dX6_init_34 : decode cX6_init 34 = .ok (.putfield 22, 3) := by decide +kernel
theorem dX6_init_37 : decode cX6_init 37 = .ok (.aload_n 0, 1) := by decide +kernel
theorem dX6_init_38 : decode cX6_init 38 = .ok (.iconst 2, 1) := by decide +kernel
theorem dX6_init_39 : decode cX6_init 39 = .ok (.anewarray 9, 3) := by decide +kernel
theorem dX6_init_42 : decode cX6_init 42 = .ok (.putfield 26, 3) := by decide +kernel
theorem dX6_init_45 : decode cX6_init 45 = .ok (.aload_n 0, 1) := by decide +kernel
theorem dX6_init_46 : decode cX6_init 46 = .ok (.new 30, 3) := by decide +kernel
theorem dX6_init_49 : decode cX6_init 49 = .ok (.dup, 1) := by decide +kernel
theorem dX6_init_50 : decode cX6_init 50 = .ok (.invokespecial 32, 3) := by decide +kernel
theorem dX6_init_53 : decode cX6_init 53 = .ok (.putfield 33, 3) := by decide +kernel
theorem dX6_init_56 : decode cX6_init 56 = .ok (.aload_n 0, 1) := by decide +kernel
theorem dX6_init_57 : decode cX6_init 57 = .ok (.new 37, 3) := by decide +kernel
theorem dX6_init_60 : decode cX6_init 60 = .ok (.dup, 1) := by decide +kernel
theorem dX6_init_61 : decode cX6_init 61 = .ok (.invokespecial 39, 3) := by decide +kernel
theorem dX6_init_64 : decode cX6_init 64 = .ok (.putfield 40, 3) := by decide +kernel
theorem dX6_init_67 : decode cX6_init 67 = .ok (.aload_n 0, 1) := by decide +kernel
theorem dX6_init_68 : decode cX6_init 68 = .ok (.new 44, 3) := by decide +kernel
theorem dX6_init_71 : decode cX6_init 71 = .ok (.dup, 1) := by decide +kernel
theorem dX6_init_72 : decode cX6_init 72 = .ok (.invokespecial 46, 3) := by decide +kernel
theorem dX6_init_75 : decode cX6_init 75 = .ok (.putfield 47, 3) := by decide +kernel
theorem dX6_init_78 : decode cX6_init 78 = .ok (.aload_n 0, 1) := by decide +kernel
theorem dX6_init_79 : decode cX6_init 79 = .ok (.new 51, 3) := by decide +kernel
theorem dX6_init_82 : decode cX6_init 82 = .ok (.dup, 1) := by decide +kernel
theorem dX6_init_83 : decode cX6_init 83 = .ok (.invokespecial 53, 3) := by decide +kernel
theorem dX6_init_86 : decode cX6_init 86 = .ok (.putfield 54, 3) := by decide +kernel
theorem dX6_init_89 : decode cX6_init 89 = .ok (.aload_n 0, 1) := by decide +kernel
theorem dX6_init_90 : decode cX6_init 90 = .ok (.getfield 33, 3) := by decide +kernel
theorem dX6_init_93 : decode cX6_init 93 = .ok (.ldc 58, 2) := by decide +kernel
theorem dX6_init_95 : decode cX6_init 95 = .ok (.invokevirtual 60, 3) := by decide +kernel
theorem dX6_init_98 : decode cX6_init 98 = .ok (.aload_n 0, 1) := by decide +kernel
theorem dX6_init_99 : decode cX6_init 99 = .ok (.getfield 33, 3) := by decide +kernel
theorem dX6_init_102 : decode cX6_init 102 = .ok (.aload_n 0, 1) := by decide +kernel
theorem dX6_init_103 : decode cX6_init 103 = .ok (.getfield 12, 3) := by decide +kernel
theorem dX6_init_106 : decode cX6_init 106 = .ok (.invokevirtual 64, 3) := by decide +kernel
theorem dX6_init_109 : decode cX6_init 109 = .ok (.pop, 1) := by decide +kernel
theorem dX6_init_110 : decode cX6_init 110 = .ok (.aload_n 0, 1) := by decide +kernel
theorem dX6_init_111 : decode cX6_init 111 = .ok (.getfield 33, 3) := by decide +kernel
theorem dX6_init_114 : decode cX6_init 114 = .ok (.iconst 0, 1) := by decide +kernel
theorem dX6_init_115 : decode cX6_init 115 = .ok (.invokevirtual 68, 3) := by decide +kernel
theorem dX6_init_118 : decode cX6_init 118 = .ok (.return_, 1) := by decide +kernel
theorem dX6_load_0 : decode cX6_load 0 = .ok (.aload_n 0, 1) := by decide +kernel
theorem dX6_load_1 : decode cX6_load 1 = .ok (.getfield 33, 3) := by decide +kernel
theorem dX6_load_4 : decode cX6_load 4 = .ok (.aload_n 0, 1) := by decide +kernel
theorem dX6_load_5 : decode cX6_load 5 = .ok (.getfield 16, 3) := by decide +kernel
theorem dX6_load_8 : decode cX6_load 8 = .ok (.invokevirtual 64, 3) := by decide +kernel
theorem dX6_load_11 : decode cX6_load 11 = .ok (.istore_n 1, 1) := by decide +kernel
theorem dX6_load_12 : decode cX6_load 12 = .ok (.iconst 0, 1) := by decide +kernel
theorem dX6_load_13 : decode cX6_load 13 = .ok (.istore_n 2, 1) := by decide +kernel
theorem dX6_load_14 : decode cX6_load 14 = .ok (.iload_n 2, 1) := by decide +kernel
theorem dX6_load_15 : decode cX6_load 15 = .ok (.sipush 500, 3) := by decide +kernel
theorem dX6_load_18 : decode cX6_load 18 = .ok (.if_icmp .ge 39, 3) := by decide +kernel
theorem dX6_load_21 : decode cX6_load 21 = .ok (.iload_n 1, 1) := by decide +kernel
theorem dX6_load_22 : decode cX6_load 22 = .ok (.ifCond .ne 35, 3) := by decide +kernel
theorem dX6_load_25 : decode cX6_load 25 = .ok (.aload_n 0, 1) := by decide +kernel
theorem dX6_load_26 : decode cX6_load 26 = .ok (.getfield 33, 3) := by decide +kernel
theorem dX6_load_29 : decode cX6_load 29 = .ok (.invokevirtual 72, 3) := by decide +kernel
theorem dX6_load_32 : decode cX6_load 32 = .ok (.ifCond .ne 25, 3) := by decide +kernel
theorem dX6_load_35 : decode cX6_load 35 = .ok (.aload_n 0, 1) := by decide +kernel
theorem dX6_load_36 : decode cX6_load 36 = .ok (.getfield 33, 3) := by decide +kernel
theorem dX6_load_39 : decode cX6_load 39 = .ok (.aload_n 0, 1) := by decide +kernel
theorem dX6_load_40 : decode cX6_load 40 = .ok (.getfield 16, 3) := by decide +kernel
theorem dX6_load_43 : decode cX6_load 43 = .ok (.aload_n 0, 1) := by decide +kernel
theorem dX6_load_44 : decode cX6_load 44 = .ok (.getfield 47, 3) := by decide +kernel
theorem dX6_load_47 : decode cX6_load 47 = .ok (.invokevirtual 76, 3) := by decide +kernel
theorem dX6_load_50 : decode cX6_load 50 = .ok (.istore_n 1, 1) := by decide +kernel
theorem dX6_load_51 : decode cX6_load 51 = .ok (.iinc 2 1, 3) := by decide +kernel
theorem dX6_load_54 : decode cX6_load 54 = .ok (.goto (-40), 3) := by decide +kernel
theorem dX6_load_57 : decode cX6_load 57 = .ok (.aload_n 0, 1) := by decide +kernel
theorem dX6_load_58 : decode cX6_load 58 = .ok (.getfield 33, 3) := by decide +kernel
theorem dX6_load_61 : decode cX6_load 61 = .ok (.iconst 0, 1) := by decide +kernel
theorem dX6_load_62 : decode cX6_load 62 = .ok (.invokevirtual 68, 3) := by decide +kernel
theorem dX6_load_65 : decode cX6_load 65 = .ok (.iload_n 1, 1) := by decide +kernel
theorem dX6_load_66 : decode cX6_load 66 = .ok (.ifCond .eq 8, 3) := by decide +kernel
theorem dX6_load_69 : decode cX6_load 69 = .ok (.bipush (-30), 2) := by decide +kernel
theorem dX6_load_71 : decode cX6_load 71 = .ok (.iload_n 1, 1) := by decide +kernel
theorem dX6_load_72 : decode cX6_load 72 = .ok (.isub, 1) := by decide +kernel
theorem dX6_load_73 : decode cX6_load 73 = .ok (.ireturn, 1) := by decide +kernel
theorem dX6_load_74 : decode cX6_load 74 = .ok (.aload_n 0, 1) := by decide +kernel
theorem dX6_load_75 : decode cX6_load 75 = .ok (.getfield 22, 3) := by decide +kernel
theorem dX6_load_78 : decode cX6_load 78 = .ok (.aload_n 0, 1) := by decide +kernel
theorem dX6_load_79 : decode cX6_load 79 = .ok (.getfield 12, 3) := by decide +kernel
theorem dX6_load_82 : decode cX6_load 82 = .ok (.invokevirtual 80, 3) := by decide +kernel
theorem dX6_load_85 : decode cX6_load 85 = .ok (.aload_n 0, 1) := by decide +kernel
theorem dX6_load_86 : decode cX6_load 86 = .ok (.getfield 12, 3) := by decide +kernel
theorem dX6_load_89 : decode cX6_load 89 = .ok (.aload_n 0, 1) := by decide +kernel
theorem dX6_load_90 : decode cX6_load 90 = .ok (.getfield 16, 3) := by decide +kernel
theorem dX6_load_93 : decode cX6_load 93 = .ok (.invokevirtual 84, 3) := by decide +kernel
theorem dX6_load_96 : decode cX6_load 96 = .ok (.aload_n 0, 1) := by decide +kernel
theorem dX6_load_97 : decode cX6_load 97 = .ok (.getfield 12, 3) := by decide +kernel
theorem dX6_load_100 : decode cX6_load 100 = .ok (.getfield 87, 3) := by decide +kernel
theorem dX6_load_103 : decode cX6_load 103 = .ok (.ireturn, 1) := by decide +kernel
theorem dX6_draw_0 : decode cX6_draw 0 = .ok (.aload_n 0, 1) := by decide +kernel
theorem dX6_draw_1 : decode cX6_draw 1 = .ok (.getfield 12, 3) := by decide +kernel
theorem dX6_draw_4 : decode cX6_draw 4 = .ok (.invokevirtual 91, 3) := by decide +kernel
theorem dX6_draw_7 : decode cX6_draw 7 = .ok (.istore_n 2, 1) := by decide +kernel
theorem dX6_draw_8 : decode cX6_draw 8 = .ok (.iload_n 2, 1) := by decide +kernel
theorem dX6_draw_9 : decode cX6_draw 9 = .ok (.ifCond .eq 8, 3) := by decide +kernel
theorem dX6_draw_12 : decode cX6_draw 12 = .ok (.bipush (-100), 2) := by decide +kernel
theorem dX6_draw_14 : decode cX6_draw 14 = .ok (.iload_n 2, 1) := by decide +kernel
theorem dX6_draw_15 : decode cX6_draw 15 = .ok (.isub, 1) := by decide +kernel
theorem dX6_draw_16 : decode cX6_draw 16 = .ok (.ireturn, 1) := by decide +kernel
theorem dX6_draw_17 : decode cX6_draw 17 = .ok (.aload_n 0, 1) := by decide +kernel
theorem dX6_draw_18 : decode cX6_draw 18 = .ok (.getfield 22, 3) := by decide +kernel
theorem dX6_draw_21 : decode cX6_draw 21 = .ok (.aload_n 0, 1) := by decide +kernel
theorem dX6_draw_22 : decode cX6_draw 22 = .ok (.getfield 12, 3) := by decide +kernel
theorem dX6_draw_25 : decode cX6_draw 25 = .ok (.invokevirtual 80, 3) := by decide +kernel
theorem dX6_draw_28 : decode cX6_draw 28 = .ok (.aload_n 0, 1) := by decide +kernel
theorem dX6_draw_29 : decode cX6_draw 29 = .ok (.getfield 12, 3) := by decide +kernel
theorem dX6_draw_32 : decode cX6_draw 32 = .ok (.iload_n 1, 1) := by decide +kernel
theorem dX6_draw_33 : decode cX6_draw 33 = .ok (.invokevirtual 95, 3) := by decide +kernel
theorem dX6_draw_36 : decode cX6_draw 36 = .ok (.ireturn, 1) := by decide +kernel
theorem dX6_drop_0 : decode cX6_drop 0 = .ok (.aload_n 0, 1) := by decide +kernel
theorem dX6_drop_1 : decode cX6_drop 1 = .ok (.aload_n 0, 1) := by decide +kernel
theorem dX6_drop_2 : decode cX6_drop 2 = .ok (.getfield 12, 3) := by decide +kernel
theorem dX6_drop_5 : decode cX6_drop 5 = .ok (.getfield 99, 3) := by decide +kernel
theorem dX6_drop_8 : decode cX6_drop 8 = .ok (.iload_n 1, 1) := by decide +kernel
theorem dX6_drop_9 : decode cX6_drop 9 = .ok (.invokevirtual 102, 3) := by decide +kernel
theorem dX6_drop_12 : decode cX6_drop 12 = .ok (.aload_n 0, 1) := by decide +kernel
theorem dX6_drop_13 : decode cX6_drop 13 = .ok (.getfield 12, 3) := by decide +kernel
theorem dX6_drop_16 : decode cX6_drop 16 = .ok (.iload_n 1, 1) := by decide +kernel
theorem dX6_drop_17 : decode cX6_drop 17 = .ok (.invokevirtual 106, 3) := by decide +kernel
theorem dX6_drop_20 : decode cX6_drop 20 = .ok (.istore_n 2, 1) := by decide +kernel
theorem dX6_drop_21 : decode cX6_drop 21 = .ok (.iload_n 2, 1) := by decide +kernel
theorem dX6_drop_22 : decode cX6_drop 22 = .ok (.ifCond .eq 8, 3) := by decide +kernel
theorem dX6_drop_25 : decode cX6_drop 25 = .ok (.bipush (-100), 2) := by decide +kernel
theorem dX6_drop_27 : decode cX6_drop 27 = .ok (.iload_n 2, 1) := by decide +kernel
theorem dX6_drop_28 : decode cX6_drop 28 = .ok (.isub, 1) := by decide +kernel
theorem dX6_drop_29 : decode cX6_drop 29 = .ok (.ireturn, 1) := by decide +kernel
theorem dX6_drop_30 : decode cX6_drop 30 = .ok (.aload_n 0, 1) := by decide +kernel
theorem dX6_drop_31 : decode cX6_drop 31 = .ok (.getfield 22, 3) := by decide +kernel
theorem dX6_drop_34 : decode cX6_drop 34 = .ok (.aload_n 0, 1) := by decide +kernel
theorem dX6_drop_35 : decode cX6_drop 35 = .ok (.getfield 12, 3) := by decide +kernel
theorem dX6_drop_38 : decode cX6_drop 38 = .ok (.invokevirtual 80, 3) := by decide +kernel
theorem dX6_drop_41 : decode cX6_drop 41 = .ok (.aload_n 0, 1) := by decide +kernel
theorem dX6_drop_42 : decode cX6_drop 42 = .ok (.getfield 12, 3) := by decide +kernel
theorem dX6_drop_45 : decode cX6_drop 45 = .ok (.iload_n 1, 1) := by decide +kernel
theorem dX6_drop_46 : decode cX6_drop 46 = .ok (.invokevirtual 110, 3) := by decide +kernel
theorem dX6_drop_49 : decode cX6_drop 49 = .ok (.aload_n 0, 1) := by decide +kernel
theorem dX6_drop_50 : decode cX6_drop 50 = .ok (.getfield 12, 3) := by decide +kernel
theorem dX6_drop_53 : decode cX6_drop 53 = .ok (.invokevirtual 113, 3) := by decide +kernel
theorem dX6_drop_56 : decode cX6_drop 56 = .ok (.ireturn, 1) := by decide +kernel
theorem dX6_knock_0 : decode cX6_knock 0 = .ok (.aload_n 0, 1) := by decide +kernel
theorem dX6_knock_1 : decode cX6_knock 1 = .ok (.aload_n 0, 1) := by decide +kernel
theorem dX6_knock_2 : decode cX6_knock 2 = .ok (.getfield 12, 3) := by decide +kernel
theorem dX6_knock_5 : decode cX6_knock 5 = .ok (.getfield 99, 3) := by decide +kernel
theorem dX6_knock_8 : decode cX6_knock 8 = .ok (.iload_n 1, 1) := by decide +kernel
theorem dX6_knock_9 : decode cX6_knock 9 = .ok (.invokevirtual 102, 3) := by decide +kernel
theorem dX6_knock_12 : decode cX6_knock 12 = .ok (.aload_n 0, 1) := by decide +kernel
theorem dX6_knock_13 : decode cX6_knock 13 = .ok (.getfield 47, 3) := by decide +kernel
theorem dX6_knock_16 : decode cX6_knock 16 = .ok (.aload_n 0, 1) := by decide +kernel
theorem dX6_knock_17 : decode cX6_knock 17 = .ok (.getfield 12, 3) := by decide +kernel
theorem dX6_knock_20 : decode cX6_knock 20 = .ok (.iload_n 1, 1) := by decide +kernel
theorem dX6_knock_21 : decode cX6_knock 21 = .ok (.invokevirtual 116, 3) := by decide +kernel
theorem dX6_knock_24 : decode cX6_knock 24 = .ok (.aload_n 0, 1) := by decide +kernel
theorem dX6_knock_25 : decode cX6_knock 25 = .ok (.getfield 12, 3) := by decide +kernel
theorem dX6_knock_28 : decode cX6_knock 28 = .ok (.invokevirtual 120, 3) := by decide +kernel
theorem dX6_knock_31 : decode cX6_knock 31 = .ok (.invokevirtual 124, 3) := by decide +kernel
theorem dX6_knock_34 : decode cX6_knock 34 = .ok (.aload_n 0, 1) := by decide +kernel
theorem dX6_knock_35 : decode cX6_knock 35 = .ok (.getfield 12, 3) := by decide +kernel
theorem dX6_knock_38 : decode cX6_knock 38 = .ok (.iload_n 1, 1) := by decide +kernel
theorem dX6_knock_39 : decode cX6_knock 39 = .ok (.aload_n 0, 1) := by decide +kernel
theorem dX6_knock_40 : decode cX6_knock 40 = .ok (.getfield 47, 3) := by decide +kernel
theorem dX6_knock_43 : decode cX6_knock 43 = .ok (.getfield 128, 3) := by decide +kernel
theorem dX6_knock_46 : decode cX6_knock 46 = .ok (.invokevirtual 131, 3) := by decide +kernel
theorem dX6_knock_49 : decode cX6_knock 49 = .ok (.istore_n 2, 1) := by decide +kernel
theorem dX6_knock_50 : decode cX6_knock 50 = .ok (.iload_n 2, 1) := by decide +kernel
theorem dX6_knock_51 : decode cX6_knock 51 = .ok (.ifCond .eq 9, 3) := by decide +kernel
theorem dX6_knock_54 : decode cX6_knock 54 = .ok (.sipush (-1000), 3) := by decide +kernel
theorem dX6_knock_57 : decode cX6_knock 57 = .ok (.iload_n 2, 1) := by decide +kernel
theorem dX6_knock_58 : decode cX6_knock 58 = .ok (.isub, 1) := by decide +kernel
theorem dX6_knock_59 : decode cX6_knock 59 = .ok (.ireturn, 1) := by decide +kernel
theorem dX6_knock_60 : decode cX6_knock 60 = .ok (.aload_n 0, 1) := by decide +kernel
theorem dX6_knock_61 : decode cX6_knock 61 = .ok (.getfield 22, 3) := by decide +kernel
theorem dX6_knock_64 : decode cX6_knock 64 = .ok (.aload_n 0, 1) := by decide +kernel
theorem dX6_knock_65 : decode cX6_knock 65 = .ok (.getfield 12, 3) := by decide +kernel
theorem dX6_knock_68 : decode cX6_knock 68 = .ok (.invokevirtual 80, 3) := by decide +kernel
theorem dX6_knock_71 : decode cX6_knock 71 = .ok (.aload_n 0, 1) := by decide +kernel
theorem dX6_knock_72 : decode cX6_knock 72 = .ok (.getfield 12, 3) := by decide +kernel
theorem dX6_knock_75 : decode cX6_knock 75 = .ok (.iload_n 1, 1) := by decide +kernel
theorem dX6_knock_76 : decode cX6_knock 76 = .ok (.aload_n 0, 1) := by decide +kernel
theorem dX6_knock_77 : decode cX6_knock 77 = .ok (.getfield 47, 3) := by decide +kernel
theorem dX6_knock_80 : decode cX6_knock 80 = .ok (.invokevirtual 135, 3) := by decide +kernel
theorem dX6_knock_83 : decode cX6_knock 83 = .ok (.invokevirtual 138, 3) := by decide +kernel
theorem dX6_knock_86 : decode cX6_knock 86 = .ok (.aload_n 0, 1) := by decide +kernel
theorem dX6_knock_87 : decode cX6_knock 87 = .ok (.getfield 47, 3) := by decide +kernel
theorem dX6_knock_90 : decode cX6_knock 90 = .ok (.invokevirtual 135, 3) := by decide +kernel
theorem dX6_knock_93 : decode cX6_knock 93 = .ok (.ireturn, 1) := by decide +kernel
theorem dX6_deal_0 : decode cX6_deal 0 = .ok (.aload_n 0, 1) := by decide +kernel
theorem dX6_deal_1 : decode cX6_deal 1 = .ok (.getfield 12, 3) := by decide +kernel
theorem dX6_deal_4 : decode cX6_deal 4 = .ok (.invokevirtual 141, 3) := by decide +kernel
theorem dX6_deal_7 : decode cX6_deal 7 = .ok (.istore_n 1, 1) := by decide +kernel
theorem dX6_deal_8 : decode cX6_deal 8 = .ok (.iload_n 1, 1) := by decide +kernel
theorem dX6_deal_9 : decode cX6_deal 9 = .ok (.ifCond .eq 6, 3) := by decide +kernel
theorem dX6_deal_12 : decode cX6_deal 12 = .ok (.iload_n 1, 1) := by decide +kernel
theorem dX6_deal_13 : decode cX6_deal 13 = .ok (.ineg, 1) := by decide +kernel
theorem dX6_deal_14 : decode cX6_deal 14 = .ok (.ireturn, 1) := by decide +kernel
theorem dX6_deal_15 : decode cX6_deal 15 = .ok (.aload_n 0, 1) := by decide +kernel
theorem dX6_deal_16 : decode cX6_deal 16 = .ok (.getfield 22, 3) := by decide +kernel
theorem dX6_deal_19 : decode cX6_deal 19 = .ok (.aload_n 0, 1) := by decide +kernel
theorem dX6_deal_20 : decode cX6_deal 20 = .ok (.getfield 12, 3) := by decide +kernel
theorem dX6_deal_23 : decode cX6_deal 23 = .ok (.invokevirtual 80, 3) := by decide +kernel
theorem dX6_deal_26 : decode cX6_deal 26 = .ok (.aload_n 0, 1) := by decide +kernel
theorem dX6_deal_27 : decode cX6_deal 27 = .ok (.getfield 12, 3) := by decide +kernel
theorem dX6_deal_30 : decode cX6_deal 30 = .ok (.invokevirtual 144, 3) := by decide +kernel
theorem dX6_deal_33 : decode cX6_deal 33 = .ok (.aload_n 0, 1) := by decide +kernel
theorem dX6_deal_34 : decode cX6_deal 34 = .ok (.getfield 12, 3) := by decide +kernel
theorem dX6_deal_37 : decode cX6_deal 37 = .ok (.getfield 147, 3) := by decide +kernel
theorem dX6_deal_40 : decode cX6_deal 40 = .ok (.ireturn, 1) := by decide +kernel
theorem dX6_set_0 : decode cX6_set 0 = .ok (.iload_n 1, 1) := by decide +kernel
theorem dX6_set_1 : decode cX6_set 1 = .ok (.ifCond .eq 15, 3) := by decide +kernel
theorem dX6_set_4 : decode cX6_set 4 = .ok (.iload_n 2, 1) := by decide +kernel
theorem dX6_set_5 : decode cX6_set 5 = .ok (.bipush 20, 2) := by decide +kernel
theorem dX6_set_7 : decode cX6_set 7 = .ok (.sipush 500, 3) := by decide +kernel
theorem dX6_set_10 : decode cX6_set 10 = .ok (.invokestatic 150, 3) := by decide +kernel
theorem dX6_set_13 : decode cX6_set 13 = .ok (.goto 10, 3) := by decide +kernel
theorem dX6_set_16 : decode cX6_set 16 = .ok (.iload_n 2, 1) := by decide +kernel
theorem dX6_set_17 : decode cX6_set 17 = .ok (.iconst 0, 1) := by decide +kernel
theorem dX6_set_18 : decode cX6_set 18 = .ok (.bipush 20, 2) := by decide +kernel
theorem dX6_set_20 : decode cX6_set 20 = .ok (.invokestatic 150, 3) := by decide +kernel
theorem dX6_set_23 : decode cX6_set 23 = .ok (.invokestatic 154, 3) := by decide +kernel
theorem dX6_set_26 : decode cX6_set 26 = .ok (.aload_n 0, 1) := by decide +kernel
theorem dX6_set_27 : decode cX6_set 27 = .ok (.getfield 22, 3) := by decide +kernel
theorem dX6_set_30 : decode cX6_set 30 = .ok (.aload_n 0, 1) := by decide +kernel
theorem dX6_set_31 : decode cX6_set 31 = .ok (.getfield 12, 3) := by decide +kernel
theorem dX6_set_34 : decode cX6_set 34 = .ok (.invokevirtual 80, 3) := by decide +kernel
theorem dX6_set_37 : decode cX6_set 37 = .ok (.iload_n 1, 1) := by decide +kernel
theorem dX6_set_38 : decode cX6_set 38 = .ok (.ifCond .eq 13, 3) := by decide +kernel
theorem dX6_set_41 : decode cX6_set 41 = .ok (.aload_n 0, 1) := by decide +kernel
theorem dX6_set_42 : decode cX6_set 42 = .ok (.getfield 12, 3) := by decide +kernel
theorem dX6_set_45 : decode cX6_set 45 = .ok (.getfield 158, 3) := by decide +kernel
theorem dX6_set_48 : decode cX6_set 48 = .ok (.goto 10, 3) := by decide +kernel
theorem dX6_set_51 : decode cX6_set 51 = .ok (.aload_n 0, 1) := by decide +kernel
theorem dX6_set_52 : decode cX6_set 52 = .ok (.getfield 12, 3) := by decide +kernel
theorem dX6_set_55 : decode cX6_set 55 = .ok (.getfield 161, 3) := by decide +kernel
theorem dX6_set_58 : decode cX6_set 58 = .ok (.istore_n 3, 1) := by decide +kernel
theorem dX6_set_59 : decode cX6_set 59 = .ok (.iload_n 1, 1) := by decide +kernel
theorem dX6_set_60 : decode cX6_set 60 = .ok (.ifCond .eq 14, 3) := by decide +kernel
theorem dX6_set_63 : decode cX6_set 63 = .ok (.aload_n 0, 1) := by decide +kernel
theorem dX6_set_64 : decode cX6_set 64 = .ok (.getfield 12, 3) := by decide +kernel
theorem dX6_set_67 : decode cX6_set 67 = .ok (.iload_n 2, 1) := by decide +kernel
theorem dX6_set_68 : decode cX6_set 68 = .ok (.putfield 158, 3) := by decide +kernel
theorem dX6_set_71 : decode cX6_set 71 = .ok (.goto 11, 3) := by decide +kernel
theorem dX6_set_74 : decode cX6_set 74 = .ok (.aload_n 0, 1) := by decide +kernel
theorem dX6_set_75 : decode cX6_set 75 = .ok (.getfield 12, 3) := by decide +kernel
theorem dX6_set_78 : decode cX6_set 78 = .ok (.iload_n 2, 1) := by decide +kernel
theorem dX6_set_79 : decode cX6_set 79 = .ok (.putfield 161, 3) := by decide +kernel
theorem dX6_set_82 : decode cX6_set 82 = .ok (.iload_n 3, 1) := by decide +kernel
theorem dX6_set_83 : decode cX6_set 83 = .ok (.ireturn, 1) := by decide +kernel
theorem dX6_undo_0 : decode cX6_undo 0 = .ok (.aload_n 0, 1) := by decide +kernel
theorem dX6_undo_1 : decode cX6_undo 1 = .ok (.getfield 22, 3) := by decide +kernel
theorem dX6_undo_4 : decode cX6_undo 4 = .ok (.aload_n 0, 1) := by decide +kernel
theorem dX6_undo_5 : decode cX6_undo 5 = .ok (.getfield 12, 3) := by decide +kernel
theorem dX6_undo_8 : decode cX6_undo 8 = .ok (.invokevirtual 164, 3) := by decide +kernel
theorem dX6_undo_11 : decode cX6_undo 11 = .ok (.ifCond .eq 13, 3) := by decide +kernel
theorem dX6_undo_14 : decode cX6_undo 14 = .ok (.aload_n 0, 1) := by decide +kernel
theorem dX6_undo_15 : decode cX6_undo 15 = .ok (.getfield 22, 3) := by decide +kernel
theorem dX6_undo_18 : decode cX6_undo 18 = .ok (.getfield 168, 3) := by decide +kernel
theorem dX6_undo_21 : decode cX6_undo 21 = .ok (.goto 4, 3) := by decide +kernel
theorem dX6_undo_24 : decode cX6_undo 24 = .ok (.iconst (-1), 1) := by decide +kernel
theorem dX6_undo_25 : decode cX6_undo 25 = .ok (.ireturn, 1) := by decide +kernel
theorem dX6_keep_0 : decode cX6_keep 0 = .ok (.iload_n 1, 1) := by decide +kernel
theorem dX6_keep_1 : decode cX6_keep 1 = .ok (.ifCond .lt 16, 3) := by decide +kernel
theorem dX6_keep_4 : decode cX6_keep 4 = .ok (.iload_n 1, 1) := by decide +kernel
theorem dX6_keep_5 : decode cX6_keep 5 = .ok (.aload_n 0, 1) := by decide +kernel
theorem dX6_keep_6 : decode cX6_keep 6 = .ok (.getfield 26, 3) := by decide +kernel
theorem dX6_keep_9 : decode cX6_keep 9 = .ok (.arraylength, 1) := by decide +kernel
theorem dX6_keep_10 : decode cX6_keep 10 = .ok (.if_icmp .ge 7, 3) := by decide +kernel
theorem dX6_keep_13 : decode cX6_keep 13 = .ok (.iconst 1, 1) := by decide +kernel
theorem dX6_keep_14 : decode cX6_keep 14 = .ok (.goto 4, 3) := by decide +kernel
theorem dX6_keep_17 : decode cX6_keep 17 = .ok (.iconst 0, 1) := by decide +kernel
theorem dX6_keep_18 : decode cX6_keep 18 = .ok (.invokestatic 154, 3) := by decide +kernel
theorem dX6_keep_21 : decode cX6_keep 21 = .ok (.aload_n 0, 1) := by decide +kernel
theorem dX6_keep_22 : decode cX6_keep 22 = .ok (.getfield 26, 3) := by decide +kernel
theorem dX6_keep_25 : decode cX6_keep 25 = .ok (.iload_n 1, 1) := by decide +kernel
theorem dX6_keep_26 : decode cX6_keep 26 = .ok (.aaload, 1) := by decide +kernel
theorem dX6_keep_27 : decode cX6_keep 27 = .ok (.astore_n 2, 1) := by decide +kernel
theorem dX6_keep_28 : decode cX6_keep 28 = .ok (.aload_n 2, 1) := by decide +kernel
theorem dX6_keep_29 : decode cX6_keep 29 = .ok (.ifnonnull 18, 3) := by decide +kernel
theorem dX6_keep_32 : decode cX6_keep 32 = .ok (.new 9, 3) := by decide +kernel
theorem dX6_keep_35 : decode cX6_keep 35 = .ok (.dup, 1) := by decide +kernel
theorem dX6_keep_36 : decode cX6_keep 36 = .ok (.invokespecial 11, 3) := by decide +kernel
theorem dX6_keep_39 : decode cX6_keep 39 = .ok (.astore_n 2, 1) := by decide +kernel
theorem dX6_keep_40 : decode cX6_keep 40 = .ok (.aload_n 0, 1) := by decide +kernel
theorem dX6_keep_41 : decode cX6_keep 41 = .ok (.getfield 26, 3) := by decide +kernel
theorem dX6_keep_44 : decode cX6_keep 44 = .ok (.iload_n 1, 1) := by decide +kernel
theorem dX6_keep_45 : decode cX6_keep 45 = .ok (.aload_n 2, 1) := by decide +kernel
theorem dX6_keep_46 : decode cX6_keep 46 = .ok (.aastore, 1) := by decide +kernel
theorem dX6_keep_47 : decode cX6_keep 47 = .ok (.aload_n 2, 1) := by decide +kernel
theorem dX6_keep_48 : decode cX6_keep 48 = .ok (.aload_n 0, 1) := by decide +kernel
theorem dX6_keep_49 : decode cX6_keep 49 = .ok (.getfield 12, 3) := by decide +kernel
theorem dX6_keep_52 : decode cX6_keep 52 = .ok (.invokevirtual 84, 3) := by decide +kernel
theorem dX6_keep_55 : decode cX6_keep 55 = .ok (.aload_n 0, 1) := by decide +kernel
theorem dX6_keep_56 : decode cX6_keep 56 = .ok (.getfield 12, 3) := by decide +kernel
theorem dX6_keep_59 : decode cX6_keep 59 = .ok (.getfield 147, 3) := by decide +kernel
theorem dX6_keep_62 : decode cX6_keep 62 = .ok (.ireturn, 1) := by decide +kernel
theorem dX6_restore_0 : decode cX6_restore 0 = .ok (.iload_n 1, 1) := by decide +kernel
theorem dX6_restore_1 : decode cX6_restore 1 = .ok (.ifCond .lt 16, 3) := by decide +kernel
theorem dX6_restore_4 : decode cX6_restore 4 = .ok (.iload_n 1, 1) := by decide +kernel
theorem dX6_restore_5 : decode cX6_restore 5 = .ok (.aload_n 0, 1) := by decide +kernel
theorem dX6_restore_6 : decode cX6_restore 6 = .ok (.getfield 26, 3) := by decide +kernel
theorem dX6_restore_9 : decode cX6_restore 9 = .ok (.arraylength, 1) := by decide +kernel
theorem dX6_restore_10 : decode cX6_restore 10 = .ok (.if_icmp .ge 7, 3) := by decide +kernel
theorem dX6_restore_13 : decode cX6_restore 13 = .ok (.iconst 1, 1) := by decide +kernel
theorem dX6_restore_14 : decode cX6_restore 14 = .ok (.goto 4, 3) := by decide +kernel
theorem dX6_restore_17 : decode cX6_restore 17 = .ok (.iconst 0, 1) := by decide +kernel
theorem dX6_restore_18 : decode cX6_restore 18 = .ok (.invokestatic 154, 3) := by decide +kernel
theorem dX6_restore_21 : decode cX6_restore 21 = .ok (.aload_n 0, 1) := by decide +kernel
theorem dX6_restore_22 : decode cX6_restore 22 = .ok (.getfield 26, 3) := by decide +kernel
theorem dX6_restore_25 : decode cX6_restore 25 = .ok (.iload_n 1, 1) := by decide +kernel
theorem dX6_restore_26 : decode cX6_restore 26 = .ok (.aaload, 1) := by decide +kernel
theorem dX6_restore_27 : decode cX6_restore 27 = .ok (.astore_n 2, 1) := by decide +kernel
theorem dX6_restore_28 : decode cX6_restore 28 = .ok (.aload_n 2, 1) := by decide +kernel
theorem dX6_restore_29 : decode cX6_restore 29 = .ok (.ifnonnull 13, 3) := by decide +kernel
theorem dX6_restore_32 : decode cX6_restore 32 = .ok (.new 171, 3) := by decide +kernel
theorem dX6_restore_35 : decode cX6_restore 35 = .ok (.dup, 1) := by decide +kernel
theorem dX6_restore_36 : decode cX6_restore 36 = .ok (.ldc 173, 2) := by decide +kernel
theorem dX6_restore_38 : decode cX6_restore 38 = .ok (.invokespecial 175, 3) := by decide +kernel
theorem dX6_restore_41 : decode cX6_restore 41 = .ok (.athrow, 1) := by decide +kernel
theorem dX6_restore_42 : decode cX6_restore 42 = .ok (.aload_n 0, 1) := by decide +kernel
theorem dX6_restore_43 : decode cX6_restore 43 = .ok (.getfield 12, 3) := by decide +kernel
theorem dX6_restore_46 : decode cX6_restore 46 = .ok (.aload_n 2, 1) := by decide +kernel
theorem dX6_restore_47 : decode cX6_restore 47 = .ok (.invokevirtual 84, 3) := by decide +kernel
theorem dX6_restore_50 : decode cX6_restore 50 = .ok (.aload_n 0, 1) := by decide +kernel
theorem dX6_restore_51 : decode cX6_restore 51 = .ok (.getfield 22, 3) := by decide +kernel
theorem dX6_restore_54 : decode cX6_restore 54 = .ok (.invokevirtual 177, 3) := by decide +kernel
theorem dX6_restore_57 : decode cX6_restore 57 = .ok (.aload_n 0, 1) := by decide +kernel
theorem dX6_restore_58 : decode cX6_restore 58 = .ok (.getfield 12, 3) := by decide +kernel
theorem dX6_restore_61 : decode cX6_restore 61 = .ok (.getfield 147, 3) := by decide +kernel
theorem dX6_restore_64 : decode cX6_restore 64 = .ok (.ireturn, 1) := by decide +kernel
theorem dX6_append_0 : decode cX6_append 0 = .ok (.aload_n 0, 1) := by decide +kernel
theorem dX6_append_1 : decode cX6_append 1 = .ok (.getfield 33, 3) := by decide +kernel
theorem dX6_append_4 : decode cX6_append 4 = .ok (.getfield 180, 3) := by decide +kernel
theorem dX6_append_7 : decode cX6_append 7 = .ok (.bipush 20, 2) := by decide +kernel
theorem dX6_append_9 : decode cX6_append 9 = .ok (.iadd, 1) := by decide +kernel
theorem dX6_append_10 : decode cX6_append 10 = .ok (.sipush 500, 3) := by decide +kernel
theorem dX6_append_13 : decode cX6_append 13 = .ok (.if_icmp .le 6, 3) := by decide +kernel
theorem dX6_append_16 : decode cX6_append 16 = .ok (.bipush (-20), 2) := by decide +kernel
theorem dX6_append_18 : decode cX6_append 18 = .ok (.ireturn, 1) := by decide +kernel
theorem dX6_append_19 : decode cX6_append 19 = .ok (.aload_n 0, 1) := by decide +kernel
theorem dX6_append_20 : decode cX6_append 20 = .ok (.getfield 33, 3) := by decide +kernel
theorem dX6_append_23 : decode cX6_append 23 = .ok (.iload_n 1, 1) := by decide +kernel
theorem dX6_append_24 : decode cX6_append 24 = .ok (.invokevirtual 183, 3) := by decide +kernel
theorem dX6_append_27 : decode cX6_append 27 = .ok (.aload_n 0, 1) := by decide +kernel
theorem dX6_append_28 : decode cX6_append 28 = .ok (.getfield 33, 3) := by decide +kernel
theorem dX6_append_31 : decode cX6_append 31 = .ok (.iload_n 2, 1) := by decide +kernel
theorem dX6_append_32 : decode cX6_append 32 = .ok (.invokevirtual 183, 3) := by decide +kernel
theorem dX6_append_35 : decode cX6_append 35 = .ok (.aload_n 0, 1) := by decide +kernel
theorem dX6_append_36 : decode cX6_append 36 = .ok (.getfield 33, 3) := by decide +kernel
theorem dX6_append_39 : decode cX6_append 39 = .ok (.iload_n 3, 1) := by decide +kernel
theorem dX6_append_40 : decode cX6_append 40 = .ok (.invokevirtual 183, 3) := by decide +kernel
theorem dX6_append_43 : decode cX6_append 43 = .ok (.aload_n 0, 1) := by decide +kernel
theorem dX6_append_44 : decode cX6_append 44 = .ok (.getfield 33, 3) := by decide +kernel
theorem dX6_append_47 : decode cX6_append 47 = .ok (.iload 4, 2) := by decide +kernel
theorem dX6_append_49 : decode cX6_append 49 = .ok (.invokevirtual 183, 3) := by decide +kernel
theorem dX6_append_52 : decode cX6_append 52 = .ok (.aload_n 0, 1) := by decide +kernel
theorem dX6_append_53 : decode cX6_append 53 = .ok (.getfield 33, 3) := by decide +kernel
theorem dX6_append_56 : decode cX6_append 56 = .ok (.iload 5, 2) := by decide +kernel
theorem dX6_append_58 : decode cX6_append 58 = .ok (.invokevirtual 183, 3) := by decide +kernel
theorem dX6_append_61 : decode cX6_append 61 = .ok (.aload_n 0, 1) := by decide +kernel
theorem dX6_append_62 : decode cX6_append 62 = .ok (.getfield 33, 3) := by decide +kernel
theorem dX6_append_65 : decode cX6_append 65 = .ok (.getfield 180, 3) := by decide +kernel
theorem dX6_append_68 : decode cX6_append 68 = .ok (.ireturn, 1) := by decide +kernel
theorem dX6_truncate_0 : decode cX6_truncate 0 = .ok (.iload_n 1, 1) := by decide +kernel
theorem dX6_truncate_1 : decode cX6_truncate 1 = .ok (.iconst 0, 1) := by decide +kernel
theorem dX6_truncate_2 : decode cX6_truncate 2 = .ok (.aload_n 0, 1) := by decide +kernel
theorem dX6_truncate_3 : decode cX6_truncate 3 = .ok (.getfield 33, 3) := by decide +kernel
theorem dX6_truncate_6 : decode cX6_truncate 6 = .ok (.getfield 180, 3) := by decide +kernel
theorem dX6_truncate_9 : decode cX6_truncate 9 = .ok (.invokestatic 150, 3) := by decide +kernel
theorem dX6_truncate_12 : decode cX6_truncate 12 = .ok (.invokestatic 154, 3) := by decide +kernel
theorem dX6_truncate_15 : decode cX6_truncate 15 = .ok (.aload_n 0, 1) := by decide +kernel
theorem dX6_truncate_16 : decode cX6_truncate 16 = .ok (.getfield 33, 3) := by decide +kernel
theorem dX6_truncate_19 : decode cX6_truncate 19 = .ok (.iload_n 1, 1) := by decide +kernel
theorem dX6_truncate_20 : decode cX6_truncate 20 = .ok (.invokevirtual 68, 3) := by decide +kernel
theorem dX6_truncate_23 : decode cX6_truncate 23 = .ok (.iload_n 1, 1) := by decide +kernel
theorem dX6_truncate_24 : decode cX6_truncate 24 = .ok (.ireturn, 1) := by decide +kernel
theorem dX6_match_0 : decode cX6_match 0 = .ok (.iload_n 1, 1) := by decide +kernel
theorem dX6_match_1 : decode cX6_match 1 = .ok (.iconst 0, 1) := by decide +kernel
theorem dX6_match_2 : decode cX6_match 2 = .ok (.bipush 16, 2) := by decide +kernel
theorem dX6_match_4 : decode cX6_match 4 = .ok (.invokestatic 150, 3) := by decide +kernel
theorem dX6_match_7 : decode cX6_match 7 = .ok (.invokestatic 154, 3) := by decide +kernel
theorem dX6_match_10 : decode cX6_match 10 = .ok (.iload_n 1, 1) := by decide +kernel
theorem dX6_match_11 : decode cX6_match 11 = .ok (.tableswitch 231 0 15 #[77, 85, 93, 101, 109, 117, 133, 149, 165, 173, 181, 189, 198, 207, 215, 223], 77) := by decide +kernel
theorem dX6_match_88 : decode cX6_match 88 = .ok (.aload_n 0, 1) := by decide +kernel
theorem dX6_match_89 : decode cX6_match 89 = .ok (.getfield 12, 3) := by decide +kernel
theorem dX6_match_92 : decode cX6_match 92 = .ok (.getfield 87, 3) := by decide +kernel
theorem dX6_match_95 : decode cX6_match 95 = .ok (.ireturn, 1) := by decide +kernel
theorem dX6_match_96 : decode cX6_match 96 = .ok (.aload_n 0, 1) := by decide +kernel
theorem dX6_match_97 : decode cX6_match 97 = .ok (.getfield 12, 3) := by decide +kernel
theorem dX6_match_100 : decode cX6_match 100 = .ok (.getfield 161, 3) := by decide +kernel
theorem dX6_match_103 : decode cX6_match 103 = .ok (.ireturn, 1) := by decide +kernel
theorem dX6_match_104 : decode cX6_match 104 = .ok (.aload_n 0, 1) := by decide +kernel
theorem dX6_match_105 : decode cX6_match 105 = .ok (.getfield 12, 3) := by decide +kernel
theorem dX6_match_108 : decode cX6_match 108 = .ok (.getfield 158, 3) := by decide +kernel
theorem dX6_match_111 : decode cX6_match 111 = .ok (.ireturn, 1) := by decide +kernel
theorem dX6_match_112 : decode cX6_match 112 = .ok (.aload_n 0, 1) := by decide +kernel
theorem dX6_match_113 : decode cX6_match 113 = .ok (.getfield 12, 3) := by decide +kernel
theorem dX6_match_116 : decode cX6_match 116 = .ok (.getfield 147, 3) := by decide +kernel
theorem dX6_match_119 : decode cX6_match 119 = .ok (.ireturn, 1) := by decide +kernel
theorem dX6_match_120 : decode cX6_match 120 = .ok (.aload_n 0, 1) := by decide +kernel
theorem dX6_match_121 : decode cX6_match 121 = .ok (.getfield 12, 3) := by decide +kernel
theorem dX6_match_124 : decode cX6_match 124 = .ok (.getfield 99, 3) := by decide +kernel
theorem dX6_match_127 : decode cX6_match 127 = .ok (.ireturn, 1) := by decide +kernel
theorem dX6_match_128 : decode cX6_match 128 = .ok (.aload_n 0, 1) := by decide +kernel
theorem dX6_match_129 : decode cX6_match 129 = .ok (.getfield 12, 3) := by decide +kernel
theorem dX6_match_132 : decode cX6_match 132 = .ok (.getfield 186, 3) := by decide +kernel
theorem dX6_match_135 : decode cX6_match 135 = .ok (.ifCond .eq 7, 3) := by decide +kernel
theorem dX6_match_138 : decode cX6_match 138 = .ok (.iconst 1, 1) := by decide +kernel
theorem dX6_match_139 : decode cX6_match 139 = .ok (.goto 4, 3) := by decide +kernel
theorem dX6_match_142 : decode cX6_match 142 = .ok (.iconst 0, 1) := by decide +kernel
theorem dX6_match_143 : decode cX6_match 143 = .ok (.ireturn, 1) := by decide +kernel
theorem dX6_match_144 : decode cX6_match 144 = .ok (.aload_n 0, 1) := by decide +kernel
theorem dX6_match_145 : decode cX6_match 145 = .ok (.getfield 12, 3) := by decide +kernel
theorem dX6_match_148 : decode cX6_match 148 = .ok (.getfield 190, 3) := by decide +kernel
theorem dX6_match_151 : decode cX6_match 151 = .ok (.ifCond .eq 7, 3) := by decide +kernel
theorem dX6_match_154 : decode cX6_match 154 = .ok (.iconst 1, 1) := by decide +kernel
theorem dX6_match_155 : decode cX6_match 155 = .ok (.goto 4, 3) := by decide +kernel
theorem dX6_match_158 : decode cX6_match 158 = .ok (.iconst 0, 1) := by decide +kernel
theorem dX6_match_159 : decode cX6_match 159 = .ok (.ireturn, 1) := by decide +kernel
theorem dX6_match_160 : decode cX6_match 160 = .ok (.aload_n 0, 1) := by decide +kernel
theorem dX6_match_161 : decode cX6_match 161 = .ok (.getfield 12, 3) := by decide +kernel
theorem dX6_match_164 : decode cX6_match 164 = .ok (.invokevirtual 193, 3) := by decide +kernel
theorem dX6_match_167 : decode cX6_match 167 = .ok (.ifCond .eq 7, 3) := by decide +kernel
theorem dX6_match_170 : decode cX6_match 170 = .ok (.iconst 1, 1) := by decide +kernel
theorem dX6_match_171 : decode cX6_match 171 = .ok (.goto 4, 3) := by decide +kernel
theorem dX6_match_174 : decode cX6_match 174 = .ok (.iconst 0, 1) := by decide +kernel
theorem dX6_match_175 : decode cX6_match 175 = .ok (.ireturn, 1) := by decide +kernel
theorem dX6_match_176 : decode cX6_match 176 = .ok (.aload_n 0, 1) := by decide +kernel
theorem dX6_match_177 : decode cX6_match 177 = .ok (.getfield 12, 3) := by decide +kernel
theorem dX6_match_180 : decode cX6_match 180 = .ok (.invokevirtual 113, 3) := by decide +kernel
theorem dX6_match_183 : decode cX6_match 183 = .ok (.ireturn, 1) := by decide +kernel
theorem dX6_match_184 : decode cX6_match 184 = .ok (.aload_n 0, 1) := by decide +kernel
theorem dX6_match_185 : decode cX6_match 185 = .ok (.getfield 12, 3) := by decide +kernel
theorem dX6_match_188 : decode cX6_match 188 = .ok (.getfield 196, 3) := by decide +kernel
theorem dX6_match_191 : decode cX6_match 191 = .ok (.ireturn, 1) := by decide +kernel
theorem dX6_match_192 : decode cX6_match 192 = .ok (.aload_n 0, 1) := by decide +kernel
theorem dX6_match_193 : decode cX6_match 193 = .ok (.getfield 12, 3) := by decide +kernel
theorem dX6_match_196 : decode cX6_match 196 = .ok (.invokevirtual 199, 3) := by decide +kernel
theorem dX6_match_199 : decode cX6_match 199 = .ok (.ireturn, 1) := by decide +kernel
theorem dX6_match_200 : decode cX6_match 200 = .ok (.aload_n 0, 1) := by decide +kernel
theorem dX6_match_201 : decode cX6_match 201 = .ok (.getfield 12, 3) := by decide +kernel
theorem dX6_match_204 : decode cX6_match 204 = .ok (.iconst 0, 1) := by decide +kernel
theorem dX6_match_205 : decode cX6_match 205 = .ok (.invokevirtual 202, 3) := by decide +kernel
theorem dX6_match_208 : decode cX6_match 208 = .ok (.ireturn, 1) := by decide +kernel
theorem dX6_match_209 : decode cX6_match 209 = .ok (.aload_n 0, 1) := by decide +kernel
theorem dX6_match_210 : decode cX6_match 210 = .ok (.getfield 12, 3) := by decide +kernel
theorem dX6_match_213 : decode cX6_match 213 = .ok (.iconst 1, 1) := by decide +kernel
theorem dX6_match_214 : decode cX6_match 214 = .ok (.invokevirtual 202, 3) := by decide +kernel
theorem dX6_match_217 : decode cX6_match 217 = .ok (.ireturn, 1) := by decide +kernel
theorem dX6_match_218 : decode cX6_match 218 = .ok (.aload_n 0, 1) := by decide +kernel
theorem dX6_match_219 : decode cX6_match 219 = .ok (.getfield 12, 3) := by decide +kernel
theorem dX6_match_222 : decode cX6_match 222 = .ok (.getfield 205, 3) := by decide +kernel
theorem dX6_match_225 : decode cX6_match 225 = .ok (.ireturn, 1) := by decide +kernel
theorem dX6_match_226 : decode cX6_match 226 = .ok (.aload_n 0, 1) := by decide +kernel
theorem dX6_match_227 : decode cX6_match 227 = .ok (.getfield 12, 3) := by decide +kernel
theorem dX6_match_230 : decode cX6_match 230 = .ok (.getfield 208, 3) := by decide +kernel
theorem dX6_match_233 : decode cX6_match 233 = .ok (.ireturn, 1) := by decide +kernel
theorem dX6_match_234 : decode cX6_match 234 = .ok (.aload_n 0, 1) := by decide +kernel
theorem dX6_match_235 : decode cX6_match 235 = .ok (.getfield 22, 3) := by decide +kernel
theorem dX6_match_238 : decode cX6_match 238 = .ok (.getfield 168, 3) := by decide +kernel
theorem dX6_match_241 : decode cX6_match 241 = .ok (.ireturn, 1) := by decide +kernel
theorem dX6_match_242 : decode cX6_match 242 = .ok (.aload_n 0, 1) := by decide +kernel
theorem dX6_match_243 : decode cX6_match 243 = .ok (.getfield 33, 3) := by decide +kernel
theorem dX6_match_246 : decode cX6_match 246 = .ok (.getfield 180, 3) := by decide +kernel
theorem dX6_match_249 : decode cX6_match 249 = .ok (.ireturn, 1) := by decide +kernel
theorem dX6_number_0 : decode cX6_number 0 = .ok (.aload_n 0, 1) := by decide +kernel
theorem dX6_number_1 : decode cX6_number 1 = .ok (.getfield 12, 3) := by decide +kernel
theorem dX6_number_4 : decode cX6_number 4 = .ok (.getfield 211, 3) := by decide +kernel
theorem dX6_number_7 : decode cX6_number 7 = .ok (.lreturn, 1) := by decide +kernel
theorem dX6_player_0 : decode cX6_player 0 = .ok (.iload_n 1, 1) := by decide +kernel
theorem dX6_player_1 : decode cX6_player 1 = .ok (.invokestatic 215, 3) := by decide +kernel
theorem dX6_player_4 : decode cX6_player 4 = .ok (.ifCond .eq 17, 3) := by decide +kernel
theorem dX6_player_7 : decode cX6_player 7 = .ok (.iload_n 2, 1) := by decide +kernel
theorem dX6_player_8 : decode cX6_player 8 = .ok (.iconst 0, 1) := by decide +kernel
theorem dX6_player_9 : decode cX6_player 9 = .ok (.bipush 7, 2) := by decide +kernel
theorem dX6_player_11 : decode cX6_player 11 = .ok (.invokestatic 150, 3) := by decide +kernel
theorem dX6_player_14 : decode cX6_player 14 = .ok (.ifCond .eq 7, 3) := by decide +kernel
theorem dX6_player_17 : decode cX6_player 17 = .ok (.iconst 1, 1) := by decide +kernel
theorem dX6_player_18 : decode cX6_player 18 = .ok (.goto 4, 3) := by decide +kernel
theorem dX6_player_21 : decode cX6_player 21 = .ok (.iconst 0, 1) := by decide +kernel
theorem dX6_player_22 : decode cX6_player 22 = .ok (.invokestatic 154, 3) := by decide +kernel
theorem dX6_player_25 : decode cX6_player 25 = .ok (.aload_n 0, 1) := by decide +kernel
theorem dX6_player_26 : decode cX6_player 26 = .ok (.getfield 12, 3) := by decide +kernel
theorem dX6_player_29 : decode cX6_player 29 = .ok (.iload_n 1, 1) := by decide +kernel
theorem dX6_player_30 : decode cX6_player 30 = .ok (.invokevirtual 219, 3) := by decide +kernel
theorem dX6_player_33 : decode cX6_player 33 = .ok (.lstore_n 3, 1) := by decide +kernel
theorem dX6_player_34 : decode cX6_player 34 = .ok (.aload_n 0, 1) := by decide +kernel
theorem dX6_player_35 : decode cX6_player 35 = .ok (.getfield 40, 3) := by decide +kernel
theorem dX6_player_38 : decode cX6_player 38 = .ok (.lload_n 3, 1) := by decide +kernel
theorem dX6_player_39 : decode cX6_player 39 = .ok (.invokevirtual 222, 3) := by decide +kernel
theorem dX6_player_42 : decode cX6_player 42 = .ok (.iload_n 2, 1) := by decide +kernel
theorem dX6_player_43 : decode cX6_player 43 = .ok (.tableswitch 96 0 6 #[41, 46, 54, 62, 73, 82, 91], 41) := by decide +kernel
theorem dX6_player_84 : decode cX6_player 84 = .ok (.lload_n 3, 1) := by decide +kernel
theorem dX6_player_85 : decode cX6_player 85 = .ok (.invokestatic 226, 3) := by decide +kernel
theorem dX6_player_88 : decode cX6_player 88 = .ok (.ireturn, 1) := by decide +kernel
theorem dX6_player_89 : decode cX6_player 89 = .ok (.aload_n 0, 1) := by decide +kernel
theorem dX6_player_90 : decode cX6_player 90 = .ok (.getfield 40, 3) := by decide +kernel
theorem dX6_player_93 : decode cX6_player 93 = .ok (.getfield 232, 3) := by decide +kernel
theorem dX6_player_96 : decode cX6_player 96 = .ok (.ireturn, 1) := by decide +kernel
theorem dX6_player_97 : decode cX6_player 97 = .ok (.aload_n 0, 1) := by decide +kernel
theorem dX6_player_98 : decode cX6_player 98 = .ok (.getfield 40, 3) := by decide +kernel
theorem dX6_player_101 : decode cX6_player 101 = .ok (.getfield 235, 3) := by decide +kernel
theorem dX6_player_104 : decode cX6_player 104 = .ok (.ireturn, 1) := by decide +kernel
theorem dX6_player_105 : decode cX6_player 105 = .ok (.aload_n 0, 1) := by decide +kernel
theorem dX6_player_106 : decode cX6_player 106 = .ok (.getfield 40, 3) := by decide +kernel
theorem dX6_player_109 : decode cX6_player 109 = .ok (.getfield 238, 3) := by decide +kernel
theorem dX6_player_112 : decode cX6_player 112 = .ok (.invokestatic 226, 3) := by decide +kernel
theorem dX6_player_115 : decode cX6_player 115 = .ok (.ireturn, 1) := by decide +kernel
theorem dX6_player_116 : decode cX6_player 116 = .ok (.aload_n 0, 1) := by decide +kernel
theorem dX6_player_117 : decode cX6_player 117 = .ok (.getfield 40, 3) := by decide +kernel
theorem dX6_player_120 : decode cX6_player 120 = .ok (.iconst 1, 1) := by decide +kernel
theorem dX6_player_121 : decode cX6_player 121 = .ok (.invokevirtual 241, 3) := by decide +kernel
theorem dX6_player_124 : decode cX6_player 124 = .ok (.ireturn, 1) := by decide +kernel
theorem dX6_player_125 : decode cX6_player 125 = .ok (.aload_n 0, 1) := by decide +kernel
theorem dX6_player_126 : decode cX6_player 126 = .ok (.getfield 40, 3) := by decide +kernel
theorem dX6_player_129 : decode cX6_player 129 = .ok (.iconst 2, 1) := by decide +kernel
theorem dX6_player_130 : decode cX6_player 130 = .ok (.invokevirtual 241, 3) := by decide +kernel
theorem dX6_player_133 : decode cX6_player 133 = .ok (.ireturn, 1) := by decide +kernel
theorem dX6_player_134 : decode cX6_player 134 = .ok (.lload_n 3, 1) := by decide +kernel
theorem dX6_player_135 : decode cX6_player 135 = .ok (.invokestatic 244, 3) := by decide +kernel
theorem dX6_player_138 : decode cX6_player 138 = .ok (.ireturn, 1) := by decide +kernel
theorem dX6_player_139 : decode cX6_player 139 = .ok (.aload_n 0, 1) := by decide +kernel
theorem dX6_player_140 : decode cX6_player 140 = .ok (.getfield 40, 3) := by decide +kernel
theorem dX6_player_143 : decode cX6_player 143 = .ok (.invokevirtual 247, 3) := by decide +kernel
theorem dX6_player_146 : decode cX6_player 146 = .ok (.ireturn, 1) := by decide +kernel
theorem dX6_card_0 : decode cX6_card 0 = .ok (.iload_n 1, 1) := by decide +kernel
theorem dX6_card_1 : decode cX6_card 1 = .ok (.invokestatic 215, 3) := by decide +kernel
theorem dX6_card_4 : decode cX6_card 4 = .ok (.invokestatic 154, 3) := by decide +kernel
theorem dX6_card_7 : decode cX6_card 7 = .ok (.aload_n 0, 1) := by decide +kernel
theorem dX6_card_8 : decode cX6_card 8 = .ok (.getfield 12, 3) := by decide +kernel
theorem dX6_card_11 : decode cX6_card 11 = .ok (.iload_n 1, 1) := by decide +kernel
theorem dX6_card_12 : decode cX6_card 12 = .ok (.invokevirtual 219, 3) := by decide +kernel
theorem dX6_card_15 : decode cX6_card 15 = .ok (.lstore_n 3, 1) := by decide +kernel
theorem dX6_card_16 : decode cX6_card 16 = .ok (.iload_n 2, 1) := by decide +kernel
theorem dX6_card_17 : decode cX6_card 17 = .ok (.ifCond .lt 11, 3) := by decide +kernel
theorem dX6_card_20 : decode cX6_card 20 = .ok (.iload_n 2, 1) := by decide +kernel
theorem dX6_card_21 : decode cX6_card 21 = .ok (.lload_n 3, 1) := by decide +kernel
theorem dX6_card_22 : decode cX6_card 22 = .ok (.invokestatic 226, 3) := by decide +kernel
theorem dX6_card_25 : decode cX6_card 25 = .ok (.if_icmp .lt 5, 3) := by decide +kernel
theorem dX6_card_28 : decode cX6_card 28 = .ok (.iconst (-1), 1) := by decide +kernel
theorem dX6_card_29 : decode cX6_card 29 = .ok (.ireturn, 1) := by decide +kernel
theorem dX6_card_30 : decode cX6_card 30 = .ok (.iconst 0, 1) := by decide +kernel
theorem dX6_card_31 : decode cX6_card 31 = .ok (.istore 5, 2) := by decide +kernel
theorem dX6_card_33 : decode cX6_card 33 = .ok (.iload 5, 2) := by decide +kernel
theorem dX6_card_35 : decode cX6_card 35 = .ok (.iload_n 2, 1) := by decide +kernel
theorem dX6_card_36 : decode cX6_card 36 = .ok (.if_icmp .ge 22, 3) := by decide +kernel
theorem dX6_card_39 : decode cX6_card 39 = .ok (.iload 5, 2) := by decide +kernel
theorem dX6_card_41 : decode cX6_card 41 = .ok (.bipush 52, 2) := by decide +kernel
theorem dX6_card_43 : decode cX6_card 43 = .ok (.if_icmp .ge 15, 3) := by decide +kernel
theorem dX6_card_46 : decode cX6_card 46 = .ok (.lload_n 3, 1) := by decide +kernel
theorem dX6_card_47 : decode cX6_card 47 = .ok (.lload_n 3, 1) := by decide +kernel
theorem dX6_card_48 : decode cX6_card 48 = .ok (.lconst 1, 1) := by decide +kernel
theorem dX6_card_49 : decode cX6_card 49 = .ok (.lsub, 1) := by decide +kernel
theorem dX6_card_50 : decode cX6_card 50 = .ok (.land, 1) := by decide +kernel
theorem dX6_card_51 : decode cX6_card 51 = .ok (.lstore_n 3, 1) := by decide +kernel
theorem dX6_card_52 : decode cX6_card 52 = .ok (.iinc 5 1, 3) := by decide +kernel
theorem dX6_card_55 : decode cX6_card 55 = .ok (.goto (-22), 3) := by decide +kernel
theorem dX6_card_58 : decode cX6_card 58 = .ok (.lload_n 3, 1) := by decide +kernel
theorem dX6_card_59 : decode cX6_card 59 = .ok (.invokestatic 250, 3) := by decide +kernel
theorem dX6_card_62 : decode cX6_card 62 = .ok (.ireturn, 1) := by decide +kernel
theorem dX6_where_0 : decode cX6_where 0 = .ok (.iload_n 1, 1) := by decide +kernel
theorem dX6_where_1 : decode cX6_where 1 = .ok (.iconst 0, 1) := by decide +kernel
theorem dX6_where_2 : decode cX6_where 2 = .ok (.bipush 51, 2) := by decide +kernel
theorem dX6_where_4 : decode cX6_where 4 = .ok (.invokestatic 150, 3) := by decide +kernel
theorem dX6_where_7 : decode cX6_where 7 = .ok (.invokestatic 154, 3) := by decide +kernel
theorem dX6_where_10 : decode cX6_where 10 = .ok (.aload_n 0, 1) := by decide +kernel
theorem dX6_where_11 : decode cX6_where 11 = .ok (.getfield 12, 3) := by decide +kernel
theorem dX6_where_14 : decode cX6_where 14 = .ok (.iload_n 1, 1) := by decide +kernel
theorem dX6_where_15 : decode cX6_where 15 = .ok (.invokevirtual 253, 3) := by decide +kernel
theorem dX6_where_18 : decode cX6_where 18 = .ok (.ireturn, 1) := by decide +kernel
theorem dX6_meldOf_0 : decode cX6_meldOf 0 = .ok (.iload_n 1, 1) := by decide +kernel
theorem dX6_meldOf_1 : decode cX6_meldOf 1 = .ok (.invokestatic 215, 3) := by decide +kernel
theorem dX6_meldOf_4 : decode cX6_meldOf 4 = .ok (.invokestatic 154, 3) := by decide +kernel
theorem dX6_meldOf_7 : decode cX6_meldOf 7 = .ok (.aload_n 0, 1) := by decide +kernel
theorem dX6_meldOf_8 : decode cX6_meldOf 8 = .ok (.iload_n 1, 1) := by decide +kernel
theorem dX6_meldOf_9 : decode cX6_meldOf 9 = .ok (.iload_n 2, 1) := by decide +kernel
theorem dX6_meldOf_10 : decode cX6_meldOf 10 = .ok (.invokevirtual 102, 3) := by decide +kernel
theorem dX6_meldOf_13 : decode cX6_meldOf 13 = .ok (.aload_n 0, 1) := by decide +kernel
theorem dX6_meldOf_14 : decode cX6_meldOf 14 = .ok (.getfield 40, 3) := by decide +kernel
theorem dX6_meldOf_17 : decode cX6_meldOf 17 = .ok (.aload_n 0, 1) := by decide +kernel
theorem dX6_meldOf_18 : decode cX6_meldOf 18 = .ok (.getfield 12, 3) := by decide +kernel
theorem dX6_meldOf_21 : decode cX6_meldOf 21 = .ok (.iload_n 1, 1) := by decide +kernel
theorem dX6_meldOf_22 : decode cX6_meldOf 22 = .ok (.invokevirtual 219, 3) := by decide +kernel
theorem dX6_meldOf_25 : decode cX6_meldOf 25 = .ok (.invokevirtual 222, 3) := by decide +kernel
theorem dX6_meldOf_28 : decode cX6_meldOf 28 = .ok (.aload_n 0, 1) := by decide +kernel
theorem dX6_meldOf_29 : decode cX6_meldOf 29 = .ok (.getfield 40, 3) := by decide +kernel
theorem dX6_meldOf_32 : decode cX6_meldOf 32 = .ok (.iload_n 2, 1) := by decide +kernel
theorem dX6_meldOf_33 : decode cX6_meldOf 33 = .ok (.invokevirtual 256, 3) := by decide +kernel
theorem dX6_meldOf_36 : decode cX6_meldOf 36 = .ok (.ireturn, 1) := by decide +kernel
theorem dX6_meld_0 : decode cX6_meld 0 = .ok (.iload_n 1, 1) := by decide +kernel
theorem dX6_meld_1 : decode cX6_meld 1 = .ok (.invokestatic 215, 3) := by decide +kernel
theorem dX6_meld_4 : decode cX6_meld 4 = .ok (.ifCond .eq 16, 3) := by decide +kernel
theorem dX6_meld_7 : decode cX6_meld 7 = .ok (.iload_n 3, 1) := by decide +kernel
theorem dX6_meld_8 : decode cX6_meld 8 = .ok (.iconst 0, 1) := by decide +kernel
theorem dX6_meld_9 : decode cX6_meld 9 = .ok (.iconst 3, 1) := by decide +kernel
theorem dX6_meld_10 : decode cX6_meld 10 = .ok (.invokestatic 150, 3) := by decide +kernel
theorem dX6_meld_13 : decode cX6_meld 13 = .ok (.ifCond .eq 7, 3) := by decide +kernel
theorem dX6_meld_16 : decode cX6_meld 16 = .ok (.iconst 1, 1) := by decide +kernel
theorem dX6_meld_17 : decode cX6_meld 17 = .ok (.goto 4, 3) := by decide +kernel
theorem dX6_meld_20 : decode cX6_meld 20 = .ok (.iconst 0, 1) := by decide +kernel
theorem dX6_meld_21 : decode cX6_meld 21 = .ok (.invokestatic 154, 3) := by decide +kernel
theorem dX6_meld_24 : decode cX6_meld 24 = .ok (.aload_n 0, 1) := by decide +kernel
theorem dX6_meld_25 : decode cX6_meld 25 = .ok (.getfield 40, 3) := by decide +kernel
theorem dX6_meld_28 : decode cX6_meld 28 = .ok (.aload_n 0, 1) := by decide +kernel
theorem dX6_meld_29 : decode cX6_meld 29 = .ok (.getfield 12, 3) := by decide +kernel
theorem dX6_meld_32 : decode cX6_meld 32 = .ok (.iload_n 1, 1) := by decide +kernel
theorem dX6_meld_33 : decode cX6_meld 33 = .ok (.invokevirtual 219, 3) := by decide +kernel
theorem dX6_meld_36 : decode cX6_meld 36 = .ok (.invokevirtual 222, 3) := by decide +kernel
theorem dX6_meld_39 : decode cX6_meld 39 = .ok (.iload_n 2, 1) := by decide +kernel
theorem dX6_meld_40 : decode cX6_meld 40 = .ok (.ifCond .lt 14, 3) := by decide +kernel
theorem dX6_meld_43 : decode cX6_meld 43 = .ok (.iload_n 2, 1) := by decide +kernel
theorem dX6_meld_44 : decode cX6_meld 44 = .ok (.aload_n 0, 1) := by decide +kernel
theorem dX6_meld_45 : decode cX6_meld 45 = .ok (.getfield 40, 3) := by decide +kernel
theorem dX6_meld_48 : decode cX6_meld 48 = .ok (.getfield 235, 3) := by decide +kernel
theorem dX6_meld_51 : decode cX6_meld 51 = .ok (.if_icmp .lt 5, 3) := by decide +kernel
theorem dX6_meld_54 : decode cX6_meld 54 = .ok (.iconst (-1), 1) := by decide +kernel
theorem dX6_meld_55 : decode cX6_meld 55 = .ok (.ireturn, 1) := by decide +kernel
theorem dX6_meld_56 : decode cX6_meld 56 = .ok (.aload_n 0, 1) := by decide +kernel
theorem dX6_meld_57 : decode cX6_meld 57 = .ok (.getfield 40, 3) := by decide +kernel
theorem dX6_meld_60 : decode cX6_meld 60 = .ok (.iload_n 2, 1) := by decide +kernel
theorem dX6_meld_61 : decode cX6_meld 61 = .ok (.invokevirtual 259, 3) := by decide +kernel
theorem dX6_meld_64 : decode cX6_meld 64 = .ok (.lstore 4, 2) := by decide +kernel
theorem dX6_meld_66 : decode cX6_meld 66 = .ok (.lload 4, 2) := by decide +kernel
theorem dX6_meld_68 : decode cX6_meld 68 = .ok (.invokestatic 262, 3) := by decide +kernel
theorem dX6_meld_71 : decode cX6_meld 71 = .ok (.iconst 2, 1) := by decide +kernel
theorem dX6_meld_72 : decode cX6_meld 72 = .ok (.if_icmp .ne 7, 3) := by decide +kernel
theorem dX6_meld_75 : decode cX6_meld 75 = .ok (.iconst 1, 1) := by decide +kernel
theorem dX6_meld_76 : decode cX6_meld 76 = .ok (.goto 4, 3) := by decide +kernel
theorem dX6_meld_79 : decode cX6_meld 79 = .ok (.iconst 0, 1) := by decide +kernel
theorem dX6_meld_80 : decode cX6_meld 80 = .ok (.istore 6, 2) := by decide +kernel
theorem dX6_meld_82 : decode cX6_meld 82 = .ok (.iload_n 3, 1) := by decide +kernel
theorem dX6_meld_83 : decode cX6_meld 83 = .ok (.tableswitch 64 0 2 #[25, 31, 42], 25) := by decide +kernel
theorem dX6_meld_108 : decode cX6_meld 108 = .ok (.lload 4, 2) := by decide +kernel
theorem dX6_meld_110 : decode cX6_meld 110 = .ok (.invokestatic 226, 3) := by decide +kernel
theorem dX6_meld_113 : decode cX6_meld 113 = .ok (.ireturn, 1) := by decide +kernel
theorem dX6_meld_114 : decode cX6_meld 114 = .ok (.iload 6, 2) := by decide +kernel
theorem dX6_meld_116 : decode cX6_meld 116 = .ok (.ifCond .eq 7, 3) := by decide +kernel
theorem dX6_meld_119 : decode cX6_meld 119 = .ok (.iconst 1, 1) := by decide +kernel
theorem dX6_meld_120 : decode cX6_meld 120 = .ok (.goto 4, 3) := by decide +kernel
theorem dX6_meld_123 : decode cX6_meld 123 = .ok (.iconst 0, 1) := by decide +kernel
theorem dX6_meld_124 : decode cX6_meld 124 = .ok (.ireturn, 1) := by decide +kernel
theorem dX6_meld_125 : decode cX6_meld 125 = .ok (.iload 6, 2) := by decide +kernel
theorem dX6_meld_127 : decode cX6_meld 127 = .ok (.ifCond .eq 11, 3) := by decide +kernel
theorem dX6_meld_130 : decode cX6_meld 130 = .ok (.lload 4, 2) := by decide +kernel
theorem dX6_meld_132 : decode cX6_meld 132 = .ok (.invokestatic 265, 3) := by decide +kernel
theorem dX6_meld_135 : decode cX6_meld 135 = .ok (.goto 11, 3) := by decide +kernel
theorem dX6_meld_138 : decode cX6_meld 138 = .ok (.lload 4, 2) := by decide +kernel
theorem dX6_meld_140 : decode cX6_meld 140 = .ok (.invokestatic 250, 3) := by decide +kernel
theorem dX6_meld_143 : decode cX6_meld 143 = .ok (.bipush 13, 2) := by decide +kernel
theorem dX6_meld_145 : decode cX6_meld 145 = .ok (.irem, 1) := by decide +kernel
theorem dX6_meld_146 : decode cX6_meld 146 = .ok (.ireturn, 1) := by decide +kernel
theorem dX6_meld_147 : decode cX6_meld 147 = .ok (.lload 4, 2) := by decide +kernel
theorem dX6_meld_149 : decode cX6_meld 149 = .ok (.invokestatic 244, 3) := by decide +kernel
theorem dX6_meld_152 : decode cX6_meld 152 = .ok (.ireturn, 1) := by decide +kernel
theorem dX6_restWithout_0 : decode cX6_restWithout 0 = .ok (.aload_n 0, 1) := by decide +kernel
theorem dX6_restWithout_1 : decode cX6_restWithout 1 = .ok (.aload_n 0, 1) := by decide +kernel
theorem dX6_restWithout_2 : decode cX6_restWithout 2 = .ok (.getfield 12, 3) := by decide +kernel
theorem dX6_restWithout_5 : decode cX6_restWithout 5 = .ok (.getfield 99, 3) := by decide +kernel
theorem dX6_restWithout_8 : decode cX6_restWithout 8 = .ok (.iload_n 1, 1) := by decide +kernel
theorem dX6_restWithout_9 : decode cX6_restWithout 9 = .ok (.invokevirtual 102, 3) := by decide +kernel
theorem dX6_restWithout_12 : decode cX6_restWithout 12 = .ok (.aload_n 0, 1) := by decide +kernel
theorem dX6_restWithout_13 : decode cX6_restWithout 13 = .ok (.getfield 40, 3) := by decide +kernel
theorem dX6_restWithout_16 : decode cX6_restWithout 16 = .ok (.aload_n 0, 1) := by decide +kernel
theorem dX6_restWithout_17 : decode cX6_restWithout 17 = .ok (.getfield 12, 3) := by decide +kernel
theorem dX6_restWithout_20 : decode cX6_restWithout 20 = .ok (.iload_n 1, 1) := by decide +kernel
theorem dX6_restWithout_21 : decode cX6_restWithout 21 = .ok (.invokevirtual 116, 3) := by decide +kernel
theorem dX6_restWithout_24 : decode cX6_restWithout 24 = .ok (.invokevirtual 222, 3) := by decide +kernel
theorem dX6_restWithout_27 : decode cX6_restWithout 27 = .ok (.aload_n 0, 1) := by decide +kernel
theorem dX6_restWithout_28 : decode cX6_restWithout 28 = .ok (.getfield 40, 3) := by decide +kernel
theorem dX6_restWithout_31 : decode cX6_restWithout 31 = .ok (.getfield 232, 3) := by decide +kernel
theorem dX6_restWithout_34 : decode cX6_restWithout 34 = .ok (.ireturn, 1) := by decide +kernel
theorem dX6_bestDrop_0 : decode cX6_bestDrop 0 = .ok (.aload_n 0, 1) := by decide +kernel
theorem dX6_bestDrop_1 : decode cX6_bestDrop 1 = .ok (.getfield 12, 3) := by decide +kernel
theorem dX6_bestDrop_4 : decode cX6_bestDrop 4 = .ok (.invokevirtual 268, 3) := by decide +kernel
theorem dX6_bestDrop_7 : decode cX6_bestDrop 7 = .ok (.ifCond .ne 5, 3) := by decide +kernel
theorem dX6_bestDrop_10 : decode cX6_bestDrop 10 = .ok (.iconst (-1), 1) := by decide +kernel
theorem dX6_bestDrop_11 : decode cX6_bestDrop 11 = .ok (.ireturn, 1) := by decide +kernel
theorem dX6_bestDrop_12 : decode cX6_bestDrop 12 = .ok (.iconst (-1), 1) := by decide +kernel
theorem dX6_bestDrop_13 : decode cX6_bestDrop 13 = .ok (.istore_n 1, 1) := by decide +kernel
theorem dX6_bestDrop_14 : decode cX6_bestDrop 14 = .ok (.iconst 0, 1) := by decide +kernel
theorem dX6_bestDrop_15 : decode cX6_bestDrop 15 = .ok (.istore_n 2, 1) := by decide +kernel
theorem dX6_bestDrop_16 : decode cX6_bestDrop 16 = .ok (.iconst 0, 1) := by decide +kernel
theorem dX6_bestDrop_17 : decode cX6_bestDrop 17 = .ok (.istore_n 3, 1) := by decide +kernel
theorem dX6_bestDrop_18 : decode cX6_bestDrop 18 = .ok (.iload_n 3, 1) := by decide +kernel
theorem dX6_bestDrop_19 : decode cX6_bestDrop 19 = .ok (.bipush 52, 2) := by decide +kernel
theorem dX6_bestDrop_21 : decode cX6_bestDrop 21 = .ok (.if_icmp .ge 119, 3) := by decide +kernel
theorem dX6_bestDrop_24 : decode cX6_bestDrop 24 = .ok (.aload_n 0, 1) := by decide +kernel
theorem dX6_bestDrop_25 : decode cX6_bestDrop 25 = .ok (.getfield 12, 3) := by decide +kernel
theorem dX6_bestDrop_28 : decode cX6_bestDrop 28 = .ok (.aload_n 0, 1) := by decide +kernel
theorem dX6_bestDrop_29 : decode cX6_bestDrop 29 = .ok (.getfield 12, 3) := by decide +kernel
theorem dX6_bestDrop_32 : decode cX6_bestDrop 32 = .ok (.getfield 99, 3) := by decide +kernel
theorem dX6_bestDrop_35 : decode cX6_bestDrop 35 = .ok (.invokevirtual 219, 3) := by decide +kernel
theorem dX6_bestDrop_38 : decode cX6_bestDrop 38 = .ok (.iload_n 3, 1) := by decide +kernel
theorem dX6_bestDrop_39 : decode cX6_bestDrop 39 = .ok (.invokestatic 271, 3) := by decide +kernel
theorem dX6_bestDrop_42 : decode cX6_bestDrop 42 = .ok (.ifCond .eq 92, 3) := by decide +kernel
theorem dX6_bestDrop_45 : decode cX6_bestDrop 45 = .ok (.iload_n 3, 1) := by decide +kernel
theorem dX6_bestDrop_46 : decode cX6_bestDrop 46 = .ok (.aload_n 0, 1) := by decide +kernel
theorem dX6_bestDrop_47 : decode cX6_bestDrop 47 = .ok (.getfield 12, 3) := by decide +kernel
theorem dX6_bestDrop_50 : decode cX6_bestDrop 50 = .ok (.getfield 275, 3) := by decide +kernel
theorem dX6_bestDrop_53 : decode cX6_bestDrop 53 = .ok (.if_icmp .ne 6, 3) := by decide +kernel
theorem dX6_bestDrop_56 : decode cX6_bestDrop 56 = .ok (.goto 78, 3) := by decide +kernel
theorem dX6_bestDrop_59 : decode cX6_bestDrop 59 = .ok (.aload_n 0, 1) := by decide +kernel
theorem dX6_bestDrop_60 : decode cX6_bestDrop 60 = .ok (.getfield 40, 3) := by decide +kernel
theorem dX6_bestDrop_63 : decode cX6_bestDrop 63 = .ok (.aload_n 0, 1) := by decide +kernel
theorem dX6_bestDrop_64 : decode cX6_bestDrop 64 = .ok (.getfield 12, 3) := by decide +kernel
theorem dX6_bestDrop_67 : decode cX6_bestDrop 67 = .ok (.iload_n 3, 1) := by decide +kernel
theorem dX6_bestDrop_68 : decode cX6_bestDrop 68 = .ok (.invokevirtual 116, 3) := by decide +kernel
theorem dX6_bestDrop_71 : decode cX6_bestDrop 71 = .ok (.invokevirtual 222, 3) := by decide +kernel
theorem dX6_bestDrop_74 : decode cX6_bestDrop 74 = .ok (.aload_n 0, 1) := by decide +kernel
theorem dX6_bestDrop_75 : decode cX6_bestDrop 75 = .ok (.getfield 40, 3) := by decide +kernel
theorem dX6_bestDrop_78 : decode cX6_bestDrop 78 = .ok (.getfield 232, 3) := by decide +kernel
theorem dX6_bestDrop_81 : decode cX6_bestDrop 81 = .ok (.iload_n 2, 1) := by decide +kernel
theorem dX6_bestDrop_82 : decode cX6_bestDrop 82 = .ok (.if_icmp .lt 25, 3) := by decide +kernel
theorem dX6_bestDrop_85 : decode cX6_bestDrop 85 = .ok (.aload_n 0, 1) := by decide +kernel
theorem dX6_bestDrop_86 : decode cX6_bestDrop 86 = .ok (.getfield 40, 3) := by decide +kernel
theorem dX6_bestDrop_89 : decode cX6_bestDrop 89 = .ok (.getfield 232, 3) := by decide +kernel
theorem dX6_bestDrop_92 : decode cX6_bestDrop 92 = .ok (.iload_n 2, 1) := by decide +kernel
theorem dX6_bestDrop_93 : decode cX6_bestDrop 93 = .ok (.if_icmp .ne 18, 3) := by decide +kernel
theorem dX6_bestDrop_96 : decode cX6_bestDrop 96 = .ok (.iload_n 3, 1) := by decide +kernel
theorem dX6_bestDrop_97 : decode cX6_bestDrop 97 = .ok (.invokestatic 278, 3) := by decide +kernel
theorem dX6_bestDrop_100 : decode cX6_bestDrop 100 = .ok (.iload_n 1, 1) := by decide +kernel
theorem dX6_bestDrop_101 : decode cX6_bestDrop 101 = .ok (.invokestatic 278, 3) := by decide +kernel
theorem dX6_bestDrop_104 : decode cX6_bestDrop 104 = .ok (.if_icmp .le 7, 3) := by decide +kernel
theorem dX6_bestDrop_107 : decode cX6_bestDrop 107 = .ok (.iconst 1, 1) := by decide +kernel
theorem dX6_bestDrop_108 : decode cX6_bestDrop 108 = .ok (.goto 4, 3) := by decide +kernel
theorem dX6_bestDrop_111 : decode cX6_bestDrop 111 = .ok (.iconst 0, 1) := by decide +kernel
theorem dX6_bestDrop_112 : decode cX6_bestDrop 112 = .ok (.istore 4, 2) := by decide +kernel
theorem dX6_bestDrop_114 : decode cX6_bestDrop 114 = .ok (.iload_n 1, 1) := by decide +kernel
theorem dX6_bestDrop_115 : decode cX6_bestDrop 115 = .ok (.iconst (-1), 1) := by decide +kernel
theorem dX6_bestDrop_116 : decode cX6_bestDrop 116 = .ok (.if_icmp .eq 8, 3) := by decide +kernel
theorem dX6_bestDrop_119 : decode cX6_bestDrop 119 = .ok (.iload 4, 2) := by decide +kernel
theorem dX6_bestDrop_121 : decode cX6_bestDrop 121 = .ok (.ifCond .eq 13, 3) := by decide +kernel
theorem dX6_bestDrop_124 : decode cX6_bestDrop 124 = .ok (.iload_n 3, 1) := by decide +kernel
theorem dX6_bestDrop_125 : decode cX6_bestDrop 125 = .ok (.istore_n 1, 1) := by decide +kernel
theorem dX6_bestDrop_126 : decode cX6_bestDrop 126 = .ok (.aload_n 0, 1) := by decide +kernel
theorem dX6_bestDrop_127 : decode cX6_bestDrop 127 = .ok (.getfield 40, 3) := by decide +kernel
theorem dX6_bestDrop_130 : decode cX6_bestDrop 130 = .ok (.getfield 232, 3) := by decide +kernel
theorem dX6_bestDrop_133 : decode cX6_bestDrop 133 = .ok (.istore_n 2, 1) := by decide +kernel
theorem dX6_bestDrop_134 : decode cX6_bestDrop 134 = .ok (.iinc 3 1, 3) := by decide +kernel
theorem dX6_bestDrop_137 : decode cX6_bestDrop 137 = .ok (.goto (-119), 3) := by decide +kernel
theorem dX6_bestDrop_140 : decode cX6_bestDrop 140 = .ok (.iload_n 1, 1) := by decide +kernel
theorem dX6_bestDrop_141 : decode cX6_bestDrop 141 = .ok (.ireturn, 1) := by decide +kernel
theorem dX6_restByPile_0 : decode cX6_restByPile 0 = .ok (.aload_n 0, 1) := by decide +kernel
theorem dX6_restByPile_1 : decode cX6_restByPile 1 = .ok (.getfield 12, 3) := by decide +kernel
theorem dX6_restByPile_4 : decode cX6_restByPile 4 = .ok (.invokevirtual 199, 3) := by decide +kernel
theorem dX6_restByPile_7 : decode cX6_restByPile 7 = .ok (.istore_n 1, 1) := by decide +kernel
theorem dX6_restByPile_8 : decode cX6_restByPile 8 = .ok (.aload_n 0, 1) := by decide +kernel
theorem dX6_restByPile_9 : decode cX6_restByPile 9 = .ok (.getfield 12, 3) := by decide +kernel
theorem dX6_restByPile_12 : decode cX6_restByPile 12 = .ok (.getfield 186, 3) := by decide +kernel
theorem dX6_restByPile_15 : decode cX6_restByPile 15 = .ok (.ifCond .ne 18, 3) := by decide +kernel
theorem dX6_restByPile_18 : decode cX6_restByPile 18 = .ok (.aload_n 0, 1) := by decide +kernel
theorem dX6_restByPile_19 : decode cX6_restByPile 19 = .ok (.getfield 12, 3) := by decide +kernel
theorem dX6_restByPile_22 : decode cX6_restByPile 22 = .ok (.getfield 190, 3) := by decide +kernel
theorem dX6_restByPile_25 : decode cX6_restByPile 25 = .ok (.ifCond .ne 8, 3) := by decide +kernel
theorem dX6_restByPile_28 : decode cX6_restByPile 28 = .ok (.iload_n 1, 1) := by decide +kernel
theorem dX6_restByPile_29 : decode cX6_restByPile 29 = .ok (.iconst (-1), 1) := by decide +kernel
theorem dX6_restByPile_30 : decode cX6_restByPile 30 = .ok (.if_icmp .ne 5, 3) := by decide +kernel
theorem dX6_restByPile_33 : decode cX6_restByPile 33 = .ok (.iconst (-1), 1) := by decide +kernel
theorem dX6_restByPile_34 : decode cX6_restByPile 34 = .ok (.ireturn, 1) := by decide +kernel
theorem dX6_restByPile_35 : decode cX6_restByPile 35 = .ok (.aload_n 0, 1) := by decide +kernel
theorem dX6_restByPile_36 : decode cX6_restByPile 36 = .ok (.getfield 40, 3) := by decide +kernel
theorem dX6_restByPile_39 : decode cX6_restByPile 39 = .ok (.aload_n 0, 1) := by decide +kernel
theorem dX6_restByPile_40 : decode cX6_restByPile 40 = .ok (.getfield 12, 3) := by decide +kernel
theorem dX6_restByPile_43 : decode cX6_restByPile 43 = .ok (.aload_n 0, 1) := by decide +kernel
theorem dX6_restByPile_44 : decode cX6_restByPile 44 = .ok (.getfield 12, 3) := by decide +kernel
theorem dX6_restByPile_47 : decode cX6_restByPile 47 = .ok (.getfield 99, 3) := by decide +kernel
theorem dX6_restByPile_50 : decode cX6_restByPile 50 = .ok (.invokevirtual 219, 3) := by decide +kernel
theorem dX6_restByPile_53 : decode cX6_restByPile 53 = .ok (.iload_n 1, 1) := by decide +kernel
theorem dX6_restByPile_54 : decode cX6_restByPile 54 = .ok (.invokestatic 281, 3) := by decide +kernel
theorem dX6_restByPile_57 : decode cX6_restByPile 57 = .ok (.lor, 1) := by decide +kernel
theorem dX6_restByPile_58 : decode cX6_restByPile 58 = .ok (.iload_n 1, 1) := by decide +kernel
theorem dX6_restByPile_59 : decode cX6_restByPile 59 = .ok (.invokevirtual 284, 3) := by decide +kernel
theorem dX6_restByPile_62 : decode cX6_restByPile 62 = .ok (.ireturn, 1) := by decide +kernel
theorem dX6_helping_0 : decode cX6_helping 0 = .ok (.iload_n 1, 1) := by decide +kernel
theorem dX6_helping_1 : decode cX6_helping 1 = .ok (.invokestatic 215, 3) := by decide +kernel
theorem dX6_helping_4 : decode cX6_helping 4 = .ok (.invokestatic 154, 3) := by decide +kernel
theorem dX6_helping_7 : decode cX6_helping 7 = .ok (.aload_n 0, 1) := by decide +kernel
theorem dX6_helping_8 : decode cX6_helping 8 = .ok (.getfield 12, 3) := by decide +kernel
theorem dX6_helping_11 : decode cX6_helping 11 = .ok (.iload_n 1, 1) := by decide +kernel
theorem dX6_helping_12 : decode cX6_helping 12 = .ok (.invokevirtual 219, 3) := by decide +kernel
theorem dX6_helping_15 : decode cX6_helping 15 = .ok (.lstore_n 2, 1) := by decide +kernel
theorem dX6_helping_16 : decode cX6_helping 16 = .ok (.lload_n 2, 1) := by decide +kernel
theorem dX6_helping_17 : decode cX6_helping 17 = .ok (.invokestatic 226, 3) := by decide +kernel
theorem dX6_helping_20 : decode cX6_helping 20 = .ok (.aload_n 0, 1) := by decide +kernel
theorem dX6_helping_21 : decode cX6_helping 21 = .ok (.getfield 12, 3) := by decide +kernel
theorem dX6_helping_24 : decode cX6_helping 24 = .ok (.getfield 87, 3) := by decide +kernel
theorem dX6_helping_27 : decode cX6_helping 27 = .ok (.if_icmp .eq 5, 3) := by decide +kernel
theorem dX6_helping_30 : decode cX6_helping 30 = .ok (.iconst (-1), 1) := by decide +kernel
theorem dX6_helping_31 : decode cX6_helping 31 = .ok (.ireturn, 1) := by decide +kernel
theorem dX6_helping_32 : decode cX6_helping 32 = .ok (.aload_n 0, 1) := by decide +kernel
theorem dX6_helping_33 : decode cX6_helping 33 = .ok (.getfield 40, 3) := by decide +kernel
theorem dX6_helping_36 : decode cX6_helping 36 = .ok (.lload_n 2, 1) := by decide +kernel
theorem dX6_helping_37 : decode cX6_helping 37 = .ok (.invokevirtual 222, 3) := by decide +kernel
theorem dX6_helping_40 : decode cX6_helping 40 = .ok (.aload_n 0, 1) := by decide +kernel
theorem dX6_helping_41 : decode cX6_helping 41 = .ok (.getfield 40, 3) := by decide +kernel
theorem dX6_helping_44 : decode cX6_helping 44 = .ok (.getfield 232, 3) := by decide +kernel
theorem dX6_helping_47 : decode cX6_helping 47 = .ok (.istore 4, 2) := by decide +kernel
theorem dX6_helping_49 : decode cX6_helping 49 = .ok (.iconst 0, 1) := by decide +kernel
theorem dX6_helping_50 : decode cX6_helping 50 = .ok (.istore 5, 2) := by decide +kernel
theorem dX6_helping_52 : decode cX6_helping 52 = .ok (.iconst 0, 1) := by decide +kernel
theorem dX6_helping_53 : decode cX6_helping 53 = .ok (.istore 6, 2) := by decide +kernel
theorem dX6_helping_55 : decode cX6_helping 55 = .ok (.iload 6, 2) := by decide +kernel
theorem dX6_helping_57 : decode cX6_helping 57 = .ok (.bipush 52, 2) := by decide +kernel
theorem dX6_helping_59 : decode cX6_helping 59 = .ok (.if_icmp .ge 42, 3) := by decide +kernel
theorem dX6_helping_62 : decode cX6_helping 62 = .ok (.lload_n 2, 1) := by decide +kernel
theorem dX6_helping_63 : decode cX6_helping 63 = .ok (.iload 6, 2) := by decide +kernel
theorem dX6_helping_65 : decode cX6_helping 65 = .ok (.invokestatic 271, 3) := by decide +kernel
theorem dX6_helping_68 : decode cX6_helping 68 = .ok (.ifCond .ne 27, 3) := by decide +kernel
theorem dX6_helping_71 : decode cX6_helping 71 = .ok (.aload_n 0, 1) := by decide +kernel
theorem dX6_helping_72 : decode cX6_helping 72 = .ok (.getfield 40, 3) := by decide +kernel
theorem dX6_helping_75 : decode cX6_helping 75 = .ok (.lload_n 2, 1) := by decide +kernel
theorem dX6_helping_76 : decode cX6_helping 76 = .ok (.iload 6, 2) := by decide +kernel
theorem dX6_helping_78 : decode cX6_helping 78 = .ok (.invokestatic 281, 3) := by decide +kernel
theorem dX6_helping_81 : decode cX6_helping 81 = .ok (.lor, 1) := by decide +kernel
theorem dX6_helping_82 : decode cX6_helping 82 = .ok (.iload 6, 2) := by decide +kernel
theorem dX6_helping_84 : decode cX6_helping 84 = .ok (.invokevirtual 284, 3) := by decide +kernel
theorem dX6_helping_87 : decode cX6_helping 87 = .ok (.iload 4, 2) := by decide +kernel
theorem dX6_helping_89 : decode cX6_helping 89 = .ok (.if_icmp .ge 6, 3) := by decide +kernel
theorem dX6_helping_92 : decode cX6_helping 92 = .ok (.iinc 5 1, 3) := by decide +kernel
theorem dX6_helping_95 : decode cX6_helping 95 = .ok (.iinc 6 1, 3) := by decide +kernel
theorem dX6_helping_98 : decode cX6_helping 98 = .ok (.goto (-43), 3) := by decide +kernel
theorem dX6_helping_101 : decode cX6_helping 101 = .ok (.iload 5, 2) := by decide +kernel
theorem dX6_helping_103 : decode cX6_helping 103 = .ok (.ireturn, 1) := by decide +kernel
theorem dX6_ifKnock_0 : decode cX6_ifKnock 0 = .ok (.aload_n 0, 1) := by decide +kernel
theorem dX6_ifKnock_1 : decode cX6_ifKnock 1 = .ok (.aload_n 0, 1) := by decide +kernel
theorem dX6_ifKnock_2 : decode cX6_ifKnock 2 = .ok (.getfield 12, 3) := by decide +kernel
theorem dX6_ifKnock_5 : decode cX6_ifKnock 5 = .ok (.getfield 99, 3) := by decide +kernel
theorem dX6_ifKnock_8 : decode cX6_ifKnock 8 = .ok (.iload_n 1, 1) := by decide +kernel
theorem dX6_ifKnock_9 : decode cX6_ifKnock 9 = .ok (.invokevirtual 102, 3) := by decide +kernel
theorem dX6_ifKnock_12 : decode cX6_ifKnock 12 = .ok (.iload_n 2, 1) := by decide +kernel
theorem dX6_ifKnock_13 : decode cX6_ifKnock 13 = .ok (.iconst 0, 1) := by decide +kernel
theorem dX6_ifKnock_14 : decode cX6_ifKnock 14 = .ok (.iconst 3, 1) := by decide +kernel
theorem dX6_ifKnock_15 : decode cX6_ifKnock 15 = .ok (.invokestatic 150, 3) := by decide +kernel
theorem dX6_ifKnock_18 : decode cX6_ifKnock 18 = .ok (.invokestatic 154, 3) := by decide +kernel
theorem dX6_ifKnock_21 : decode cX6_ifKnock 21 = .ok (.aload_n 0, 1) := by decide +kernel
theorem dX6_ifKnock_22 : decode cX6_ifKnock 22 = .ok (.getfield 47, 3) := by decide +kernel
theorem dX6_ifKnock_25 : decode cX6_ifKnock 25 = .ok (.aload_n 0, 1) := by decide +kernel
theorem dX6_ifKnock_26 : decode cX6_ifKnock 26 = .ok (.getfield 12, 3) := by decide +kernel
theorem dX6_ifKnock_29 : decode cX6_ifKnock 29 = .ok (.iload_n 1, 1) := by decide +kernel
theorem dX6_ifKnock_30 : decode cX6_ifKnock 30 = .ok (.invokevirtual 116, 3) := by decide +kernel
theorem dX6_ifKnock_33 : decode cX6_ifKnock 33 = .ok (.aload_n 0, 1) := by decide +kernel
theorem dX6_ifKnock_34 : decode cX6_ifKnock 34 = .ok (.getfield 12, 3) := by decide +kernel
theorem dX6_ifKnock_37 : decode cX6_ifKnock 37 = .ok (.invokevirtual 120, 3) := by decide +kernel
theorem dX6_ifKnock_40 : decode cX6_ifKnock 40 = .ok (.invokevirtual 124, 3) := by decide +kernel
theorem dX6_ifKnock_43 : decode cX6_ifKnock 43 = .ok (.iload_n 2, 1) := by decide +kernel
theorem dX6_ifKnock_44 : decode cX6_ifKnock 44 = .ok (.ifCond .ne 19, 3) := by decide +kernel
theorem dX6_ifKnock_47 : decode cX6_ifKnock 47 = .ok (.aload_n 0, 1) := by decide +kernel
theorem dX6_ifKnock_48 : decode cX6_ifKnock 48 = .ok (.getfield 12, 3) := by decide +kernel
theorem dX6_ifKnock_51 : decode cX6_ifKnock 51 = .ok (.iload_n 1, 1) := by decide +kernel
theorem dX6_ifKnock_52 : decode cX6_ifKnock 52 = .ok (.aload_n 0, 1) := by decide +kernel
theorem dX6_ifKnock_53 : decode cX6_ifKnock 53 = .ok (.getfield 47, 3) := by decide +kernel
theorem dX6_ifKnock_56 : decode cX6_ifKnock 56 = .ok (.getfield 128, 3) := by decide +kernel
theorem dX6_ifKnock_59 : decode cX6_ifKnock 59 = .ok (.invokevirtual 131, 3) := by decide +kernel
theorem dX6_ifKnock_62 : decode cX6_ifKnock 62 = .ok (.ireturn, 1) := by decide +kernel
theorem dX6_ifKnock_63 : decode cX6_ifKnock 63 = .ok (.aload_n 0, 1) := by decide +kernel
theorem dX6_ifKnock_64 : decode cX6_ifKnock 64 = .ok (.getfield 12, 3) := by decide +kernel
theorem dX6_ifKnock_67 : decode cX6_ifKnock 67 = .ok (.invokevirtual 268, 3) := by decide +kernel
theorem dX6_ifKnock_70 : decode cX6_ifKnock 70 = .ok (.ifCond .ne 5, 3) := by decide +kernel
theorem dX6_ifKnock_73 : decode cX6_ifKnock 73 = .ok (.iconst (-1), 1) := by decide +kernel
theorem dX6_ifKnock_74 : decode cX6_ifKnock 74 = .ok (.ireturn, 1) := by decide +kernel
theorem dX6_ifKnock_75 : decode cX6_ifKnock 75 = .ok (.iload_n 2, 1) := by decide +kernel
theorem dX6_ifKnock_76 : decode cX6_ifKnock 76 = .ok (.lookupswitch 44 #[(1, 28), (2, 36)], 28) := by decide +kernel
theorem dX6_ifKnock_104 : decode cX6_ifKnock 104 = .ok (.aload_n 0, 1) := by decide +kernel
theorem dX6_ifKnock_105 : decode cX6_ifKnock 105 = .ok (.getfield 47, 3) := by decide +kernel
theorem dX6_ifKnock_108 : decode cX6_ifKnock 108 = .ok (.getfield 128, 3) := by decide +kernel
theorem dX6_ifKnock_111 : decode cX6_ifKnock 111 = .ok (.ireturn, 1) := by decide +kernel
theorem dX6_ifKnock_112 : decode cX6_ifKnock 112 = .ok (.aload_n 0, 1) := by decide +kernel
theorem dX6_ifKnock_113 : decode cX6_ifKnock 113 = .ok (.getfield 47, 3) := by decide +kernel
theorem dX6_ifKnock_116 : decode cX6_ifKnock 116 = .ok (.getfield 288, 3) := by decide +kernel
theorem dX6_ifKnock_119 : decode cX6_ifKnock 119 = .ok (.ireturn, 1) := by decide +kernel
theorem dX6_ifKnock_120 : decode cX6_ifKnock 120 = .ok (.aload_n 0, 1) := by decide +kernel
theorem dX6_ifKnock_121 : decode cX6_ifKnock 121 = .ok (.getfield 47, 3) := by decide +kernel
theorem dX6_ifKnock_124 : decode cX6_ifKnock 124 = .ok (.getfield 291, 3) := by decide +kernel
theorem dX6_ifKnock_127 : decode cX6_ifKnock 127 = .ok (.ireturn, 1) := by decide +kernel
theorem dX6_needed_0 : decode cX6_needed 0 = .ok (.aload_n 0, 1) := by decide +kernel
theorem dX6_needed_1 : decode cX6_needed 1 = .ok (.getfield 12, 3) := by decide +kernel
theorem dX6_needed_4 : decode cX6_needed 4 = .ok (.invokevirtual 268, 3) := by decide +kernel
theorem dX6_needed_7 : decode cX6_needed 7 = .ok (.ifCond .eq 34, 3) := by decide +kernel
theorem dX6_needed_10 : decode cX6_needed 10 = .ok (.aload_n 0, 1) := by decide +kernel
theorem dX6_needed_11 : decode cX6_needed 11 = .ok (.getfield 40, 3) := by decide +kernel
theorem dX6_needed_14 : decode cX6_needed 14 = .ok (.aload_n 0, 1) := by decide +kernel
theorem dX6_needed_15 : decode cX6_needed 15 = .ok (.getfield 12, 3) := by decide +kernel
theorem dX6_needed_18 : decode cX6_needed 18 = .ok (.aload_n 0, 1) := by decide +kernel
theorem dX6_needed_19 : decode cX6_needed 19 = .ok (.getfield 12, 3) := by decide +kernel
theorem dX6_needed_22 : decode cX6_needed 22 = .ok (.getfield 99, 3) := by decide +kernel
theorem dX6_needed_25 : decode cX6_needed 25 = .ok (.invokevirtual 219, 3) := by decide +kernel
theorem dX6_needed_28 : decode cX6_needed 28 = .ok (.aload_n 0, 1) := by decide +kernel
theorem dX6_needed_29 : decode cX6_needed 29 = .ok (.getfield 12, 3) := by decide +kernel
theorem dX6_needed_32 : decode cX6_needed 32 = .ok (.getfield 275, 3) := by decide +kernel
theorem dX6_needed_35 : decode cX6_needed 35 = .ok (.invokevirtual 284, 3) := by decide +kernel
theorem dX6_needed_38 : decode cX6_needed 38 = .ok (.goto 4, 3) := by decide +kernel
theorem dX6_needed_41 : decode cX6_needed 41 = .ok (.iconst (-1), 1) := by decide +kernel
theorem dX6_needed_42 : decode cX6_needed 42 = .ok (.ireturn, 1) := by decide +kernel
theorem dX6_kind_0 : decode cX6_kind 0 = .ok (.lload_n 1, 1) := by decide +kernel
theorem dX6_kind_1 : decode cX6_kind 1 = .ok (.lconst 0, 1) := by decide +kernel
theorem dX6_kind_2 : decode cX6_kind 2 = .ok (.lcmp, 1) := by decide +kernel
theorem dX6_kind_3 : decode cX6_kind 3 = .ok (.ifCond .lt 15, 3) := by decide +kernel
theorem dX6_kind_6 : decode cX6_kind 6 = .ok (.lload_n 1, 1) := by decide +kernel
theorem dX6_kind_7 : decode cX6_kind 7 = .ok (.ldc2_w 294, 3) := by decide +kernel
theorem dX6_kind_10 : decode cX6_kind 10 = .ok (.lcmp, 1) := by decide +kernel
theorem dX6_kind_11 : decode cX6_kind 11 = .ok (.ifCond .gt 7, 3) := by decide +kernel
theorem dX6_kind_14 : decode cX6_kind 14 = .ok (.iconst 1, 1) := by decide +kernel
theorem dX6_kind_15 : decode cX6_kind 15 = .ok (.goto 4, 3) := by decide +kernel
theorem dX6_kind_18 : decode cX6_kind 18 = .ok (.iconst 0, 1) := by decide +kernel
theorem dX6_kind_19 : decode cX6_kind 19 = .ok (.invokestatic 154, 3) := by decide +kernel
theorem dX6_kind_22 : decode cX6_kind 22 = .ok (.lload_n 1, 1) := by decide +kernel
theorem dX6_kind_23 : decode cX6_kind 23 = .ok (.invokestatic 262, 3) := by decide +kernel
theorem dX6_kind_26 : decode cX6_kind 26 = .ok (.ireturn, 1) := by decide +kernel
theorem dX6_gap_0 : decode cX6_gap 0 = .ok (.aload_n 0, 1) := by decide +kernel
theorem dX6_gap_1 : decode cX6_gap 1 = .ok (.getfield 12, 3) := by decide +kernel
theorem dX6_gap_4 : decode cX6_gap 4 = .ok (.iconst 0, 1) := by decide +kernel
theorem dX6_gap_5 : decode cX6_gap 5 = .ok (.invokevirtual 219, 3) := by decide +kernel
theorem dX6_gap_8 : decode cX6_gap 8 = .ok (.invokestatic 226, 3) := by decide +kernel
theorem dX6_gap_11 : decode cX6_gap 11 = .ok (.aload_n 0, 1) := by decide +kernel
theorem dX6_gap_12 : decode cX6_gap 12 = .ok (.getfield 12, 3) := by decide +kernel
theorem dX6_gap_15 : decode cX6_gap 15 = .ok (.iconst 1, 1) := by decide +kernel
theorem dX6_gap_16 : decode cX6_gap 16 = .ok (.invokevirtual 219, 3) := by decide +kernel
theorem dX6_gap_19 : decode cX6_gap 19 = .ok (.invokestatic 226, 3) := by decide +kernel
theorem dX6_gap_22 : decode cX6_gap 22 = .ok (.iadd, 1) := by decide +kernel
theorem dX6_gap_23 : decode cX6_gap 23 = .ok (.istore_n 1, 1) := by decide +kernel
theorem dX6_gap_24 : decode cX6_gap 24 = .ok (.bipush 52, 2) := by decide +kernel
theorem dX6_gap_26 : decode cX6_gap 26 = .ok (.iload_n 1, 1) := by decide +kernel
theorem dX6_gap_27 : decode cX6_gap 27 = .ok (.isub, 1) := by decide +kernel
theorem dX6_gap_28 : decode cX6_gap 28 = .ok (.aload_n 0, 1) := by decide +kernel
theorem dX6_gap_29 : decode cX6_gap 29 = .ok (.getfield 12, 3) := by decide +kernel
theorem dX6_gap_32 : decode cX6_gap 32 = .ok (.invokevirtual 113, 3) := by decide +kernel
theorem dX6_gap_35 : decode cX6_gap 35 = .ok (.isub, 1) := by decide +kernel
theorem dX6_gap_36 : decode cX6_gap 36 = .ok (.aload_n 0, 1) := by decide +kernel
theorem dX6_gap_37 : decode cX6_gap 37 = .ok (.getfield 12, 3) := by decide +kernel
theorem dX6_gap_40 : decode cX6_gap 40 = .ok (.getfield 196, 3) := by decide +kernel
theorem dX6_gap_43 : decode cX6_gap 43 = .ok (.isub, 1) := by decide +kernel
theorem dX6_gap_44 : decode cX6_gap 44 = .ok (.invokestatic 296, 3) := by decide +kernel
theorem dX6_gap_47 : decode cX6_gap 47 = .ok (.istore_n 2, 1) := by decide +kernel
theorem dX6_gap_48 : decode cX6_gap 48 = .ok (.iconst 0, 1) := by decide +kernel
theorem dX6_gap_49 : decode cX6_gap 49 = .ok (.istore_n 3, 1) := by decide +kernel
theorem dX6_gap_50 : decode cX6_gap 50 = .ok (.iload_n 3, 1) := by decide +kernel
theorem dX6_gap_51 : decode cX6_gap 51 = .ok (.iconst 2, 1) := by decide +kernel
theorem dX6_gap_52 : decode cX6_gap 52 = .ok (.if_icmp .ge 68, 3) := by decide +kernel
theorem dX6_gap_55 : decode cX6_gap 55 = .ok (.aload_n 0, 1) := by decide +kernel
theorem dX6_gap_56 : decode cX6_gap 56 = .ok (.getfield 40, 3) := by decide +kernel
theorem dX6_gap_59 : decode cX6_gap 59 = .ok (.aload_n 0, 1) := by decide +kernel
theorem dX6_gap_60 : decode cX6_gap 60 = .ok (.getfield 12, 3) := by decide +kernel
theorem dX6_gap_63 : decode cX6_gap 63 = .ok (.iload_n 3, 1) := by decide +kernel
theorem dX6_gap_64 : decode cX6_gap 64 = .ok (.invokevirtual 219, 3) := by decide +kernel
theorem dX6_gap_67 : decode cX6_gap 67 = .ok (.invokevirtual 222, 3) := by decide +kernel
theorem dX6_gap_70 : decode cX6_gap 70 = .ok (.iload_n 2, 1) := by decide +kernel
theorem dX6_gap_71 : decode cX6_gap 71 = .ok (.aload_n 0, 1) := by decide +kernel
theorem dX6_gap_72 : decode cX6_gap 72 = .ok (.getfield 40, 3) := by decide +kernel
theorem dX6_gap_75 : decode cX6_gap 75 = .ok (.invokevirtual 301, 3) := by decide +kernel
theorem dX6_gap_78 : decode cX6_gap 78 = .ok (.aload_n 0, 1) := by decide +kernel
theorem dX6_gap_79 : decode cX6_gap 79 = .ok (.getfield 40, 3) := by decide +kernel
theorem dX6_gap_82 : decode cX6_gap 82 = .ok (.getfield 232, 3) := by decide +kernel
theorem dX6_gap_85 : decode cX6_gap 85 = .ok (.iadd, 1) := by decide +kernel
theorem dX6_gap_86 : decode cX6_gap 86 = .ok (.aload_n 0, 1) := by decide +kernel
theorem dX6_gap_87 : decode cX6_gap 87 = .ok (.getfield 12, 3) := by decide +kernel
theorem dX6_gap_90 : decode cX6_gap 90 = .ok (.iload_n 3, 1) := by decide +kernel
theorem dX6_gap_91 : decode cX6_gap 91 = .ok (.invokevirtual 219, 3) := by decide +kernel
theorem dX6_gap_94 : decode cX6_gap 94 = .ok (.invokestatic 244, 3) := by decide +kernel
theorem dX6_gap_97 : decode cX6_gap 97 = .ok (.isub, 1) := by decide +kernel
theorem dX6_gap_98 : decode cX6_gap 98 = .ok (.invokestatic 296, 3) := by decide +kernel
theorem dX6_gap_101 : decode cX6_gap 101 = .ok (.iadd, 1) := by decide +kernel
theorem dX6_gap_102 : decode cX6_gap 102 = .ok (.istore_n 2, 1) := by decide +kernel
theorem dX6_gap_103 : decode cX6_gap 103 = .ok (.iload_n 2, 1) := by decide +kernel
theorem dX6_gap_104 : decode cX6_gap 104 = .ok (.aload_n 0, 1) := by decide +kernel
theorem dX6_gap_105 : decode cX6_gap 105 = .ok (.getfield 40, 3) := by decide +kernel
theorem dX6_gap_108 : decode cX6_gap 108 = .ok (.iconst 0, 1) := by decide +kernel
theorem dX6_gap_109 : decode cX6_gap 109 = .ok (.invokevirtual 241, 3) := by decide +kernel
theorem dX6_gap_112 : decode cX6_gap 112 = .ok (.iadd, 1) := by decide +kernel
theorem dX6_gap_113 : decode cX6_gap 113 = .ok (.istore_n 2, 1) := by decide +kernel
theorem dX6_gap_114 : decode cX6_gap 114 = .ok (.iinc 3 1, 3) := by decide +kernel
theorem dX6_gap_117 : decode cX6_gap 117 = .ok (.goto (-67), 3) := by decide +kernel
theorem dX6_gap_120 : decode cX6_gap 120 = .ok (.iload_n 2, 1) := by decide +kernel
theorem dX6_gap_121 : decode cX6_gap 121 = .ok (.ireturn, 1) := by decide +kernel
theorem dX6_meanRest_0 : decode cX6_meanRest 0 = .ok (.aload_n 0, 1) := by decide +kernel
theorem dX6_meanRest_1 : decode cX6_meanRest 1 = .ok (.getfield 40, 3) := by decide +kernel
theorem dX6_meanRest_4 : decode cX6_meanRest 4 = .ok (.aload_n 0, 1) := by decide +kernel
theorem dX6_meanRest_5 : decode cX6_meanRest 5 = .ok (.getfield 12, 3) := by decide +kernel
theorem dX6_meanRest_8 : decode cX6_meanRest 8 = .ok (.iconst 0, 1) := by decide +kernel
theorem dX6_meanRest_9 : decode cX6_meanRest 9 = .ok (.invokevirtual 219, 3) := by decide +kernel
theorem dX6_meanRest_12 : decode cX6_meanRest 12 = .ok (.invokevirtual 222, 3) := by decide +kernel
theorem dX6_meanRest_15 : decode cX6_meanRest 15 = .ok (.aload_n 0, 1) := by decide +kernel
theorem dX6_meanRest_16 : decode cX6_meanRest 16 = .ok (.getfield 40, 3) := by decide +kernel
theorem dX6_meanRest_19 : decode cX6_meanRest 19 = .ok (.getfield 232, 3) := by decide +kernel
theorem dX6_meanRest_22 : decode cX6_meanRest 22 = .ok (.istore_n 1, 1) := by decide +kernel
theorem dX6_meanRest_23 : decode cX6_meanRest 23 = .ok (.aload_n 0, 1) := by decide +kernel
theorem dX6_meanRest_24 : decode cX6_meanRest 24 = .ok (.getfield 40, 3) := by decide +kernel
theorem dX6_meanRest_27 : decode cX6_meanRest 27 = .ok (.aload_n 0, 1) := by decide +kernel
theorem dX6_meanRest_28 : decode cX6_meanRest 28 = .ok (.getfield 12, 3) := by decide +kernel
theorem dX6_meanRest_31 : decode cX6_meanRest 31 = .ok (.iconst 1, 1) := by decide +kernel
theorem dX6_meanRest_32 : decode cX6_meanRest 32 = .ok (.invokevirtual 219, 3) := by decide +kernel
theorem dX6_meanRest_35 : decode cX6_meanRest 35 = .ok (.invokevirtual 222, 3) := by decide +kernel
theorem dX6_meanRest_38 : decode cX6_meanRest 38 = .ok (.iload_n 1, 1) := by decide +kernel
theorem dX6_meanRest_39 : decode cX6_meanRest 39 = .ok (.aload_n 0, 1) := by decide +kernel
theorem dX6_meanRest_40 : decode cX6_meanRest 40 = .ok (.getfield 40, 3) := by decide +kernel
theorem dX6_meanRest_43 : decode cX6_meanRest 43 = .ok (.getfield 232, 3) := by decide +kernel
theorem dX6_meanRest_46 : decode cX6_meanRest 46 = .ok (.iadd, 1) := by decide +kernel
theorem dX6_meanRest_47 : decode cX6_meanRest 47 = .ok (.istore_n 1, 1) := by decide +kernel
theorem dX6_meanRest_48 : decode cX6_meanRest 48 = .ok (.iload_n 1, 1) := by decide +kernel
theorem dX6_meanRest_49 : decode cX6_meanRest 49 = .ok (.i2d, 1) := by decide +kernel
theorem dX6_meanRest_50 : decode cX6_meanRest 50 = .ok (.ldc2_w 304, 3) := by decide +kernel
theorem dX6_meanRest_53 : decode cX6_meanRest 53 = .ok (.ddiv, 1) := by decide +kernel
theorem dX6_meanRest_54 : decode cX6_meanRest 54 = .ok (.dreturn, 1) := by decide +kernel
theorem dX6_laid_0 : decode cX6_laid 0 = .ok (.iload_n 1, 1) := by decide +kernel
theorem dX6_laid_1 : decode cX6_laid 1 = .ok (.invokestatic 215, 3) := by decide +kernel
theorem dX6_laid_4 : decode cX6_laid 4 = .ok (.invokestatic 154, 3) := by decide +kernel
theorem dX6_laid_7 : decode cX6_laid 7 = .ok (.aload_n 0, 1) := by decide +kernel
theorem dX6_laid_8 : decode cX6_laid 8 = .ok (.getfield 12, 3) := by decide +kernel
theorem dX6_laid_11 : decode cX6_laid 11 = .ok (.iload_n 1, 1) := by decide +kernel
theorem dX6_laid_12 : decode cX6_laid 12 = .ok (.invokevirtual 219, 3) := by decide +kernel
theorem dX6_laid_15 : decode cX6_laid 15 = .ok (.invokestatic 226, 3) := by decide +kernel
theorem dX6_laid_18 : decode cX6_laid 18 = .ok (.istore_n 2, 1) := by decide +kernel
theorem dX6_laid_19 : decode cX6_laid 19 = .ok (.aload_n 0, 1) := by decide +kernel
theorem dX6_laid_20 : decode cX6_laid 20 = .ok (.getfield 40, 3) := by decide +kernel
theorem dX6_laid_23 : decode cX6_laid 23 = .ok (.aload_n 0, 1) := by decide +kernel
theorem dX6_laid_24 : decode cX6_laid 24 = .ok (.getfield 12, 3) := by decide +kernel
theorem dX6_laid_27 : decode cX6_laid 27 = .ok (.iload_n 1, 1) := by decide +kernel
theorem dX6_laid_28 : decode cX6_laid 28 = .ok (.invokevirtual 219, 3) := by decide +kernel
theorem dX6_laid_31 : decode cX6_laid 31 = .ok (.invokevirtual 222, 3) := by decide +kernel
theorem dX6_laid_34 : decode cX6_laid 34 = .ok (.aload_n 0, 1) := by decide +kernel
theorem dX6_laid_35 : decode cX6_laid 35 = .ok (.getfield 40, 3) := by decide +kernel
theorem dX6_laid_38 : decode cX6_laid 38 = .ok (.getfield 238, 3) := by decide +kernel
theorem dX6_laid_41 : decode cX6_laid 41 = .ok (.invokestatic 226, 3) := by decide +kernel
theorem dX6_laid_44 : decode cX6_laid 44 = .ok (.istore_n 3, 1) := by decide +kernel
theorem dX6_laid_45 : decode cX6_laid 45 = .ok (.iload_n 2, 1) := by decide +kernel
theorem dX6_laid_46 : decode cX6_laid 46 = .ok (.ifCond .le 13, 3) := by decide +kernel
theorem dX6_laid_49 : decode cX6_laid 49 = .ok (.iload_n 2, 1) := by decide +kernel
theorem dX6_laid_50 : decode cX6_laid 50 = .ok (.iload_n 3, 1) := by decide +kernel
theorem dX6_laid_51 : decode cX6_laid 51 = .ok (.isub, 1) := by decide +kernel
theorem dX6_laid_52 : decode cX6_laid 52 = .ok (.i2f, 1) := by decide +kernel
theorem dX6_laid_53 : decode cX6_laid 53 = .ok (.iload_n 2, 1) := by decide +kernel
theorem dX6_laid_54 : decode cX6_laid 54 = .ok (.i2f, 1) := by decide +kernel
theorem dX6_laid_55 : decode cX6_laid 55 = .ok (.fdiv, 1) := by decide +kernel
theorem dX6_laid_56 : decode cX6_laid 56 = .ok (.goto 4, 3) := by decide +kernel
theorem dX6_laid_59 : decode cX6_laid 59 = .ok (.fconst 0, 1) := by decide +kernel
theorem dX6_laid_60 : decode cX6_laid 60 = .ok (.freturn, 1) := by decide +kernel
theorem dX6_writeLaying_0 : decode cX6_writeLaying 0 = .ok (.iload_n 1, 1) := by decide +kernel
theorem dX6_writeLaying_1 : decode cX6_writeLaying 1 = .ok (.invokestatic 215, 3) := by decide +kernel
theorem dX6_writeLaying_4 : decode cX6_writeLaying 4 = .ok (.invokestatic 154, 3) := by decide +kernel
theorem dX6_writeLaying_7 : decode cX6_writeLaying 7 = .ok (.aload_n 0, 1) := by decide +kernel
theorem dX6_writeLaying_8 : decode cX6_writeLaying 8 = .ok (.getfield 40, 3) := by decide +kernel
theorem dX6_writeLaying_11 : decode cX6_writeLaying 11 = .ok (.aload_n 0, 1) := by decide +kernel
theorem dX6_writeLaying_12 : decode cX6_writeLaying 12 = .ok (.getfield 12, 3) := by decide +kernel
theorem dX6_writeLaying_15 : decode cX6_writeLaying 15 = .ok (.iload_n 1, 1) := by decide +kernel
theorem dX6_writeLaying_16 : decode cX6_writeLaying 16 = .ok (.invokevirtual 219, 3) := by decide +kernel
theorem dX6_writeLaying_19 : decode cX6_writeLaying 19 = .ok (.invokevirtual 222, 3) := by decide +kernel
theorem dX6_writeLaying_22 : decode cX6_writeLaying 22 = .ok (.aload_n 0, 1) := by decide +kernel
theorem dX6_writeLaying_23 : decode cX6_writeLaying 23 = .ok (.getfield 54, 3) := by decide +kernel
theorem dX6_writeLaying_26 : decode cX6_writeLaying 26 = .ok (.aload_n 0, 1) := by decide +kernel
theorem dX6_writeLaying_27 : decode cX6_writeLaying 27 = .ok (.getfield 40, 3) := by decide +kernel
theorem dX6_writeLaying_30 : decode cX6_writeLaying 30 = .ok (.invokevirtual 306, 3) := by decide +kernel
theorem dX6_writeLaying_33 : decode cX6_writeLaying 33 = .ok (.aload_n 0, 1) := by decide +kernel
theorem dX6_writeLaying_34 : decode cX6_writeLaying 34 = .ok (.getfield 54, 3) := by decide +kernel
theorem dX6_writeLaying_37 : decode cX6_writeLaying 37 = .ok (.getfield 309, 3) := by decide +kernel
theorem dX6_writeLaying_40 : decode cX6_writeLaying 40 = .ok (.ireturn, 1) := by decide +kernel
theorem dX6_reportByte_0 : decode cX6_reportByte 0 = .ok (.aload_n 0, 1) := by decide +kernel
theorem dX6_reportByte_1 : decode cX6_reportByte 1 = .ok (.getfield 54, 3) := by decide +kernel
theorem dX6_reportByte_4 : decode cX6_reportByte 4 = .ok (.iload_n 1, 1) := by decide +kernel
theorem dX6_reportByte_5 : decode cX6_reportByte 5 = .ok (.invokevirtual 310, 3) := by decide +kernel
theorem dX6_reportByte_8 : decode cX6_reportByte 8 = .ok (.ireturn, 1) := by decide +kernel
theorem dX6_require_0 : decode cX6_require 0 = .ok (.iload_n 0, 1) := by decide +kernel
theorem dX6_require_1 : decode cX6_require 1 = .ok (.ifCond .ne 14, 3) := by decide +kernel
theorem dX6_require_4 : decode cX6_require 4 = .ok (.new 313, 3) := by decide +kernel
theorem dX6_require_7 : decode cX6_require 7 = .ok (.dup, 1) := by decide +kernel
theorem dX6_require_8 : decode cX6_require 8 = .ok (.ldc_w 315, 3) := by decide +kernel
theorem dX6_require_11 : decode cX6_require 11 = .ok (.invokespecial 317, 3) := by decide +kernel
theorem dX6_require_14 : decode cX6_require 14 = .ok (.athrow, 1) := by decide +kernel
theorem dX6_require_15 : decode cX6_require 15 = .ok (.return_, 1) := by decide +kernel
theorem dX6_requireHeld_0 : decode cX6_requireHeld 0 = .ok (.aload_n 0, 1) := by decide +kernel
theorem dX6_requireHeld_1 : decode cX6_requireHeld 1 = .ok (.getfield 12, 3) := by decide +kernel
theorem dX6_requireHeld_4 : decode cX6_requireHeld 4 = .ok (.iload_n 1, 1) := by decide +kernel
theorem dX6_requireHeld_5 : decode cX6_requireHeld 5 = .ok (.invokevirtual 219, 3) := by decide +kernel
theorem dX6_requireHeld_8 : decode cX6_requireHeld 8 = .ok (.iload_n 2, 1) := by decide +kernel
theorem dX6_requireHeld_9 : decode cX6_requireHeld 9 = .ok (.invokestatic 271, 3) := by decide +kernel
theorem dX6_requireHeld_12 : decode cX6_requireHeld 12 = .ok (.ifCond .ne 14, 3) := by decide +kernel
theorem dX6_requireHeld_15 : decode cX6_requireHeld 15 = .ok (.new 318, 3) := by decide +kernel
theorem dX6_requireHeld_18 : decode cX6_requireHeld 18 = .ok (.dup, 1) := by decide +kernel
theorem dX6_requireHeld_19 : decode cX6_requireHeld 19 = .ok (.ldc_w 320, 3) := by decide +kernel
theorem dX6_requireHeld_22 : decode cX6_requireHeld 22 = .ok (.invokespecial 322, 3) := by decide +kernel
theorem dX6_requireHeld_25 : decode cX6_requireHeld 25 = .ok (.athrow, 1) := by decide +kernel
theorem dX6_requireHeld_26 : decode cX6_requireHeld 26 = .ok (.return_, 1) := by decide +kernel
theorem dX6_isPlayer_0 : decode cX6_isPlayer 0 = .ok (.iload_n 0, 1) := by decide +kernel
theorem dX6_isPlayer_1 : decode cX6_isPlayer 1 = .ok (.ifCond .lt 12, 3) := by decide +kernel
theorem dX6_isPlayer_4 : decode cX6_isPlayer 4 = .ok (.iload_n 0, 1) := by decide +kernel
theorem dX6_isPlayer_5 : decode cX6_isPlayer 5 = .ok (.iconst 2, 1) := by decide +kernel
theorem dX6_isPlayer_6 : decode cX6_isPlayer 6 = .ok (.if_icmp .ge 7, 3) := by decide +kernel
theorem dX6_isPlayer_9 : decode cX6_isPlayer 9 = .ok (.iconst 1, 1) := by decide +kernel
theorem dX6_isPlayer_10 : decode cX6_isPlayer 10 = .ok (.goto 4, 3) := by decide +kernel
theorem dX6_isPlayer_13 : decode cX6_isPlayer 13 = .ok (.iconst 0, 1) := by decide +kernel
theorem dX6_isPlayer_14 : decode cX6_isPlayer 14 = .ok (.ireturn, 1) := by decide +kernel
theorem dX6_isWithin_0 : decode cX6_isWithin 0 = .ok (.iload_n 0, 1) := by decide +kernel
theorem dX6_isWithin_1 : decode cX6_isWithin 1 = .ok (.iload_n 1, 1) := by decide +kernel
theorem dX6_isWithin_2 : decode cX6_isWithin 2 = .ok (.if_icmp .lt 12, 3) := by decide +kernel
theorem dX6_isWithin_5 : decode cX6_isWithin 5 = .ok (.iload_n 0, 1) := by decide +kernel
theorem dX6_isWithin_6 : decode cX6_isWithin 6 = .ok (.iload_n 2, 1) := by decide +kernel
theorem dX6_isWithin_7 : decode cX6_isWithin 7 = .ok (.if_icmp .gt 7, 3) := by decide +kernel
theorem dX6_isWithin_10 : decode cX6_isWithin 10 = .ok (.iconst 1, 1) := by decide +kernel
theorem dX6_isWithin_11 : decode cX6_isWithin 11 = .ok (.goto 4, 3) := by decide +kernel
theorem dX6_isWithin_14 : decode cX6_isWithin 14 = .ok (.iconst 0, 1) := by decide +kernel
theorem dX6_isWithin_15 : decode cX6_isWithin 15 = .ok (.ireturn, 1) := by decide +kernel
theorem dX6_bitOf_0 : decode cX6_bitOf 0 = .ok (.iload_n 0, 1) := by decide +kernel
theorem dX6_bitOf_1 : decode cX6_bitOf 1 = .ok (.ifCond .lt 15, 3) := by decide +kernel
theorem dX6_bitOf_4 : decode cX6_bitOf 4 = .ok (.iload_n 0, 1) := by decide +kernel
theorem dX6_bitOf_5 : decode cX6_bitOf 5 = .ok (.bipush 52, 2) := by decide +kernel
theorem dX6_bitOf_7 : decode cX6_bitOf 7 = .ok (.if_icmp .ge 9, 3) := by decide +kernel
theorem dX6_bitOf_10 : decode cX6_bitOf 10 = .ok (.lconst 1, 1) := by decide +kernel
theorem dX6_bitOf_11 : decode cX6_bitOf 11 = .ok (.iload_n 0, 1) := by decide +kernel
theorem dX6_bitOf_12 : decode cX6_bitOf 12 = .ok (.lshl, 1) := by decide +kernel
theorem dX6_bitOf_13 : decode cX6_bitOf 13 = .ok (.goto 4, 3) := by decide +kernel
theorem dX6_bitOf_16 : decode cX6_bitOf 16 = .ok (.lconst 0, 1) := by decide +kernel
theorem dX6_bitOf_17 : decode cX6_bitOf 17 = .ok (.lreturn, 1) := by decide +kernel
theorem dX6_has_0 : decode cX6_has 0 = .ok (.lload_n 0, 1) := by decide +kernel
theorem dX6_has_1 : decode cX6_has 1 = .ok (.iload_n 2, 1) := by decide +kernel
theorem dX6_has_2 : decode cX6_has 2 = .ok (.invokestatic 281, 3) := by decide +kernel
theorem dX6_has_5 : decode cX6_has 5 = .ok (.land, 1) := by decide +kernel
theorem dX6_has_6 : decode cX6_has 6 = .ok (.lconst 0, 1) := by decide +kernel
theorem dX6_has_7 : decode cX6_has 7 = .ok (.lcmp, 1) := by decide +kernel
theorem dX6_has_8 : decode cX6_has 8 = .ok (.ifCond .eq 7, 3) := by decide +kernel
theorem dX6_has_11 : decode cX6_has 11 = .ok (.iconst 1, 1) := by decide +kernel
theorem dX6_has_12 : decode cX6_has 12 = .ok (.goto 4, 3) := by decide +kernel
theorem dX6_has_15 : decode cX6_has 15 = .ok (.iconst 0, 1) := by decide +kernel
theorem dX6_has_16 : decode cX6_has 16 = .ok (.ireturn, 1) := by decide +kernel
theorem dX6_lowestOf_0 : decode cX6_lowestOf 0 = .ok (.lload_n 0, 1) := by decide +kernel
theorem dX6_lowestOf_1 : decode cX6_lowestOf 1 = .ok (.lload_n 0, 1) := by decide +kernel
theorem dX6_lowestOf_2 : decode cX6_lowestOf 2 = .ok (.lneg, 1) := by decide +kernel
theorem dX6_lowestOf_3 : decode cX6_lowestOf 3 = .ok (.land, 1) := by decide +kernel
theorem dX6_lowestOf_4 : decode cX6_lowestOf 4 = .ok (.lconst 1, 1) := by decide +kernel
theorem dX6_lowestOf_5 : decode cX6_lowestOf 5 = .ok (.lsub, 1) := by decide +kernel
theorem dX6_lowestOf_6 : decode cX6_lowestOf 6 = .ok (.invokestatic 226, 3) := by decide +kernel
theorem dX6_lowestOf_9 : decode cX6_lowestOf 9 = .ok (.ireturn, 1) := by decide +kernel
theorem dX6_pointsFor_0 : decode cX6_pointsFor 0 = .ok (.iload_n 0, 1) := by decide +kernel
theorem dX6_pointsFor_1 : decode cX6_pointsFor 1 = .ok (.bipush 13, 2) := by decide +kernel
theorem dX6_pointsFor_3 : decode cX6_pointsFor 3 = .ok (.irem, 1) := by decide +kernel
theorem dX6_pointsFor_4 : decode cX6_pointsFor 4 = .ok (.iconst 1, 1) := by decide +kernel
theorem dX6_pointsFor_5 : decode cX6_pointsFor 5 = .ok (.iadd, 1) := by decide +kernel
theorem dX6_pointsFor_6 : decode cX6_pointsFor 6 = .ok (.bipush 10, 2) := by decide +kernel
theorem dX6_pointsFor_8 : decode cX6_pointsFor 8 = .ok (.invokestatic 323, 3) := by decide +kernel
theorem dX6_pointsFor_11 : decode cX6_pointsFor 11 = .ok (.ireturn, 1) := by decide +kernel
theorem dX6_pointsOf_0 : decode cX6_pointsOf 0 = .ok (.iconst 0, 1) := by decide +kernel
theorem dX6_pointsOf_1 : decode cX6_pointsOf 1 = .ok (.istore_n 2, 1) := by decide +kernel
theorem dX6_pointsOf_2 : decode cX6_pointsOf 2 = .ok (.lload_n 0, 1) := by decide +kernel
theorem dX6_pointsOf_3 : decode cX6_pointsOf 3 = .ok (.lstore_n 3, 1) := by decide +kernel
theorem dX6_pointsOf_4 : decode cX6_pointsOf 4 = .ok (.iconst 0, 1) := by decide +kernel
theorem dX6_pointsOf_5 : decode cX6_pointsOf 5 = .ok (.istore 5, 2) := by decide +kernel
theorem dX6_pointsOf_7 : decode cX6_pointsOf 7 = .ok (.iload 5, 2) := by decide +kernel
theorem dX6_pointsOf_9 : decode cX6_pointsOf 9 = .ok (.bipush 52, 2) := by decide +kernel
theorem dX6_pointsOf_11 : decode cX6_pointsOf 11 = .ok (.if_icmp .ge 31, 3) := by decide +kernel
theorem dX6_pointsOf_14 : decode cX6_pointsOf 14 = .ok (.lload_n 3, 1) := by decide +kernel
theorem dX6_pointsOf_15 : decode cX6_pointsOf 15 = .ok (.lconst 0, 1) := by decide +kernel
theorem dX6_pointsOf_16 : decode cX6_pointsOf 16 = .ok (.lcmp, 1) := by decide +kernel
theorem dX6_pointsOf_17 : decode cX6_pointsOf 17 = .ok (.ifCond .eq 25, 3) := by decide +kernel
theorem dX6_pointsOf_20 : decode cX6_pointsOf 20 = .ok (.iload_n 2, 1) := by decide +kernel
theorem dX6_pointsOf_21 : decode cX6_pointsOf 21 = .ok (.lload_n 3, 1) := by decide +kernel
theorem dX6_pointsOf_22 : decode cX6_pointsOf 22 = .ok (.invokestatic 250, 3) := by decide +kernel
theorem dX6_pointsOf_25 : decode cX6_pointsOf 25 = .ok (.invokestatic 278, 3) := by decide +kernel
theorem dX6_pointsOf_28 : decode cX6_pointsOf 28 = .ok (.iadd, 1) := by decide +kernel
theorem dX6_pointsOf_29 : decode cX6_pointsOf 29 = .ok (.istore_n 2, 1) := by decide +kernel
theorem dX6_pointsOf_30 : decode cX6_pointsOf 30 = .ok (.lload_n 3, 1) := by decide +kernel
theorem dX6_pointsOf_31 : decode cX6_pointsOf 31 = .ok (.lload_n 3, 1) := by decide +kernel
theorem dX6_pointsOf_32 : decode cX6_pointsOf 32 = .ok (.lconst 1, 1) := by decide +kernel
theorem dX6_pointsOf_33 : decode cX6_pointsOf 33 = .ok (.lsub, 1) := by decide +kernel
theorem dX6_pointsOf_34 : decode cX6_pointsOf 34 = .ok (.land, 1) := by decide +kernel
theorem dX6_pointsOf_35 : decode cX6_pointsOf 35 = .ok (.lstore_n 3, 1) := by decide +kernel
theorem dX6_pointsOf_36 : decode cX6_pointsOf 36 = .ok (.iinc 5 1, 3) := by decide +kernel
theorem dX6_pointsOf_39 : decode cX6_pointsOf 39 = .ok (.goto (-32), 3) := by decide +kernel
theorem dX6_pointsOf_42 : decode cX6_pointsOf 42 = .ok (.iload_n 2, 1) := by decide +kernel
theorem dX6_pointsOf_43 : decode cX6_pointsOf 43 = .ok (.ireturn, 1) := by decide +kernel
theorem dX6_kindOf_0 : decode cX6_kindOf 0 = .ok (.lload_n 0, 1) := by decide +kernel
theorem dX6_kindOf_1 : decode cX6_kindOf 1 = .ok (.invokestatic 226, 3) := by decide +kernel
theorem dX6_kindOf_4 : decode cX6_kindOf 4 = .ok (.iconst 3, 1) := by decide +kernel
theorem dX6_kindOf_5 : decode cX6_kindOf 5 = .ok (.if_icmp .ge 5, 3) := by decide +kernel
theorem dX6_kindOf_8 : decode cX6_kindOf 8 = .ok (.iconst 0, 1) := by decide +kernel
theorem dX6_kindOf_9 : decode cX6_kindOf 9 = .ok (.ireturn, 1) := by decide +kernel
theorem dX6_kindOf_10 : decode cX6_kindOf 10 = .ok (.lload_n 0, 1) := by decide +kernel
theorem dX6_kindOf_11 : decode cX6_kindOf 11 = .ok (.invokestatic 250, 3) := by decide +kernel
theorem dX6_kindOf_14 : decode cX6_kindOf 14 = .ok (.istore_n 2, 1) := by decide +kernel
theorem dX6_kindOf_15 : decode cX6_kindOf 15 = .ok (.lload_n 0, 1) := by decide +kernel
theorem dX6_kindOf_16 : decode cX6_kindOf 16 = .ok (.ldc2_w 326, 3) := by decide +kernel
theorem dX6_kindOf_19 : decode cX6_kindOf 19 = .ok (.iload_n 2, 1) := by decide +kernel
theorem dX6_kindOf_20 : decode cX6_kindOf 20 = .ok (.bipush 13, 2) := by decide +kernel
theorem dX6_kindOf_22 : decode cX6_kindOf 22 = .ok (.irem, 1) := by decide +kernel
theorem dX6_kindOf_23 : decode cX6_kindOf 23 = .ok (.lshl, 1) := by decide +kernel
theorem dX6_kindOf_24 : decode cX6_kindOf 24 = .ok (.ldc2_w 328, 3) := by decide +kernel
theorem dX6_kindOf_27 : decode cX6_kindOf 27 = .ok (.lxor, 1) := by decide +kernel
theorem dX6_kindOf_28 : decode cX6_kindOf 28 = .ok (.land, 1) := by decide +kernel
theorem dX6_kindOf_29 : decode cX6_kindOf 29 = .ok (.lconst 0, 1) := by decide +kernel
theorem dX6_kindOf_30 : decode cX6_kindOf 30 = .ok (.lcmp, 1) := by decide +kernel
theorem dX6_kindOf_31 : decode cX6_kindOf 31 = .ok (.ifCond .ne 5, 3) := by decide +kernel
theorem dX6_kindOf_34 : decode cX6_kindOf 34 = .ok (.iconst 1, 1) := by decide +kernel
theorem dX6_kindOf_35 : decode cX6_kindOf 35 = .ok (.ireturn, 1) := by decide +kernel
theorem dX6_kindOf_36 : decode cX6_kindOf 36 = .ok (.iload_n 2, 1) := by decide +kernel
theorem dX6_kindOf_37 : decode cX6_kindOf 37 = .ok (.bipush 13, 2) := by decide +kernel
theorem dX6_kindOf_39 : decode cX6_kindOf 39 = .ok (.idiv, 1) := by decide +kernel
theorem dX6_kindOf_40 : decode cX6_kindOf 40 = .ok (.bipush 13, 2) := by decide +kernel
theorem dX6_kindOf_42 : decode cX6_kindOf 42 = .ok (.imul, 1) := by decide +kernel
theorem dX6_kindOf_43 : decode cX6_kindOf 43 = .ok (.istore_n 3, 1) := by decide +kernel
theorem dX6_kindOf_44 : decode cX6_kindOf 44 = .ok (.lload_n 0, 1) := by decide +kernel
theorem dX6_kindOf_45 : decode cX6_kindOf 45 = .ok (.ldc2_w 330, 3) := by decide +kernel
theorem dX6_kindOf_48 : decode cX6_kindOf 48 = .ok (.iload_n 3, 1) := by decide +kernel
theorem dX6_kindOf_49 : decode cX6_kindOf 49 = .ok (.lshl, 1) := by decide +kernel
theorem dX6_kindOf_50 : decode cX6_kindOf 50 = .ok (.ldc2_w 328, 3) := by decide +kernel
theorem dX6_kindOf_53 : decode cX6_kindOf 53 = .ok (.lxor, 1) := by decide +kernel
theorem dX6_kindOf_54 : decode cX6_kindOf 54 = .ok (.land, 1) := by decide +kernel
theorem dX6_kindOf_55 : decode cX6_kindOf 55 = .ok (.lconst 0, 1) := by decide +kernel
theorem dX6_kindOf_56 : decode cX6_kindOf 56 = .ok (.lcmp, 1) := by decide +kernel
theorem dX6_kindOf_57 : decode cX6_kindOf 57 = .ok (.ifCond .eq 5, 3) := by decide +kernel
theorem dX6_kindOf_60 : decode cX6_kindOf 60 = .ok (.iconst 0, 1) := by decide +kernel
theorem dX6_kindOf_61 : decode cX6_kindOf 61 = .ok (.ireturn, 1) := by decide +kernel
theorem dX6_kindOf_62 : decode cX6_kindOf 62 = .ok (.lload_n 0, 1) := by decide +kernel
theorem dX6_kindOf_63 : decode cX6_kindOf 63 = .ok (.iload_n 3, 1) := by decide +kernel
theorem dX6_kindOf_64 : decode cX6_kindOf 64 = .ok (.lushr, 1) := by decide +kernel
theorem dX6_kindOf_65 : decode cX6_kindOf 65 = .ok (.invokestatic 332, 3) := by decide +kernel
theorem dX6_kindOf_68 : decode cX6_kindOf 68 = .ok (.invokestatic 226, 3) := by decide +kernel
theorem dX6_kindOf_71 : decode cX6_kindOf 71 = .ok (.iconst 1, 1) := by decide +kernel
theorem dX6_kindOf_72 : decode cX6_kindOf 72 = .ok (.if_icmp .gt 7, 3) := by decide +kernel
theorem dX6_kindOf_75 : decode cX6_kindOf 75 = .ok (.iconst 2, 1) := by decide +kernel
theorem dX6_kindOf_76 : decode cX6_kindOf 76 = .ok (.goto 4, 3) := by decide +kernel
theorem dX6_kindOf_79 : decode cX6_kindOf 79 = .ok (.iconst 0, 1) := by decide +kernel
theorem dX6_kindOf_80 : decode cX6_kindOf 80 = .ok (.ireturn, 1) := by decide +kernel
theorem dX6_beginningsOf_0 : decode cX6_beginningsOf 0 = .ok (.lload_n 0, 1) := by decide +kernel
theorem dX6_beginningsOf_1 : decode cX6_beginningsOf 1 = .ok (.iconst 1, 1) := by decide +kernel
theorem dX6_beginningsOf_2 : decode cX6_beginningsOf 2 = .ok (.lshl, 1) := by decide +kernel
theorem dX6_beginningsOf_3 : decode cX6_beginningsOf 3 = .ok (.lload_n 0, 1) := by decide +kernel
theorem dX6_beginningsOf_4 : decode cX6_beginningsOf 4 = .ok (.bipush 12, 2) := by decide +kernel
theorem dX6_beginningsOf_6 : decode cX6_beginningsOf 6 = .ok (.lushr, 1) := by decide +kernel
theorem dX6_beginningsOf_7 : decode cX6_beginningsOf 7 = .ok (.lor, 1) := by decide +kernel
theorem dX6_beginningsOf_8 : decode cX6_beginningsOf 8 = .ok (.ldc2_w 330, 3) := by decide +kernel
theorem dX6_beginningsOf_11 : decode cX6_beginningsOf 11 = .ok (.land, 1) := by decide +kernel
theorem dX6_beginningsOf_12 : decode cX6_beginningsOf 12 = .ok (.lstore_n 2, 1) := by decide +kernel
theorem dX6_beginningsOf_13 : decode cX6_beginningsOf 13 = .ok (.lload_n 0, 1) := by decide +kernel
theorem dX6_beginningsOf_14 : decode cX6_beginningsOf 14 = .ok (.lload_n 2, 1) := by decide +kernel
theorem dX6_beginningsOf_15 : decode cX6_beginningsOf 15 = .ok (.ldc2_w 328, 3) := by decide +kernel
theorem dX6_beginningsOf_18 : decode cX6_beginningsOf 18 = .ok (.lxor, 1) := by decide +kernel
theorem dX6_beginningsOf_19 : decode cX6_beginningsOf 19 = .ok (.land, 1) := by decide +kernel
theorem dX6_beginningsOf_20 : decode cX6_beginningsOf 20 = .ok (.lreturn, 1) := by decide +kernel
theorem dX6_firstOf_0 : decode cX6_firstOf 0 = .ok (.lload_n 0, 1) := by decide +kernel
theorem dX6_firstOf_1 : decode cX6_firstOf 1 = .ok (.invokestatic 250, 3) := by decide +kernel
theorem dX6_firstOf_4 : decode cX6_firstOf 4 = .ok (.bipush 13, 2) := by decide +kernel
theorem dX6_firstOf_6 : decode cX6_firstOf 6 = .ok (.idiv, 1) := by decide +kernel
theorem dX6_firstOf_7 : decode cX6_firstOf 7 = .ok (.bipush 13, 2) := by decide +kernel
theorem dX6_firstOf_9 : decode cX6_firstOf 9 = .ok (.imul, 1) := by decide +kernel
theorem dX6_firstOf_10 : decode cX6_firstOf 10 = .ok (.istore_n 2, 1) := by decide +kernel
theorem dX6_firstOf_11 : decode cX6_firstOf 11 = .ok (.lload_n 0, 1) := by decide +kernel
theorem dX6_firstOf_12 : decode cX6_firstOf 12 = .ok (.iload_n 2, 1) := by decide +kernel
theorem dX6_firstOf_13 : decode cX6_firstOf 13 = .ok (.lushr, 1) := by decide +kernel
theorem dX6_firstOf_14 : decode cX6_firstOf 14 = .ok (.ldc2_w 330, 3) := by decide +kernel
theorem dX6_firstOf_17 : decode cX6_firstOf 17 = .ok (.land, 1) := by decide +kernel
theorem dX6_firstOf_18 : decode cX6_firstOf 18 = .ok (.invokestatic 332, 3) := by decide +kernel
theorem dX6_firstOf_21 : decode cX6_firstOf 21 = .ok (.lstore_n 3, 1) := by decide +kernel
theorem dX6_firstOf_22 : decode cX6_firstOf 22 = .ok (.lload_n 3, 1) := by decide +kernel
theorem dX6_firstOf_23 : decode cX6_firstOf 23 = .ok (.lconst 0, 1) := by decide +kernel
theorem dX6_firstOf_24 : decode cX6_firstOf 24 = .ok (.lcmp, 1) := by decide +kernel
theorem dX6_firstOf_25 : decode cX6_firstOf 25 = .ok (.ifCond .ne 7, 3) := by decide +kernel
theorem dX6_firstOf_28 : decode cX6_firstOf 28 = .ok (.iload_n 2, 1) := by decide +kernel
theorem dX6_firstOf_29 : decode cX6_firstOf 29 = .ok (.goto 9, 3) := by decide +kernel
theorem dX6_firstOf_32 : decode cX6_firstOf 32 = .ok (.iload_n 2, 1) := by decide +kernel
theorem dX6_firstOf_33 : decode cX6_firstOf 33 = .ok (.lload_n 3, 1) := by decide +kernel
theorem dX6_firstOf_34 : decode cX6_firstOf 34 = .ok (.invokestatic 250, 3) := by decide +kernel
theorem dX6_firstOf_37 : decode cX6_firstOf 37 = .ok (.iadd, 1) := by decide +kernel
theorem dX6_firstOf_38 : decode cX6_firstOf 38 = .ok (.ireturn, 1) := by decide +kernel
theorem dX7_init_0 : decode cX7_init 0 = .ok (.aload_n 0, 1) := by decide +kernel
theorem dX7_init_1 : decode cX7_init 1 = .ok (.invokespecial 3, 3) := by decide +kernel
theorem dX7_init_4 : decode cX7_init 4 = .ok (.aload_n 0, 1) := by decide +kernel
theorem dX7_init_5 : decode cX7_init 5 = .ok (.sipush 171, 3) := by decide +kernel
theorem dX7_init_8 : decode cX7_init 8 = .ok (.newarray .int, 2) := by decide +kernel
theorem dX7_init_10 : decode cX7_init 10 = .ok (.putfield 9, 3) := by decide +kernel
theorem dX7_init_13 : decode cX7_init 13 = .ok (.aload_n 0, 1) := by decide +kernel
theorem dX7_init_14 : decode cX7_init 14 = .ok (.bipush 10, 2) := by decide +kernel
theorem dX7_init_16 : decode cX7_init 16 = .ok (.sipush 171, 3) := by decide +kernel
theorem dX7_init_19 : decode cX7_init 19 = .ok (.multianewarray 13 2, 4) := by decide +kernel
theorem dX7_init_23 : decode cX7_init 23 = .ok (.putfield 15, 3) := by decide +kernel
theorem dX7_init_26 : decode cX7_init 26 = .ok (.aload_n 0, 1) := by decide +kernel
theorem dX7_init_27 : decode cX7_init 27 = .ok (.iconst 2, 1) := by decide +kernel
theorem dX7_init_28 : decode cX7_init 28 = .ok (.sipush 171, 3) := by decide +kernel
theorem dX7_init_31 : decode cX7_init 31 = .ok (.multianewarray 13 2, 4) := by decide +kernel
theorem dX7_init_35 : decode cX7_init 35 = .ok (.putfield 18, 3) := by decide +kernel
theorem dX7_init_38 : decode cX7_init 38 = .ok (.aload_n 0, 1) := by decide +kernel
theorem dX7_init_39 : decode cX7_init 39 = .ok (.iconst 2, 1) := by decide +kernel
theorem dX7_init_40 : decode cX7_init 40 = .ok (.newarray .boolean, 2) := by decide +kernel
theorem dX7_init_42 : decode cX7_init 42 = .ok (.putfield 21, 3) := by decide +kernel
theorem dX7_init_45 : decode cX7_init 45 = .ok (.aload_n 0, 1) := by decide +kernel
theorem dX7_init_46 : decode cX7_init 46 = .ok (.sipush 171, 3) := by decide +kernel
theorem dX7_init_49 : decode cX7_init 49 = .ok (.newarray .int, 2) := by decide +kernel
theorem dX7_init_51 : decode cX7_init 51 = .ok (.putfield 25, 3) := by decide +kernel
theorem dX7_init_54 : decode cX7_init 54 = .ok (.aload_n 0, 1) := by decide +kernel
theorem dX7_init_55 : decode cX7_init 55 = .ok (.sipush 500, 3) := by decide +kernel
theorem dX7_init_58 : decode cX7_init 58 = .ok (.newarray .int, 2) := by decide +kernel
theorem dX7_init_60 : decode cX7_init 60 = .ok (.putfield 28, 3) := by decide +kernel
theorem dX7_init_63 : decode cX7_init 63 = .ok (.aload_n 0, 1) := by decide +kernel
theorem dX7_init_64 : decode cX7_init 64 = .ok (.sipush 200, 3) := by decide +kernel
theorem dX7_init_67 : decode cX7_init 67 = .ok (.newarray .byte, 2) := by decide +kernel
theorem dX7_init_69 : decode cX7_init 69 = .ok (.putfield 31, 3) := by decide +kernel
theorem dX7_init_72 : decode cX7_init 72 = .ok (.aload_n 0, 1) := by decide +kernel
theorem dX7_init_73 : decode cX7_init 73 = .ok (.bipush 11, 2) := by decide +kernel
theorem dX7_init_75 : decode cX7_init 75 = .ok (.newarray .int, 2) := by decide +kernel
theorem dX7_init_77 : decode cX7_init 77 = .ok (.putfield 35, 3) := by decide +kernel
theorem dX7_init_80 : decode cX7_init 80 = .ok (.aload_n 0, 1) := by decide +kernel
theorem dX7_init_81 : decode cX7_init 81 = .ok (.sipush 200, 3) := by decide +kernel
theorem dX7_init_84 : decode cX7_init 84 = .ok (.newarray .int, 2) := by decide +kernel
theorem dX7_init_86 : decode cX7_init 86 = .ok (.putfield 38, 3) := by decide +kernel
theorem dX7_init_89 : decode cX7_init 89 = .ok (.aload_n 0, 1) := by decide +kernel
theorem dX7_init_90 : decode cX7_init 90 = .ok (.sipush 2048, 3) := by decide +kernel
theorem dX7_init_93 : decode cX7_init 93 = .ok (.newarray .int, 2) := by decide +kernel
theorem dX7_init_95 : decode cX7_init 95 = .ok (.putfield 41, 3) := by decide +kernel
theorem dX7_init_98 : decode cX7_init 98 = .ok (.aload_n 0, 1) := by decide +kernel
theorem dX7_init_99 : decode cX7_init 99 = .ok (.bipush 11, 2) := by decide +kernel
theorem dX7_init_101 : decode cX7_init 101 = .ok (.newarray .long, 2) := by decide +kernel
theorem dX7_init_103 : decode cX7_init 103 = .ok (.putfield 44, 3) := by decide +kernel
theorem dX7_init_106 : decode cX7_init 106 = .ok (.aload_n 0, 1) := by decide +kernel
theorem dX7_init_107 : decode cX7_init 107 = .ok (.bipush 11, 2) := by decide +kernel
theorem dX7_init_109 : decode cX7_init 109 = .ok (.newarray .long, 2) := by decide +kernel
theorem dX7_init_111 : decode cX7_init 111 = .ok (.putfield 48, 3) := by decide +kernel
theorem dX7_init_114 : decode cX7_init 114 = .ok (.aload_n 0, 1) := by decide +kernel
theorem dX7_init_115 : decode cX7_init 115 = .ok (.bipush 52, 2) := by decide +kernel
theorem dX7_init_117 : decode cX7_init 117 = .ok (.newarray .int, 2) := by decide +kernel
theorem dX7_init_119 : decode cX7_init 119 = .ok (.putfield 51, 3) := by decide +kernel
theorem dX7_init_122 : decode cX7_init 122 = .ok (.aload_n 0, 1) := by decide +kernel
theorem dX7_init_123 : decode cX7_init 123 = .ok (.bipush 14, 2) := by decide +kernel
theorem dX7_init_125 : decode cX7_init 125 = .ok (.putfield 54, 3) := by decide +kernel
theorem dX7_init_128 : decode cX7_init 128 = .ok (.aload_n 0, 1) := by decide +kernel
theorem dX7_init_129 : decode cX7_init 129 = .ok (.getfield 51, 3) := by decide +kernel
theorem dX7_init_132 : decode cX7_init 132 = .ok (.iconst 0, 1) := by decide +kernel
theorem dX7_init_133 : decode cX7_init 133 = .ok (.bipush 12, 2) := by decide +kernel
theorem dX7_init_135 : decode cX7_init 135 = .ok (.iastore, 1) := by decide +kernel
theorem dX7_init_136 : decode cX7_init 136 = .ok (.aload_n 0, 1) := by decide +kernel
theorem dX7_init_137 : decode cX7_init 137 = .ok (.getfield 51, 3) := by decide +kernel
theorem dX7_init_140 : decode cX7_init 140 = .ok (.iconst 1, 1) := by decide +kernel
theorem dX7_init_141 : decode cX7_init 141 = .ok (.iconst 0, 1) := by decide +kernel
theorem dX7_init_142 : decode cX7_init 142 = .ok (.iastore, 1) := by decide +kernel
theorem dX7_init_143 : decode cX7_init 143 = .ok (.aload_n 0, 1) := by decide +kernel
theorem dX7_init_144 : decode cX7_init 144 = .ok (.getfield 51, 3) := by decide +kernel
theorem dX7_init_147 : decode cX7_init 147 = .ok (.iconst 2, 1) := by decide +kernel
theorem dX7_init_148 : decode cX7_init 148 = .ok (.iconst 1, 1) := by decide +kernel
theorem dX7_init_149 : decode cX7_init 149 = .ok (.iastore, 1) := by decide +kernel
theorem dX7_init_150 : decode cX7_init 150 = .ok (.aload_n 0, 1) := by decide +kernel
theorem dX7_init_151 : decode cX7_init 151 = .ok (.getfield 51, 3) := by decide +kernel
theorem dX7_init_154 : decode cX7_init 154 = .ok (.iconst 3, 1) := by decide +kernel
theorem dX7_init_155 : decode cX7_init 155 = .ok (.bipush 26, 2) := by decide +kernel
theorem dX7_init_157 : decode cX7_init 157 = .ok (.iastore, 1) := by decide +kernel
theorem dX7_init_158 : decode cX7_init 158 = .ok (.aload_n 0, 1) := by decide +kernel
theorem dX7_init_159 : decode cX7_init 159 = .ok (.getfield 51, 3) := by decide +kernel
theorem dX7_init_162 : decode cX7_init 162 = .ok (.iconst 4, 1) := by decide +kernel
theorem dX7_init_163 : decode cX7_init 163 = .ok (.bipush 39, 2) := by decide +kernel
theorem dX7_init_165 : decode cX7_init 165 = .ok (.iastore, 1) := by decide +kernel
theorem dX7_init_166 : decode cX7_init 166 = .ok (.aload_n 0, 1) := by decide +kernel
theorem dX7_init_167 : decode cX7_init 167 = .ok (.getfield 51, 3) := by decide +kernel
theorem dX7_init_170 : decode cX7_init 170 = .ok (.iconst 5, 1) := by decide +kernel
theorem dX7_init_171 : decode cX7_init 171 = .ok (.bipush 13, 2) := by decide +kernel
theorem dX7_init_173 : decode cX7_init 173 = .ok (.iastore, 1) := by decide +kernel
theorem dX7_init_174 : decode cX7_init 174 = .ok (.aload_n 0, 1) := by decide +kernel
theorem dX7_init_175 : decode cX7_init 175 = .ok (.getfield 51, 3) := by decide +kernel
theorem dX7_init_178 : decode cX7_init 178 = .ok (.bipush 6, 2) := by decide +kernel
theorem dX7_init_180 : decode cX7_init 180 = .ok (.bipush 45, 2) := by decide +kernel
theorem dX7_init_182 : decode cX7_init 182 = .ok (.iastore, 1) := by decide +kernel
theorem dX7_init_183 : decode cX7_init 183 = .ok (.aload_n 0, 1) := by decide +kernel
theorem dX7_init_184 : decode cX7_init 184 = .ok (.getfield 51, 3) := by decide +kernel
theorem dX7_init_187 : decode cX7_init 187 = .ok (.bipush 7, 2) := by decide +kernel
theorem dX7_init_189 : decode cX7_init 189 = .ok (.bipush 25, 2) := by decide +kernel
theorem dX7_init_191 : decode cX7_init 191 = .ok (.iastore, 1) := by decide +kernel
theorem dX7_init_192 : decode cX7_init 192 = .ok (.aload_n 0, 1) := by decide +kernel
theorem dX7_init_193 : decode cX7_init 193 = .ok (.getfield 51, 3) := by decide +kernel
theorem dX7_init_196 : decode cX7_init 196 = .ok (.bipush 8, 2) := by decide +kernel
theorem dX7_init_198 : decode cX7_init 198 = .ok (.bipush 11, 2) := by decide +kernel
theorem dX7_init_200 : decode cX7_init 200 = .ok (.iastore, 1) := by decide +kernel
theorem dX7_init_201 : decode cX7_init 201 = .ok (.aload_n 0, 1) := by decide +kernel
theorem dX7_init_202 : decode cX7_init 202 = .ok (.getfield 51, 3) := by decide +kernel
theorem dX7_init_205 : decode cX7_init 205 = .ok (.bipush 9, 2) := by decide +kernel
theorem dX7_init_207 : decode cX7_init 207 = .ok (.bipush 24, 2) := by decide +kernel
theorem dX7_init_209 : decode cX7_init 209 = .ok (.iastore, 1) := by decide +kernel
theorem dX7_init_210 : decode cX7_init 210 = .ok (.aload_n 0, 1) := by decide +kernel
theorem dX7_init_211 : decode cX7_init 211 = .ok (.getfield 51, 3) := by decide +kernel
theorem dX7_init_214 : decode cX7_init 214 = .ok (.bipush 10, 2) := by decide +kernel
theorem dX7_init_216 : decode cX7_init 216 = .ok (.iconst 2, 1) := by decide +kernel
theorem dX7_init_217 : decode cX7_init 217 = .ok (.iastore, 1) := by decide +kernel
theorem dX7_init_218 : decode cX7_init 218 = .ok (.aload_n 0, 1) := by decide +kernel
theorem dX7_init_219 : decode cX7_init 219 = .ok (.getfield 51, 3) := by decide +kernel
theorem dX7_init_222 : decode cX7_init 222 = .ok (.bipush 11, 2) := by decide +kernel
theorem dX7_init_224 : decode cX7_init 224 = .ok (.iconst 3, 1) := by decide +kernel
theorem dX7_init_225 : decode cX7_init 225 = .ok (.iastore, 1) := by decide +kernel
theorem dX7_init_226 : decode cX7_init 226 = .ok (.aload_n 0, 1) := by decide +kernel
theorem dX7_init_227 : decode cX7_init 227 = .ok (.getfield 51, 3) := by decide +kernel
theorem dX7_init_230 : decode cX7_init 230 = .ok (.bipush 12, 2) := by decide +kernel
theorem dX7_init_232 : decode cX7_init 232 = .ok (.iconst 4, 1) := by decide +kernel
theorem dX7_init_233 : decode cX7_init 233 = .ok (.iastore, 1) := by decide +kernel
theorem dX7_init_234 : decode cX7_init 234 = .ok (.aload_n 0, 1) := by decide +kernel
theorem dX7_init_235 : decode cX7_init 235 = .ok (.getfield 51, 3) := by decide +kernel
theorem dX7_init_238 : decode cX7_init 238 = .ok (.bipush 13, 2) := by decide +kernel
theorem dX7_init_240 : decode cX7_init 240 = .ok (.bipush 30, 2) := by decide +kernel
theorem dX7_init_242 : decode cX7_init 242 = .ok (.iastore, 1) := by decide +kernel
theorem dX7_init_243 : decode cX7_init 243 = .ok (.aload_n 0, 1) := by decide +kernel
theorem dX7_init_244 : decode cX7_init 244 = .ok (.iconst 1, 1) := by decide +kernel
theorem dX7_init_245 : decode cX7_init 245 = .ok (.bipush 7, 2) := by decide +kernel
theorem dX7_init_247 : decode cX7_init 247 = .ok (.bipush 10, 2) := by decide +kernel
theorem dX7_init_249 : decode cX7_init 249 = .ok (.bipush 100, 2) := by decide +kernel
theorem dX7_init_251 : decode cX7_init 251 = .ok (.invokevirtual 58, 3) := by decide +kernel
theorem dX7_init_254 : decode cX7_init 254 = .ok (.return_, 1) := by decide +kernel
theorem dX7_thrown_0 : decode cX7_thrown 0 = .ok (.aload_n 0, 1) := by decide +kernel
theorem dX7_thrown_1 : decode cX7_thrown 1 = .ok (.getfield 62, 3) := by decide +kernel
theorem dX7_thrown_4 : decode cX7_thrown 4 = .ok (.ireturn, 1) := by decide +kernel
theorem dX7_copy_0 : decode cX7_copy 0 = .ok (.iconst 0, 1) := by decide +kernel
theorem dX7_copy_1 : decode cX7_copy 1 = .ok (.istore_n 2, 1) := by decide +kernel
theorem dX7_copy_2 : decode cX7_copy 2 = .ok (.iload_n 2, 1) := by decide +kernel
theorem dX7_copy_3 : decode cX7_copy 3 = .ok (.sipush 171, 3) := by decide +kernel
theorem dX7_copy_6 : decode cX7_copy 6 = .ok (.if_icmp .ge 15, 3) := by decide +kernel
theorem dX7_copy_9 : decode cX7_copy 9 = .ok (.aload_n 1, 1) := by decide +kernel
theorem dX7_copy_10 : decode cX7_copy 10 = .ok (.iload_n 2, 1) := by decide +kernel
theorem dX7_copy_11 : decode cX7_copy 11 = .ok (.aload_n 0, 1) := by decide +kernel
theorem dX7_copy_12 : decode cX7_copy 12 = .ok (.iload_n 2, 1) := by decide +kernel
theorem dX7_copy_13 : decode cX7_copy 13 = .ok (.iaload, 1) := by decide +kernel
theorem dX7_copy_14 : decode cX7_copy 14 = .ok (.iastore, 1) := by decide +kernel
theorem dX7_copy_15 : decode cX7_copy 15 = .ok (.iinc 2 1, 3) := by decide +kernel
theorem dX7_copy_18 : decode cX7_copy 18 = .ok (.goto (-16), 3) := by decide +kernel
theorem dX7_copy_21 : decode cX7_copy 21 = .ok (.return_, 1) := by decide +kernel
theorem dX7_keepPast_0 : decode cX7_keepPast 0 = .ok (.aload_n 0, 1) := by decide +kernel
theorem dX7_keepPast_1 : decode cX7_keepPast 1 = .ok (.getfield 65, 3) := by decide +kernel
theorem dX7_keepPast_4 : decode cX7_keepPast 4 = .ok (.bipush 10, 2) := by decide +kernel
theorem dX7_keepPast_6 : decode cX7_keepPast 6 = .ok (.if_icmp .ne 56, 3) := by decide +kernel
theorem dX7_keepPast_9 : decode cX7_keepPast 9 = .ok (.aload_n 0, 1) := by decide +kernel
theorem dX7_keepPast_10 : decode cX7_keepPast 10 = .ok (.getfield 15, 3) := by decide +kernel
theorem dX7_keepPast_13 : decode cX7_keepPast 13 = .ok (.iconst 0, 1) := by decide +kernel
theorem dX7_keepPast_14 : decode cX7_keepPast 14 = .ok (.aaload, 1) := by decide +kernel
theorem dX7_keepPast_15 : decode cX7_keepPast 15 = .ok (.astore_n 2, 1) := by decide +kernel
theorem dX7_keepPast_16 : decode cX7_keepPast 16 = .ok (.iconst 1, 1) := by decide +kernel
theorem dX7_keepPast_17 : decode cX7_keepPast 17 = .ok (.istore_n 3, 1) := by decide +kernel
theorem dX7_keepPast_18 : decode cX7_keepPast 18 = .ok (.iload_n 3, 1) := by decide +kernel
theorem dX7_keepPast_19 : decode cX7_keepPast 19 = .ok (.bipush 10, 2) := by decide +kernel
theorem dX7_keepPast_21 : decode cX7_keepPast 21 = .ok (.if_icmp .ge 23, 3) := by decide +kernel
theorem dX7_keepPast_24 : decode cX7_keepPast 24 = .ok (.aload_n 0, 1) := by decide +kernel
theorem dX7_keepPast_25 : decode cX7_keepPast 25 = .ok (.getfield 15, 3) := by decide +kernel
theorem dX7_keepPast_28 : decode cX7_keepPast 28 = .ok (.iload_n 3, 1) := by decide +kernel
theorem dX7_keepPast_29 : decode cX7_keepPast 29 = .ok (.iconst 1, 1) := by decide +kernel
theorem dX7_keepPast_30 : decode cX7_keepPast 30 = .ok (.isub, 1) := by decide +kernel
theorem dX7_keepPast_31 : decode cX7_keepPast 31 = .ok (.aload_n 0, 1) := by decide +kernel
theorem dX7_keepPast_32 : decode cX7_keepPast 32 = .ok (.getfield 15, 3) := by decide +kernel
theorem dX7_keepPast_35 : decode cX7_keepPast 35 = .ok (.iload_n 3, 1) := by decide +kernel
theorem dX7_keepPast_36 : decode cX7_keepPast 36 = .ok (.aaload, 1) := by decide +kernel
theorem dX7_keepPast_37 : decode cX7_keepPast 37 = .ok (.aastore, 1) := by decide +kernel
theorem dX7_keepPast_38 : decode cX7_keepPast 38 = .ok (.iinc 3 1, 3) := by decide +kernel
theorem dX7_keepPast_41 : decode cX7_keepPast 41 = .ok (.goto (-23), 3) := by decide +kernel
theorem dX7_keepPast_44 : decode cX7_keepPast 44 = .ok (.aload_n 0, 1) := by decide +kernel
theorem dX7_keepPast_45 : decode cX7_keepPast 45 = .ok (.getfield 15, 3) := by decide +kernel
theorem dX7_keepPast_48 : decode cX7_keepPast 48 = .ok (.bipush 9, 2) := by decide +kernel
theorem dX7_keepPast_50 : decode cX7_keepPast 50 = .ok (.aload_n 2, 1) := by decide +kernel
theorem dX7_keepPast_51 : decode cX7_keepPast 51 = .ok (.aastore, 1) := by decide +kernel
theorem dX7_keepPast_52 : decode cX7_keepPast 52 = .ok (.aload_n 0, 1) := by decide +kernel
theorem dX7_keepPast_53 : decode cX7_keepPast 53 = .ok (.dup, 1) := by decide +kernel
theorem dX7_keepPast_54 : decode cX7_keepPast 54 = .ok (.getfield 65, 3) := by decide +kernel
theorem dX7_keepPast_57 : decode cX7_keepPast 57 = .ok (.iconst 1, 1) := by decide +kernel
theorem dX7_keepPast_58 : decode cX7_keepPast 58 = .ok (.isub, 1) := by decide +kernel
theorem dX7_keepPast_59 : decode cX7_keepPast 59 = .ok (.putfield 65, 3) := by decide +kernel
theorem dX7_keepPast_62 : decode cX7_keepPast 62 = .ok (.aload_n 1, 1) := by decide +kernel
theorem dX7_keepPast_63 : decode cX7_keepPast 63 = .ok (.aload_n 0, 1) := by decide +kernel
theorem dX7_keepPast_64 : decode cX7_keepPast 64 = .ok (.getfield 15, 3) := by decide +kernel
theorem dX7_keepPast_67 : decode cX7_keepPast 67 = .ok (.aload_n 0, 1) := by decide +kernel
theorem dX7_keepPast_68 : decode cX7_keepPast 68 = .ok (.getfield 65, 3) := by decide +kernel
theorem dX7_keepPast_71 : decode cX7_keepPast 71 = .ok (.aaload, 1) := by decide +kernel
theorem dX7_keepPast_72 : decode cX7_keepPast 72 = .ok (.invokestatic 68, 3) := by decide +kernel
theorem dX7_keepPast_75 : decode cX7_keepPast 75 = .ok (.aload_n 0, 1) := by decide +kernel
theorem dX7_keepPast_76 : decode cX7_keepPast 76 = .ok (.dup, 1) := by decide +kernel
theorem dX7_keepPast_77 : decode cX7_keepPast 77 = .ok (.getfield 65, 3) := by decide +kernel
theorem dX7_keepPast_80 : decode cX7_keepPast 80 = .ok (.iconst 1, 1) := by decide +kernel
theorem dX7_keepPast_81 : decode cX7_keepPast 81 = .ok (.iadd, 1) := by decide +kernel
theorem dX7_keepPast_82 : decode cX7_keepPast 82 = .ok (.putfield 65, 3) := by decide +kernel
theorem dX7_keepPast_85 : decode cX7_keepPast 85 = .ok (.return_, 1) := by decide +kernel
theorem dX7_bad_0 : decode cX7_bad 0 = .ok (.lload_n 1, 1) := by decide +kernel
theorem dX7_bad_1 : decode cX7_bad 1 = .ok (.lload_n 3, 1) := by decide +kernel
theorem dX7_bad_2 : decode cX7_bad 2 = .ok (.lcmp, 1) := by decide +kernel
theorem dX7_bad_3 : decode cX7_bad 3 = .ok (.ifCond .lt 10, 3) := by decide +kernel
theorem dX7_bad_6 : decode cX7_bad 6 = .ok (.lload_n 1, 1) := by decide +kernel
theorem dX7_bad_7 : decode cX7_bad 7 = .ok (.lload 5, 2) := by decide +kernel
theorem dX7_bad_9 : decode cX7_bad 9 = .ok (.lcmp, 1) := by decide +kernel
theorem dX7_bad_10 : decode cX7_bad 10 = .ok (.ifCond .le 11, 3) := by decide +kernel
theorem dX7_bad_13 : decode cX7_bad 13 = .ok (.aload_n 0, 1) := by decide +kernel
theorem dX7_bad_14 : decode cX7_bad 14 = .ok (.iload 7, 2) := by decide +kernel
theorem dX7_bad_16 : decode cX7_bad 16 = .ok (.putfield 62, 3) := by decide +kernel
theorem dX7_bad_19 : decode cX7_bad 19 = .ok (.iconst 1, 1) := by decide +kernel
theorem dX7_bad_20 : decode cX7_bad 20 = .ok (.ireturn, 1) := by decide +kernel
theorem dX7_bad_21 : decode cX7_bad 21 = .ok (.iconst 0, 1) := by decide +kernel
theorem dX7_bad_22 : decode cX7_bad 22 = .ok (.ireturn, 1) := by decide +kernel
theorem dX7_noPlayer_0 : decode cX7_noPlayer 0 = .ok (.aload_n 0, 1) := by decide +kernel
theorem dX7_noPlayer_1 : decode cX7_noPlayer 1 = .ok (.iload_n 1, 1) := by decide +kernel
theorem dX7_noPlayer_2 : decode cX7_noPlayer 2 = .ok (.i2l, 1) := by decide +kernel
theorem dX7_noPlayer_3 : decode cX7_noPlayer 3 = .ok (.lconst 0, 1) := by decide +kernel
theorem dX7_noPlayer_4 : decode cX7_noPlayer 4 = .ok (.lconst 1, 1) := by decide +kernel
theorem dX7_noPlayer_5 : decode cX7_noPlayer 5 = .ok (.iconst 1, 1) := by decide +kernel
theorem dX7_noPlayer_6 : decode cX7_noPlayer 6 = .ok (.invokevirtual 72, 3) := by decide +kernel
theorem dX7_noPlayer_9 : decode cX7_noPlayer 9 = .ok (.ireturn, 1) := by decide +kernel
theorem dX7_owns_0 : decode cX7_owns 0 = .ok (.iload_n 2, 1) := by decide +kernel
theorem dX7_owns_1 : decode cX7_owns 1 = .ok (.ifCond .lt 26, 3) := by decide +kernel
theorem dX7_owns_4 : decode cX7_owns 4 = .ok (.iload_n 2, 1) := by decide +kernel
theorem dX7_owns_5 : decode cX7_owns 5 = .ok (.bipush 52, 2) := by decide +kernel
theorem dX7_owns_7 : decode cX7_owns 7 = .ok (.if_icmp .ge 20, 3) := by decide +kernel
theorem dX7_owns_10 : decode cX7_owns 10 = .ok (.aload_n 0, 1) := by decide +kernel
theorem dX7_owns_11 : decode cX7_owns 11 = .ok (.getfield 9, 3) := by decide +kernel
theorem dX7_owns_14 : decode cX7_owns 14 = .ok (.bipush 119, 2) := by decide +kernel
theorem dX7_owns_16 : decode cX7_owns 16 = .ok (.iload_n 2, 1) := by decide +kernel
theorem dX7_owns_17 : decode cX7_owns 17 = .ok (.iadd, 1) := by decide +kernel
theorem dX7_owns_18 : decode cX7_owns 18 = .ok (.iaload, 1) := by decide +kernel
theorem dX7_owns_19 : decode cX7_owns 19 = .ok (.iload_n 1, 1) := by decide +kernel
theorem dX7_owns_20 : decode cX7_owns 20 = .ok (.if_icmp .ne 7, 3) := by decide +kernel
theorem dX7_owns_23 : decode cX7_owns 23 = .ok (.iconst 1, 1) := by decide +kernel
theorem dX7_owns_24 : decode cX7_owns 24 = .ok (.goto 4, 3) := by decide +kernel
theorem dX7_owns_27 : decode cX7_owns 27 = .ok (.iconst 0, 1) := by decide +kernel
theorem dX7_owns_28 : decode cX7_owns 28 = .ok (.ireturn, 1) := by decide +kernel
theorem dX7_noCard_0 : decode cX7_noCard 0 = .ok (.aload_n 0, 1) := by decide +kernel
theorem dX7_noCard_1 : decode cX7_noCard 1 = .ok (.aload_n 0, 1) := by decide +kernel
theorem dX7_noCard_2 : decode cX7_noCard 2 = .ok (.getfield 9, 3) := by decide +kernel
theorem dX7_noCard_5 : decode cX7_noCard 5 = .ok (.iconst 4, 1) := by decide +kernel
theorem dX7_noCard_6 : decode cX7_noCard 6 = .ok (.iaload, 1) := by decide +kernel
theorem dX7_noCard_7 : decode cX7_noCard 7 = .ok (.iload_n 1, 1) := by decide +kernel
theorem dX7_noCard_8 : decode cX7_noCard 8 = .ok (.invokevirtual 76, 3) := by decide +kernel
theorem dX7_noCard_11 : decode cX7_noCard 11 = .ok (.ifCond .ne 10, 3) := by decide +kernel
theorem dX7_noCard_14 : decode cX7_noCard 14 = .ok (.aload_n 0, 1) := by decide +kernel
theorem dX7_noCard_15 : decode cX7_noCard 15 = .ok (.iconst 1, 1) := by decide +kernel
theorem dX7_noCard_16 : decode cX7_noCard 16 = .ok (.putfield 62, 3) := by decide +kernel
theorem dX7_noCard_19 : decode cX7_noCard 19 = .ok (.iconst 1, 1) := by decide +kernel
theorem dX7_noCard_20 : decode cX7_noCard 20 = .ok (.ireturn, 1) := by decide +kernel
theorem dX7_noCard_21 : decode cX7_noCard 21 = .ok (.iconst 0, 1) := by decide +kernel
theorem dX7_noCard_22 : decode cX7_noCard 22 = .ok (.ireturn, 1) := by decide +kernel
theorem dX7_points_0 : decode cX7_points 0 = .ok (.iload_n 0, 1) := by decide +kernel
theorem dX7_points_1 : decode cX7_points 1 = .ok (.bipush 13, 2) := by decide +kernel
theorem dX7_points_3 : decode cX7_points 3 = .ok (.irem, 1) := by decide +kernel
theorem dX7_points_4 : decode cX7_points 4 = .ok (.istore_n 1, 1) := by decide +kernel
theorem dX7_points_5 : decode cX7_points 5 = .ok (.iload_n 1, 1) := by decide +kernel
theorem dX7_points_6 : decode cX7_points 6 = .ok (.bipush 8, 2) := by decide +kernel
theorem dX7_points_8 : decode cX7_points 8 = .ok (.if_icmp .le 8, 3) := by decide +kernel
theorem dX7_points_11 : decode cX7_points 11 = .ok (.bipush 10, 2) := by decide +kernel
theorem dX7_points_13 : decode cX7_points 13 = .ok (.goto 6, 3) := by decide +kernel
theorem dX7_points_16 : decode cX7_points 16 = .ok (.iload_n 1, 1) := by decide +kernel
theorem dX7_points_17 : decode cX7_points 17 = .ok (.iconst 1, 1) := by decide +kernel
theorem dX7_points_18 : decode cX7_points 18 = .ok (.iadd, 1) := by decide +kernel
theorem dX7_points_19 : decode cX7_points 19 = .ok (.ireturn, 1) := by decide +kernel
theorem dX7_pointsOf_0 : decode cX7_pointsOf 0 = .ok (.iconst 0, 1) := by decide +kernel
theorem dX7_pointsOf_1 : decode cX7_pointsOf 1 = .ok (.istore_n 2, 1) := by decide +kernel
theorem dX7_pointsOf_2 : decode cX7_pointsOf 2 = .ok (.iconst 0, 1) := by decide +kernel
theorem dX7_pointsOf_3 : decode cX7_pointsOf 3 = .ok (.istore_n 3, 1) := by decide +kernel
theorem dX7_pointsOf_4 : decode cX7_pointsOf 4 = .ok (.iload_n 3, 1) := by decide +kernel
theorem dX7_pointsOf_5 : decode cX7_pointsOf 5 = .ok (.bipush 52, 2) := by decide +kernel
theorem dX7_pointsOf_7 : decode cX7_pointsOf 7 = .ok (.if_icmp .ge 30, 3) := by decide +kernel
theorem dX7_pointsOf_10 : decode cX7_pointsOf 10 = .ok (.iload_n 2, 1) := by decide +kernel
theorem dX7_pointsOf_11 : decode cX7_pointsOf 11 = .ok (.lload_n 0, 1) := by decide +kernel
theorem dX7_pointsOf_12 : decode cX7_pointsOf 12 = .ok (.iload_n 3, 1) := by decide +kernel
theorem dX7_pointsOf_13 : decode cX7_pointsOf 13 = .ok (.lshr, 1) := by decide +kernel
theorem dX7_pointsOf_14 : decode cX7_pointsOf 14 = .ok (.lconst 1, 1) := by decide +kernel
theorem dX7_pointsOf_15 : decode cX7_pointsOf 15 = .ok (.land, 1) := by decide +kernel
theorem dX7_pointsOf_16 : decode cX7_pointsOf 16 = .ok (.lconst 1, 1) := by decide +kernel
theorem dX7_pointsOf_17 : decode cX7_pointsOf 17 = .ok (.lcmp, 1) := by decide +kernel
theorem dX7_pointsOf_18 : decode cX7_pointsOf 18 = .ok (.ifCond .ne 10, 3) := by decide +kernel
theorem dX7_pointsOf_21 : decode cX7_pointsOf 21 = .ok (.iload_n 3, 1) := by decide +kernel
theorem dX7_pointsOf_22 : decode cX7_pointsOf 22 = .ok (.invokestatic 80, 3) := by decide +kernel
theorem dX7_pointsOf_25 : decode cX7_pointsOf 25 = .ok (.goto 4, 3) := by decide +kernel
theorem dX7_pointsOf_28 : decode cX7_pointsOf 28 = .ok (.iconst 0, 1) := by decide +kernel
theorem dX7_pointsOf_29 : decode cX7_pointsOf 29 = .ok (.iadd, 1) := by decide +kernel
theorem dX7_pointsOf_30 : decode cX7_pointsOf 30 = .ok (.istore_n 2, 1) := by decide +kernel
theorem dX7_pointsOf_31 : decode cX7_pointsOf 31 = .ok (.iinc 3 1, 3) := by decide +kernel
theorem dX7_pointsOf_34 : decode cX7_pointsOf 34 = .ok (.goto (-30), 3) := by decide +kernel
theorem dX7_pointsOf_37 : decode cX7_pointsOf 37 = .ok (.iload_n 2, 1) := by decide +kernel
theorem dX7_pointsOf_38 : decode cX7_pointsOf 38 = .ok (.ireturn, 1) := by decide +kernel
theorem dX7_ones_0 : decode cX7_ones 0 = .ok (.iconst 0, 1) := by decide +kernel
theorem dX7_ones_1 : decode cX7_ones 1 = .ok (.istore_n 2, 1) := by decide +kernel
theorem dX7_ones_2 : decode cX7_ones 2 = .ok (.lload_n 0, 1) := by decide +kernel
theorem dX7_ones_3 : decode cX7_ones 3 = .ok (.lstore_n 3, 1) := by decide +kernel
theorem dX7_ones_4 : decode cX7_ones 4 = .ok (.lload_n 3, 1) := by decide +kernel
theorem dX7_ones_5 : decode cX7_ones 5 = .ok (.lconst 0, 1) := by decide +kernel
theorem dX7_ones_6 : decode cX7_ones 6 = .ok (.lcmp, 1) := by decide +kernel
theorem dX7_ones_7 : decode cX7_ones 7 = .ok (.ifCond .eq 15, 3) := by decide +kernel
theorem dX7_ones_10 : decode cX7_ones 10 = .ok (.iinc 2 1, 3) := by decide +kernel
theorem dX7_ones_13 : decode cX7_ones 13 = .ok (.lload_n 3, 1) := by decide +kernel
theorem dX7_ones_14 : decode cX7_ones 14 = .ok (.lload_n 3, 1) := by decide +kernel
theorem dX7_ones_15 : decode cX7_ones 15 = .ok (.lconst 1, 1) := by decide +kernel
theorem dX7_ones_16 : decode cX7_ones 16 = .ok (.lsub, 1) := by decide +kernel
theorem dX7_ones_17 : decode cX7_ones 17 = .ok (.land, 1) := by decide +kernel
theorem dX7_ones_18 : decode cX7_ones 18 = .ok (.lstore_n 3, 1) := by decide +kernel
theorem dX7_ones_19 : decode cX7_ones 19 = .ok (.goto (-15), 3) := by decide +kernel
theorem dX7_ones_22 : decode cX7_ones 22 = .ok (.iload_n 2, 1) := by decide +kernel
theorem dX7_ones_23 : decode cX7_ones 23 = .ok (.ireturn, 1) := by decide +kernel
theorem dX7_begin_0 : decode cX7_begin 0 = .ok (.iconst 0, 1) := by decide +kernel
theorem dX7_begin_1 : decode cX7_begin 1 = .ok (.istore 5, 2) := by decide +kernel
theorem dX7_begin_3 : decode cX7_begin 3 = .ok (.iload 5, 2) := by decide +kernel
theorem dX7_begin_5 : decode cX7_begin 5 = .ok (.sipush 171, 3) := by decide +kernel
theorem dX7_begin_8 : decode cX7_begin 8 = .ok (.if_icmp .ge 17, 3) := by decide +kernel
theorem dX7_begin_11 : decode cX7_begin 11 = .ok (.aload_n 0, 1) := by decide +kernel
theorem dX7_begin_12 : decode cX7_begin 12 = .ok (.getfield 9, 3) := by decide +kernel
theorem dX7_begin_15 : decode cX7_begin 15 = .ok (.iload 5, 2) := by decide +kernel
theorem dX7_begin_17 : decode cX7_begin 17 = .ok (.iconst 0, 1) := by decide +kernel
theorem dX7_begin_18 : decode cX7_begin 18 = .ok (.iastore, 1) := by decide +kernel
theorem dX7_begin_19 : decode cX7_begin 19 = .ok (.iinc 5 1, 3) := by decide +kernel
theorem dX7_begin_22 : decode cX7_begin 22 = .ok (.goto (-19), 3) := by decide +kernel
theorem dX7_begin_25 : decode cX7_begin 25 = .ok (.aload_n 0, 1) := by decide +kernel
theorem dX7_begin_26 : decode cX7_begin 26 = .ok (.getfield 9, 3) := by decide +kernel
theorem dX7_begin_29 : decode cX7_begin 29 = .ok (.iconst 0, 1) := by decide +kernel
theorem dX7_begin_30 : decode cX7_begin 30 = .ok (.iload_n 2, 1) := by decide +kernel
theorem dX7_begin_31 : decode cX7_begin 31 = .ok (.iastore, 1) := by decide +kernel
theorem dX7_begin_32 : decode cX7_begin 32 = .ok (.aload_n 0, 1) := by decide +kernel
theorem dX7_begin_33 : decode cX7_begin 33 = .ok (.getfield 9, 3) := by decide +kernel
theorem dX7_begin_36 : decode cX7_begin 36 = .ok (.iconst 1, 1) := by decide +kernel
theorem dX7_begin_37 : decode cX7_begin 37 = .ok (.iload_n 3, 1) := by decide +kernel
theorem dX7_begin_38 : decode cX7_begin 38 = .ok (.iastore, 1) := by decide +kernel
theorem dX7_begin_39 : decode cX7_begin 39 = .ok (.aload_n 0, 1) := by decide +kernel
theorem dX7_begin_40 : decode cX7_begin 40 = .ok (.getfield 9, 3) := by decide +kernel
theorem dX7_begin_43 : decode cX7_begin 43 = .ok (.iconst 2, 1) := by decide +kernel
theorem dX7_begin_44 : decode cX7_begin 44 = .ok (.iload 4, 2) := by decide +kernel
theorem dX7_begin_46 : decode cX7_begin 46 = .ok (.iastore, 1) := by decide +kernel
theorem dX7_begin_47 : decode cX7_begin 47 = .ok (.aload_n 0, 1) := by decide +kernel
theorem dX7_begin_48 : decode cX7_begin 48 = .ok (.getfield 9, 3) := by decide +kernel
theorem dX7_begin_51 : decode cX7_begin 51 = .ok (.bipush 12, 2) := by decide +kernel
theorem dX7_begin_53 : decode cX7_begin 53 = .ok (.iload_n 1, 1) := by decide +kernel
theorem dX7_begin_54 : decode cX7_begin 54 = .ok (.iastore, 1) := by decide +kernel
theorem dX7_begin_55 : decode cX7_begin 55 = .ok (.aload_n 0, 1) := by decide +kernel
theorem dX7_begin_56 : decode cX7_begin 56 = .ok (.getfield 9, 3) := by decide +kernel
theorem dX7_begin_59 : decode cX7_begin 59 = .ok (.bipush 11, 2) := by decide +kernel
theorem dX7_begin_61 : decode cX7_begin 61 = .ok (.iconst (-1), 1) := by decide +kernel
theorem dX7_begin_62 : decode cX7_begin 62 = .ok (.iastore, 1) := by decide +kernel
theorem dX7_begin_63 : decode cX7_begin 63 = .ok (.aload_n 0, 1) := by decide +kernel
theorem dX7_begin_64 : decode cX7_begin 64 = .ok (.invokevirtual 84, 3) := by decide +kernel
theorem dX7_begin_67 : decode cX7_begin 67 = .ok (.aload_n 0, 1) := by decide +kernel
theorem dX7_begin_68 : decode cX7_begin 68 = .ok (.invokevirtual 87, 3) := by decide +kernel
theorem dX7_begin_71 : decode cX7_begin 71 = .ok (.aload_n 0, 1) := by decide +kernel
theorem dX7_begin_72 : decode cX7_begin 72 = .ok (.invokevirtual 90, 3) := by decide +kernel
theorem dX7_begin_75 : decode cX7_begin 75 = .ok (.return_, 1) := by decide +kernel
theorem dX7_shuffle_0 : decode cX7_shuffle 0 = .ok (.iconst 0, 1) := by decide +kernel
theorem dX7_shuffle_1 : decode cX7_shuffle 1 = .ok (.istore_n 1, 1) := by decide +kernel
theorem dX7_shuffle_2 : decode cX7_shuffle 2 = .ok (.iload_n 1, 1) := by decide +kernel
theorem dX7_shuffle_3 : decode cX7_shuffle 3 = .ok (.bipush 52, 2) := by decide +kernel
theorem dX7_shuffle_5 : decode cX7_shuffle 5 = .ok (.if_icmp .ge 19, 3) := by decide +kernel
theorem dX7_shuffle_8 : decode cX7_shuffle 8 = .ok (.aload_n 0, 1) := by decide +kernel
theorem dX7_shuffle_9 : decode cX7_shuffle 9 = .ok (.getfield 9, 3) := by decide +kernel
theorem dX7_shuffle_12 : decode cX7_shuffle 12 = .ok (.bipush 15, 2) := by decide +kernel
theorem dX7_shuffle_14 : decode cX7_shuffle 14 = .ok (.iload_n 1, 1) := by decide +kernel
theorem dX7_shuffle_15 : decode cX7_shuffle 15 = .ok (.iadd, 1) := by decide +kernel
theorem dX7_shuffle_16 : decode cX7_shuffle 16 = .ok (.iload_n 1, 1) := by decide +kernel
theorem dX7_shuffle_17 : decode cX7_shuffle 17 = .ok (.iastore, 1) := by decide +kernel
theorem dX7_shuffle_18 : decode cX7_shuffle 18 = .ok (.iinc 1 1, 3) := by decide +kernel
theorem dX7_shuffle_21 : decode cX7_shuffle 21 = .ok (.goto (-19), 3) := by decide +kernel
theorem dX7_shuffle_24 : decode cX7_shuffle 24 = .ok (.bipush 51, 2) := by decide +kernel
theorem dX7_shuffle_26 : decode cX7_shuffle 26 = .ok (.istore_n 1, 1) := by decide +kernel
theorem dX7_shuffle_27 : decode cX7_shuffle 27 = .ok (.iload_n 1, 1) := by decide +kernel
theorem dX7_shuffle_28 : decode cX7_shuffle 28 = .ok (.ifCond .le 90, 3) := by decide +kernel
theorem dX7_shuffle_31 : decode cX7_shuffle 31 = .ok (.aload_n 0, 1) := by decide +kernel
theorem dX7_shuffle_32 : decode cX7_shuffle 32 = .ok (.getfield 9, 3) := by decide +kernel
theorem dX7_shuffle_35 : decode cX7_shuffle 35 = .ok (.bipush 12, 2) := by decide +kernel
theorem dX7_shuffle_37 : decode cX7_shuffle 37 = .ok (.aload_n 0, 1) := by decide +kernel
theorem dX7_shuffle_38 : decode cX7_shuffle 38 = .ok (.getfield 9, 3) := by decide +kernel
theorem dX7_shuffle_41 : decode cX7_shuffle 41 = .ok (.bipush 12, 2) := by decide +kernel
theorem dX7_shuffle_43 : decode cX7_shuffle 43 = .ok (.iaload, 1) := by decide +kernel
theorem dX7_shuffle_44 : decode cX7_shuffle 44 = .ok (.i2l, 1) := by decide +kernel
theorem dX7_shuffle_45 : decode cX7_shuffle 45 = .ok (.ldc2_w 93, 3) := by decide +kernel
theorem dX7_shuffle_48 : decode cX7_shuffle 48 = .ok (.lmul, 1) := by decide +kernel
theorem dX7_shuffle_49 : decode cX7_shuffle 49 = .ok (.ldc2_w 95, 3) := by decide +kernel
theorem dX7_shuffle_52 : decode cX7_shuffle 52 = .ok (.ladd, 1) := by decide +kernel
theorem dX7_shuffle_53 : decode cX7_shuffle 53 = .ok (.ldc2_w 97, 3) := by decide +kernel
theorem dX7_shuffle_56 : decode cX7_shuffle 56 = .ok (.lrem, 1) := by decide +kernel
theorem dX7_shuffle_57 : decode cX7_shuffle 57 = .ok (.l2i, 1) := by decide +kernel
theorem dX7_shuffle_58 : decode cX7_shuffle 58 = .ok (.iastore, 1) := by decide +kernel
theorem dX7_shuffle_59 : decode cX7_shuffle 59 = .ok (.aload_n 0, 1) := by decide +kernel
theorem dX7_shuffle_60 : decode cX7_shuffle 60 = .ok (.getfield 9, 3) := by decide +kernel
theorem dX7_shuffle_63 : decode cX7_shuffle 63 = .ok (.bipush 12, 2) := by decide +kernel
theorem dX7_shuffle_65 : decode cX7_shuffle 65 = .ok (.iaload, 1) := by decide +kernel
theorem dX7_shuffle_66 : decode cX7_shuffle 66 = .ok (.ldc 99, 2) := by decide +kernel
theorem dX7_shuffle_68 : decode cX7_shuffle 68 = .ok (.idiv, 1) := by decide +kernel
theorem dX7_shuffle_69 : decode cX7_shuffle 69 = .ok (.iload_n 1, 1) := by decide +kernel
theorem dX7_shuffle_70 : decode cX7_shuffle 70 = .ok (.iconst 1, 1) := by decide +kernel
theorem dX7_shuffle_71 : decode cX7_shuffle 71 = .ok (.iadd, 1) := by decide +kernel
theorem dX7_shuffle_72 : decode cX7_shuffle 72 = .ok (.irem, 1) := by decide +kernel
theorem dX7_shuffle_73 : decode cX7_shuffle 73 = .ok (.istore_n 2, 1) := by decide +kernel
theorem dX7_shuffle_74 : decode cX7_shuffle 74 = .ok (.aload_n 0, 1) := by decide +kernel
theorem dX7_shuffle_75 : decode cX7_shuffle 75 = .ok (.getfield 9, 3) := by decide +kernel
theorem dX7_shuffle_78 : decode cX7_shuffle 78 = .ok (.bipush 15, 2) := by decide +kernel
theorem dX7_shuffle_80 : decode cX7_shuffle 80 = .ok (.iload_n 1, 1) := by decide +kernel
theorem dX7_shuffle_81 : decode cX7_shuffle 81 = .ok (.iadd, 1) := by decide +kernel
theorem dX7_shuffle_82 : decode cX7_shuffle 82 = .ok (.iaload, 1) := by decide +kernel
theorem dX7_shuffle_83 : decode cX7_shuffle 83 = .ok (.istore_n 3, 1) := by decide +kernel
theorem dX7_shuffle_84 : decode cX7_shuffle 84 = .ok (.aload_n 0, 1) := by decide +kernel
theorem dX7_shuffle_85 : decode cX7_shuffle 85 = .ok (.getfield 9, 3) := by decide +kernel
theorem dX7_shuffle_88 : decode cX7_shuffle 88 = .ok (.bipush 15, 2) := by decide +kernel
theorem dX7_shuffle_90 : decode cX7_shuffle 90 = .ok (.iload_n 1, 1) := by decide +kernel
theorem dX7_shuffle_91 : decode cX7_shuffle 91 = .ok (.iadd, 1) := by decide +kernel
theorem dX7_shuffle_92 : decode cX7_shuffle 92 = .ok (.aload_n 0, 1) := by decide +kernel
theorem dX7_shuffle_93 : decode cX7_shuffle 93 = .ok (.getfield 9, 3) := by decide +kernel
theorem dX7_shuffle_96 : decode cX7_shuffle 96 = .ok (.bipush 15, 2) := by decide +kernel
theorem dX7_shuffle_98 : decode cX7_shuffle 98 = .ok (.iload_n 2, 1) := by decide +kernel
theorem dX7_shuffle_99 : decode cX7_shuffle 99 = .ok (.iadd, 1) := by decide +kernel
theorem dX7_shuffle_100 : decode cX7_shuffle 100 = .ok (.iaload, 1) := by decide +kernel
theorem dX7_shuffle_101 : decode cX7_shuffle 101 = .ok (.iastore, 1) := by decide +kernel
theorem dX7_shuffle_102 : decode cX7_shuffle 102 = .ok (.aload_n 0, 1) := by decide +kernel
theorem dX7_shuffle_103 : decode cX7_shuffle 103 = .ok (.getfield 9, 3) := by decide +kernel
theorem dX7_shuffle_106 : decode cX7_shuffle 106 = .ok (.bipush 15, 2) := by decide +kernel
theorem dX7_shuffle_108 : decode cX7_shuffle 108 = .ok (.iload_n 2, 1) := by decide +kernel
theorem dX7_shuffle_109 : decode cX7_shuffle 109 = .ok (.iadd, 1) := by decide +kernel
theorem dX7_shuffle_110 : decode cX7_shuffle 110 = .ok (.iload_n 3, 1) := by decide +kernel
theorem dX7_shuffle_111 : decode cX7_shuffle 111 = .ok (.iastore, 1) := by decide +kernel
theorem dX7_shuffle_112 : decode cX7_shuffle 112 = .ok (.iinc 1 (-1), 3) := by decide +kernel
theorem dX7_shuffle_115 : decode cX7_shuffle 115 = .ok (.goto (-88), 3) := by decide +kernel
theorem dX7_shuffle_118 : decode cX7_shuffle 118 = .ok (.return_, 1) := by decide +kernel
theorem dX7_putFirst_0 : decode cX7_putFirst 0 = .ok (.aload_n 0, 1) := by decide +kernel
theorem dX7_putFirst_1 : decode cX7_putFirst 1 = .ok (.getfield 54, 3) := by decide +kernel
theorem dX7_putFirst_4 : decode cX7_putFirst 4 = .ok (.iconst 1, 1) := by decide +kernel
theorem dX7_putFirst_5 : decode cX7_putFirst 5 = .ok (.isub, 1) := by decide +kernel
theorem dX7_putFirst_6 : decode cX7_putFirst 6 = .ok (.istore_n 1, 1) := by decide +kernel
theorem dX7_putFirst_7 : decode cX7_putFirst 7 = .ok (.iload_n 1, 1) := by decide +kernel
theorem dX7_putFirst_8 : decode cX7_putFirst 8 = .ok (.ifCond .lt 78, 3) := by decide +kernel
theorem dX7_putFirst_11 : decode cX7_putFirst 11 = .ok (.iconst 0, 1) := by decide +kernel
theorem dX7_putFirst_12 : decode cX7_putFirst 12 = .ok (.istore_n 2, 1) := by decide +kernel
theorem dX7_putFirst_13 : decode cX7_putFirst 13 = .ok (.aload_n 0, 1) := by decide +kernel
theorem dX7_putFirst_14 : decode cX7_putFirst 14 = .ok (.getfield 9, 3) := by decide +kernel
theorem dX7_putFirst_17 : decode cX7_putFirst 17 = .ok (.bipush 15, 2) := by decide +kernel
theorem dX7_putFirst_19 : decode cX7_putFirst 19 = .ok (.iload_n 2, 1) := by decide +kernel
theorem dX7_putFirst_20 : decode cX7_putFirst 20 = .ok (.iadd, 1) := by decide +kernel
theorem dX7_putFirst_21 : decode cX7_putFirst 21 = .ok (.iaload, 1) := by decide +kernel
theorem dX7_putFirst_22 : decode cX7_putFirst 22 = .ok (.aload_n 0, 1) := by decide +kernel
theorem dX7_putFirst_23 : decode cX7_putFirst 23 = .ok (.getfield 51, 3) := by decide +kernel
theorem dX7_putFirst_26 : decode cX7_putFirst 26 = .ok (.iload_n 1, 1) := by decide +kernel
theorem dX7_putFirst_27 : decode cX7_putFirst 27 = .ok (.iaload, 1) := by decide +kernel
theorem dX7_putFirst_28 : decode cX7_putFirst 28 = .ok (.if_icmp .eq 9, 3) := by decide +kernel
theorem dX7_putFirst_31 : decode cX7_putFirst 31 = .ok (.iinc 2 1, 3) := by decide +kernel
theorem dX7_putFirst_34 : decode cX7_putFirst 34 = .ok (.goto (-21), 3) := by decide +kernel
theorem dX7_putFirst_37 : decode cX7_putFirst 37 = .ok (.iload_n 2, 1) := by decide +kernel
theorem dX7_putFirst_38 : decode cX7_putFirst 38 = .ok (.ifCond .le 29, 3) := by decide +kernel
theorem dX7_putFirst_41 : decode cX7_putFirst 41 = .ok (.aload_n 0, 1) := by decide +kernel
theorem dX7_putFirst_42 : decode cX7_putFirst 42 = .ok (.getfield 9, 3) := by decide +kernel
theorem dX7_putFirst_45 : decode cX7_putFirst 45 = .ok (.bipush 15, 2) := by decide +kernel
theorem dX7_putFirst_47 : decode cX7_putFirst 47 = .ok (.iload_n 2, 1) := by decide +kernel
theorem dX7_putFirst_48 : decode cX7_putFirst 48 = .ok (.iadd, 1) := by decide +kernel
theorem dX7_putFirst_49 : decode cX7_putFirst 49 = .ok (.aload_n 0, 1) := by decide +kernel
theorem dX7_putFirst_50 : decode cX7_putFirst 50 = .ok (.getfield 9, 3) := by decide +kernel
theorem dX7_putFirst_53 : decode cX7_putFirst 53 = .ok (.bipush 15, 2) := by decide +kernel
theorem dX7_putFirst_55 : decode cX7_putFirst 55 = .ok (.iload_n 2, 1) := by decide +kernel
theorem dX7_putFirst_56 : decode cX7_putFirst 56 = .ok (.iadd, 1) := by decide +kernel
theorem dX7_putFirst_57 : decode cX7_putFirst 57 = .ok (.iconst 1, 1) := by decide +kernel
theorem dX7_putFirst_58 : decode cX7_putFirst 58 = .ok (.isub, 1) := by decide +kernel
theorem dX7_putFirst_59 : decode cX7_putFirst 59 = .ok (.iaload, 1) := by decide +kernel
theorem dX7_putFirst_60 : decode cX7_putFirst 60 = .ok (.iastore, 1) := by decide +kernel
theorem dX7_putFirst_61 : decode cX7_putFirst 61 = .ok (.iinc 2 (-1), 3) := by decide +kernel
theorem dX7_putFirst_64 : decode cX7_putFirst 64 = .ok (.goto (-27), 3) := by decide +kernel
theorem dX7_putFirst_67 : decode cX7_putFirst 67 = .ok (.aload_n 0, 1) := by decide +kernel
theorem dX7_putFirst_68 : decode cX7_putFirst 68 = .ok (.getfield 9, 3) := by decide +kernel
theorem dX7_putFirst_71 : decode cX7_putFirst 71 = .ok (.bipush 15, 2) := by decide +kernel
theorem dX7_putFirst_73 : decode cX7_putFirst 73 = .ok (.aload_n 0, 1) := by decide +kernel
theorem dX7_putFirst_74 : decode cX7_putFirst 74 = .ok (.getfield 51, 3) := by decide +kernel
theorem dX7_putFirst_77 : decode cX7_putFirst 77 = .ok (.iload_n 1, 1) := by decide +kernel
theorem dX7_putFirst_78 : decode cX7_putFirst 78 = .ok (.iaload, 1) := by decide +kernel
theorem dX7_putFirst_79 : decode cX7_putFirst 79 = .ok (.iastore, 1) := by decide +kernel
theorem dX7_putFirst_80 : decode cX7_putFirst 80 = .ok (.iinc 1 (-1), 3) := by decide +kernel
theorem dX7_putFirst_83 : decode cX7_putFirst 83 = .ok (.goto (-76), 3) := by decide +kernel
theorem dX7_putFirst_86 : decode cX7_putFirst 86 = .ok (.return_, 1) := by decide +kernel
theorem dX7_dealOut_0 : decode cX7_dealOut 0 = .ok (.aload_n 0, 1) := by decide +kernel
theorem dX7_dealOut_1 : decode cX7_dealOut 1 = .ok (.getfield 9, 3) := by decide +kernel
theorem dX7_dealOut_4 : decode cX7_dealOut 4 = .ok (.iconst 0, 1) := by decide +kernel
theorem dX7_dealOut_5 : decode cX7_dealOut 5 = .ok (.iaload, 1) := by decide +kernel
theorem dX7_dealOut_6 : decode cX7_dealOut 6 = .ok (.istore_n 1, 1) := by decide +kernel
theorem dX7_dealOut_7 : decode cX7_dealOut 7 = .ok (.iconst 0, 1) := by decide +kernel
theorem dX7_dealOut_8 : decode cX7_dealOut 8 = .ok (.istore_n 2, 1) := by decide +kernel
theorem dX7_dealOut_9 : decode cX7_dealOut 9 = .ok (.iload_n 2, 1) := by decide +kernel
theorem dX7_dealOut_10 : decode cX7_dealOut 10 = .ok (.bipush 52, 2) := by decide +kernel
theorem dX7_dealOut_12 : decode cX7_dealOut 12 = .ok (.if_icmp .ge 60, 3) := by decide +kernel
theorem dX7_dealOut_15 : decode cX7_dealOut 15 = .ok (.iload_n 2, 1) := by decide +kernel
theorem dX7_dealOut_16 : decode cX7_dealOut 16 = .ok (.iload_n 1, 1) := by decide +kernel
theorem dX7_dealOut_17 : decode cX7_dealOut 17 = .ok (.if_icmp .ge 7, 3) := by decide +kernel
theorem dX7_dealOut_20 : decode cX7_dealOut 20 = .ok (.iconst 0, 1) := by decide +kernel
theorem dX7_dealOut_21 : decode cX7_dealOut 21 = .ok (.goto 26, 3) := by decide +kernel
theorem dX7_dealOut_24 : decode cX7_dealOut 24 = .ok (.iload_n 2, 1) := by decide +kernel
theorem dX7_dealOut_25 : decode cX7_dealOut 25 = .ok (.iconst 2, 1) := by decide +kernel
theorem dX7_dealOut_26 : decode cX7_dealOut 26 = .ok (.iload_n 1, 1) := by decide +kernel
theorem dX7_dealOut_27 : decode cX7_dealOut 27 = .ok (.imul, 1) := by decide +kernel
theorem dX7_dealOut_28 : decode cX7_dealOut 28 = .ok (.if_icmp .ge 7, 3) := by decide +kernel
theorem dX7_dealOut_31 : decode cX7_dealOut 31 = .ok (.iconst 1, 1) := by decide +kernel
theorem dX7_dealOut_32 : decode cX7_dealOut 32 = .ok (.goto 15, 3) := by decide +kernel
theorem dX7_dealOut_35 : decode cX7_dealOut 35 = .ok (.iload_n 2, 1) := by decide +kernel
theorem dX7_dealOut_36 : decode cX7_dealOut 36 = .ok (.iconst 2, 1) := by decide +kernel
theorem dX7_dealOut_37 : decode cX7_dealOut 37 = .ok (.iload_n 1, 1) := by decide +kernel
theorem dX7_dealOut_38 : decode cX7_dealOut 38 = .ok (.imul, 1) := by decide +kernel
theorem dX7_dealOut_39 : decode cX7_dealOut 39 = .ok (.if_icmp .ne 7, 3) := by decide +kernel
theorem dX7_dealOut_42 : decode cX7_dealOut 42 = .ok (.iconst 2, 1) := by decide +kernel
theorem dX7_dealOut_43 : decode cX7_dealOut 43 = .ok (.goto 4, 3) := by decide +kernel
theorem dX7_dealOut_46 : decode cX7_dealOut 46 = .ok (.iconst 3, 1) := by decide +kernel
theorem dX7_dealOut_47 : decode cX7_dealOut 47 = .ok (.istore_n 3, 1) := by decide +kernel
theorem dX7_dealOut_48 : decode cX7_dealOut 48 = .ok (.aload_n 0, 1) := by decide +kernel
theorem dX7_dealOut_49 : decode cX7_dealOut 49 = .ok (.getfield 9, 3) := by decide +kernel
theorem dX7_dealOut_52 : decode cX7_dealOut 52 = .ok (.bipush 119, 2) := by decide +kernel
theorem dX7_dealOut_54 : decode cX7_dealOut 54 = .ok (.aload_n 0, 1) := by decide +kernel
theorem dX7_dealOut_55 : decode cX7_dealOut 55 = .ok (.getfield 9, 3) := by decide +kernel
theorem dX7_dealOut_58 : decode cX7_dealOut 58 = .ok (.bipush 15, 2) := by decide +kernel
theorem dX7_dealOut_60 : decode cX7_dealOut 60 = .ok (.iload_n 2, 1) := by decide +kernel
theorem dX7_dealOut_61 : decode cX7_dealOut 61 = .ok (.iadd, 1) := by decide +kernel
theorem dX7_dealOut_62 : decode cX7_dealOut 62 = .ok (.iaload, 1) := by decide +kernel
theorem dX7_dealOut_63 : decode cX7_dealOut 63 = .ok (.iadd, 1) := by decide +kernel
theorem dX7_dealOut_64 : decode cX7_dealOut 64 = .ok (.iload_n 3, 1) := by decide +kernel
theorem dX7_dealOut_65 : decode cX7_dealOut 65 = .ok (.iastore, 1) := by decide +kernel
theorem dX7_dealOut_66 : decode cX7_dealOut 66 = .ok (.iinc 2 1, 3) := by decide +kernel
theorem dX7_dealOut_69 : decode cX7_dealOut 69 = .ok (.goto (-60), 3) := by decide +kernel
theorem dX7_dealOut_72 : decode cX7_dealOut 72 = .ok (.aload_n 0, 1) := by decide +kernel
theorem dX7_dealOut_73 : decode cX7_dealOut 73 = .ok (.getfield 9, 3) := by decide +kernel
theorem dX7_dealOut_76 : decode cX7_dealOut 76 = .ok (.bipush 67, 2) := by decide +kernel
theorem dX7_dealOut_78 : decode cX7_dealOut 78 = .ok (.aload_n 0, 1) := by decide +kernel
theorem dX7_dealOut_79 : decode cX7_dealOut 79 = .ok (.getfield 9, 3) := by decide +kernel
theorem dX7_dealOut_82 : decode cX7_dealOut 82 = .ok (.bipush 15, 2) := by decide +kernel
theorem dX7_dealOut_84 : decode cX7_dealOut 84 = .ok (.iconst 2, 1) := by decide +kernel
theorem dX7_dealOut_85 : decode cX7_dealOut 85 = .ok (.iload_n 1, 1) := by decide +kernel
theorem dX7_dealOut_86 : decode cX7_dealOut 86 = .ok (.imul, 1) := by decide +kernel
theorem dX7_dealOut_87 : decode cX7_dealOut 87 = .ok (.iadd, 1) := by decide +kernel
theorem dX7_dealOut_88 : decode cX7_dealOut 88 = .ok (.iaload, 1) := by decide +kernel
theorem dX7_dealOut_89 : decode cX7_dealOut 89 = .ok (.iastore, 1) := by decide +kernel
theorem dX7_dealOut_90 : decode cX7_dealOut 90 = .ok (.aload_n 0, 1) := by decide +kernel
theorem dX7_dealOut_91 : decode cX7_dealOut 91 = .ok (.getfield 9, 3) := by decide +kernel
theorem dX7_dealOut_94 : decode cX7_dealOut 94 = .ok (.bipush 14, 2) := by decide +kernel
theorem dX7_dealOut_96 : decode cX7_dealOut 96 = .ok (.iconst 1, 1) := by decide +kernel
theorem dX7_dealOut_97 : decode cX7_dealOut 97 = .ok (.iastore, 1) := by decide +kernel
theorem dX7_dealOut_98 : decode cX7_dealOut 98 = .ok (.aload_n 0, 1) := by decide +kernel
theorem dX7_dealOut_99 : decode cX7_dealOut 99 = .ok (.getfield 9, 3) := by decide +kernel
theorem dX7_dealOut_102 : decode cX7_dealOut 102 = .ok (.bipush 13, 2) := by decide +kernel
theorem dX7_dealOut_104 : decode cX7_dealOut 104 = .ok (.iconst 2, 1) := by decide +kernel
theorem dX7_dealOut_105 : decode cX7_dealOut 105 = .ok (.iload_n 1, 1) := by decide +kernel
theorem dX7_dealOut_106 : decode cX7_dealOut 106 = .ok (.imul, 1) := by decide +kernel
theorem dX7_dealOut_107 : decode cX7_dealOut 107 = .ok (.iconst 1, 1) := by decide +kernel
theorem dX7_dealOut_108 : decode cX7_dealOut 108 = .ok (.iadd, 1) := by decide +kernel
theorem dX7_dealOut_109 : decode cX7_dealOut 109 = .ok (.iastore, 1) := by decide +kernel
theorem dX7_dealOut_110 : decode cX7_dealOut 110 = .ok (.aload_n 0, 1) := by decide +kernel
theorem dX7_dealOut_111 : decode cX7_dealOut 111 = .ok (.getfield 9, 3) := by decide +kernel
theorem dX7_dealOut_114 : decode cX7_dealOut 114 = .ok (.iconst 4, 1) := by decide +kernel
theorem dX7_dealOut_115 : decode cX7_dealOut 115 = .ok (.aload_n 0, 1) := by decide +kernel
theorem dX7_dealOut_116 : decode cX7_dealOut 116 = .ok (.getfield 9, 3) := by decide +kernel
theorem dX7_dealOut_119 : decode cX7_dealOut 119 = .ok (.iconst 3, 1) := by decide +kernel
theorem dX7_dealOut_120 : decode cX7_dealOut 120 = .ok (.iaload, 1) := by decide +kernel
theorem dX7_dealOut_121 : decode cX7_dealOut 121 = .ok (.iconst 2, 1) := by decide +kernel
theorem dX7_dealOut_122 : decode cX7_dealOut 122 = .ok (.irem, 1) := by decide +kernel
theorem dX7_dealOut_123 : decode cX7_dealOut 123 = .ok (.iastore, 1) := by decide +kernel
theorem dX7_dealOut_124 : decode cX7_dealOut 124 = .ok (.aload_n 0, 1) := by decide +kernel
theorem dX7_dealOut_125 : decode cX7_dealOut 125 = .ok (.getfield 9, 3) := by decide +kernel
theorem dX7_dealOut_128 : decode cX7_dealOut 128 = .ok (.iconst 5, 1) := by decide +kernel
theorem dX7_dealOut_129 : decode cX7_dealOut 129 = .ok (.iconst 0, 1) := by decide +kernel
theorem dX7_dealOut_130 : decode cX7_dealOut 130 = .ok (.iastore, 1) := by decide +kernel
theorem dX7_dealOut_131 : decode cX7_dealOut 131 = .ok (.aload_n 0, 1) := by decide +kernel
theorem dX7_dealOut_132 : decode cX7_dealOut 132 = .ok (.getfield 9, 3) := by decide +kernel
theorem dX7_dealOut_135 : decode cX7_dealOut 135 = .ok (.bipush 6, 2) := by decide +kernel
theorem dX7_dealOut_137 : decode cX7_dealOut 137 = .ok (.iconst 0, 1) := by decide +kernel
theorem dX7_dealOut_138 : decode cX7_dealOut 138 = .ok (.iastore, 1) := by decide +kernel
theorem dX7_dealOut_139 : decode cX7_dealOut 139 = .ok (.aload_n 0, 1) := by decide +kernel
theorem dX7_dealOut_140 : decode cX7_dealOut 140 = .ok (.getfield 9, 3) := by decide +kernel
theorem dX7_dealOut_143 : decode cX7_dealOut 143 = .ok (.bipush 7, 2) := by decide +kernel
theorem dX7_dealOut_145 : decode cX7_dealOut 145 = .ok (.iconst (-1), 1) := by decide +kernel
theorem dX7_dealOut_146 : decode cX7_dealOut 146 = .ok (.iastore, 1) := by decide +kernel
theorem dX7_dealOut_147 : decode cX7_dealOut 147 = .ok (.return_, 1) := by decide +kernel
theorem dX7_stocked_0 : decode cX7_stocked 0 = .ok (.bipush 52, 2) := by decide +kernel
theorem dX7_stocked_2 : decode cX7_stocked 2 = .ok (.aload_n 0, 1) := by decide +kernel
theorem dX7_stocked_3 : decode cX7_stocked 3 = .ok (.getfield 9, 3) := by decide +kernel
theorem dX7_stocked_6 : decode cX7_stocked 6 = .ok (.bipush 13, 2) := by decide +kernel
theorem dX7_stocked_8 : decode cX7_stocked 8 = .ok (.iaload, 1) := by decide +kernel
theorem dX7_stocked_9 : decode cX7_stocked 9 = .ok (.isub, 1) := by decide +kernel
theorem dX7_stocked_10 : decode cX7_stocked 10 = .ok (.ireturn, 1) := by decide +kernel
theorem dX7_topOfPile_0 : decode cX7_topOfPile 0 = .ok (.aload_n 0, 1) := by decide +kernel
theorem dX7_topOfPile_1 : decode cX7_topOfPile 1 = .ok (.getfield 9, 3) := by decide +kernel
theorem dX7_topOfPile_4 : decode cX7_topOfPile 4 = .ok (.bipush 14, 2) := by decide +kernel
theorem dX7_topOfPile_6 : decode cX7_topOfPile 6 = .ok (.iaload, 1) := by decide +kernel
theorem dX7_topOfPile_7 : decode cX7_topOfPile 7 = .ok (.ifCond .ne 7, 3) := by decide +kernel
theorem dX7_topOfPile_10 : decode cX7_topOfPile 10 = .ok (.iconst (-1), 1) := by decide +kernel
theorem dX7_topOfPile_11 : decode cX7_topOfPile 11 = .ok (.goto 20, 3) := by decide +kernel
theorem dX7_topOfPile_14 : decode cX7_topOfPile 14 = .ok (.aload_n 0, 1) := by decide +kernel
theorem dX7_topOfPile_15 : decode cX7_topOfPile 15 = .ok (.getfield 9, 3) := by decide +kernel
theorem dX7_topOfPile_18 : decode cX7_topOfPile 18 = .ok (.bipush 67, 2) := by decide +kernel
theorem dX7_topOfPile_20 : decode cX7_topOfPile 20 = .ok (.aload_n 0, 1) := by decide +kernel
theorem dX7_topOfPile_21 : decode cX7_topOfPile 21 = .ok (.getfield 9, 3) := by decide +kernel
theorem dX7_topOfPile_24 : decode cX7_topOfPile 24 = .ok (.bipush 14, 2) := by decide +kernel
theorem dX7_topOfPile_26 : decode cX7_topOfPile 26 = .ok (.iaload, 1) := by decide +kernel
theorem dX7_topOfPile_27 : decode cX7_topOfPile 27 = .ok (.iadd, 1) := by decide +kernel
theorem dX7_topOfPile_28 : decode cX7_topOfPile 28 = .ok (.iconst 1, 1) := by decide +kernel
theorem dX7_topOfPile_29 : decode cX7_topOfPile 29 = .ok (.isub, 1) := by decide +kernel
theorem dX7_topOfPile_30 : decode cX7_topOfPile 30 = .ok (.iaload, 1) := by decide +kernel
theorem dX7_topOfPile_31 : decode cX7_topOfPile 31 = .ok (.ireturn, 1) := by decide +kernel
theorem dX7_takeHand_0 : decode cX7_takeHand 0 = .ok (.aload_n 0, 1) := by decide +kernel
theorem dX7_takeHand_1 : decode cX7_takeHand 1 = .ok (.iconst 0, 1) := by decide +kernel
theorem dX7_takeHand_2 : decode cX7_takeHand 2 = .ok (.putfield 100, 3) := by decide +kernel
theorem dX7_takeHand_5 : decode cX7_takeHand 5 = .ok (.iconst 0, 1) := by decide +kernel
theorem dX7_takeHand_6 : decode cX7_takeHand 6 = .ok (.istore 4, 2) := by decide +kernel
theorem dX7_takeHand_8 : decode cX7_takeHand 8 = .ok (.iload 4, 2) := by decide +kernel
theorem dX7_takeHand_10 : decode cX7_takeHand 10 = .ok (.bipush 52, 2) := by decide +kernel
theorem dX7_takeHand_12 : decode cX7_takeHand 12 = .ok (.if_icmp .ge 52, 3) := by decide +kernel
theorem dX7_takeHand_15 : decode cX7_takeHand 15 = .ok (.iload 4, 2) := by decide +kernel
theorem dX7_takeHand_17 : decode cX7_takeHand 17 = .ok (.iload_n 2, 1) := by decide +kernel
theorem dX7_takeHand_18 : decode cX7_takeHand 18 = .ok (.if_icmp .eq 40, 3) := by decide +kernel
theorem dX7_takeHand_21 : decode cX7_takeHand 21 = .ok (.aload_n 0, 1) := by decide +kernel
theorem dX7_takeHand_22 : decode cX7_takeHand 22 = .ok (.iload_n 1, 1) := by decide +kernel
theorem dX7_takeHand_23 : decode cX7_takeHand 23 = .ok (.iload 4, 2) := by decide +kernel
theorem dX7_takeHand_25 : decode cX7_takeHand 25 = .ok (.invokevirtual 76, 3) := by decide +kernel
theorem dX7_takeHand_28 : decode cX7_takeHand 28 = .ok (.ifCond .ne 9, 3) := by decide +kernel
theorem dX7_takeHand_31 : decode cX7_takeHand 31 = .ok (.iload 4, 2) := by decide +kernel
theorem dX7_takeHand_33 : decode cX7_takeHand 33 = .ok (.iload_n 3, 1) := by decide +kernel
theorem dX7_takeHand_34 : decode cX7_takeHand 34 = .ok (.if_icmp .ne 24, 3) := by decide +kernel
theorem dX7_takeHand_37 : decode cX7_takeHand 37 = .ok (.aload_n 0, 1) := by decide +kernel
theorem dX7_takeHand_38 : decode cX7_takeHand 38 = .ok (.getfield 35, 3) := by decide +kernel
theorem dX7_takeHand_41 : decode cX7_takeHand 41 = .ok (.aload_n 0, 1) := by decide +kernel
theorem dX7_takeHand_42 : decode cX7_takeHand 42 = .ok (.getfield 100, 3) := by decide +kernel
theorem dX7_takeHand_45 : decode cX7_takeHand 45 = .ok (.iload 4, 2) := by decide +kernel
theorem dX7_takeHand_47 : decode cX7_takeHand 47 = .ok (.iastore, 1) := by decide +kernel
theorem dX7_takeHand_48 : decode cX7_takeHand 48 = .ok (.aload_n 0, 1) := by decide +kernel
theorem dX7_takeHand_49 : decode cX7_takeHand 49 = .ok (.dup, 1) := by decide +kernel
theorem dX7_takeHand_50 : decode cX7_takeHand 50 = .ok (.getfield 100, 3) := by decide +kernel
theorem dX7_takeHand_53 : decode cX7_takeHand 53 = .ok (.iconst 1, 1) := by decide +kernel
theorem dX7_takeHand_54 : decode cX7_takeHand 54 = .ok (.iadd, 1) := by decide +kernel
theorem dX7_takeHand_55 : decode cX7_takeHand 55 = .ok (.putfield 100, 3) := by decide +kernel
theorem dX7_takeHand_58 : decode cX7_takeHand 58 = .ok (.iinc 4 1, 3) := by decide +kernel
theorem dX7_takeHand_61 : decode cX7_takeHand 61 = .ok (.goto (-53), 3) := by decide +kernel
theorem dX7_takeHand_64 : decode cX7_takeHand 64 = .ok (.return_, 1) := by decide +kernel
theorem dX7_placeOf_0 : decode cX7_placeOf 0 = .ok (.iconst 0, 1) := by decide +kernel
theorem dX7_placeOf_1 : decode cX7_placeOf 1 = .ok (.istore_n 2, 1) := by decide +kernel
theorem dX7_placeOf_2 : decode cX7_placeOf 2 = .ok (.iload_n 2, 1) := by decide +kernel
theorem dX7_placeOf_3 : decode cX7_placeOf 3 = .ok (.aload_n 0, 1) := by decide +kernel
theorem dX7_placeOf_4 : decode cX7_placeOf 4 = .ok (.getfield 100, 3) := by decide +kernel
theorem dX7_placeOf_7 : decode cX7_placeOf 7 = .ok (.if_icmp .ge 21, 3) := by decide +kernel
theorem dX7_placeOf_10 : decode cX7_placeOf 10 = .ok (.aload_n 0, 1) := by decide +kernel
theorem dX7_placeOf_11 : decode cX7_placeOf 11 = .ok (.getfield 35, 3) := by decide +kernel
theorem dX7_placeOf_14 : decode cX7_placeOf 14 = .ok (.iload_n 2, 1) := by decide +kernel
theorem dX7_placeOf_15 : decode cX7_placeOf 15 = .ok (.iaload, 1) := by decide +kernel
theorem dX7_placeOf_16 : decode cX7_placeOf 16 = .ok (.iload_n 1, 1) := by decide +kernel
theorem dX7_placeOf_17 : decode cX7_placeOf 17 = .ok (.if_icmp .ne 5, 3) := by decide +kernel
theorem dX7_placeOf_20 : decode cX7_placeOf 20 = .ok (.iload_n 2, 1) := by decide +kernel
theorem dX7_placeOf_21 : decode cX7_placeOf 21 = .ok (.ireturn, 1) := by decide +kernel
theorem dX7_placeOf_22 : decode cX7_placeOf 22 = .ok (.iinc 2 1, 3) := by decide +kernel
theorem dX7_placeOf_25 : decode cX7_placeOf 25 = .ok (.goto (-23), 3) := by decide +kernel
theorem dX7_placeOf_28 : decode cX7_placeOf 28 = .ok (.iconst (-1), 1) := by decide +kernel
theorem dX7_placeOf_29 : decode cX7_placeOf 29 = .ok (.ireturn, 1) := by decide +kernel
theorem dX7_isSet_0 : decode cX7_isSet 0 = .ok (.iconst (-1), 1) := by decide +kernel
theorem dX7_isSet_1 : decode cX7_isSet 1 = .ok (.istore_n 2, 1) := by decide +kernel
theorem dX7_isSet_2 : decode cX7_isSet 2 = .ok (.iconst 1, 1) := by decide +kernel
theorem dX7_isSet_3 : decode cX7_isSet 3 = .ok (.istore_n 3, 1) := by decide +kernel
theorem dX7_isSet_4 : decode cX7_isSet 4 = .ok (.iconst 0, 1) := by decide +kernel
theorem dX7_isSet_5 : decode cX7_isSet 5 = .ok (.istore 4, 2) := by decide +kernel
theorem dX7_isSet_7 : decode cX7_isSet 7 = .ok (.iload 4, 2) := by decide +kernel
theorem dX7_isSet_9 : decode cX7_isSet 9 = .ok (.aload_n 0, 1) := by decide +kernel
theorem dX7_isSet_10 : decode cX7_isSet 10 = .ok (.getfield 100, 3) := by decide +kernel
theorem dX7_isSet_13 : decode cX7_isSet 13 = .ok (.if_icmp .ge 59, 3) := by decide +kernel
theorem dX7_isSet_16 : decode cX7_isSet 16 = .ok (.iload_n 1, 1) := by decide +kernel
theorem dX7_isSet_17 : decode cX7_isSet 17 = .ok (.iload 4, 2) := by decide +kernel
theorem dX7_isSet_19 : decode cX7_isSet 19 = .ok (.ishr, 1) := by decide +kernel
theorem dX7_isSet_20 : decode cX7_isSet 20 = .ok (.iconst 1, 1) := by decide +kernel
theorem dX7_isSet_21 : decode cX7_isSet 21 = .ok (.iand, 1) := by decide +kernel
theorem dX7_isSet_22 : decode cX7_isSet 22 = .ok (.iconst 1, 1) := by decide +kernel
theorem dX7_isSet_23 : decode cX7_isSet 23 = .ok (.if_icmp .ne 43, 3) := by decide +kernel
theorem dX7_isSet_26 : decode cX7_isSet 26 = .ok (.iload_n 3, 1) := by decide +kernel
theorem dX7_isSet_27 : decode cX7_isSet 27 = .ok (.ifCond .eq 26, 3) := by decide +kernel
theorem dX7_isSet_30 : decode cX7_isSet 30 = .ok (.iload_n 2, 1) := by decide +kernel
theorem dX7_isSet_31 : decode cX7_isSet 31 = .ok (.iconst (-1), 1) := by decide +kernel
theorem dX7_isSet_32 : decode cX7_isSet 32 = .ok (.if_icmp .eq 17, 3) := by decide +kernel
theorem dX7_isSet_35 : decode cX7_isSet 35 = .ok (.aload_n 0, 1) := by decide +kernel
theorem dX7_isSet_36 : decode cX7_isSet 36 = .ok (.getfield 35, 3) := by decide +kernel
theorem dX7_isSet_39 : decode cX7_isSet 39 = .ok (.iload 4, 2) := by decide +kernel
theorem dX7_isSet_41 : decode cX7_isSet 41 = .ok (.iaload, 1) := by decide +kernel
theorem dX7_isSet_42 : decode cX7_isSet 42 = .ok (.bipush 13, 2) := by decide +kernel
theorem dX7_isSet_44 : decode cX7_isSet 44 = .ok (.irem, 1) := by decide +kernel
theorem dX7_isSet_45 : decode cX7_isSet 45 = .ok (.iload_n 2, 1) := by decide +kernel
theorem dX7_isSet_46 : decode cX7_isSet 46 = .ok (.if_icmp .ne 7, 3) := by decide +kernel
theorem dX7_isSet_49 : decode cX7_isSet 49 = .ok (.iconst 1, 1) := by decide +kernel
theorem dX7_isSet_50 : decode cX7_isSet 50 = .ok (.goto 4, 3) := by decide +kernel
theorem dX7_isSet_53 : decode cX7_isSet 53 = .ok (.iconst 0, 1) := by decide +kernel
theorem dX7_isSet_54 : decode cX7_isSet 54 = .ok (.istore_n 3, 1) := by decide +kernel
theorem dX7_isSet_55 : decode cX7_isSet 55 = .ok (.aload_n 0, 1) := by decide +kernel
theorem dX7_isSet_56 : decode cX7_isSet 56 = .ok (.getfield 35, 3) := by decide +kernel
theorem dX7_isSet_59 : decode cX7_isSet 59 = .ok (.iload 4, 2) := by decide +kernel
theorem dX7_isSet_61 : decode cX7_isSet 61 = .ok (.iaload, 1) := by decide +kernel
theorem dX7_isSet_62 : decode cX7_isSet 62 = .ok (.bipush 13, 2) := by decide +kernel
theorem dX7_isSet_64 : decode cX7_isSet 64 = .ok (.irem, 1) := by decide +kernel
theorem dX7_isSet_65 : decode cX7_isSet 65 = .ok (.istore_n 2, 1) := by decide +kernel
theorem dX7_isSet_66 : decode cX7_isSet 66 = .ok (.iinc 4 1, 3) := by decide +kernel
theorem dX7_isSet_69 : decode cX7_isSet 69 = .ok (.goto (-62), 3) := by decide +kernel
theorem dX7_isSet_72 : decode cX7_isSet 72 = .ok (.iload_n 3, 1) := by decide +kernel
theorem dX7_isSet_73 : decode cX7_isSet 73 = .ok (.ireturn, 1) := by decide +kernel
theorem dX7_isAhead_0 : decode cX7_isAhead 0 = .ok (.iload_n 1, 1) := by decide +kernel
theorem dX7_isAhead_1 : decode cX7_isAhead 1 = .ok (.i2l, 1) := by decide +kernel
theorem dX7_isAhead_2 : decode cX7_isAhead 2 = .ok (.invokestatic 103, 3) := by decide +kernel
theorem dX7_isAhead_5 : decode cX7_isAhead 5 = .ok (.istore_n 3, 1) := by decide +kernel
theorem dX7_isAhead_6 : decode cX7_isAhead 6 = .ok (.iload_n 2, 1) := by decide +kernel
theorem dX7_isAhead_7 : decode cX7_isAhead 7 = .ok (.i2l, 1) := by decide +kernel
theorem dX7_isAhead_8 : decode cX7_isAhead 8 = .ok (.invokestatic 103, 3) := by decide +kernel
theorem dX7_isAhead_11 : decode cX7_isAhead 11 = .ok (.istore 4, 2) := by decide +kernel
theorem dX7_isAhead_13 : decode cX7_isAhead 13 = .ok (.iload_n 3, 1) := by decide +kernel
theorem dX7_isAhead_14 : decode cX7_isAhead 14 = .ok (.iload 4, 2) := by decide +kernel
theorem dX7_isAhead_16 : decode cX7_isAhead 16 = .ok (.if_icmp .eq 15, 3) := by decide +kernel
theorem dX7_isAhead_19 : decode cX7_isAhead 19 = .ok (.iload_n 3, 1) := by decide +kernel
theorem dX7_isAhead_20 : decode cX7_isAhead 20 = .ok (.iload 4, 2) := by decide +kernel
theorem dX7_isAhead_22 : decode cX7_isAhead 22 = .ok (.if_icmp .ge 7, 3) := by decide +kernel
theorem dX7_isAhead_25 : decode cX7_isAhead 25 = .ok (.iconst 1, 1) := by decide +kernel
theorem dX7_isAhead_26 : decode cX7_isAhead 26 = .ok (.goto 4, 3) := by decide +kernel
theorem dX7_isAhead_29 : decode cX7_isAhead 29 = .ok (.iconst 0, 1) := by decide +kernel
theorem dX7_isAhead_30 : decode cX7_isAhead 30 = .ok (.ireturn, 1) := by decide +kernel
theorem dX7_isAhead_31 : decode cX7_isAhead 31 = .ok (.aload_n 0, 1) := by decide +kernel
theorem dX7_isAhead_32 : decode cX7_isAhead 32 = .ok (.iload_n 1, 1) := by decide +kernel
theorem dX7_isAhead_33 : decode cX7_isAhead 33 = .ok (.invokevirtual 107, 3) := by decide +kernel
theorem dX7_isAhead_36 : decode cX7_isAhead 36 = .ok (.aload_n 0, 1) := by decide +kernel
theorem dX7_isAhead_37 : decode cX7_isAhead 37 = .ok (.iload_n 2, 1) := by decide +kernel
theorem dX7_isAhead_38 : decode cX7_isAhead 38 = .ok (.invokevirtual 107, 3) := by decide +kernel
theorem dX7_isAhead_41 : decode cX7_isAhead 41 = .ok (.if_icmp .eq 9, 3) := by decide +kernel
theorem dX7_isAhead_44 : decode cX7_isAhead 44 = .ok (.aload_n 0, 1) := by decide +kernel
theorem dX7_isAhead_45 : decode cX7_isAhead 45 = .ok (.iload_n 1, 1) := by decide +kernel
theorem dX7_isAhead_46 : decode cX7_isAhead 46 = .ok (.invokevirtual 107, 3) := by decide +kernel
theorem dX7_isAhead_49 : decode cX7_isAhead 49 = .ok (.ireturn, 1) := by decide +kernel
theorem dX7_isAhead_50 : decode cX7_isAhead 50 = .ok (.iload_n 1, 1) := by decide +kernel
theorem dX7_isAhead_51 : decode cX7_isAhead 51 = .ok (.iload_n 2, 1) := by decide +kernel
theorem dX7_isAhead_52 : decode cX7_isAhead 52 = .ok (.ixor, 1) := by decide +kernel
theorem dX7_isAhead_53 : decode cX7_isAhead 53 = .ok (.istore 5, 2) := by decide +kernel
theorem dX7_isAhead_55 : decode cX7_isAhead 55 = .ok (.iload_n 1, 1) := by decide +kernel
theorem dX7_isAhead_56 : decode cX7_isAhead 56 = .ok (.iload 5, 2) := by decide +kernel
theorem dX7_isAhead_58 : decode cX7_isAhead 58 = .ok (.iand, 1) := by decide +kernel
theorem dX7_isAhead_59 : decode cX7_isAhead 59 = .ok (.iload 5, 2) := by decide +kernel
theorem dX7_isAhead_61 : decode cX7_isAhead 61 = .ok (.ineg, 1) := by decide +kernel
theorem dX7_isAhead_62 : decode cX7_isAhead 62 = .ok (.iand, 1) := by decide +kernel
theorem dX7_isAhead_63 : decode cX7_isAhead 63 = .ok (.ifCond .eq 7, 3) := by decide +kernel
theorem dX7_isAhead_66 : decode cX7_isAhead 66 = .ok (.iconst 1, 1) := by decide +kernel
theorem dX7_isAhead_67 : decode cX7_isAhead 67 = .ok (.goto 4, 3) := by decide +kernel
theorem dX7_isAhead_70 : decode cX7_isAhead 70 = .ok (.iconst 0, 1) := by decide +kernel
theorem dX7_isAhead_71 : decode cX7_isAhead 71 = .ok (.ireturn, 1) := by decide +kernel
theorem dX7_addMeld_0 : decode cX7_addMeld 0 = .ok (.aload_n 0, 1) := by decide +kernel
theorem dX7_addMeld_1 : decode cX7_addMeld 1 = .ok (.getfield 111, 3) := by decide +kernel
theorem dX7_addMeld_4 : decode cX7_addMeld 4 = .ok (.istore_n 2, 1) := by decide +kernel
theorem dX7_addMeld_5 : decode cX7_addMeld 5 = .ok (.iload_n 2, 1) := by decide +kernel
theorem dX7_addMeld_6 : decode cX7_addMeld 6 = .ok (.ifCond .le 39, 3) := by decide +kernel
theorem dX7_addMeld_9 : decode cX7_addMeld 9 = .ok (.aload_n 0, 1) := by decide +kernel
theorem dX7_addMeld_10 : decode cX7_addMeld 10 = .ok (.iload_n 1, 1) := by decide +kernel
theorem dX7_addMeld_11 : decode cX7_addMeld 11 = .ok (.aload_n 0, 1) := by decide +kernel
theorem dX7_addMeld_12 : decode cX7_addMeld 12 = .ok (.getfield 38, 3) := by decide +kernel
theorem dX7_addMeld_15 : decode cX7_addMeld 15 = .ok (.iload_n 2, 1) := by decide +kernel
theorem dX7_addMeld_16 : decode cX7_addMeld 16 = .ok (.iconst 1, 1) := by decide +kernel
theorem dX7_addMeld_17 : decode cX7_addMeld 17 = .ok (.isub, 1) := by decide +kernel
theorem dX7_addMeld_18 : decode cX7_addMeld 18 = .ok (.iaload, 1) := by decide +kernel
theorem dX7_addMeld_19 : decode cX7_addMeld 19 = .ok (.invokevirtual 114, 3) := by decide +kernel
theorem dX7_addMeld_22 : decode cX7_addMeld 22 = .ok (.ifCond .eq 23, 3) := by decide +kernel
theorem dX7_addMeld_25 : decode cX7_addMeld 25 = .ok (.aload_n 0, 1) := by decide +kernel
theorem dX7_addMeld_26 : decode cX7_addMeld 26 = .ok (.getfield 38, 3) := by decide +kernel
theorem dX7_addMeld_29 : decode cX7_addMeld 29 = .ok (.iload_n 2, 1) := by decide +kernel
theorem dX7_addMeld_30 : decode cX7_addMeld 30 = .ok (.aload_n 0, 1) := by decide +kernel
theorem dX7_addMeld_31 : decode cX7_addMeld 31 = .ok (.getfield 38, 3) := by decide +kernel
theorem dX7_addMeld_34 : decode cX7_addMeld 34 = .ok (.iload_n 2, 1) := by decide +kernel
theorem dX7_addMeld_35 : decode cX7_addMeld 35 = .ok (.iconst 1, 1) := by decide +kernel
theorem dX7_addMeld_36 : decode cX7_addMeld 36 = .ok (.isub, 1) := by decide +kernel
theorem dX7_addMeld_37 : decode cX7_addMeld 37 = .ok (.iaload, 1) := by decide +kernel
theorem dX7_addMeld_38 : decode cX7_addMeld 38 = .ok (.iastore, 1) := by decide +kernel
theorem dX7_addMeld_39 : decode cX7_addMeld 39 = .ok (.iinc 2 (-1), 3) := by decide +kernel
theorem dX7_addMeld_42 : decode cX7_addMeld 42 = .ok (.goto (-37), 3) := by decide +kernel
theorem dX7_addMeld_45 : decode cX7_addMeld 45 = .ok (.aload_n 0, 1) := by decide +kernel
theorem dX7_addMeld_46 : decode cX7_addMeld 46 = .ok (.getfield 38, 3) := by decide +kernel
theorem dX7_addMeld_49 : decode cX7_addMeld 49 = .ok (.iload_n 2, 1) := by decide +kernel
theorem dX7_addMeld_50 : decode cX7_addMeld 50 = .ok (.iload_n 1, 1) := by decide +kernel
theorem dX7_addMeld_51 : decode cX7_addMeld 51 = .ok (.iastore, 1) := by decide +kernel
theorem dX7_addMeld_52 : decode cX7_addMeld 52 = .ok (.aload_n 0, 1) := by decide +kernel
theorem dX7_addMeld_53 : decode cX7_addMeld 53 = .ok (.dup, 1) := by decide +kernel
theorem dX7_addMeld_54 : decode cX7_addMeld 54 = .ok (.getfield 111, 3) := by decide +kernel
theorem dX7_addMeld_57 : decode cX7_addMeld 57 = .ok (.iconst 1, 1) := by decide +kernel
theorem dX7_addMeld_58 : decode cX7_addMeld 58 = .ok (.iadd, 1) := by decide +kernel
theorem dX7_addMeld_59 : decode cX7_addMeld 59 = .ok (.putfield 111, 3) := by decide +kernel
theorem dX7_addMeld_62 : decode cX7_addMeld 62 = .ok (.return_, 1) := by decide +kernel
theorem dX7_findSets_0 : decode cX7_findSets 0 = .ok (.iconst 0, 1) := by decide +kernel
theorem dX7_findSets_1 : decode cX7_findSets 1 = .ok (.istore_n 1, 1) := by decide +kernel
theorem dX7_findSets_2 : decode cX7_findSets 2 = .ok (.iload_n 1, 1) := by decide +kernel
theorem dX7_findSets_3 : decode cX7_findSets 3 = .ok (.bipush 13, 2) := by decide +kernel
theorem dX7_findSets_5 : decode cX7_findSets 5 = .ok (.if_icmp .ge 109, 3) := by decide +kernel
theorem dX7_findSets_8 : decode cX7_findSets 8 = .ok (.iconst 0, 1) := by decide +kernel
theorem dX7_findSets_9 : decode cX7_findSets 9 = .ok (.istore_n 2, 1) := by decide +kernel
theorem dX7_findSets_10 : decode cX7_findSets 10 = .ok (.iconst 0, 1) := by decide +kernel
theorem dX7_findSets_11 : decode cX7_findSets 11 = .ok (.istore_n 3, 1) := by decide +kernel
theorem dX7_findSets_12 : decode cX7_findSets 12 = .ok (.iload_n 3, 1) := by decide +kernel
theorem dX7_findSets_13 : decode cX7_findSets 13 = .ok (.aload_n 0, 1) := by decide +kernel
theorem dX7_findSets_14 : decode cX7_findSets 14 = .ok (.getfield 100, 3) := by decide +kernel
theorem dX7_findSets_17 : decode cX7_findSets 17 = .ok (.if_icmp .ge 32, 3) := by decide +kernel
theorem dX7_findSets_20 : decode cX7_findSets 20 = .ok (.iload_n 2, 1) := by decide +kernel
theorem dX7_findSets_21 : decode cX7_findSets 21 = .ok (.aload_n 0, 1) := by decide +kernel
theorem dX7_findSets_22 : decode cX7_findSets 22 = .ok (.getfield 35, 3) := by decide +kernel
theorem dX7_findSets_25 : decode cX7_findSets 25 = .ok (.iload_n 3, 1) := by decide +kernel
theorem dX7_findSets_26 : decode cX7_findSets 26 = .ok (.iaload, 1) := by decide +kernel
theorem dX7_findSets_27 : decode cX7_findSets 27 = .ok (.bipush 13, 2) := by decide +kernel
theorem dX7_findSets_29 : decode cX7_findSets 29 = .ok (.irem, 1) := by decide +kernel
theorem dX7_findSets_30 : decode cX7_findSets 30 = .ok (.iload_n 1, 1) := by decide +kernel
theorem dX7_findSets_31 : decode cX7_findSets 31 = .ok (.if_icmp .ne 9, 3) := by decide +kernel
theorem dX7_findSets_34 : decode cX7_findSets 34 = .ok (.iconst 1, 1) := by decide +kernel
theorem dX7_findSets_35 : decode cX7_findSets 35 = .ok (.iload_n 3, 1) := by decide +kernel
theorem dX7_findSets_36 : decode cX7_findSets 36 = .ok (.ishl, 1) := by decide +kernel
theorem dX7_findSets_37 : decode cX7_findSets 37 = .ok (.goto 4, 3) := by decide +kernel
theorem dX7_findSets_40 : decode cX7_findSets 40 = .ok (.iconst 0, 1) := by decide +kernel
theorem dX7_findSets_41 : decode cX7_findSets 41 = .ok (.ior, 1) := by decide +kernel
theorem dX7_findSets_42 : decode cX7_findSets 42 = .ok (.istore_n 2, 1) := by decide +kernel
theorem dX7_findSets_43 : decode cX7_findSets 43 = .ok (.iinc 3 1, 3) := by decide +kernel
theorem dX7_findSets_46 : decode cX7_findSets 46 = .ok (.goto (-34), 3) := by decide +kernel
theorem dX7_findSets_49 : decode cX7_findSets 49 = .ok (.iload_n 2, 1) := by decide +kernel
theorem dX7_findSets_50 : decode cX7_findSets 50 = .ok (.i2l, 1) := by decide +kernel
theorem dX7_findSets_51 : decode cX7_findSets 51 = .ok (.invokestatic 103, 3) := by decide +kernel
theorem dX7_findSets_54 : decode cX7_findSets 54 = .ok (.iconst 3, 1) := by decide +kernel
theorem dX7_findSets_55 : decode cX7_findSets 55 = .ok (.if_icmp .lt 8, 3) := by decide +kernel
theorem dX7_findSets_58 : decode cX7_findSets 58 = .ok (.aload_n 0, 1) := by decide +kernel
theorem dX7_findSets_59 : decode cX7_findSets 59 = .ok (.iload_n 2, 1) := by decide +kernel
theorem dX7_findSets_60 : decode cX7_findSets 60 = .ok (.invokevirtual 117, 3) := by decide +kernel
theorem dX7_findSets_63 : decode cX7_findSets 63 = .ok (.iconst 0, 1) := by decide +kernel
theorem dX7_findSets_64 : decode cX7_findSets 64 = .ok (.istore_n 3, 1) := by decide +kernel
theorem dX7_findSets_65 : decode cX7_findSets 65 = .ok (.iload_n 3, 1) := by decide +kernel
theorem dX7_findSets_66 : decode cX7_findSets 66 = .ok (.aload_n 0, 1) := by decide +kernel
theorem dX7_findSets_67 : decode cX7_findSets 67 = .ok (.getfield 100, 3) := by decide +kernel
theorem dX7_findSets_70 : decode cX7_findSets 70 = .ok (.if_icmp .ge 38, 3) := by decide +kernel
theorem dX7_findSets_73 : decode cX7_findSets 73 = .ok (.iload_n 2, 1) := by decide +kernel
theorem dX7_findSets_74 : decode cX7_findSets 74 = .ok (.i2l, 1) := by decide +kernel
theorem dX7_findSets_75 : decode cX7_findSets 75 = .ok (.invokestatic 103, 3) := by decide +kernel
theorem dX7_findSets_78 : decode cX7_findSets 78 = .ok (.iconst 4, 1) := by decide +kernel
theorem dX7_findSets_79 : decode cX7_findSets 79 = .ok (.if_icmp .ne 29, 3) := by decide +kernel
theorem dX7_findSets_82 : decode cX7_findSets 82 = .ok (.iload_n 2, 1) := by decide +kernel
theorem dX7_findSets_83 : decode cX7_findSets 83 = .ok (.iload_n 3, 1) := by decide +kernel
theorem dX7_findSets_84 : decode cX7_findSets 84 = .ok (.ishr, 1) := by decide +kernel
theorem dX7_findSets_85 : decode cX7_findSets 85 = .ok (.iconst 1, 1) := by decide +kernel
theorem dX7_findSets_86 : decode cX7_findSets 86 = .ok (.iand, 1) := by decide +kernel
theorem dX7_findSets_87 : decode cX7_findSets 87 = .ok (.iconst 1, 1) := by decide +kernel
theorem dX7_findSets_88 : decode cX7_findSets 88 = .ok (.if_icmp .ne 14, 3) := by decide +kernel
theorem dX7_findSets_91 : decode cX7_findSets 91 = .ok (.aload_n 0, 1) := by decide +kernel
theorem dX7_findSets_92 : decode cX7_findSets 92 = .ok (.iload_n 2, 1) := by decide +kernel
theorem dX7_findSets_93 : decode cX7_findSets 93 = .ok (.iconst 1, 1) := by decide +kernel
theorem dX7_findSets_94 : decode cX7_findSets 94 = .ok (.iload_n 3, 1) := by decide +kernel
theorem dX7_findSets_95 : decode cX7_findSets 95 = .ok (.ishl, 1) := by decide +kernel
theorem dX7_findSets_96 : decode cX7_findSets 96 = .ok (.iconst (-1), 1) := by decide +kernel
theorem dX7_findSets_97 : decode cX7_findSets 97 = .ok (.ixor, 1) := by decide +kernel
theorem dX7_findSets_98 : decode cX7_findSets 98 = .ok (.iand, 1) := by decide +kernel
theorem dX7_findSets_99 : decode cX7_findSets 99 = .ok (.invokevirtual 117, 3) := by decide +kernel
theorem dX7_findSets_102 : decode cX7_findSets 102 = .ok (.iinc 3 1, 3) := by decide +kernel
theorem dX7_findSets_105 : decode cX7_findSets 105 = .ok (.goto (-40), 3) := by decide +kernel
theorem dX7_findSets_108 : decode cX7_findSets 108 = .ok (.iinc 1 1, 3) := by decide +kernel
theorem dX7_findSets_111 : decode cX7_findSets 111 = .ok (.goto (-109), 3) := by decide +kernel
theorem dX7_findSets_114 : decode cX7_findSets 114 = .ok (.return_, 1) := by decide +kernel
theorem dX7_findRuns_0 : decode cX7_findRuns 0 = .ok (.iconst 0, 1) := by decide +kernel
theorem dX7_findRuns_1 : decode cX7_findRuns 1 = .ok (.istore_n 1, 1) := by decide +kernel
theorem dX7_findRuns_2 : decode cX7_findRuns 2 = .ok (.iload_n 1, 1) := by decide +kernel
theorem dX7_findRuns_3 : decode cX7_findRuns 3 = .ok (.aload_n 0, 1) := by decide +kernel
theorem dX7_findRuns_4 : decode cX7_findRuns 4 = .ok (.getfield 100, 3) := by decide +kernel
theorem dX7_findRuns_7 : decode cX7_findRuns 7 = .ok (.if_icmp .ge 126, 3) := by decide +kernel
theorem dX7_findRuns_10 : decode cX7_findRuns 10 = .ok (.aload_n 0, 1) := by decide +kernel
theorem dX7_findRuns_11 : decode cX7_findRuns 11 = .ok (.getfield 35, 3) := by decide +kernel
theorem dX7_findRuns_14 : decode cX7_findRuns 14 = .ok (.iload_n 1, 1) := by decide +kernel
theorem dX7_findRuns_15 : decode cX7_findRuns 15 = .ok (.iaload, 1) := by decide +kernel
theorem dX7_findRuns_16 : decode cX7_findRuns 16 = .ok (.bipush 13, 2) := by decide +kernel
theorem dX7_findRuns_18 : decode cX7_findRuns 18 = .ok (.idiv, 1) := by decide +kernel
theorem dX7_findRuns_19 : decode cX7_findRuns 19 = .ok (.bipush 13, 2) := by decide +kernel
theorem dX7_findRuns_21 : decode cX7_findRuns 21 = .ok (.imul, 1) := by decide +kernel
theorem dX7_findRuns_22 : decode cX7_findRuns 22 = .ok (.istore_n 2, 1) := by decide +kernel
theorem dX7_findRuns_23 : decode cX7_findRuns 23 = .ok (.aload_n 0, 1) := by decide +kernel
theorem dX7_findRuns_24 : decode cX7_findRuns 24 = .ok (.getfield 35, 3) := by decide +kernel
theorem dX7_findRuns_27 : decode cX7_findRuns 27 = .ok (.iload_n 1, 1) := by decide +kernel
theorem dX7_findRuns_28 : decode cX7_findRuns 28 = .ok (.iaload, 1) := by decide +kernel
theorem dX7_findRuns_29 : decode cX7_findRuns 29 = .ok (.bipush 13, 2) := by decide +kernel
theorem dX7_findRuns_31 : decode cX7_findRuns 31 = .ok (.irem, 1) := by decide +kernel
theorem dX7_findRuns_32 : decode cX7_findRuns 32 = .ok (.istore_n 3, 1) := by decide +kernel
theorem dX7_findRuns_33 : decode cX7_findRuns 33 = .ok (.iconst 0, 1) := by decide +kernel
theorem dX7_findRuns_34 : decode cX7_findRuns 34 = .ok (.istore 4, 2) := by decide +kernel
theorem dX7_findRuns_36 : decode cX7_findRuns 36 = .ok (.iconst 1, 1) := by decide +kernel
theorem dX7_findRuns_37 : decode cX7_findRuns 37 = .ok (.istore 5, 2) := by decide +kernel
theorem dX7_findRuns_39 : decode cX7_findRuns 39 = .ok (.iconst 1, 1) := by decide +kernel
theorem dX7_findRuns_40 : decode cX7_findRuns 40 = .ok (.istore 6, 2) := by decide +kernel
theorem dX7_findRuns_42 : decode cX7_findRuns 42 = .ok (.iload 6, 2) := by decide +kernel
theorem dX7_findRuns_44 : decode cX7_findRuns 44 = .ok (.aload_n 0, 1) := by decide +kernel
theorem dX7_findRuns_45 : decode cX7_findRuns 45 = .ok (.getfield 100, 3) := by decide +kernel
theorem dX7_findRuns_48 : decode cX7_findRuns 48 = .ok (.if_icmp .gt 79, 3) := by decide +kernel
theorem dX7_findRuns_51 : decode cX7_findRuns 51 = .ok (.iload 5, 2) := by decide +kernel
theorem dX7_findRuns_53 : decode cX7_findRuns 53 = .ok (.ifCond .eq 74, 3) := by decide +kernel
theorem dX7_findRuns_56 : decode cX7_findRuns 56 = .ok (.aload_n 0, 1) := by decide +kernel
theorem dX7_findRuns_57 : decode cX7_findRuns 57 = .ok (.iload_n 2, 1) := by decide +kernel
theorem dX7_findRuns_58 : decode cX7_findRuns 58 = .ok (.iload_n 3, 1) := by decide +kernel
theorem dX7_findRuns_59 : decode cX7_findRuns 59 = .ok (.iload 6, 2) := by decide +kernel
theorem dX7_findRuns_61 : decode cX7_findRuns 61 = .ok (.iadd, 1) := by decide +kernel
theorem dX7_findRuns_62 : decode cX7_findRuns 62 = .ok (.iconst 1, 1) := by decide +kernel
theorem dX7_findRuns_63 : decode cX7_findRuns 63 = .ok (.isub, 1) := by decide +kernel
theorem dX7_findRuns_64 : decode cX7_findRuns 64 = .ok (.bipush 13, 2) := by decide +kernel
theorem dX7_findRuns_66 : decode cX7_findRuns 66 = .ok (.irem, 1) := by decide +kernel
theorem dX7_findRuns_67 : decode cX7_findRuns 67 = .ok (.iadd, 1) := by decide +kernel
theorem dX7_findRuns_68 : decode cX7_findRuns 68 = .ok (.invokevirtual 121, 3) := by decide +kernel
theorem dX7_findRuns_71 : decode cX7_findRuns 71 = .ok (.istore 7, 2) := by decide +kernel
theorem dX7_findRuns_73 : decode cX7_findRuns 73 = .ok (.iload 7, 2) := by decide +kernel
theorem dX7_findRuns_75 : decode cX7_findRuns 75 = .ok (.iconst (-1), 1) := by decide +kernel
theorem dX7_findRuns_76 : decode cX7_findRuns 76 = .ok (.if_icmp .eq 7, 3) := by decide +kernel
theorem dX7_findRuns_79 : decode cX7_findRuns 79 = .ok (.iconst 1, 1) := by decide +kernel
theorem dX7_findRuns_80 : decode cX7_findRuns 80 = .ok (.goto 4, 3) := by decide +kernel
theorem dX7_findRuns_83 : decode cX7_findRuns 83 = .ok (.iconst 0, 1) := by decide +kernel
theorem dX7_findRuns_84 : decode cX7_findRuns 84 = .ok (.istore 5, 2) := by decide +kernel
theorem dX7_findRuns_86 : decode cX7_findRuns 86 = .ok (.iload 4, 2) := by decide +kernel
theorem dX7_findRuns_88 : decode cX7_findRuns 88 = .ok (.iload 5, 2) := by decide +kernel
theorem dX7_findRuns_90 : decode cX7_findRuns 90 = .ok (.ifCond .eq 10, 3) := by decide +kernel
theorem dX7_findRuns_93 : decode cX7_findRuns 93 = .ok (.iconst 1, 1) := by decide +kernel
theorem dX7_findRuns_94 : decode cX7_findRuns 94 = .ok (.iload 7, 2) := by decide +kernel
theorem dX7_findRuns_96 : decode cX7_findRuns 96 = .ok (.ishl, 1) := by decide +kernel
theorem dX7_findRuns_97 : decode cX7_findRuns 97 = .ok (.goto 4, 3) := by decide +kernel
theorem dX7_findRuns_100 : decode cX7_findRuns 100 = .ok (.iconst 0, 1) := by decide +kernel
theorem dX7_findRuns_101 : decode cX7_findRuns 101 = .ok (.ior, 1) := by decide +kernel
theorem dX7_findRuns_102 : decode cX7_findRuns 102 = .ok (.istore 4, 2) := by decide +kernel
theorem dX7_findRuns_104 : decode cX7_findRuns 104 = .ok (.iload 5, 2) := by decide +kernel
theorem dX7_findRuns_106 : decode cX7_findRuns 106 = .ok (.ifCond .eq 15, 3) := by decide +kernel
theorem dX7_findRuns_109 : decode cX7_findRuns 109 = .ok (.iload 6, 2) := by decide +kernel
theorem dX7_findRuns_111 : decode cX7_findRuns 111 = .ok (.iconst 3, 1) := by decide +kernel
theorem dX7_findRuns_112 : decode cX7_findRuns 112 = .ok (.if_icmp .lt 9, 3) := by decide +kernel
theorem dX7_findRuns_115 : decode cX7_findRuns 115 = .ok (.aload_n 0, 1) := by decide +kernel
theorem dX7_findRuns_116 : decode cX7_findRuns 116 = .ok (.iload 4, 2) := by decide +kernel
theorem dX7_findRuns_118 : decode cX7_findRuns 118 = .ok (.invokevirtual 117, 3) := by decide +kernel
theorem dX7_findRuns_121 : decode cX7_findRuns 121 = .ok (.iinc 6 1, 3) := by decide +kernel
theorem dX7_findRuns_124 : decode cX7_findRuns 124 = .ok (.goto (-82), 3) := by decide +kernel
theorem dX7_findRuns_127 : decode cX7_findRuns 127 = .ok (.iinc 1 1, 3) := by decide +kernel
theorem dX7_findRuns_130 : decode cX7_findRuns 130 = .ok (.goto (-128), 3) := by decide +kernel
theorem dX7_findRuns_133 : decode cX7_findRuns 133 = .ok (.return_, 1) := by decide +kernel
theorem dX7_findRests_0 : decode cX7_findRests 0 = .ok (.aload_n 0, 1) := by decide +kernel
theorem dX7_findRests_1 : decode cX7_findRests 1 = .ok (.iconst 0, 1) := by decide +kernel
theorem dX7_findRests_2 : decode cX7_findRests 2 = .ok (.putfield 111, 3) := by decide +kernel
theorem dX7_findRests_5 : decode cX7_findRests 5 = .ok (.aload_n 0, 1) := by decide +kernel
theorem dX7_findRests_6 : decode cX7_findRests 6 = .ok (.invokevirtual 124, 3) := by decide +kernel
theorem dX7_findRests_9 : decode cX7_findRests 9 = .ok (.aload_n 0, 1) := by decide +kernel
theorem dX7_findRests_10 : decode cX7_findRests 10 = .ok (.invokevirtual 127, 3) := by decide +kernel
theorem dX7_findRests_13 : decode cX7_findRests 13 = .ok (.aload_n 0, 1) := by decide +kernel
theorem dX7_findRests_14 : decode cX7_findRests 14 = .ok (.getfield 41, 3) := by decide +kernel
theorem dX7_findRests_17 : decode cX7_findRests 17 = .ok (.iconst 0, 1) := by decide +kernel
theorem dX7_findRests_18 : decode cX7_findRests 18 = .ok (.iconst 0, 1) := by decide +kernel
theorem dX7_findRests_19 : decode cX7_findRests 19 = .ok (.iastore, 1) := by decide +kernel
theorem dX7_findRests_20 : decode cX7_findRests 20 = .ok (.iconst 1, 1) := by decide +kernel
theorem dX7_findRests_21 : decode cX7_findRests 21 = .ok (.istore_n 1, 1) := by decide +kernel
theorem dX7_findRests_22 : decode cX7_findRests 22 = .ok (.iload_n 1, 1) := by decide +kernel
theorem dX7_findRests_23 : decode cX7_findRests 23 = .ok (.iconst 1, 1) := by decide +kernel
theorem dX7_findRests_24 : decode cX7_findRests 24 = .ok (.aload_n 0, 1) := by decide +kernel
theorem dX7_findRests_25 : decode cX7_findRests 25 = .ok (.getfield 100, 3) := by decide +kernel
theorem dX7_findRests_28 : decode cX7_findRests 28 = .ok (.ishl, 1) := by decide +kernel
theorem dX7_findRests_29 : decode cX7_findRests 29 = .ok (.if_icmp .ge 143, 3) := by decide +kernel
theorem dX7_findRests_32 : decode cX7_findRests 32 = .ok (.iload_n 1, 1) := by decide +kernel
theorem dX7_findRests_33 : decode cX7_findRests 33 = .ok (.iload_n 1, 1) := by decide +kernel
theorem dX7_findRests_34 : decode cX7_findRests 34 = .ok (.ineg, 1) := by decide +kernel
theorem dX7_findRests_35 : decode cX7_findRests 35 = .ok (.iand, 1) := by decide +kernel
theorem dX7_findRests_36 : decode cX7_findRests 36 = .ok (.istore_n 2, 1) := by decide +kernel
theorem dX7_findRests_37 : decode cX7_findRests 37 = .ok (.aload_n 0, 1) := by decide +kernel
theorem dX7_findRests_38 : decode cX7_findRests 38 = .ok (.getfield 35, 3) := by decide +kernel
theorem dX7_findRests_41 : decode cX7_findRests 41 = .ok (.iload_n 2, 1) := by decide +kernel
theorem dX7_findRests_42 : decode cX7_findRests 42 = .ok (.iconst 1, 1) := by decide +kernel
theorem dX7_findRests_43 : decode cX7_findRests 43 = .ok (.isub, 1) := by decide +kernel
theorem dX7_findRests_44 : decode cX7_findRests 44 = .ok (.i2l, 1) := by decide +kernel
theorem dX7_findRests_45 : decode cX7_findRests 45 = .ok (.invokestatic 103, 3) := by decide +kernel
theorem dX7_findRests_48 : decode cX7_findRests 48 = .ok (.iaload, 1) := by decide +kernel
theorem dX7_findRests_49 : decode cX7_findRests 49 = .ok (.istore_n 3, 1) := by decide +kernel
theorem dX7_findRests_50 : decode cX7_findRests 50 = .ok (.iload_n 3, 1) := by decide +kernel
theorem dX7_findRests_51 : decode cX7_findRests 51 = .ok (.invokestatic 80, 3) := by decide +kernel
theorem dX7_findRests_54 : decode cX7_findRests 54 = .ok (.aload_n 0, 1) := by decide +kernel
theorem dX7_findRests_55 : decode cX7_findRests 55 = .ok (.getfield 41, 3) := by decide +kernel
theorem dX7_findRests_58 : decode cX7_findRests 58 = .ok (.iload_n 1, 1) := by decide +kernel
theorem dX7_findRests_59 : decode cX7_findRests 59 = .ok (.iload_n 2, 1) := by decide +kernel
theorem dX7_findRests_60 : decode cX7_findRests 60 = .ok (.iconst (-1), 1) := by decide +kernel
theorem dX7_findRests_61 : decode cX7_findRests 61 = .ok (.ixor, 1) := by decide +kernel
theorem dX7_findRests_62 : decode cX7_findRests 62 = .ok (.iand, 1) := by decide +kernel
theorem dX7_findRests_63 : decode cX7_findRests 63 = .ok (.iaload, 1) := by decide +kernel
theorem dX7_findRests_64 : decode cX7_findRests 64 = .ok (.iadd, 1) := by decide +kernel
theorem dX7_findRests_65 : decode cX7_findRests 65 = .ok (.istore 4, 2) := by decide +kernel
theorem dX7_findRests_67 : decode cX7_findRests 67 = .ok (.iconst 0, 1) := by decide +kernel
theorem dX7_findRests_68 : decode cX7_findRests 68 = .ok (.istore 5, 2) := by decide +kernel
theorem dX7_findRests_70 : decode cX7_findRests 70 = .ok (.iload 5, 2) := by decide +kernel
theorem dX7_findRests_72 : decode cX7_findRests 72 = .ok (.aload_n 0, 1) := by decide +kernel
theorem dX7_findRests_73 : decode cX7_findRests 73 = .ok (.getfield 111, 3) := by decide +kernel
theorem dX7_findRests_76 : decode cX7_findRests 76 = .ok (.if_icmp .ge 82, 3) := by decide +kernel
theorem dX7_findRests_79 : decode cX7_findRests 79 = .ok (.aload_n 0, 1) := by decide +kernel
theorem dX7_findRests_80 : decode cX7_findRests 80 = .ok (.getfield 38, 3) := by decide +kernel
theorem dX7_findRests_83 : decode cX7_findRests 83 = .ok (.iload 5, 2) := by decide +kernel
theorem dX7_findRests_85 : decode cX7_findRests 85 = .ok (.iaload, 1) := by decide +kernel
theorem dX7_findRests_86 : decode cX7_findRests 86 = .ok (.aload_n 0, 1) := by decide +kernel
theorem dX7_findRests_87 : decode cX7_findRests 87 = .ok (.getfield 38, 3) := by decide +kernel
theorem dX7_findRests_90 : decode cX7_findRests 90 = .ok (.iload 5, 2) := by decide +kernel
theorem dX7_findRests_92 : decode cX7_findRests 92 = .ok (.iaload, 1) := by decide +kernel
theorem dX7_findRests_93 : decode cX7_findRests 93 = .ok (.ineg, 1) := by decide +kernel
theorem dX7_findRests_94 : decode cX7_findRests 94 = .ok (.iand, 1) := by decide +kernel
theorem dX7_findRests_95 : decode cX7_findRests 95 = .ok (.iload_n 2, 1) := by decide +kernel
theorem dX7_findRests_96 : decode cX7_findRests 96 = .ok (.if_icmp .ne 56, 3) := by decide +kernel
theorem dX7_findRests_99 : decode cX7_findRests 99 = .ok (.aload_n 0, 1) := by decide +kernel
theorem dX7_findRests_100 : decode cX7_findRests 100 = .ok (.getfield 38, 3) := by decide +kernel
theorem dX7_findRests_103 : decode cX7_findRests 103 = .ok (.iload 5, 2) := by decide +kernel
theorem dX7_findRests_105 : decode cX7_findRests 105 = .ok (.iaload, 1) := by decide +kernel
theorem dX7_findRests_106 : decode cX7_findRests 106 = .ok (.iload_n 1, 1) := by decide +kernel
theorem dX7_findRests_107 : decode cX7_findRests 107 = .ok (.iconst (-1), 1) := by decide +kernel
theorem dX7_findRests_108 : decode cX7_findRests 108 = .ok (.ixor, 1) := by decide +kernel
theorem dX7_findRests_109 : decode cX7_findRests 109 = .ok (.iand, 1) := by decide +kernel
theorem dX7_findRests_110 : decode cX7_findRests 110 = .ok (.ifCond .ne 42, 3) := by decide +kernel
theorem dX7_findRests_113 : decode cX7_findRests 113 = .ok (.aload_n 0, 1) := by decide +kernel
theorem dX7_findRests_114 : decode cX7_findRests 114 = .ok (.getfield 41, 3) := by decide +kernel
theorem dX7_findRests_117 : decode cX7_findRests 117 = .ok (.iload_n 1, 1) := by decide +kernel
theorem dX7_findRests_118 : decode cX7_findRests 118 = .ok (.aload_n 0, 1) := by decide +kernel
theorem dX7_findRests_119 : decode cX7_findRests 119 = .ok (.getfield 38, 3) := by decide +kernel
theorem dX7_findRests_122 : decode cX7_findRests 122 = .ok (.iload 5, 2) := by decide +kernel
theorem dX7_findRests_124 : decode cX7_findRests 124 = .ok (.iaload, 1) := by decide +kernel
theorem dX7_findRests_125 : decode cX7_findRests 125 = .ok (.iconst (-1), 1) := by decide +kernel
theorem dX7_findRests_126 : decode cX7_findRests 126 = .ok (.ixor, 1) := by decide +kernel
theorem dX7_findRests_127 : decode cX7_findRests 127 = .ok (.iand, 1) := by decide +kernel
theorem dX7_findRests_128 : decode cX7_findRests 128 = .ok (.iaload, 1) := by decide +kernel
theorem dX7_findRests_129 : decode cX7_findRests 129 = .ok (.iload 4, 2) := by decide +kernel
theorem dX7_findRests_131 : decode cX7_findRests 131 = .ok (.if_icmp .ge 21, 3) := by decide +kernel
theorem dX7_findRests_134 : decode cX7_findRests 134 = .ok (.aload_n 0, 1) := by decide +kernel
theorem dX7_findRests_135 : decode cX7_findRests 135 = .ok (.getfield 41, 3) := by decide +kernel
theorem dX7_findRests_138 : decode cX7_findRests 138 = .ok (.iload_n 1, 1) := by decide +kernel
theorem dX7_findRests_139 : decode cX7_findRests 139 = .ok (.aload_n 0, 1) := by decide +kernel
theorem dX7_findRests_140 : decode cX7_findRests 140 = .ok (.getfield 38, 3) := by decide +kernel
theorem dX7_findRests_143 : decode cX7_findRests 143 = .ok (.iload 5, 2) := by decide +kernel
theorem dX7_findRests_145 : decode cX7_findRests 145 = .ok (.iaload, 1) := by decide +kernel
theorem dX7_findRests_146 : decode cX7_findRests 146 = .ok (.iconst (-1), 1) := by decide +kernel
theorem dX7_findRests_147 : decode cX7_findRests 147 = .ok (.ixor, 1) := by decide +kernel
theorem dX7_findRests_148 : decode cX7_findRests 148 = .ok (.iand, 1) := by decide +kernel
theorem dX7_findRests_149 : decode cX7_findRests 149 = .ok (.iaload, 1) := by decide +kernel
theorem dX7_findRests_150 : decode cX7_findRests 150 = .ok (.istore 4, 2) := by decide +kernel
theorem dX7_findRests_152 : decode cX7_findRests 152 = .ok (.iinc 5 1, 3) := by decide +kernel
theorem dX7_findRests_155 : decode cX7_findRests 155 = .ok (.goto (-85), 3) := by decide +kernel
theorem dX7_findRests_158 : decode cX7_findRests 158 = .ok (.aload_n 0, 1) := by decide +kernel
theorem dX7_findRests_159 : decode cX7_findRests 159 = .ok (.getfield 41, 3) := by decide +kernel
theorem dX7_findRests_162 : decode cX7_findRests 162 = .ok (.iload_n 1, 1) := by decide +kernel
theorem dX7_findRests_163 : decode cX7_findRests 163 = .ok (.iload 4, 2) := by decide +kernel
theorem dX7_findRests_165 : decode cX7_findRests 165 = .ok (.iastore, 1) := by decide +kernel
theorem dX7_findRests_166 : decode cX7_findRests 166 = .ok (.iinc 1 1, 3) := by decide +kernel
theorem dX7_findRests_169 : decode cX7_findRests 169 = .ok (.goto (-147), 3) := by decide +kernel
theorem dX7_findRests_172 : decode cX7_findRests 172 = .ok (.aload_n 0, 1) := by decide +kernel
theorem dX7_findRests_173 : decode cX7_findRests 173 = .ok (.getfield 41, 3) := by decide +kernel
theorem dX7_findRests_176 : decode cX7_findRests 176 = .ok (.iconst 1, 1) := by decide +kernel
theorem dX7_findRests_177 : decode cX7_findRests 177 = .ok (.aload_n 0, 1) := by decide +kernel
theorem dX7_findRests_178 : decode cX7_findRests 178 = .ok (.getfield 100, 3) := by decide +kernel
theorem dX7_findRests_181 : decode cX7_findRests 181 = .ok (.ishl, 1) := by decide +kernel
theorem dX7_findRests_182 : decode cX7_findRests 182 = .ok (.iconst 1, 1) := by decide +kernel
theorem dX7_findRests_183 : decode cX7_findRests 183 = .ok (.isub, 1) := by decide +kernel
theorem dX7_findRests_184 : decode cX7_findRests 184 = .ok (.iaload, 1) := by decide +kernel
theorem dX7_findRests_185 : decode cX7_findRests 185 = .ok (.ireturn, 1) := by decide +kernel
theorem dX7_cardsOf_0 : decode cX7_cardsOf 0 = .ok (.lconst 0, 1) := by decide +kernel
theorem dX7_cardsOf_1 : decode cX7_cardsOf 1 = .ok (.lstore_n 2, 1) := by decide +kernel
theorem dX7_cardsOf_2 : decode cX7_cardsOf 2 = .ok (.iconst 0, 1) := by decide +kernel
theorem dX7_cardsOf_3 : decode cX7_cardsOf 3 = .ok (.istore 4, 2) := by decide +kernel
theorem dX7_cardsOf_5 : decode cX7_cardsOf 5 = .ok (.iload 4, 2) := by decide +kernel
theorem dX7_cardsOf_7 : decode cX7_cardsOf 7 = .ok (.aload_n 0, 1) := by decide +kernel
theorem dX7_cardsOf_8 : decode cX7_cardsOf 8 = .ok (.getfield 100, 3) := by decide +kernel
theorem dX7_cardsOf_11 : decode cX7_cardsOf 11 = .ok (.if_icmp .ge 35, 3) := by decide +kernel
theorem dX7_cardsOf_14 : decode cX7_cardsOf 14 = .ok (.lload_n 2, 1) := by decide +kernel
theorem dX7_cardsOf_15 : decode cX7_cardsOf 15 = .ok (.iload_n 1, 1) := by decide +kernel
theorem dX7_cardsOf_16 : decode cX7_cardsOf 16 = .ok (.iload 4, 2) := by decide +kernel
theorem dX7_cardsOf_18 : decode cX7_cardsOf 18 = .ok (.ishr, 1) := by decide +kernel
theorem dX7_cardsOf_19 : decode cX7_cardsOf 19 = .ok (.iconst 1, 1) := by decide +kernel
theorem dX7_cardsOf_20 : decode cX7_cardsOf 20 = .ok (.iand, 1) := by decide +kernel
theorem dX7_cardsOf_21 : decode cX7_cardsOf 21 = .ok (.iconst 1, 1) := by decide +kernel
theorem dX7_cardsOf_22 : decode cX7_cardsOf 22 = .ok (.if_icmp .ne 15, 3) := by decide +kernel
theorem dX7_cardsOf_25 : decode cX7_cardsOf 25 = .ok (.lconst 1, 1) := by decide +kernel
theorem dX7_cardsOf_26 : decode cX7_cardsOf 26 = .ok (.aload_n 0, 1) := by decide +kernel
theorem dX7_cardsOf_27 : decode cX7_cardsOf 27 = .ok (.getfield 35, 3) := by decide +kernel
theorem dX7_cardsOf_30 : decode cX7_cardsOf 30 = .ok (.iload 4, 2) := by decide +kernel
theorem dX7_cardsOf_32 : decode cX7_cardsOf 32 = .ok (.iaload, 1) := by decide +kernel
theorem dX7_cardsOf_33 : decode cX7_cardsOf 33 = .ok (.lshl, 1) := by decide +kernel
theorem dX7_cardsOf_34 : decode cX7_cardsOf 34 = .ok (.goto 4, 3) := by decide +kernel
theorem dX7_cardsOf_37 : decode cX7_cardsOf 37 = .ok (.lconst 0, 1) := by decide +kernel
theorem dX7_cardsOf_38 : decode cX7_cardsOf 38 = .ok (.lor, 1) := by decide +kernel
theorem dX7_cardsOf_39 : decode cX7_cardsOf 39 = .ok (.lstore_n 2, 1) := by decide +kernel
theorem dX7_cardsOf_40 : decode cX7_cardsOf 40 = .ok (.iinc 4 1, 3) := by decide +kernel
theorem dX7_cardsOf_43 : decode cX7_cardsOf 43 = .ok (.goto (-38), 3) := by decide +kernel
theorem dX7_cardsOf_46 : decode cX7_cardsOf 46 = .ok (.lload_n 2, 1) := by decide +kernel
theorem dX7_cardsOf_47 : decode cX7_cardsOf 47 = .ok (.lreturn, 1) := by decide +kernel
theorem dX7_layOut_0 : decode cX7_layOut 0 = .ok (.aload_n 0, 1) := by decide +kernel
theorem dX7_layOut_1 : decode cX7_layOut 1 = .ok (.aload_n 0, 1) := by decide +kernel
theorem dX7_layOut_2 : decode cX7_layOut 2 = .ok (.invokevirtual 130, 3) := by decide +kernel
theorem dX7_layOut_5 : decode cX7_layOut 5 = .ok (.putfield 134, 3) := by decide +kernel
theorem dX7_layOut_8 : decode cX7_layOut 8 = .ok (.aload_n 0, 1) := by decide +kernel
theorem dX7_layOut_9 : decode cX7_layOut 9 = .ok (.iconst 0, 1) := by decide +kernel
theorem dX7_layOut_10 : decode cX7_layOut 10 = .ok (.putfield 137, 3) := by decide +kernel
theorem dX7_layOut_13 : decode cX7_layOut 13 = .ok (.aload_n 0, 1) := by decide +kernel
theorem dX7_layOut_14 : decode cX7_layOut 14 = .ok (.lconst 0, 1) := by decide +kernel
theorem dX7_layOut_15 : decode cX7_layOut 15 = .ok (.putfield 140, 3) := by decide +kernel
theorem dX7_layOut_18 : decode cX7_layOut 18 = .ok (.iconst 1, 1) := by decide +kernel
theorem dX7_layOut_19 : decode cX7_layOut 19 = .ok (.aload_n 0, 1) := by decide +kernel
theorem dX7_layOut_20 : decode cX7_layOut 20 = .ok (.getfield 100, 3) := by decide +kernel
theorem dX7_layOut_23 : decode cX7_layOut 23 = .ok (.ishl, 1) := by decide +kernel
theorem dX7_layOut_24 : decode cX7_layOut 24 = .ok (.iconst 1, 1) := by decide +kernel
theorem dX7_layOut_25 : decode cX7_layOut 25 = .ok (.isub, 1) := by decide +kernel
theorem dX7_layOut_26 : decode cX7_layOut 26 = .ok (.istore_n 1, 1) := by decide +kernel
theorem dX7_layOut_27 : decode cX7_layOut 27 = .ok (.iconst 0, 1) := by decide +kernel
theorem dX7_layOut_28 : decode cX7_layOut 28 = .ok (.istore_n 2, 1) := by decide +kernel
theorem dX7_layOut_29 : decode cX7_layOut 29 = .ok (.iload_n 1, 1) := by decide +kernel
theorem dX7_layOut_30 : decode cX7_layOut 30 = .ok (.ifCond .eq 172, 3) := by decide +kernel
theorem dX7_layOut_33 : decode cX7_layOut 33 = .ok (.iload_n 1, 1) := by decide +kernel
theorem dX7_layOut_34 : decode cX7_layOut 34 = .ok (.iload_n 1, 1) := by decide +kernel
theorem dX7_layOut_35 : decode cX7_layOut 35 = .ok (.ineg, 1) := by decide +kernel
theorem dX7_layOut_36 : decode cX7_layOut 36 = .ok (.iand, 1) := by decide +kernel
theorem dX7_layOut_37 : decode cX7_layOut 37 = .ok (.istore_n 3, 1) := by decide +kernel
theorem dX7_layOut_38 : decode cX7_layOut 38 = .ok (.iconst 0, 1) := by decide +kernel
theorem dX7_layOut_39 : decode cX7_layOut 39 = .ok (.istore 4, 2) := by decide +kernel
theorem dX7_layOut_41 : decode cX7_layOut 41 = .ok (.iload 4, 2) := by decide +kernel
theorem dX7_layOut_43 : decode cX7_layOut 43 = .ok (.aload_n 0, 1) := by decide +kernel
theorem dX7_layOut_44 : decode cX7_layOut 44 = .ok (.getfield 111, 3) := by decide +kernel
theorem dX7_layOut_47 : decode cX7_layOut 47 = .ok (.if_icmp .ge 60, 3) := by decide +kernel
theorem dX7_layOut_50 : decode cX7_layOut 50 = .ok (.aload_n 0, 1) := by decide +kernel
theorem dX7_layOut_51 : decode cX7_layOut 51 = .ok (.getfield 38, 3) := by decide +kernel
theorem dX7_layOut_54 : decode cX7_layOut 54 = .ok (.iload 4, 2) := by decide +kernel
theorem dX7_layOut_56 : decode cX7_layOut 56 = .ok (.iaload, 1) := by decide +kernel
theorem dX7_layOut_57 : decode cX7_layOut 57 = .ok (.iload_n 3, 1) := by decide +kernel
theorem dX7_layOut_58 : decode cX7_layOut 58 = .ok (.iand, 1) := by decide +kernel
theorem dX7_layOut_59 : decode cX7_layOut 59 = .ok (.ifCond .eq 42, 3) := by decide +kernel
theorem dX7_layOut_62 : decode cX7_layOut 62 = .ok (.aload_n 0, 1) := by decide +kernel
theorem dX7_layOut_63 : decode cX7_layOut 63 = .ok (.getfield 38, 3) := by decide +kernel
theorem dX7_layOut_66 : decode cX7_layOut 66 = .ok (.iload 4, 2) := by decide +kernel
theorem dX7_layOut_68 : decode cX7_layOut 68 = .ok (.iaload, 1) := by decide +kernel
theorem dX7_layOut_69 : decode cX7_layOut 69 = .ok (.iload_n 1, 1) := by decide +kernel
theorem dX7_layOut_70 : decode cX7_layOut 70 = .ok (.iconst (-1), 1) := by decide +kernel
theorem dX7_layOut_71 : decode cX7_layOut 71 = .ok (.ixor, 1) := by decide +kernel
theorem dX7_layOut_72 : decode cX7_layOut 72 = .ok (.iand, 1) := by decide +kernel
theorem dX7_layOut_73 : decode cX7_layOut 73 = .ok (.ifCond .ne 28, 3) := by decide +kernel
theorem dX7_layOut_76 : decode cX7_layOut 76 = .ok (.iload_n 2, 1) := by decide +kernel
theorem dX7_layOut_77 : decode cX7_layOut 77 = .ok (.aload_n 0, 1) := by decide +kernel
theorem dX7_layOut_78 : decode cX7_layOut 78 = .ok (.getfield 41, 3) := by decide +kernel
theorem dX7_layOut_81 : decode cX7_layOut 81 = .ok (.iload_n 1, 1) := by decide +kernel
theorem dX7_layOut_82 : decode cX7_layOut 82 = .ok (.aload_n 0, 1) := by decide +kernel
theorem dX7_layOut_83 : decode cX7_layOut 83 = .ok (.getfield 38, 3) := by decide +kernel
theorem dX7_layOut_86 : decode cX7_layOut 86 = .ok (.iload 4, 2) := by decide +kernel
theorem dX7_layOut_88 : decode cX7_layOut 88 = .ok (.iaload, 1) := by decide +kernel
theorem dX7_layOut_89 : decode cX7_layOut 89 = .ok (.iconst (-1), 1) := by decide +kernel
theorem dX7_layOut_90 : decode cX7_layOut 90 = .ok (.ixor, 1) := by decide +kernel
theorem dX7_layOut_91 : decode cX7_layOut 91 = .ok (.iand, 1) := by decide +kernel
theorem dX7_layOut_92 : decode cX7_layOut 92 = .ok (.iaload, 1) := by decide +kernel
theorem dX7_layOut_93 : decode cX7_layOut 93 = .ok (.iadd, 1) := by decide +kernel
theorem dX7_layOut_94 : decode cX7_layOut 94 = .ok (.aload_n 0, 1) := by decide +kernel
theorem dX7_layOut_95 : decode cX7_layOut 95 = .ok (.getfield 134, 3) := by decide +kernel
theorem dX7_layOut_98 : decode cX7_layOut 98 = .ok (.if_icmp .le 9, 3) := by decide +kernel
theorem dX7_layOut_101 : decode cX7_layOut 101 = .ok (.iinc 4 1, 3) := by decide +kernel
theorem dX7_layOut_104 : decode cX7_layOut 104 = .ok (.goto (-63), 3) := by decide +kernel
theorem dX7_layOut_107 : decode cX7_layOut 107 = .ok (.iload 4, 2) := by decide +kernel
theorem dX7_layOut_109 : decode cX7_layOut 109 = .ok (.aload_n 0, 1) := by decide +kernel
theorem dX7_layOut_110 : decode cX7_layOut 110 = .ok (.getfield 111, 3) := by decide +kernel
theorem dX7_layOut_113 : decode cX7_layOut 113 = .ok (.if_icmp .ge 48, 3) := by decide +kernel
theorem dX7_layOut_116 : decode cX7_layOut 116 = .ok (.aload_n 0, 1) := by decide +kernel
theorem dX7_layOut_117 : decode cX7_layOut 117 = .ok (.getfield 44, 3) := by decide +kernel
theorem dX7_layOut_120 : decode cX7_layOut 120 = .ok (.aload_n 0, 1) := by decide +kernel
theorem dX7_layOut_121 : decode cX7_layOut 121 = .ok (.getfield 137, 3) := by decide +kernel
theorem dX7_layOut_124 : decode cX7_layOut 124 = .ok (.aload_n 0, 1) := by decide +kernel
theorem dX7_layOut_125 : decode cX7_layOut 125 = .ok (.aload_n 0, 1) := by decide +kernel
theorem dX7_layOut_126 : decode cX7_layOut 126 = .ok (.getfield 38, 3) := by decide +kernel
theorem dX7_layOut_129 : decode cX7_layOut 129 = .ok (.iload 4, 2) := by decide +kernel
theorem dX7_layOut_131 : decode cX7_layOut 131 = .ok (.iaload, 1) := by decide +kernel
theorem dX7_layOut_132 : decode cX7_layOut 132 = .ok (.invokevirtual 144, 3) := by decide +kernel
theorem dX7_layOut_135 : decode cX7_layOut 135 = .ok (.lastore, 1) := by decide +kernel
theorem dX7_layOut_136 : decode cX7_layOut 136 = .ok (.aload_n 0, 1) := by decide +kernel
theorem dX7_layOut_137 : decode cX7_layOut 137 = .ok (.dup, 1) := by decide +kernel
theorem dX7_layOut_138 : decode cX7_layOut 138 = .ok (.getfield 137, 3) := by decide +kernel
theorem dX7_layOut_141 : decode cX7_layOut 141 = .ok (.iconst 1, 1) := by decide +kernel
theorem dX7_layOut_142 : decode cX7_layOut 142 = .ok (.iadd, 1) := by decide +kernel
theorem dX7_layOut_143 : decode cX7_layOut 143 = .ok (.putfield 137, 3) := by decide +kernel
theorem dX7_layOut_146 : decode cX7_layOut 146 = .ok (.iload_n 1, 1) := by decide +kernel
theorem dX7_layOut_147 : decode cX7_layOut 147 = .ok (.aload_n 0, 1) := by decide +kernel
theorem dX7_layOut_148 : decode cX7_layOut 148 = .ok (.getfield 38, 3) := by decide +kernel
theorem dX7_layOut_151 : decode cX7_layOut 151 = .ok (.iload 4, 2) := by decide +kernel
theorem dX7_layOut_153 : decode cX7_layOut 153 = .ok (.iaload, 1) := by decide +kernel
theorem dX7_layOut_154 : decode cX7_layOut 154 = .ok (.iconst (-1), 1) := by decide +kernel
theorem dX7_layOut_155 : decode cX7_layOut 155 = .ok (.ixor, 1) := by decide +kernel
theorem dX7_layOut_156 : decode cX7_layOut 156 = .ok (.iand, 1) := by decide +kernel
theorem dX7_layOut_157 : decode cX7_layOut 157 = .ok (.istore_n 1, 1) := by decide +kernel
theorem dX7_layOut_158 : decode cX7_layOut 158 = .ok (.goto 41, 3) := by decide +kernel
theorem dX7_layOut_161 : decode cX7_layOut 161 = .ok (.aload_n 0, 1) := by decide +kernel
theorem dX7_layOut_162 : decode cX7_layOut 162 = .ok (.dup, 1) := by decide +kernel
theorem dX7_layOut_163 : decode cX7_layOut 163 = .ok (.getfield 140, 3) := by decide +kernel
theorem dX7_layOut_166 : decode cX7_layOut 166 = .ok (.aload_n 0, 1) := by decide +kernel
theorem dX7_layOut_167 : decode cX7_layOut 167 = .ok (.iload_n 3, 1) := by decide +kernel
theorem dX7_layOut_168 : decode cX7_layOut 168 = .ok (.invokevirtual 144, 3) := by decide +kernel
theorem dX7_layOut_171 : decode cX7_layOut 171 = .ok (.lor, 1) := by decide +kernel
theorem dX7_layOut_172 : decode cX7_layOut 172 = .ok (.putfield 140, 3) := by decide +kernel
theorem dX7_layOut_175 : decode cX7_layOut 175 = .ok (.iload_n 2, 1) := by decide +kernel
theorem dX7_layOut_176 : decode cX7_layOut 176 = .ok (.aload_n 0, 1) := by decide +kernel
theorem dX7_layOut_177 : decode cX7_layOut 177 = .ok (.getfield 35, 3) := by decide +kernel
theorem dX7_layOut_180 : decode cX7_layOut 180 = .ok (.iload_n 3, 1) := by decide +kernel
theorem dX7_layOut_181 : decode cX7_layOut 181 = .ok (.iconst 1, 1) := by decide +kernel
theorem dX7_layOut_182 : decode cX7_layOut 182 = .ok (.isub, 1) := by decide +kernel
theorem dX7_layOut_183 : decode cX7_layOut 183 = .ok (.i2l, 1) := by decide +kernel
theorem dX7_layOut_184 : decode cX7_layOut 184 = .ok (.invokestatic 103, 3) := by decide +kernel
theorem dX7_layOut_187 : decode cX7_layOut 187 = .ok (.iaload, 1) := by decide +kernel
theorem dX7_layOut_188 : decode cX7_layOut 188 = .ok (.invokestatic 80, 3) := by decide +kernel
theorem dX7_layOut_191 : decode cX7_layOut 191 = .ok (.iadd, 1) := by decide +kernel
theorem dX7_layOut_192 : decode cX7_layOut 192 = .ok (.istore_n 2, 1) := by decide +kernel
theorem dX7_layOut_193 : decode cX7_layOut 193 = .ok (.iload_n 1, 1) := by decide +kernel
theorem dX7_layOut_194 : decode cX7_layOut 194 = .ok (.iload_n 3, 1) := by decide +kernel
theorem dX7_layOut_195 : decode cX7_layOut 195 = .ok (.iconst (-1), 1) := by decide +kernel
theorem dX7_layOut_196 : decode cX7_layOut 196 = .ok (.ixor, 1) := by decide +kernel
theorem dX7_layOut_197 : decode cX7_layOut 197 = .ok (.iand, 1) := by decide +kernel
theorem dX7_layOut_198 : decode cX7_layOut 198 = .ok (.istore_n 1, 1) := by decide +kernel
theorem dX7_layOut_199 : decode cX7_layOut 199 = .ok (.goto (-170), 3) := by decide +kernel
theorem dX7_layOut_202 : decode cX7_layOut 202 = .ok (.return_, 1) := by decide +kernel
theorem dX7_layOutOf_0 : decode cX7_layOutOf 0 = .ok (.aload_n 0, 1) := by decide +kernel
theorem dX7_layOutOf_1 : decode cX7_layOutOf 1 = .ok (.iload_n 1, 1) := by decide +kernel
theorem dX7_layOutOf_2 : decode cX7_layOutOf 2 = .ok (.iconst (-1), 1) := by decide +kernel
theorem dX7_layOutOf_3 : decode cX7_layOutOf 3 = .ok (.iconst (-1), 1) := by decide +kernel
theorem dX7_layOutOf_4 : decode cX7_layOutOf 4 = .ok (.invokevirtual 148, 3) := by decide +kernel
theorem dX7_layOutOf_7 : decode cX7_layOutOf 7 = .ok (.aload_n 0, 1) := by decide +kernel
theorem dX7_layOutOf_8 : decode cX7_layOutOf 8 = .ok (.invokevirtual 152, 3) := by decide +kernel
theorem dX7_layOutOf_11 : decode cX7_layOutOf 11 = .ok (.return_, 1) := by decide +kernel
theorem dX7_lowest_0 : decode cX7_lowest 0 = .ok (.iconst 0, 1) := by decide +kernel
theorem dX7_lowest_1 : decode cX7_lowest 1 = .ok (.istore_n 2, 1) := by decide +kernel
theorem dX7_lowest_2 : decode cX7_lowest 2 = .ok (.lload_n 0, 1) := by decide +kernel
theorem dX7_lowest_3 : decode cX7_lowest 3 = .ok (.iload_n 2, 1) := by decide +kernel
theorem dX7_lowest_4 : decode cX7_lowest 4 = .ok (.lshr, 1) := by decide +kernel
theorem dX7_lowest_5 : decode cX7_lowest 5 = .ok (.lconst 1, 1) := by decide +kernel
theorem dX7_lowest_6 : decode cX7_lowest 6 = .ok (.land, 1) := by decide +kernel
theorem dX7_lowest_7 : decode cX7_lowest 7 = .ok (.lconst 0, 1) := by decide +kernel
theorem dX7_lowest_8 : decode cX7_lowest 8 = .ok (.lcmp, 1) := by decide +kernel
theorem dX7_lowest_9 : decode cX7_lowest 9 = .ok (.ifCond .ne 9, 3) := by decide +kernel
theorem dX7_lowest_12 : decode cX7_lowest 12 = .ok (.iinc 2 1, 3) := by decide +kernel
theorem dX7_lowest_15 : decode cX7_lowest 15 = .ok (.goto (-13), 3) := by decide +kernel
theorem dX7_lowest_18 : decode cX7_lowest 18 = .ok (.iload_n 2, 1) := by decide +kernel
theorem dX7_lowest_19 : decode cX7_lowest 19 = .ok (.ireturn, 1) := by decide +kernel
theorem dX7_isSetOf_0 : decode cX7_isSetOf 0 = .ok (.lload_n 0, 1) := by decide +kernel
theorem dX7_isSetOf_1 : decode cX7_isSetOf 1 = .ok (.invokestatic 155, 3) := by decide +kernel
theorem dX7_isSetOf_4 : decode cX7_isSetOf 4 = .ok (.bipush 13, 2) := by decide +kernel
theorem dX7_isSetOf_6 : decode cX7_isSetOf 6 = .ok (.irem, 1) := by decide +kernel
theorem dX7_isSetOf_7 : decode cX7_isSetOf 7 = .ok (.istore_n 2, 1) := by decide +kernel
theorem dX7_isSetOf_8 : decode cX7_isSetOf 8 = .ok (.lconst 1, 1) := by decide +kernel
theorem dX7_isSetOf_9 : decode cX7_isSetOf 9 = .ok (.iload_n 2, 1) := by decide +kernel
theorem dX7_isSetOf_10 : decode cX7_isSetOf 10 = .ok (.lshl, 1) := by decide +kernel
theorem dX7_isSetOf_11 : decode cX7_isSetOf 11 = .ok (.lconst 1, 1) := by decide +kernel
theorem dX7_isSetOf_12 : decode cX7_isSetOf 12 = .ok (.iload_n 2, 1) := by decide +kernel
theorem dX7_isSetOf_13 : decode cX7_isSetOf 13 = .ok (.bipush 13, 2) := by decide +kernel
theorem dX7_isSetOf_15 : decode cX7_isSetOf 15 = .ok (.iadd, 1) := by decide +kernel
theorem dX7_isSetOf_16 : decode cX7_isSetOf 16 = .ok (.lshl, 1) := by decide +kernel
theorem dX7_isSetOf_17 : decode cX7_isSetOf 17 = .ok (.lor, 1) := by decide +kernel
theorem dX7_isSetOf_18 : decode cX7_isSetOf 18 = .ok (.lconst 1, 1) := by decide +kernel
theorem dX7_isSetOf_19 : decode cX7_isSetOf 19 = .ok (.iload_n 2, 1) := by decide +kernel
theorem dX7_isSetOf_20 : decode cX7_isSetOf 20 = .ok (.bipush 26, 2) := by decide +kernel
theorem dX7_isSetOf_22 : decode cX7_isSetOf 22 = .ok (.iadd, 1) := by decide +kernel
theorem dX7_isSetOf_23 : decode cX7_isSetOf 23 = .ok (.lshl, 1) := by decide +kernel
theorem dX7_isSetOf_24 : decode cX7_isSetOf 24 = .ok (.lor, 1) := by decide +kernel
theorem dX7_isSetOf_25 : decode cX7_isSetOf 25 = .ok (.lconst 1, 1) := by decide +kernel
theorem dX7_isSetOf_26 : decode cX7_isSetOf 26 = .ok (.iload_n 2, 1) := by decide +kernel
theorem dX7_isSetOf_27 : decode cX7_isSetOf 27 = .ok (.bipush 39, 2) := by decide +kernel
theorem dX7_isSetOf_29 : decode cX7_isSetOf 29 = .ok (.iadd, 1) := by decide +kernel
theorem dX7_isSetOf_30 : decode cX7_isSetOf 30 = .ok (.lshl, 1) := by decide +kernel
theorem dX7_isSetOf_31 : decode cX7_isSetOf 31 = .ok (.lor, 1) := by decide +kernel
theorem dX7_isSetOf_32 : decode cX7_isSetOf 32 = .ok (.lstore_n 3, 1) := by decide +kernel
theorem dX7_isSetOf_33 : decode cX7_isSetOf 33 = .ok (.lload_n 0, 1) := by decide +kernel
theorem dX7_isSetOf_34 : decode cX7_isSetOf 34 = .ok (.lload_n 3, 1) := by decide +kernel
theorem dX7_isSetOf_35 : decode cX7_isSetOf 35 = .ok (.ldc2_w 158, 3) := by decide +kernel
theorem dX7_isSetOf_38 : decode cX7_isSetOf 38 = .ok (.lxor, 1) := by decide +kernel
theorem dX7_isSetOf_39 : decode cX7_isSetOf 39 = .ok (.land, 1) := by decide +kernel
theorem dX7_isSetOf_40 : decode cX7_isSetOf 40 = .ok (.lconst 0, 1) := by decide +kernel
theorem dX7_isSetOf_41 : decode cX7_isSetOf 41 = .ok (.lcmp, 1) := by decide +kernel
theorem dX7_isSetOf_42 : decode cX7_isSetOf 42 = .ok (.ifCond .ne 7, 3) := by decide +kernel
theorem dX7_isSetOf_45 : decode cX7_isSetOf 45 = .ok (.iconst 1, 1) := by decide +kernel
theorem dX7_isSetOf_46 : decode cX7_isSetOf 46 = .ok (.goto 4, 3) := by decide +kernel
theorem dX7_isSetOf_49 : decode cX7_isSetOf 49 = .ok (.iconst 0, 1) := by decide +kernel
theorem dX7_isSetOf_50 : decode cX7_isSetOf 50 = .ok (.ireturn, 1) := by decide +kernel
theorem dX7_firstOf_0 : decode cX7_firstOf 0 = .ok (.lload_n 0, 1) := by decide +kernel
theorem dX7_firstOf_1 : decode cX7_firstOf 1 = .ok (.invokestatic 155, 3) := by decide +kernel
theorem dX7_firstOf_4 : decode cX7_firstOf 4 = .ok (.bipush 13, 2) := by decide +kernel
theorem dX7_firstOf_6 : decode cX7_firstOf 6 = .ok (.idiv, 1) := by decide +kernel
theorem dX7_firstOf_7 : decode cX7_firstOf 7 = .ok (.bipush 13, 2) := by decide +kernel
theorem dX7_firstOf_9 : decode cX7_firstOf 9 = .ok (.imul, 1) := by decide +kernel
theorem dX7_firstOf_10 : decode cX7_firstOf 10 = .ok (.istore_n 2, 1) := by decide +kernel
theorem dX7_firstOf_11 : decode cX7_firstOf 11 = .ok (.iconst 0, 1) := by decide +kernel
theorem dX7_firstOf_12 : decode cX7_firstOf 12 = .ok (.istore_n 3, 1) := by decide +kernel
theorem dX7_firstOf_13 : decode cX7_firstOf 13 = .ok (.iload_n 3, 1) := by decide +kernel
theorem dX7_firstOf_14 : decode cX7_firstOf 14 = .ok (.bipush 13, 2) := by decide +kernel
theorem dX7_firstOf_16 : decode cX7_firstOf 16 = .ok (.if_icmp .ge 69, 3) := by decide +kernel
theorem dX7_firstOf_19 : decode cX7_firstOf 19 = .ok (.lload_n 0, 1) := by decide +kernel
theorem dX7_firstOf_20 : decode cX7_firstOf 20 = .ok (.iload_n 2, 1) := by decide +kernel
theorem dX7_firstOf_21 : decode cX7_firstOf 21 = .ok (.iload_n 3, 1) := by decide +kernel
theorem dX7_firstOf_22 : decode cX7_firstOf 22 = .ok (.iadd, 1) := by decide +kernel
theorem dX7_firstOf_23 : decode cX7_firstOf 23 = .ok (.lshr, 1) := by decide +kernel
theorem dX7_firstOf_24 : decode cX7_firstOf 24 = .ok (.lconst 1, 1) := by decide +kernel
theorem dX7_firstOf_25 : decode cX7_firstOf 25 = .ok (.land, 1) := by decide +kernel
theorem dX7_firstOf_26 : decode cX7_firstOf 26 = .ok (.lconst 1, 1) := by decide +kernel
theorem dX7_firstOf_27 : decode cX7_firstOf 27 = .ok (.lcmp, 1) := by decide +kernel
theorem dX7_firstOf_28 : decode cX7_firstOf 28 = .ok (.ifCond .ne 7, 3) := by decide +kernel
theorem dX7_firstOf_31 : decode cX7_firstOf 31 = .ok (.iconst 1, 1) := by decide +kernel
theorem dX7_firstOf_32 : decode cX7_firstOf 32 = .ok (.goto 4, 3) := by decide +kernel
theorem dX7_firstOf_35 : decode cX7_firstOf 35 = .ok (.iconst 0, 1) := by decide +kernel
theorem dX7_firstOf_36 : decode cX7_firstOf 36 = .ok (.istore 4, 2) := by decide +kernel
theorem dX7_firstOf_38 : decode cX7_firstOf 38 = .ok (.lload_n 0, 1) := by decide +kernel
theorem dX7_firstOf_39 : decode cX7_firstOf 39 = .ok (.iload_n 2, 1) := by decide +kernel
theorem dX7_firstOf_40 : decode cX7_firstOf 40 = .ok (.iload_n 3, 1) := by decide +kernel
theorem dX7_firstOf_41 : decode cX7_firstOf 41 = .ok (.bipush 13, 2) := by decide +kernel
theorem dX7_firstOf_43 : decode cX7_firstOf 43 = .ok (.iadd, 1) := by decide +kernel
theorem dX7_firstOf_44 : decode cX7_firstOf 44 = .ok (.iconst 1, 1) := by decide +kernel
theorem dX7_firstOf_45 : decode cX7_firstOf 45 = .ok (.isub, 1) := by decide +kernel
theorem dX7_firstOf_46 : decode cX7_firstOf 46 = .ok (.bipush 13, 2) := by decide +kernel
theorem dX7_firstOf_48 : decode cX7_firstOf 48 = .ok (.irem, 1) := by decide +kernel
theorem dX7_firstOf_49 : decode cX7_firstOf 49 = .ok (.iadd, 1) := by decide +kernel
theorem dX7_firstOf_50 : decode cX7_firstOf 50 = .ok (.lshr, 1) := by decide +kernel
theorem dX7_firstOf_51 : decode cX7_firstOf 51 = .ok (.lconst 1, 1) := by decide +kernel
theorem dX7_firstOf_52 : decode cX7_firstOf 52 = .ok (.land, 1) := by decide +kernel
theorem dX7_firstOf_53 : decode cX7_firstOf 53 = .ok (.lconst 1, 1) := by decide +kernel
theorem dX7_firstOf_54 : decode cX7_firstOf 54 = .ok (.lcmp, 1) := by decide +kernel
theorem dX7_firstOf_55 : decode cX7_firstOf 55 = .ok (.ifCond .ne 7, 3) := by decide +kernel
theorem dX7_firstOf_58 : decode cX7_firstOf 58 = .ok (.iconst 1, 1) := by decide +kernel
theorem dX7_firstOf_59 : decode cX7_firstOf 59 = .ok (.goto 4, 3) := by decide +kernel
theorem dX7_firstOf_62 : decode cX7_firstOf 62 = .ok (.iconst 0, 1) := by decide +kernel
theorem dX7_firstOf_63 : decode cX7_firstOf 63 = .ok (.istore 5, 2) := by decide +kernel
theorem dX7_firstOf_65 : decode cX7_firstOf 65 = .ok (.iload 4, 2) := by decide +kernel
theorem dX7_firstOf_67 : decode cX7_firstOf 67 = .ok (.ifCond .eq 12, 3) := by decide +kernel
theorem dX7_firstOf_70 : decode cX7_firstOf 70 = .ok (.iload 5, 2) := by decide +kernel
theorem dX7_firstOf_72 : decode cX7_firstOf 72 = .ok (.ifCond .ne 7, 3) := by decide +kernel
theorem dX7_firstOf_75 : decode cX7_firstOf 75 = .ok (.iload_n 2, 1) := by decide +kernel
theorem dX7_firstOf_76 : decode cX7_firstOf 76 = .ok (.iload_n 3, 1) := by decide +kernel
theorem dX7_firstOf_77 : decode cX7_firstOf 77 = .ok (.iadd, 1) := by decide +kernel
theorem dX7_firstOf_78 : decode cX7_firstOf 78 = .ok (.ireturn, 1) := by decide +kernel
theorem dX7_firstOf_79 : decode cX7_firstOf 79 = .ok (.iinc 3 1, 3) := by decide +kernel
theorem dX7_firstOf_82 : decode cX7_firstOf 82 = .ok (.goto (-69), 3) := by decide +kernel
theorem dX7_firstOf_85 : decode cX7_firstOf 85 = .ok (.iload_n 2, 1) := by decide +kernel
theorem dX7_firstOf_86 : decode cX7_firstOf 86 = .ok (.ireturn, 1) := by decide +kernel
theorem dX7_takes_0 : decode cX7_takes 0 = .ok (.lload_n 0, 1) := by decide +kernel
theorem dX7_takes_1 : decode cX7_takes 1 = .ok (.invokestatic 160, 3) := by decide +kernel
theorem dX7_takes_4 : decode cX7_takes 4 = .ok (.ifCond .eq 28, 3) := by decide +kernel
theorem dX7_takes_7 : decode cX7_takes 7 = .ok (.lload_n 0, 1) := by decide +kernel
theorem dX7_takes_8 : decode cX7_takes 8 = .ok (.invokestatic 103, 3) := by decide +kernel
theorem dX7_takes_11 : decode cX7_takes 11 = .ok (.iconst 3, 1) := by decide +kernel
theorem dX7_takes_12 : decode cX7_takes 12 = .ok (.if_icmp .ne 18, 3) := by decide +kernel
theorem dX7_takes_15 : decode cX7_takes 15 = .ok (.lload_n 0, 1) := by decide +kernel
theorem dX7_takes_16 : decode cX7_takes 16 = .ok (.lconst 1, 1) := by decide +kernel
theorem dX7_takes_17 : decode cX7_takes 17 = .ok (.iload_n 2, 1) := by decide +kernel
theorem dX7_takes_18 : decode cX7_takes 18 = .ok (.lshl, 1) := by decide +kernel
theorem dX7_takes_19 : decode cX7_takes 19 = .ok (.lor, 1) := by decide +kernel
theorem dX7_takes_20 : decode cX7_takes 20 = .ok (.invokestatic 160, 3) := by decide +kernel
theorem dX7_takes_23 : decode cX7_takes 23 = .ok (.ifCond .eq 7, 3) := by decide +kernel
theorem dX7_takes_26 : decode cX7_takes 26 = .ok (.iconst 1, 1) := by decide +kernel
theorem dX7_takes_27 : decode cX7_takes 27 = .ok (.goto 4, 3) := by decide +kernel
theorem dX7_takes_30 : decode cX7_takes 30 = .ok (.iconst 0, 1) := by decide +kernel
theorem dX7_takes_31 : decode cX7_takes 31 = .ok (.ireturn, 1) := by decide +kernel
theorem dX7_takes_32 : decode cX7_takes 32 = .ok (.lload_n 0, 1) := by decide +kernel
theorem dX7_takes_33 : decode cX7_takes 33 = .ok (.invokestatic 155, 3) := by decide +kernel
theorem dX7_takes_36 : decode cX7_takes 36 = .ok (.bipush 13, 2) := by decide +kernel
theorem dX7_takes_38 : decode cX7_takes 38 = .ok (.idiv, 1) := by decide +kernel
theorem dX7_takes_39 : decode cX7_takes 39 = .ok (.bipush 13, 2) := by decide +kernel
theorem dX7_takes_41 : decode cX7_takes 41 = .ok (.imul, 1) := by decide +kernel
theorem dX7_takes_42 : decode cX7_takes 42 = .ok (.istore_n 3, 1) := by decide +kernel
theorem dX7_takes_43 : decode cX7_takes 43 = .ok (.lload_n 0, 1) := by decide +kernel
theorem dX7_takes_44 : decode cX7_takes 44 = .ok (.invokestatic 103, 3) := by decide +kernel
theorem dX7_takes_47 : decode cX7_takes 47 = .ok (.bipush 13, 2) := by decide +kernel
theorem dX7_takes_49 : decode cX7_takes 49 = .ok (.if_icmp .eq 14, 3) := by decide +kernel
theorem dX7_takes_52 : decode cX7_takes 52 = .ok (.iload_n 2, 1) := by decide +kernel
theorem dX7_takes_53 : decode cX7_takes 53 = .ok (.bipush 13, 2) := by decide +kernel
theorem dX7_takes_55 : decode cX7_takes 55 = .ok (.idiv, 1) := by decide +kernel
theorem dX7_takes_56 : decode cX7_takes 56 = .ok (.bipush 13, 2) := by decide +kernel
theorem dX7_takes_58 : decode cX7_takes 58 = .ok (.imul, 1) := by decide +kernel
theorem dX7_takes_59 : decode cX7_takes 59 = .ok (.iload_n 3, 1) := by decide +kernel
theorem dX7_takes_60 : decode cX7_takes 60 = .ok (.if_icmp .eq 5, 3) := by decide +kernel
theorem dX7_takes_63 : decode cX7_takes 63 = .ok (.iconst 0, 1) := by decide +kernel
theorem dX7_takes_64 : decode cX7_takes 64 = .ok (.ireturn, 1) := by decide +kernel
theorem dX7_takes_65 : decode cX7_takes 65 = .ok (.lload_n 0, 1) := by decide +kernel
theorem dX7_takes_66 : decode cX7_takes 66 = .ok (.invokestatic 164, 3) := by decide +kernel
theorem dX7_takes_69 : decode cX7_takes 69 = .ok (.bipush 13, 2) := by decide +kernel
theorem dX7_takes_71 : decode cX7_takes 71 = .ok (.irem, 1) := by decide +kernel
theorem dX7_takes_72 : decode cX7_takes 72 = .ok (.istore 4, 2) := by decide +kernel
theorem dX7_takes_74 : decode cX7_takes 74 = .ok (.iload_n 2, 1) := by decide +kernel
theorem dX7_takes_75 : decode cX7_takes 75 = .ok (.bipush 13, 2) := by decide +kernel
theorem dX7_takes_77 : decode cX7_takes 77 = .ok (.irem, 1) := by decide +kernel
theorem dX7_takes_78 : decode cX7_takes 78 = .ok (.istore 5, 2) := by decide +kernel
theorem dX7_takes_80 : decode cX7_takes 80 = .ok (.iload 5, 2) := by decide +kernel
theorem dX7_takes_82 : decode cX7_takes 82 = .ok (.iload 4, 2) := by decide +kernel
theorem dX7_takes_84 : decode cX7_takes 84 = .ok (.bipush 13, 2) := by decide +kernel
theorem dX7_takes_86 : decode cX7_takes 86 = .ok (.iadd, 1) := by decide +kernel
theorem dX7_takes_87 : decode cX7_takes 87 = .ok (.iconst 1, 1) := by decide +kernel
theorem dX7_takes_88 : decode cX7_takes 88 = .ok (.isub, 1) := by decide +kernel
theorem dX7_takes_89 : decode cX7_takes 89 = .ok (.bipush 13, 2) := by decide +kernel
theorem dX7_takes_91 : decode cX7_takes 91 = .ok (.irem, 1) := by decide +kernel
theorem dX7_takes_92 : decode cX7_takes 92 = .ok (.if_icmp .eq 18, 3) := by decide +kernel
theorem dX7_takes_95 : decode cX7_takes 95 = .ok (.iload 5, 2) := by decide +kernel
theorem dX7_takes_97 : decode cX7_takes 97 = .ok (.iload 4, 2) := by decide +kernel
theorem dX7_takes_99 : decode cX7_takes 99 = .ok (.lload_n 0, 1) := by decide +kernel
theorem dX7_takes_100 : decode cX7_takes 100 = .ok (.invokestatic 103, 3) := by decide +kernel
theorem dX7_takes_103 : decode cX7_takes 103 = .ok (.iadd, 1) := by decide +kernel
theorem dX7_takes_104 : decode cX7_takes 104 = .ok (.bipush 13, 2) := by decide +kernel
theorem dX7_takes_106 : decode cX7_takes 106 = .ok (.irem, 1) := by decide +kernel
theorem dX7_takes_107 : decode cX7_takes 107 = .ok (.if_icmp .ne 7, 3) := by decide +kernel
theorem dX7_takes_110 : decode cX7_takes 110 = .ok (.iconst 1, 1) := by decide +kernel
theorem dX7_takes_111 : decode cX7_takes 111 = .ok (.goto 4, 3) := by decide +kernel
theorem dX7_takes_114 : decode cX7_takes 114 = .ok (.iconst 0, 1) := by decide +kernel
theorem dX7_takes_115 : decode cX7_takes 115 = .ok (.ireturn, 1) := by decide +kernel
theorem dX7_nextAdded_0 : decode cX7_nextAdded 0 = .ok (.iconst 0, 1) := by decide +kernel
theorem dX7_nextAdded_1 : decode cX7_nextAdded 1 = .ok (.istore_n 1, 1) := by decide +kernel
theorem dX7_nextAdded_2 : decode cX7_nextAdded 2 = .ok (.iload_n 1, 1) := by decide +kernel
theorem dX7_nextAdded_3 : decode cX7_nextAdded 3 = .ok (.bipush 52, 2) := by decide +kernel
theorem dX7_nextAdded_5 : decode cX7_nextAdded 5 = .ok (.if_icmp .ge 58, 3) := by decide +kernel
theorem dX7_nextAdded_8 : decode cX7_nextAdded 8 = .ok (.iconst 0, 1) := by decide +kernel
theorem dX7_nextAdded_9 : decode cX7_nextAdded 9 = .ok (.istore_n 2, 1) := by decide +kernel
theorem dX7_nextAdded_10 : decode cX7_nextAdded 10 = .ok (.iload_n 2, 1) := by decide +kernel
theorem dX7_nextAdded_11 : decode cX7_nextAdded 11 = .ok (.aload_n 0, 1) := by decide +kernel
theorem dX7_nextAdded_12 : decode cX7_nextAdded 12 = .ok (.getfield 167, 3) := by decide +kernel
theorem dX7_nextAdded_15 : decode cX7_nextAdded 15 = .ok (.if_icmp .ge 42, 3) := by decide +kernel
theorem dX7_nextAdded_18 : decode cX7_nextAdded 18 = .ok (.aload_n 0, 1) := by decide +kernel
theorem dX7_nextAdded_19 : decode cX7_nextAdded 19 = .ok (.getfield 140, 3) := by decide +kernel
theorem dX7_nextAdded_22 : decode cX7_nextAdded 22 = .ok (.iload_n 1, 1) := by decide +kernel
theorem dX7_nextAdded_23 : decode cX7_nextAdded 23 = .ok (.lshr, 1) := by decide +kernel
theorem dX7_nextAdded_24 : decode cX7_nextAdded 24 = .ok (.lconst 1, 1) := by decide +kernel
theorem dX7_nextAdded_25 : decode cX7_nextAdded 25 = .ok (.land, 1) := by decide +kernel
theorem dX7_nextAdded_26 : decode cX7_nextAdded 26 = .ok (.lconst 1, 1) := by decide +kernel
theorem dX7_nextAdded_27 : decode cX7_nextAdded 27 = .ok (.lcmp, 1) := by decide +kernel
theorem dX7_nextAdded_28 : decode cX7_nextAdded 28 = .ok (.ifCond .ne 29, 3) := by decide +kernel
theorem dX7_nextAdded_31 : decode cX7_nextAdded 31 = .ok (.aload_n 0, 1) := by decide +kernel
theorem dX7_nextAdded_32 : decode cX7_nextAdded 32 = .ok (.getfield 48, 3) := by decide +kernel
theorem dX7_nextAdded_35 : decode cX7_nextAdded 35 = .ok (.iload_n 2, 1) := by decide +kernel
theorem dX7_nextAdded_36 : decode cX7_nextAdded 36 = .ok (.laload, 1) := by decide +kernel
theorem dX7_nextAdded_37 : decode cX7_nextAdded 37 = .ok (.iload_n 1, 1) := by decide +kernel
theorem dX7_nextAdded_38 : decode cX7_nextAdded 38 = .ok (.invokestatic 170, 3) := by decide +kernel
theorem dX7_nextAdded_41 : decode cX7_nextAdded 41 = .ok (.ifCond .eq 10, 3) := by decide +kernel
theorem dX7_nextAdded_44 : decode cX7_nextAdded 44 = .ok (.bipush 64, 2) := by decide +kernel
theorem dX7_nextAdded_46 : decode cX7_nextAdded 46 = .ok (.iload_n 1, 1) := by decide +kernel
theorem dX7_nextAdded_47 : decode cX7_nextAdded 47 = .ok (.imul, 1) := by decide +kernel
theorem dX7_nextAdded_48 : decode cX7_nextAdded 48 = .ok (.iload_n 2, 1) := by decide +kernel
theorem dX7_nextAdded_49 : decode cX7_nextAdded 49 = .ok (.iadd, 1) := by decide +kernel
theorem dX7_nextAdded_50 : decode cX7_nextAdded 50 = .ok (.ireturn, 1) := by decide +kernel
theorem dX7_nextAdded_51 : decode cX7_nextAdded 51 = .ok (.iinc 2 1, 3) := by decide +kernel
theorem dX7_nextAdded_54 : decode cX7_nextAdded 54 = .ok (.goto (-44), 3) := by decide +kernel
theorem dX7_nextAdded_57 : decode cX7_nextAdded 57 = .ok (.iinc 1 1, 3) := by decide +kernel
theorem dX7_nextAdded_60 : decode cX7_nextAdded 60 = .ok (.goto (-58), 3) := by decide +kernel
theorem dX7_nextAdded_63 : decode cX7_nextAdded 63 = .ok (.iconst (-1), 1) := by decide +kernel
theorem dX7_nextAdded_64 : decode cX7_nextAdded 64 = .ok (.ireturn, 1) := by decide +kernel
theorem dX7_findKnock_0 : decode cX7_findKnock 0 = .ok (.aload_n 0, 1) := by decide +kernel
theorem dX7_findKnock_1 : decode cX7_findKnock 1 = .ok (.aload_n 0, 1) := by decide +kernel
theorem dX7_findKnock_2 : decode cX7_findKnock 2 = .ok (.getfield 9, 3) := by decide +kernel
theorem dX7_findKnock_5 : decode cX7_findKnock 5 = .ok (.iconst 4, 1) := by decide +kernel
theorem dX7_findKnock_6 : decode cX7_findKnock 6 = .ok (.iaload, 1) := by decide +kernel
theorem dX7_findKnock_7 : decode cX7_findKnock 7 = .ok (.iload_n 1, 1) := by decide +kernel
theorem dX7_findKnock_8 : decode cX7_findKnock 8 = .ok (.iconst (-1), 1) := by decide +kernel
theorem dX7_findKnock_9 : decode cX7_findKnock 9 = .ok (.invokevirtual 148, 3) := by decide +kernel
theorem dX7_findKnock_12 : decode cX7_findKnock 12 = .ok (.aload_n 0, 1) := by decide +kernel
theorem dX7_findKnock_13 : decode cX7_findKnock 13 = .ok (.invokevirtual 152, 3) := by decide +kernel
theorem dX7_findKnock_16 : decode cX7_findKnock 16 = .ok (.aload_n 0, 1) := by decide +kernel
theorem dX7_findKnock_17 : decode cX7_findKnock 17 = .ok (.aload_n 0, 1) := by decide +kernel
theorem dX7_findKnock_18 : decode cX7_findKnock 18 = .ok (.getfield 134, 3) := by decide +kernel
theorem dX7_findKnock_21 : decode cX7_findKnock 21 = .ok (.putfield 174, 3) := by decide +kernel
theorem dX7_findKnock_24 : decode cX7_findKnock 24 = .ok (.aload_n 0, 1) := by decide +kernel
theorem dX7_findKnock_25 : decode cX7_findKnock 25 = .ok (.aload_n 0, 1) := by decide +kernel
theorem dX7_findKnock_26 : decode cX7_findKnock 26 = .ok (.getfield 137, 3) := by decide +kernel
theorem dX7_findKnock_29 : decode cX7_findKnock 29 = .ok (.putfield 167, 3) := by decide +kernel
theorem dX7_findKnock_32 : decode cX7_findKnock 32 = .ok (.iconst 0, 1) := by decide +kernel
theorem dX7_findKnock_33 : decode cX7_findKnock 33 = .ok (.istore_n 2, 1) := by decide +kernel
theorem dX7_findKnock_34 : decode cX7_findKnock 34 = .ok (.iload_n 2, 1) := by decide +kernel
theorem dX7_findKnock_35 : decode cX7_findKnock 35 = .ok (.aload_n 0, 1) := by decide +kernel
theorem dX7_findKnock_36 : decode cX7_findKnock 36 = .ok (.getfield 137, 3) := by decide +kernel
theorem dX7_findKnock_39 : decode cX7_findKnock 39 = .ok (.if_icmp .ge 21, 3) := by decide +kernel
theorem dX7_findKnock_42 : decode cX7_findKnock 42 = .ok (.aload_n 0, 1) := by decide +kernel
theorem dX7_findKnock_43 : decode cX7_findKnock 43 = .ok (.getfield 48, 3) := by decide +kernel
theorem dX7_findKnock_46 : decode cX7_findKnock 46 = .ok (.iload_n 2, 1) := by decide +kernel
theorem dX7_findKnock_47 : decode cX7_findKnock 47 = .ok (.aload_n 0, 1) := by decide +kernel
theorem dX7_findKnock_48 : decode cX7_findKnock 48 = .ok (.getfield 44, 3) := by decide +kernel
theorem dX7_findKnock_51 : decode cX7_findKnock 51 = .ok (.iload_n 2, 1) := by decide +kernel
theorem dX7_findKnock_52 : decode cX7_findKnock 52 = .ok (.laload, 1) := by decide +kernel
theorem dX7_findKnock_53 : decode cX7_findKnock 53 = .ok (.lastore, 1) := by decide +kernel
theorem dX7_findKnock_54 : decode cX7_findKnock 54 = .ok (.iinc 2 1, 3) := by decide +kernel
theorem dX7_findKnock_57 : decode cX7_findKnock 57 = .ok (.goto (-23), 3) := by decide +kernel
theorem dX7_findKnock_60 : decode cX7_findKnock 60 = .ok (.aload_n 0, 1) := by decide +kernel
theorem dX7_findKnock_61 : decode cX7_findKnock 61 = .ok (.iconst 1, 1) := by decide +kernel
theorem dX7_findKnock_62 : decode cX7_findKnock 62 = .ok (.aload_n 0, 1) := by decide +kernel
theorem dX7_findKnock_63 : decode cX7_findKnock 63 = .ok (.getfield 9, 3) := by decide +kernel
theorem dX7_findKnock_66 : decode cX7_findKnock 66 = .ok (.iconst 4, 1) := by decide +kernel
theorem dX7_findKnock_67 : decode cX7_findKnock 67 = .ok (.iaload, 1) := by decide +kernel
theorem dX7_findKnock_68 : decode cX7_findKnock 68 = .ok (.isub, 1) := by decide +kernel
theorem dX7_findKnock_69 : decode cX7_findKnock 69 = .ok (.invokevirtual 177, 3) := by decide +kernel
theorem dX7_findKnock_72 : decode cX7_findKnock 72 = .ok (.aload_n 0, 1) := by decide +kernel
theorem dX7_findKnock_73 : decode cX7_findKnock 73 = .ok (.iconst 0, 1) := by decide +kernel
theorem dX7_findKnock_74 : decode cX7_findKnock 74 = .ok (.putfield 180, 3) := by decide +kernel
theorem dX7_findKnock_77 : decode cX7_findKnock 77 = .ok (.aload_n 0, 1) := by decide +kernel
theorem dX7_findKnock_78 : decode cX7_findKnock 78 = .ok (.getfield 174, 3) := by decide +kernel
theorem dX7_findKnock_81 : decode cX7_findKnock 81 = .ok (.ifCond .le 10, 3) := by decide +kernel
theorem dX7_findKnock_84 : decode cX7_findKnock 84 = .ok (.aload_n 0, 1) := by decide +kernel
theorem dX7_findKnock_85 : decode cX7_findKnock 85 = .ok (.invokevirtual 183, 3) := by decide +kernel
theorem dX7_findKnock_88 : decode cX7_findKnock 88 = .ok (.goto 4, 3) := by decide +kernel
theorem dX7_findKnock_91 : decode cX7_findKnock 91 = .ok (.iconst (-1), 1) := by decide +kernel
theorem dX7_findKnock_92 : decode cX7_findKnock 92 = .ok (.istore_n 2, 1) := by decide +kernel
theorem dX7_findKnock_93 : decode cX7_findKnock 93 = .ok (.iload_n 2, 1) := by decide +kernel
theorem dX7_findKnock_94 : decode cX7_findKnock 94 = .ok (.iconst (-1), 1) := by decide +kernel
theorem dX7_findKnock_95 : decode cX7_findKnock 95 = .ok (.if_icmp .eq 58, 3) := by decide +kernel
theorem dX7_findKnock_98 : decode cX7_findKnock 98 = .ok (.aload_n 0, 1) := by decide +kernel
theorem dX7_findKnock_99 : decode cX7_findKnock 99 = .ok (.getfield 48, 3) := by decide +kernel
theorem dX7_findKnock_102 : decode cX7_findKnock 102 = .ok (.iload_n 2, 1) := by decide +kernel
theorem dX7_findKnock_103 : decode cX7_findKnock 103 = .ok (.bipush 64, 2) := by decide +kernel
theorem dX7_findKnock_105 : decode cX7_findKnock 105 = .ok (.irem, 1) := by decide +kernel
theorem dX7_findKnock_106 : decode cX7_findKnock 106 = .ok (.dup2, 1) := by decide +kernel
theorem dX7_findKnock_107 : decode cX7_findKnock 107 = .ok (.laload, 1) := by decide +kernel
theorem dX7_findKnock_108 : decode cX7_findKnock 108 = .ok (.lconst 1, 1) := by decide +kernel
theorem dX7_findKnock_109 : decode cX7_findKnock 109 = .ok (.iload_n 2, 1) := by decide +kernel
theorem dX7_findKnock_110 : decode cX7_findKnock 110 = .ok (.bipush 64, 2) := by decide +kernel
theorem dX7_findKnock_112 : decode cX7_findKnock 112 = .ok (.idiv, 1) := by decide +kernel
theorem dX7_findKnock_113 : decode cX7_findKnock 113 = .ok (.lshl, 1) := by decide +kernel
theorem dX7_findKnock_114 : decode cX7_findKnock 114 = .ok (.lor, 1) := by decide +kernel
theorem dX7_findKnock_115 : decode cX7_findKnock 115 = .ok (.lastore, 1) := by decide +kernel
theorem dX7_findKnock_116 : decode cX7_findKnock 116 = .ok (.aload_n 0, 1) := by decide +kernel
theorem dX7_findKnock_117 : decode cX7_findKnock 117 = .ok (.dup, 1) := by decide +kernel
theorem dX7_findKnock_118 : decode cX7_findKnock 118 = .ok (.getfield 140, 3) := by decide +kernel
theorem dX7_findKnock_121 : decode cX7_findKnock 121 = .ok (.lconst 1, 1) := by decide +kernel
theorem dX7_findKnock_122 : decode cX7_findKnock 122 = .ok (.iload_n 2, 1) := by decide +kernel
theorem dX7_findKnock_123 : decode cX7_findKnock 123 = .ok (.bipush 64, 2) := by decide +kernel
theorem dX7_findKnock_125 : decode cX7_findKnock 125 = .ok (.idiv, 1) := by decide +kernel
theorem dX7_findKnock_126 : decode cX7_findKnock 126 = .ok (.lshl, 1) := by decide +kernel
theorem dX7_findKnock_127 : decode cX7_findKnock 127 = .ok (.ldc2_w 158, 3) := by decide +kernel
theorem dX7_findKnock_130 : decode cX7_findKnock 130 = .ok (.lxor, 1) := by decide +kernel
theorem dX7_findKnock_131 : decode cX7_findKnock 131 = .ok (.land, 1) := by decide +kernel
theorem dX7_findKnock_132 : decode cX7_findKnock 132 = .ok (.putfield 140, 3) := by decide +kernel
theorem dX7_findKnock_135 : decode cX7_findKnock 135 = .ok (.aload_n 0, 1) := by decide +kernel
theorem dX7_findKnock_136 : decode cX7_findKnock 136 = .ok (.dup, 1) := by decide +kernel
theorem dX7_findKnock_137 : decode cX7_findKnock 137 = .ok (.getfield 180, 3) := by decide +kernel
theorem dX7_findKnock_140 : decode cX7_findKnock 140 = .ok (.iconst 1, 1) := by decide +kernel
theorem dX7_findKnock_141 : decode cX7_findKnock 141 = .ok (.iadd, 1) := by decide +kernel
theorem dX7_findKnock_142 : decode cX7_findKnock 142 = .ok (.putfield 180, 3) := by decide +kernel
theorem dX7_findKnock_145 : decode cX7_findKnock 145 = .ok (.aload_n 0, 1) := by decide +kernel
theorem dX7_findKnock_146 : decode cX7_findKnock 146 = .ok (.invokevirtual 183, 3) := by decide +kernel
theorem dX7_findKnock_149 : decode cX7_findKnock 149 = .ok (.istore_n 2, 1) := by decide +kernel
theorem dX7_findKnock_150 : decode cX7_findKnock 150 = .ok (.goto (-57), 3) := by decide +kernel
theorem dX7_findKnock_153 : decode cX7_findKnock 153 = .ok (.aload_n 0, 1) := by decide +kernel
theorem dX7_findKnock_154 : decode cX7_findKnock 154 = .ok (.aload_n 0, 1) := by decide +kernel
theorem dX7_findKnock_155 : decode cX7_findKnock 155 = .ok (.getfield 140, 3) := by decide +kernel
theorem dX7_findKnock_158 : decode cX7_findKnock 158 = .ok (.invokestatic 186, 3) := by decide +kernel
theorem dX7_findKnock_161 : decode cX7_findKnock 161 = .ok (.putfield 189, 3) := by decide +kernel
theorem dX7_findKnock_164 : decode cX7_findKnock 164 = .ok (.return_, 1) := by decide +kernel
theorem dX7_noTurn_0 : decode cX7_noTurn 0 = .ok (.aload_n 0, 1) := by decide +kernel
theorem dX7_noTurn_1 : decode cX7_noTurn 1 = .ok (.getfield 9, 3) := by decide +kernel
theorem dX7_noTurn_4 : decode cX7_noTurn 4 = .ok (.bipush 6, 2) := by decide +kernel
theorem dX7_noTurn_6 : decode cX7_noTurn 6 = .ok (.iaload, 1) := by decide +kernel
theorem dX7_noTurn_7 : decode cX7_noTurn 7 = .ok (.iconst 1, 1) := by decide +kernel
theorem dX7_noTurn_8 : decode cX7_noTurn 8 = .ok (.if_icmp .ne 7, 3) := by decide +kernel
theorem dX7_noTurn_11 : decode cX7_noTurn 11 = .ok (.iconst 2, 1) := by decide +kernel
theorem dX7_noTurn_12 : decode cX7_noTurn 12 = .ok (.goto 32, 3) := by decide +kernel
theorem dX7_noTurn_15 : decode cX7_noTurn 15 = .ok (.aload_n 0, 1) := by decide +kernel
theorem dX7_noTurn_16 : decode cX7_noTurn 16 = .ok (.getfield 9, 3) := by decide +kernel
theorem dX7_noTurn_19 : decode cX7_noTurn 19 = .ok (.iconst 5, 1) := by decide +kernel
theorem dX7_noTurn_20 : decode cX7_noTurn 20 = .ok (.iaload, 1) := by decide +kernel
theorem dX7_noTurn_21 : decode cX7_noTurn 21 = .ok (.ifCond .ne 7, 3) := by decide +kernel
theorem dX7_noTurn_24 : decode cX7_noTurn 24 = .ok (.iconst 4, 1) := by decide +kernel
theorem dX7_noTurn_25 : decode cX7_noTurn 25 = .ok (.goto 19, 3) := by decide +kernel
theorem dX7_noTurn_28 : decode cX7_noTurn 28 = .ok (.aload_n 0, 1) := by decide +kernel
theorem dX7_noTurn_29 : decode cX7_noTurn 29 = .ok (.getfield 9, 3) := by decide +kernel
theorem dX7_noTurn_32 : decode cX7_noTurn 32 = .ok (.bipush 7, 2) := by decide +kernel
theorem dX7_noTurn_34 : decode cX7_noTurn 34 = .ok (.iaload, 1) := by decide +kernel
theorem dX7_noTurn_35 : decode cX7_noTurn 35 = .ok (.iload_n 1, 1) := by decide +kernel
theorem dX7_noTurn_36 : decode cX7_noTurn 36 = .ok (.if_icmp .ne 7, 3) := by decide +kernel
theorem dX7_noTurn_39 : decode cX7_noTurn 39 = .ok (.iconst 5, 1) := by decide +kernel
theorem dX7_noTurn_40 : decode cX7_noTurn 40 = .ok (.goto 4, 3) := by decide +kernel
theorem dX7_noTurn_43 : decode cX7_noTurn 43 = .ok (.iconst 0, 1) := by decide +kernel
theorem dX7_noTurn_44 : decode cX7_noTurn 44 = .ok (.ireturn, 1) := by decide +kernel
theorem dX7_restWithoutCard_0 : decode cX7_restWithoutCard 0 = .ok (.aload_n 0, 1) := by decide +kernel
theorem dX7_restWithoutCard_1 : decode cX7_restWithoutCard 1 = .ok (.aload_n 0, 1) := by decide +kernel
theorem dX7_restWithoutCard_2 : decode cX7_restWithoutCard 2 = .ok (.getfield 9, 3) := by decide +kernel
theorem dX7_restWithoutCard_5 : decode cX7_restWithoutCard 5 = .ok (.iconst 4, 1) := by decide +kernel
theorem dX7_restWithoutCard_6 : decode cX7_restWithoutCard 6 = .ok (.iaload, 1) := by decide +kernel
theorem dX7_restWithoutCard_7 : decode cX7_restWithoutCard 7 = .ok (.iload_n 1, 1) := by decide +kernel
theorem dX7_restWithoutCard_8 : decode cX7_restWithoutCard 8 = .ok (.iconst (-1), 1) := by decide +kernel
theorem dX7_restWithoutCard_9 : decode cX7_restWithoutCard 9 = .ok (.invokevirtual 148, 3) := by decide +kernel
theorem dX7_restWithoutCard_12 : decode cX7_restWithoutCard 12 = .ok (.aload_n 0, 1) := by decide +kernel
theorem dX7_restWithoutCard_13 : decode cX7_restWithoutCard 13 = .ok (.invokevirtual 130, 3) := by decide +kernel
theorem dX7_restWithoutCard_16 : decode cX7_restWithoutCard 16 = .ok (.ireturn, 1) := by decide +kernel
theorem dX7_noKnock_0 : decode cX7_noKnock 0 = .ok (.aload_n 0, 1) := by decide +kernel
theorem dX7_noKnock_1 : decode cX7_noKnock 1 = .ok (.iload_n 1, 1) := by decide +kernel
theorem dX7_noKnock_2 : decode cX7_noKnock 2 = .ok (.invokevirtual 192, 3) := by decide +kernel
theorem dX7_noKnock_5 : decode cX7_noKnock 5 = .ok (.istore_n 2, 1) := by decide +kernel
theorem dX7_noKnock_6 : decode cX7_noKnock 6 = .ok (.iload_n 2, 1) := by decide +kernel
theorem dX7_noKnock_7 : decode cX7_noKnock 7 = .ok (.ifCond .eq 7, 3) := by decide +kernel
theorem dX7_noKnock_10 : decode cX7_noKnock 10 = .ok (.iload_n 2, 1) := by decide +kernel
theorem dX7_noKnock_11 : decode cX7_noKnock 11 = .ok (.goto 23, 3) := by decide +kernel
theorem dX7_noKnock_14 : decode cX7_noKnock 14 = .ok (.aload_n 0, 1) := by decide +kernel
theorem dX7_noKnock_15 : decode cX7_noKnock 15 = .ok (.iload_n 1, 1) := by decide +kernel
theorem dX7_noKnock_16 : decode cX7_noKnock 16 = .ok (.invokevirtual 195, 3) := by decide +kernel
theorem dX7_noKnock_19 : decode cX7_noKnock 19 = .ok (.aload_n 0, 1) := by decide +kernel
theorem dX7_noKnock_20 : decode cX7_noKnock 20 = .ok (.getfield 9, 3) := by decide +kernel
theorem dX7_noKnock_23 : decode cX7_noKnock 23 = .ok (.iconst 1, 1) := by decide +kernel
theorem dX7_noKnock_24 : decode cX7_noKnock 24 = .ok (.iaload, 1) := by decide +kernel
theorem dX7_noKnock_25 : decode cX7_noKnock 25 = .ok (.if_icmp .le 8, 3) := by decide +kernel
theorem dX7_noKnock_28 : decode cX7_noKnock 28 = .ok (.bipush 6, 2) := by decide +kernel
theorem dX7_noKnock_30 : decode cX7_noKnock 30 = .ok (.goto 4, 3) := by decide +kernel
theorem dX7_noKnock_33 : decode cX7_noKnock 33 = .ok (.iconst 0, 1) := by decide +kernel
theorem dX7_noKnock_34 : decode cX7_noKnock 34 = .ok (.ireturn, 1) := by decide +kernel
theorem dX7_noDraw_0 : decode cX7_noDraw 0 = .ok (.aload_n 0, 1) := by decide +kernel
theorem dX7_noDraw_1 : decode cX7_noDraw 1 = .ok (.getfield 9, 3) := by decide +kernel
theorem dX7_noDraw_4 : decode cX7_noDraw 4 = .ok (.bipush 6, 2) := by decide +kernel
theorem dX7_noDraw_6 : decode cX7_noDraw 6 = .ok (.iaload, 1) := by decide +kernel
theorem dX7_noDraw_7 : decode cX7_noDraw 7 = .ok (.iconst 1, 1) := by decide +kernel
theorem dX7_noDraw_8 : decode cX7_noDraw 8 = .ok (.if_icmp .ne 7, 3) := by decide +kernel
theorem dX7_noDraw_11 : decode cX7_noDraw 11 = .ok (.iconst 2, 1) := by decide +kernel
theorem dX7_noDraw_12 : decode cX7_noDraw 12 = .ok (.goto 18, 3) := by decide +kernel
theorem dX7_noDraw_15 : decode cX7_noDraw 15 = .ok (.aload_n 0, 1) := by decide +kernel
theorem dX7_noDraw_16 : decode cX7_noDraw 16 = .ok (.getfield 9, 3) := by decide +kernel
theorem dX7_noDraw_19 : decode cX7_noDraw 19 = .ok (.iconst 5, 1) := by decide +kernel
theorem dX7_noDraw_20 : decode cX7_noDraw 20 = .ok (.iaload, 1) := by decide +kernel
theorem dX7_noDraw_21 : decode cX7_noDraw 21 = .ok (.iconst 1, 1) := by decide +kernel
theorem dX7_noDraw_22 : decode cX7_noDraw 22 = .ok (.if_icmp .ne 7, 3) := by decide +kernel
theorem dX7_noDraw_25 : decode cX7_noDraw 25 = .ok (.iconst 3, 1) := by decide +kernel
theorem dX7_noDraw_26 : decode cX7_noDraw 26 = .ok (.goto 4, 3) := by decide +kernel
theorem dX7_noDraw_29 : decode cX7_noDraw 29 = .ok (.iconst 0, 1) := by decide +kernel
theorem dX7_noDraw_30 : decode cX7_noDraw 30 = .ok (.ireturn, 1) := by decide +kernel
theorem dX7_drawIt_0 : decode cX7_drawIt 0 = .ok (.iload_n 1, 1) := by decide +kernel
theorem dX7_drawIt_1 : decode cX7_drawIt 1 = .ok (.ifCond .eq 10, 3) := by decide +kernel
theorem dX7_drawIt_4 : decode cX7_drawIt 4 = .ok (.aload_n 0, 1) := by decide +kernel
theorem dX7_drawIt_5 : decode cX7_drawIt 5 = .ok (.invokevirtual 198, 3) := by decide +kernel
theorem dX7_drawIt_8 : decode cX7_drawIt 8 = .ok (.goto 18, 3) := by decide +kernel
theorem dX7_drawIt_11 : decode cX7_drawIt 11 = .ok (.aload_n 0, 1) := by decide +kernel
theorem dX7_drawIt_12 : decode cX7_drawIt 12 = .ok (.getfield 9, 3) := by decide +kernel
theorem dX7_drawIt_15 : decode cX7_drawIt 15 = .ok (.bipush 15, 2) := by decide +kernel
theorem dX7_drawIt_17 : decode cX7_drawIt 17 = .ok (.aload_n 0, 1) := by decide +kernel
theorem dX7_drawIt_18 : decode cX7_drawIt 18 = .ok (.getfield 9, 3) := by decide +kernel
theorem dX7_drawIt_21 : decode cX7_drawIt 21 = .ok (.bipush 13, 2) := by decide +kernel
theorem dX7_drawIt_23 : decode cX7_drawIt 23 = .ok (.iaload, 1) := by decide +kernel
theorem dX7_drawIt_24 : decode cX7_drawIt 24 = .ok (.iadd, 1) := by decide +kernel
theorem dX7_drawIt_25 : decode cX7_drawIt 25 = .ok (.iaload, 1) := by decide +kernel
theorem dX7_drawIt_26 : decode cX7_drawIt 26 = .ok (.istore_n 2, 1) := by decide +kernel
theorem dX7_drawIt_27 : decode cX7_drawIt 27 = .ok (.iload_n 1, 1) := by decide +kernel
theorem dX7_drawIt_28 : decode cX7_drawIt 28 = .ok (.ifCond .eq 17, 3) := by decide +kernel
theorem dX7_drawIt_31 : decode cX7_drawIt 31 = .ok (.aload_n 0, 1) := by decide +kernel
theorem dX7_drawIt_32 : decode cX7_drawIt 32 = .ok (.getfield 9, 3) := by decide +kernel
theorem dX7_drawIt_35 : decode cX7_drawIt 35 = .ok (.bipush 14, 2) := by decide +kernel
theorem dX7_drawIt_37 : decode cX7_drawIt 37 = .ok (.dup2, 1) := by decide +kernel
theorem dX7_drawIt_38 : decode cX7_drawIt 38 = .ok (.iaload, 1) := by decide +kernel
theorem dX7_drawIt_39 : decode cX7_drawIt 39 = .ok (.iconst 1, 1) := by decide +kernel
theorem dX7_drawIt_40 : decode cX7_drawIt 40 = .ok (.isub, 1) := by decide +kernel
theorem dX7_drawIt_41 : decode cX7_drawIt 41 = .ok (.iastore, 1) := by decide +kernel
theorem dX7_drawIt_42 : decode cX7_drawIt 42 = .ok (.goto 14, 3) := by decide +kernel
theorem dX7_drawIt_45 : decode cX7_drawIt 45 = .ok (.aload_n 0, 1) := by decide +kernel
theorem dX7_drawIt_46 : decode cX7_drawIt 46 = .ok (.getfield 9, 3) := by decide +kernel
theorem dX7_drawIt_49 : decode cX7_drawIt 49 = .ok (.bipush 13, 2) := by decide +kernel
theorem dX7_drawIt_51 : decode cX7_drawIt 51 = .ok (.dup2, 1) := by decide +kernel
theorem dX7_drawIt_52 : decode cX7_drawIt 52 = .ok (.iaload, 1) := by decide +kernel
theorem dX7_drawIt_53 : decode cX7_drawIt 53 = .ok (.iconst 1, 1) := by decide +kernel
theorem dX7_drawIt_54 : decode cX7_drawIt 54 = .ok (.iadd, 1) := by decide +kernel
theorem dX7_drawIt_55 : decode cX7_drawIt 55 = .ok (.iastore, 1) := by decide +kernel
theorem dX7_drawIt_56 : decode cX7_drawIt 56 = .ok (.aload_n 0, 1) := by decide +kernel
theorem dX7_drawIt_57 : decode cX7_drawIt 57 = .ok (.getfield 9, 3) := by decide +kernel
theorem dX7_drawIt_60 : decode cX7_drawIt 60 = .ok (.bipush 119, 2) := by decide +kernel
theorem dX7_drawIt_62 : decode cX7_drawIt 62 = .ok (.iload_n 2, 1) := by decide +kernel
theorem dX7_drawIt_63 : decode cX7_drawIt 63 = .ok (.iadd, 1) := by decide +kernel
theorem dX7_drawIt_64 : decode cX7_drawIt 64 = .ok (.aload_n 0, 1) := by decide +kernel
theorem dX7_drawIt_65 : decode cX7_drawIt 65 = .ok (.getfield 9, 3) := by decide +kernel
theorem dX7_drawIt_68 : decode cX7_drawIt 68 = .ok (.iconst 4, 1) := by decide +kernel
theorem dX7_drawIt_69 : decode cX7_drawIt 69 = .ok (.iaload, 1) := by decide +kernel
theorem dX7_drawIt_70 : decode cX7_drawIt 70 = .ok (.iastore, 1) := by decide +kernel
theorem dX7_drawIt_71 : decode cX7_drawIt 71 = .ok (.aload_n 0, 1) := by decide +kernel
theorem dX7_drawIt_72 : decode cX7_drawIt 72 = .ok (.getfield 9, 3) := by decide +kernel
theorem dX7_drawIt_75 : decode cX7_drawIt 75 = .ok (.iconst 5, 1) := by decide +kernel
theorem dX7_drawIt_76 : decode cX7_drawIt 76 = .ok (.iconst 1, 1) := by decide +kernel
theorem dX7_drawIt_77 : decode cX7_drawIt 77 = .ok (.iastore, 1) := by decide +kernel
theorem dX7_drawIt_78 : decode cX7_drawIt 78 = .ok (.aload_n 0, 1) := by decide +kernel
theorem dX7_drawIt_79 : decode cX7_drawIt 79 = .ok (.getfield 9, 3) := by decide +kernel
theorem dX7_drawIt_82 : decode cX7_drawIt 82 = .ok (.bipush 7, 2) := by decide +kernel
theorem dX7_drawIt_84 : decode cX7_drawIt 84 = .ok (.iload_n 1, 1) := by decide +kernel
theorem dX7_drawIt_85 : decode cX7_drawIt 85 = .ok (.ifCond .eq 7, 3) := by decide +kernel
theorem dX7_drawIt_88 : decode cX7_drawIt 88 = .ok (.iload_n 2, 1) := by decide +kernel
theorem dX7_drawIt_89 : decode cX7_drawIt 89 = .ok (.goto 4, 3) := by decide +kernel
theorem dX7_drawIt_92 : decode cX7_drawIt 92 = .ok (.iconst (-1), 1) := by decide +kernel
theorem dX7_drawIt_93 : decode cX7_drawIt 93 = .ok (.iastore, 1) := by decide +kernel
theorem dX7_drawIt_94 : decode cX7_drawIt 94 = .ok (.iload_n 2, 1) := by decide +kernel
theorem dX7_drawIt_95 : decode cX7_drawIt 95 = .ok (.ireturn, 1) := by decide +kernel
theorem dX7_putOnPile_0 : decode cX7_putOnPile 0 = .ok (.aload_n 0, 1) := by decide +kernel
theorem dX7_putOnPile_1 : decode cX7_putOnPile 1 = .ok (.getfield 9, 3) := by decide +kernel
theorem dX7_putOnPile_4 : decode cX7_putOnPile 4 = .ok (.bipush 119, 2) := by decide +kernel
theorem dX7_putOnPile_6 : decode cX7_putOnPile 6 = .ok (.iload_n 1, 1) := by decide +kernel
theorem dX7_putOnPile_7 : decode cX7_putOnPile 7 = .ok (.iadd, 1) := by decide +kernel
theorem dX7_putOnPile_8 : decode cX7_putOnPile 8 = .ok (.iconst 2, 1) := by decide +kernel
theorem dX7_putOnPile_9 : decode cX7_putOnPile 9 = .ok (.iastore, 1) := by decide +kernel
theorem dX7_putOnPile_10 : decode cX7_putOnPile 10 = .ok (.aload_n 0, 1) := by decide +kernel
theorem dX7_putOnPile_11 : decode cX7_putOnPile 11 = .ok (.getfield 9, 3) := by decide +kernel
theorem dX7_putOnPile_14 : decode cX7_putOnPile 14 = .ok (.bipush 67, 2) := by decide +kernel
theorem dX7_putOnPile_16 : decode cX7_putOnPile 16 = .ok (.aload_n 0, 1) := by decide +kernel
theorem dX7_putOnPile_17 : decode cX7_putOnPile 17 = .ok (.getfield 9, 3) := by decide +kernel
theorem dX7_putOnPile_20 : decode cX7_putOnPile 20 = .ok (.bipush 14, 2) := by decide +kernel
theorem dX7_putOnPile_22 : decode cX7_putOnPile 22 = .ok (.iaload, 1) := by decide +kernel
theorem dX7_putOnPile_23 : decode cX7_putOnPile 23 = .ok (.iadd, 1) := by decide +kernel
theorem dX7_putOnPile_24 : decode cX7_putOnPile 24 = .ok (.iload_n 1, 1) := by decide +kernel
theorem dX7_putOnPile_25 : decode cX7_putOnPile 25 = .ok (.iastore, 1) := by decide +kernel
theorem dX7_putOnPile_26 : decode cX7_putOnPile 26 = .ok (.aload_n 0, 1) := by decide +kernel
theorem dX7_putOnPile_27 : decode cX7_putOnPile 27 = .ok (.getfield 9, 3) := by decide +kernel
theorem dX7_putOnPile_30 : decode cX7_putOnPile 30 = .ok (.bipush 14, 2) := by decide +kernel
theorem dX7_putOnPile_32 : decode cX7_putOnPile 32 = .ok (.dup2, 1) := by decide +kernel
theorem dX7_putOnPile_33 : decode cX7_putOnPile 33 = .ok (.iaload, 1) := by decide +kernel
theorem dX7_putOnPile_34 : decode cX7_putOnPile 34 = .ok (.iconst 1, 1) := by decide +kernel
theorem dX7_putOnPile_35 : decode cX7_putOnPile 35 = .ok (.iadd, 1) := by decide +kernel
theorem dX7_putOnPile_36 : decode cX7_putOnPile 36 = .ok (.iastore, 1) := by decide +kernel
theorem dX7_putOnPile_37 : decode cX7_putOnPile 37 = .ok (.aload_n 0, 1) := by decide +kernel
theorem dX7_putOnPile_38 : decode cX7_putOnPile 38 = .ok (.getfield 9, 3) := by decide +kernel
theorem dX7_putOnPile_41 : decode cX7_putOnPile 41 = .ok (.iconst 5, 1) := by decide +kernel
theorem dX7_putOnPile_42 : decode cX7_putOnPile 42 = .ok (.iconst 0, 1) := by decide +kernel
theorem dX7_putOnPile_43 : decode cX7_putOnPile 43 = .ok (.iastore, 1) := by decide +kernel
theorem dX7_putOnPile_44 : decode cX7_putOnPile 44 = .ok (.aload_n 0, 1) := by decide +kernel
theorem dX7_putOnPile_45 : decode cX7_putOnPile 45 = .ok (.getfield 9, 3) := by decide +kernel
theorem dX7_putOnPile_48 : decode cX7_putOnPile 48 = .ok (.bipush 7, 2) := by decide +kernel
theorem dX7_putOnPile_50 : decode cX7_putOnPile 50 = .ok (.iconst (-1), 1) := by decide +kernel
theorem dX7_putOnPile_51 : decode cX7_putOnPile 51 = .ok (.iastore, 1) := by decide +kernel
theorem dX7_putOnPile_52 : decode cX7_putOnPile 52 = .ok (.return_, 1) := by decide +kernel
theorem dX7_dropIt_0 : decode cX7_dropIt 0 = .ok (.aload_n 0, 1) := by decide +kernel
theorem dX7_dropIt_1 : decode cX7_dropIt 1 = .ok (.iload_n 1, 1) := by decide +kernel
theorem dX7_dropIt_2 : decode cX7_dropIt 2 = .ok (.invokevirtual 201, 3) := by decide +kernel
theorem dX7_dropIt_5 : decode cX7_dropIt 5 = .ok (.aload_n 0, 1) := by decide +kernel
theorem dX7_dropIt_6 : decode cX7_dropIt 6 = .ok (.invokevirtual 204, 3) := by decide +kernel
theorem dX7_dropIt_9 : decode cX7_dropIt 9 = .ok (.ifCond .ne 12, 3) := by decide +kernel
theorem dX7_dropIt_12 : decode cX7_dropIt 12 = .ok (.aload_n 0, 1) := by decide +kernel
theorem dX7_dropIt_13 : decode cX7_dropIt 13 = .ok (.iconst 0, 1) := by decide +kernel
theorem dX7_dropIt_14 : decode cX7_dropIt 14 = .ok (.iconst (-1), 1) := by decide +kernel
theorem dX7_dropIt_15 : decode cX7_dropIt 15 = .ok (.invokevirtual 207, 3) := by decide +kernel
theorem dX7_dropIt_18 : decode cX7_dropIt 18 = .ok (.goto 17, 3) := by decide +kernel
theorem dX7_dropIt_21 : decode cX7_dropIt 21 = .ok (.aload_n 0, 1) := by decide +kernel
theorem dX7_dropIt_22 : decode cX7_dropIt 22 = .ok (.getfield 9, 3) := by decide +kernel
theorem dX7_dropIt_25 : decode cX7_dropIt 25 = .ok (.iconst 4, 1) := by decide +kernel
theorem dX7_dropIt_26 : decode cX7_dropIt 26 = .ok (.iconst 1, 1) := by decide +kernel
theorem dX7_dropIt_27 : decode cX7_dropIt 27 = .ok (.aload_n 0, 1) := by decide +kernel
theorem dX7_dropIt_28 : decode cX7_dropIt 28 = .ok (.getfield 9, 3) := by decide +kernel
theorem dX7_dropIt_31 : decode cX7_dropIt 31 = .ok (.iconst 4, 1) := by decide +kernel
theorem dX7_dropIt_32 : decode cX7_dropIt 32 = .ok (.iaload, 1) := by decide +kernel
theorem dX7_dropIt_33 : decode cX7_dropIt 33 = .ok (.isub, 1) := by decide +kernel
theorem dX7_dropIt_34 : decode cX7_dropIt 34 = .ok (.iastore, 1) := by decide +kernel
theorem dX7_dropIt_35 : decode cX7_dropIt 35 = .ok (.aload_n 0, 1) := by decide +kernel
theorem dX7_dropIt_36 : decode cX7_dropIt 36 = .ok (.invokevirtual 204, 3) := by decide +kernel
theorem dX7_dropIt_39 : decode cX7_dropIt 39 = .ok (.ireturn, 1) := by decide +kernel
theorem dX7_endRound_0 : decode cX7_endRound 0 = .ok (.aload_n 0, 1) := by decide +kernel
theorem dX7_endRound_1 : decode cX7_endRound 1 = .ok (.getfield 9, 3) := by decide +kernel
theorem dX7_endRound_4 : decode cX7_endRound 4 = .ok (.bipush 6, 2) := by decide +kernel
theorem dX7_endRound_6 : decode cX7_endRound 6 = .ok (.iconst 1, 1) := by decide +kernel
theorem dX7_endRound_7 : decode cX7_endRound 7 = .ok (.iastore, 1) := by decide +kernel
theorem dX7_endRound_8 : decode cX7_endRound 8 = .ok (.aload_n 0, 1) := by decide +kernel
theorem dX7_endRound_9 : decode cX7_endRound 9 = .ok (.getfield 9, 3) := by decide +kernel
theorem dX7_endRound_12 : decode cX7_endRound 12 = .ok (.bipush 10, 2) := by decide +kernel
theorem dX7_endRound_14 : decode cX7_endRound 14 = .ok (.iload_n 1, 1) := by decide +kernel
theorem dX7_endRound_15 : decode cX7_endRound 15 = .ok (.iastore, 1) := by decide +kernel
theorem dX7_endRound_16 : decode cX7_endRound 16 = .ok (.aload_n 0, 1) := by decide +kernel
theorem dX7_endRound_17 : decode cX7_endRound 17 = .ok (.getfield 9, 3) := by decide +kernel
theorem dX7_endRound_20 : decode cX7_endRound 20 = .ok (.bipush 11, 2) := by decide +kernel
theorem dX7_endRound_22 : decode cX7_endRound 22 = .ok (.iload_n 2, 1) := by decide +kernel
theorem dX7_endRound_23 : decode cX7_endRound 23 = .ok (.iastore, 1) := by decide +kernel
theorem dX7_endRound_24 : decode cX7_endRound 24 = .ok (.iload_n 2, 1) := by decide +kernel
theorem dX7_endRound_25 : decode cX7_endRound 25 = .ok (.iconst (-1), 1) := by decide +kernel
theorem dX7_endRound_26 : decode cX7_endRound 26 = .ok (.if_icmp .eq 16, 3) := by decide +kernel
theorem dX7_endRound_29 : decode cX7_endRound 29 = .ok (.aload_n 0, 1) := by decide +kernel
theorem dX7_endRound_30 : decode cX7_endRound 30 = .ok (.getfield 9, 3) := by decide +kernel
theorem dX7_endRound_33 : decode cX7_endRound 33 = .ok (.bipush 8, 2) := by decide +kernel
theorem dX7_endRound_35 : decode cX7_endRound 35 = .ok (.iload_n 2, 1) := by decide +kernel
theorem dX7_endRound_36 : decode cX7_endRound 36 = .ok (.iadd, 1) := by decide +kernel
theorem dX7_endRound_37 : decode cX7_endRound 37 = .ok (.dup2, 1) := by decide +kernel
theorem dX7_endRound_38 : decode cX7_endRound 38 = .ok (.iaload, 1) := by decide +kernel
theorem dX7_endRound_39 : decode cX7_endRound 39 = .ok (.iload_n 1, 1) := by decide +kernel
theorem dX7_endRound_40 : decode cX7_endRound 40 = .ok (.iadd, 1) := by decide +kernel
theorem dX7_endRound_41 : decode cX7_endRound 41 = .ok (.iastore, 1) := by decide +kernel
theorem dX7_endRound_42 : decode cX7_endRound 42 = .ok (.return_, 1) := by decide +kernel
theorem dX7_knockIt_0 : decode cX7_knockIt 0 = .ok (.aload_n 0, 1) := by decide +kernel
theorem dX7_knockIt_1 : decode cX7_knockIt 1 = .ok (.iload_n 1, 1) := by decide +kernel
theorem dX7_knockIt_2 : decode cX7_knockIt 2 = .ok (.invokevirtual 211, 3) := by decide +kernel
theorem dX7_knockIt_5 : decode cX7_knockIt 5 = .ok (.aload_n 0, 1) := by decide +kernel
theorem dX7_knockIt_6 : decode cX7_knockIt 6 = .ok (.iload_n 1, 1) := by decide +kernel
theorem dX7_knockIt_7 : decode cX7_knockIt 7 = .ok (.invokevirtual 201, 3) := by decide +kernel
theorem dX7_knockIt_10 : decode cX7_knockIt 10 = .ok (.aload_n 0, 1) := by decide +kernel
theorem dX7_knockIt_11 : decode cX7_knockIt 11 = .ok (.getfield 174, 3) := by decide +kernel
theorem dX7_knockIt_14 : decode cX7_knockIt 14 = .ok (.ifCond .ne 13, 3) := by decide +kernel
theorem dX7_knockIt_17 : decode cX7_knockIt 17 = .ok (.aload_n 0, 1) := by decide +kernel
theorem dX7_knockIt_18 : decode cX7_knockIt 18 = .ok (.getfield 189, 3) := by decide +kernel
theorem dX7_knockIt_21 : decode cX7_knockIt 21 = .ok (.bipush 20, 2) := by decide +kernel
theorem dX7_knockIt_23 : decode cX7_knockIt 23 = .ok (.iadd, 1) := by decide +kernel
theorem dX7_knockIt_24 : decode cX7_knockIt 24 = .ok (.goto 38, 3) := by decide +kernel
theorem dX7_knockIt_27 : decode cX7_knockIt 27 = .ok (.aload_n 0, 1) := by decide +kernel
theorem dX7_knockIt_28 : decode cX7_knockIt 28 = .ok (.getfield 174, 3) := by decide +kernel
theorem dX7_knockIt_31 : decode cX7_knockIt 31 = .ok (.aload_n 0, 1) := by decide +kernel
theorem dX7_knockIt_32 : decode cX7_knockIt 32 = .ok (.getfield 189, 3) := by decide +kernel
theorem dX7_knockIt_35 : decode cX7_knockIt 35 = .ok (.if_icmp .ge 15, 3) := by decide +kernel
theorem dX7_knockIt_38 : decode cX7_knockIt 38 = .ok (.aload_n 0, 1) := by decide +kernel
theorem dX7_knockIt_39 : decode cX7_knockIt 39 = .ok (.getfield 189, 3) := by decide +kernel
theorem dX7_knockIt_42 : decode cX7_knockIt 42 = .ok (.aload_n 0, 1) := by decide +kernel
theorem dX7_knockIt_43 : decode cX7_knockIt 43 = .ok (.getfield 174, 3) := by decide +kernel
theorem dX7_knockIt_46 : decode cX7_knockIt 46 = .ok (.isub, 1) := by decide +kernel
theorem dX7_knockIt_47 : decode cX7_knockIt 47 = .ok (.goto 15, 3) := by decide +kernel
theorem dX7_knockIt_50 : decode cX7_knockIt 50 = .ok (.aload_n 0, 1) := by decide +kernel
theorem dX7_knockIt_51 : decode cX7_knockIt 51 = .ok (.getfield 189, 3) := by decide +kernel
theorem dX7_knockIt_54 : decode cX7_knockIt 54 = .ok (.aload_n 0, 1) := by decide +kernel
theorem dX7_knockIt_55 : decode cX7_knockIt 55 = .ok (.getfield 174, 3) := by decide +kernel
theorem dX7_knockIt_58 : decode cX7_knockIt 58 = .ok (.isub, 1) := by decide +kernel
theorem dX7_knockIt_59 : decode cX7_knockIt 59 = .ok (.bipush 10, 2) := by decide +kernel
theorem dX7_knockIt_61 : decode cX7_knockIt 61 = .ok (.isub, 1) := by decide +kernel
theorem dX7_knockIt_62 : decode cX7_knockIt 62 = .ok (.istore_n 2, 1) := by decide +kernel
theorem dX7_knockIt_63 : decode cX7_knockIt 63 = .ok (.iload_n 2, 1) := by decide +kernel
theorem dX7_knockIt_64 : decode cX7_knockIt 64 = .ok (.ifCond .le 7, 3) := by decide +kernel
theorem dX7_knockIt_67 : decode cX7_knockIt 67 = .ok (.iconst 1, 1) := by decide +kernel
theorem dX7_knockIt_68 : decode cX7_knockIt 68 = .ok (.goto 4, 3) := by decide +kernel
theorem dX7_knockIt_71 : decode cX7_knockIt 71 = .ok (.iconst 0, 1) := by decide +kernel
theorem dX7_knockIt_72 : decode cX7_knockIt 72 = .ok (.istore_n 3, 1) := by decide +kernel
theorem dX7_knockIt_73 : decode cX7_knockIt 73 = .ok (.aload_n 0, 1) := by decide +kernel
theorem dX7_knockIt_74 : decode cX7_knockIt 74 = .ok (.iload_n 3, 1) := by decide +kernel
theorem dX7_knockIt_75 : decode cX7_knockIt 75 = .ok (.ifCond .eq 7, 3) := by decide +kernel
theorem dX7_knockIt_78 : decode cX7_knockIt 78 = .ok (.iload_n 2, 1) := by decide +kernel
theorem dX7_knockIt_79 : decode cX7_knockIt 79 = .ok (.goto 5, 3) := by decide +kernel
theorem dX7_knockIt_82 : decode cX7_knockIt 82 = .ok (.iload_n 2, 1) := by decide +kernel
theorem dX7_knockIt_83 : decode cX7_knockIt 83 = .ok (.ineg, 1) := by decide +kernel
theorem dX7_knockIt_84 : decode cX7_knockIt 84 = .ok (.iload_n 3, 1) := by decide +kernel
theorem dX7_knockIt_85 : decode cX7_knockIt 85 = .ok (.ifCond .eq 12, 3) := by decide +kernel
theorem dX7_knockIt_88 : decode cX7_knockIt 88 = .ok (.aload_n 0, 1) := by decide +kernel
theorem dX7_knockIt_89 : decode cX7_knockIt 89 = .ok (.getfield 9, 3) := by decide +kernel
theorem dX7_knockIt_92 : decode cX7_knockIt 92 = .ok (.iconst 4, 1) := by decide +kernel
theorem dX7_knockIt_93 : decode cX7_knockIt 93 = .ok (.iaload, 1) := by decide +kernel
theorem dX7_knockIt_94 : decode cX7_knockIt 94 = .ok (.goto 11, 3) := by decide +kernel
theorem dX7_knockIt_97 : decode cX7_knockIt 97 = .ok (.iconst 1, 1) := by decide +kernel
theorem dX7_knockIt_98 : decode cX7_knockIt 98 = .ok (.aload_n 0, 1) := by decide +kernel
theorem dX7_knockIt_99 : decode cX7_knockIt 99 = .ok (.getfield 9, 3) := by decide +kernel
theorem dX7_knockIt_102 : decode cX7_knockIt 102 = .ok (.iconst 4, 1) := by decide +kernel
theorem dX7_knockIt_103 : decode cX7_knockIt 103 = .ok (.iaload, 1) := by decide +kernel
theorem dX7_knockIt_104 : decode cX7_knockIt 104 = .ok (.isub, 1) := by decide +kernel
theorem dX7_knockIt_105 : decode cX7_knockIt 105 = .ok (.invokevirtual 207, 3) := by decide +kernel
theorem dX7_knockIt_108 : decode cX7_knockIt 108 = .ok (.iload_n 2, 1) := by decide +kernel
theorem dX7_knockIt_109 : decode cX7_knockIt 109 = .ok (.ireturn, 1) := by decide +kernel
theorem dX7_isMatchOver_0 : decode cX7_isMatchOver 0 = .ok (.aload_n 0, 1) := by decide +kernel
theorem dX7_isMatchOver_1 : decode cX7_isMatchOver 1 = .ok (.getfield 9, 3) := by decide +kernel
theorem dX7_isMatchOver_4 : decode cX7_isMatchOver 4 = .ok (.bipush 6, 2) := by decide +kernel
theorem dX7_isMatchOver_6 : decode cX7_isMatchOver 6 = .ok (.iaload, 1) := by decide +kernel
theorem dX7_isMatchOver_7 : decode cX7_isMatchOver 7 = .ok (.iconst 1, 1) := by decide +kernel
theorem dX7_isMatchOver_8 : decode cX7_isMatchOver 8 = .ok (.if_icmp .ne 39, 3) := by decide +kernel
theorem dX7_isMatchOver_11 : decode cX7_isMatchOver 11 = .ok (.aload_n 0, 1) := by decide +kernel
theorem dX7_isMatchOver_12 : decode cX7_isMatchOver 12 = .ok (.getfield 9, 3) := by decide +kernel
theorem dX7_isMatchOver_15 : decode cX7_isMatchOver 15 = .ok (.bipush 8, 2) := by decide +kernel
theorem dX7_isMatchOver_17 : decode cX7_isMatchOver 17 = .ok (.iaload, 1) := by decide +kernel
theorem dX7_isMatchOver_18 : decode cX7_isMatchOver 18 = .ok (.aload_n 0, 1) := by decide +kernel
theorem dX7_isMatchOver_19 : decode cX7_isMatchOver 19 = .ok (.getfield 9, 3) := by decide +kernel
theorem dX7_isMatchOver_22 : decode cX7_isMatchOver 22 = .ok (.iconst 2, 1) := by decide +kernel
theorem dX7_isMatchOver_23 : decode cX7_isMatchOver 23 = .ok (.iaload, 1) := by decide +kernel
theorem dX7_isMatchOver_24 : decode cX7_isMatchOver 24 = .ok (.if_icmp .ge 19, 3) := by decide +kernel
theorem dX7_isMatchOver_27 : decode cX7_isMatchOver 27 = .ok (.aload_n 0, 1) := by decide +kernel
theorem dX7_isMatchOver_28 : decode cX7_isMatchOver 28 = .ok (.getfield 9, 3) := by decide +kernel
theorem dX7_isMatchOver_31 : decode cX7_isMatchOver 31 = .ok (.bipush 9, 2) := by decide +kernel
theorem dX7_isMatchOver_33 : decode cX7_isMatchOver 33 = .ok (.iaload, 1) := by decide +kernel
theorem dX7_isMatchOver_34 : decode cX7_isMatchOver 34 = .ok (.aload_n 0, 1) := by decide +kernel
theorem dX7_isMatchOver_35 : decode cX7_isMatchOver 35 = .ok (.getfield 9, 3) := by decide +kernel
theorem dX7_isMatchOver_38 : decode cX7_isMatchOver 38 = .ok (.iconst 2, 1) := by decide +kernel
theorem dX7_isMatchOver_39 : decode cX7_isMatchOver 39 = .ok (.iaload, 1) := by decide +kernel
theorem dX7_isMatchOver_40 : decode cX7_isMatchOver 40 = .ok (.if_icmp .lt 7, 3) := by decide +kernel
theorem dX7_isMatchOver_43 : decode cX7_isMatchOver 43 = .ok (.iconst 1, 1) := by decide +kernel
theorem dX7_isMatchOver_44 : decode cX7_isMatchOver 44 = .ok (.goto 4, 3) := by decide +kernel
theorem dX7_isMatchOver_47 : decode cX7_isMatchOver 47 = .ok (.iconst 0, 1) := by decide +kernel
theorem dX7_isMatchOver_48 : decode cX7_isMatchOver 48 = .ok (.ireturn, 1) := by decide +kernel
theorem dX7_noDeal_0 : decode cX7_noDeal 0 = .ok (.aload_n 0, 1) := by decide +kernel
theorem dX7_noDeal_1 : decode cX7_noDeal 1 = .ok (.getfield 9, 3) := by decide +kernel
theorem dX7_noDeal_4 : decode cX7_noDeal 4 = .ok (.bipush 6, 2) := by decide +kernel
theorem dX7_noDeal_6 : decode cX7_noDeal 6 = .ok (.iaload, 1) := by decide +kernel
theorem dX7_noDeal_7 : decode cX7_noDeal 7 = .ok (.ifCond .ne 8, 3) := by decide +kernel
theorem dX7_noDeal_10 : decode cX7_noDeal 10 = .ok (.bipush 7, 2) := by decide +kernel
theorem dX7_noDeal_12 : decode cX7_noDeal 12 = .ok (.goto 16, 3) := by decide +kernel
theorem dX7_noDeal_15 : decode cX7_noDeal 15 = .ok (.aload_n 0, 1) := by decide +kernel
theorem dX7_noDeal_16 : decode cX7_noDeal 16 = .ok (.invokevirtual 214, 3) := by decide +kernel
theorem dX7_noDeal_19 : decode cX7_noDeal 19 = .ok (.ifCond .eq 8, 3) := by decide +kernel
theorem dX7_noDeal_22 : decode cX7_noDeal 22 = .ok (.bipush 8, 2) := by decide +kernel
theorem dX7_noDeal_24 : decode cX7_noDeal 24 = .ok (.goto 4, 3) := by decide +kernel
theorem dX7_noDeal_27 : decode cX7_noDeal 27 = .ok (.iconst 0, 1) := by decide +kernel
theorem dX7_noDeal_28 : decode cX7_noDeal 28 = .ok (.ireturn, 1) := by decide +kernel
theorem dX7_dealIt_0 : decode cX7_dealIt 0 = .ok (.aload_n 0, 1) := by decide +kernel
theorem dX7_dealIt_1 : decode cX7_dealIt 1 = .ok (.getfield 9, 3) := by decide +kernel
theorem dX7_dealIt_4 : decode cX7_dealIt 4 = .ok (.iconst 3, 1) := by decide +kernel
theorem dX7_dealIt_5 : decode cX7_dealIt 5 = .ok (.dup2, 1) := by decide +kernel
theorem dX7_dealIt_6 : decode cX7_dealIt 6 = .ok (.iaload, 1) := by decide +kernel
theorem dX7_dealIt_7 : decode cX7_dealIt 7 = .ok (.iconst 1, 1) := by decide +kernel
theorem dX7_dealIt_8 : decode cX7_dealIt 8 = .ok (.iadd, 1) := by decide +kernel
theorem dX7_dealIt_9 : decode cX7_dealIt 9 = .ok (.iastore, 1) := by decide +kernel
theorem dX7_dealIt_10 : decode cX7_dealIt 10 = .ok (.aload_n 0, 1) := by decide +kernel
theorem dX7_dealIt_11 : decode cX7_dealIt 11 = .ok (.invokevirtual 84, 3) := by decide +kernel
theorem dX7_dealIt_14 : decode cX7_dealIt 14 = .ok (.aload_n 0, 1) := by decide +kernel
theorem dX7_dealIt_15 : decode cX7_dealIt 15 = .ok (.invokevirtual 90, 3) := by decide +kernel
theorem dX7_dealIt_18 : decode cX7_dealIt 18 = .ok (.aload_n 0, 1) := by decide +kernel
theorem dX7_dealIt_19 : decode cX7_dealIt 19 = .ok (.getfield 9, 3) := by decide +kernel
theorem dX7_dealIt_22 : decode cX7_dealIt 22 = .ok (.iconst 3, 1) := by decide +kernel
theorem dX7_dealIt_23 : decode cX7_dealIt 23 = .ok (.iaload, 1) := by decide +kernel
theorem dX7_dealIt_24 : decode cX7_dealIt 24 = .ok (.ireturn, 1) := by decide +kernel
theorem dX7_draw_0 : decode cX7_draw 0 = .ok (.aload_n 0, 1) := by decide +kernel
theorem dX7_draw_1 : decode cX7_draw 1 = .ok (.iconst 0, 1) := by decide +kernel
theorem dX7_draw_2 : decode cX7_draw 2 = .ok (.putfield 62, 3) := by decide +kernel
theorem dX7_draw_5 : decode cX7_draw 5 = .ok (.aload_n 0, 1) := by decide +kernel
theorem dX7_draw_6 : decode cX7_draw 6 = .ok (.invokevirtual 218, 3) := by decide +kernel
theorem dX7_draw_9 : decode cX7_draw 9 = .ok (.istore_n 2, 1) := by decide +kernel
theorem dX7_draw_10 : decode cX7_draw 10 = .ok (.iload_n 2, 1) := by decide +kernel
theorem dX7_draw_11 : decode cX7_draw 11 = .ok (.ifCond .eq 8, 3) := by decide +kernel
theorem dX7_draw_14 : decode cX7_draw 14 = .ok (.bipush (-100), 2) := by decide +kernel
theorem dX7_draw_16 : decode cX7_draw 16 = .ok (.iload_n 2, 1) := by decide +kernel
theorem dX7_draw_17 : decode cX7_draw 17 = .ok (.isub, 1) := by decide +kernel
theorem dX7_draw_18 : decode cX7_draw 18 = .ok (.ireturn, 1) := by decide +kernel
theorem dX7_draw_19 : decode cX7_draw 19 = .ok (.aload_n 0, 1) := by decide +kernel
theorem dX7_draw_20 : decode cX7_draw 20 = .ok (.aload_n 0, 1) := by decide +kernel
theorem dX7_draw_21 : decode cX7_draw 21 = .ok (.getfield 9, 3) := by decide +kernel
theorem dX7_draw_24 : decode cX7_draw 24 = .ok (.invokevirtual 221, 3) := by decide +kernel
theorem dX7_draw_27 : decode cX7_draw 27 = .ok (.aload_n 0, 1) := by decide +kernel
theorem dX7_draw_28 : decode cX7_draw 28 = .ok (.iload_n 1, 1) := by decide +kernel
theorem dX7_draw_29 : decode cX7_draw 29 = .ok (.invokevirtual 225, 3) := by decide +kernel
theorem dX7_draw_32 : decode cX7_draw 32 = .ok (.ireturn, 1) := by decide +kernel
theorem dX7_drop_0 : decode cX7_drop 0 = .ok (.aload_n 0, 1) := by decide +kernel
theorem dX7_drop_1 : decode cX7_drop 1 = .ok (.iconst 0, 1) := by decide +kernel
theorem dX7_drop_2 : decode cX7_drop 2 = .ok (.putfield 62, 3) := by decide +kernel
theorem dX7_drop_5 : decode cX7_drop 5 = .ok (.aload_n 0, 1) := by decide +kernel
theorem dX7_drop_6 : decode cX7_drop 6 = .ok (.iload_n 1, 1) := by decide +kernel
theorem dX7_drop_7 : decode cX7_drop 7 = .ok (.invokevirtual 229, 3) := by decide +kernel
theorem dX7_drop_10 : decode cX7_drop 10 = .ok (.ifCond .eq 5, 3) := by decide +kernel
theorem dX7_drop_13 : decode cX7_drop 13 = .ok (.iconst 0, 1) := by decide +kernel
theorem dX7_drop_14 : decode cX7_drop 14 = .ok (.ireturn, 1) := by decide +kernel
theorem dX7_drop_15 : decode cX7_drop 15 = .ok (.aload_n 0, 1) := by decide +kernel
theorem dX7_drop_16 : decode cX7_drop 16 = .ok (.iload_n 1, 1) := by decide +kernel
theorem dX7_drop_17 : decode cX7_drop 17 = .ok (.invokevirtual 192, 3) := by decide +kernel
theorem dX7_drop_20 : decode cX7_drop 20 = .ok (.istore_n 2, 1) := by decide +kernel
theorem dX7_drop_21 : decode cX7_drop 21 = .ok (.iload_n 2, 1) := by decide +kernel
theorem dX7_drop_22 : decode cX7_drop 22 = .ok (.ifCond .eq 8, 3) := by decide +kernel
theorem dX7_drop_25 : decode cX7_drop 25 = .ok (.bipush (-100), 2) := by decide +kernel
theorem dX7_drop_27 : decode cX7_drop 27 = .ok (.iload_n 2, 1) := by decide +kernel
theorem dX7_drop_28 : decode cX7_drop 28 = .ok (.isub, 1) := by decide +kernel
theorem dX7_drop_29 : decode cX7_drop 29 = .ok (.ireturn, 1) := by decide +kernel
theorem dX7_drop_30 : decode cX7_drop 30 = .ok (.aload_n 0, 1) := by decide +kernel
theorem dX7_drop_31 : decode cX7_drop 31 = .ok (.aload_n 0, 1) := by decide +kernel
theorem dX7_drop_32 : decode cX7_drop 32 = .ok (.getfield 9, 3) := by decide +kernel
theorem dX7_drop_35 : decode cX7_drop 35 = .ok (.invokevirtual 221, 3) := by decide +kernel
theorem dX7_drop_38 : decode cX7_drop 38 = .ok (.aload_n 0, 1) := by decide +kernel
theorem dX7_drop_39 : decode cX7_drop 39 = .ok (.iload_n 1, 1) := by decide +kernel
theorem dX7_drop_40 : decode cX7_drop 40 = .ok (.invokevirtual 232, 3) := by decide +kernel
theorem dX7_drop_43 : decode cX7_drop 43 = .ok (.ireturn, 1) := by decide +kernel
theorem dX7_knock_0 : decode cX7_knock 0 = .ok (.aload_n 0, 1) := by decide +kernel
theorem dX7_knock_1 : decode cX7_knock 1 = .ok (.iconst 0, 1) := by decide +kernel
theorem dX7_knock_2 : decode cX7_knock 2 = .ok (.putfield 62, 3) := by decide +kernel
theorem dX7_knock_5 : decode cX7_knock 5 = .ok (.aload_n 0, 1) := by decide +kernel
theorem dX7_knock_6 : decode cX7_knock 6 = .ok (.iload_n 1, 1) := by decide +kernel
theorem dX7_knock_7 : decode cX7_knock 7 = .ok (.invokevirtual 229, 3) := by decide +kernel
theorem dX7_knock_10 : decode cX7_knock 10 = .ok (.ifCond .eq 5, 3) := by decide +kernel
theorem dX7_knock_13 : decode cX7_knock 13 = .ok (.iconst 0, 1) := by decide +kernel
theorem dX7_knock_14 : decode cX7_knock 14 = .ok (.ireturn, 1) := by decide +kernel
theorem dX7_knock_15 : decode cX7_knock 15 = .ok (.aload_n 0, 1) := by decide +kernel
theorem dX7_knock_16 : decode cX7_knock 16 = .ok (.iload_n 1, 1) := by decide +kernel
theorem dX7_knock_17 : decode cX7_knock 17 = .ok (.invokevirtual 235, 3) := by decide +kernel
theorem dX7_knock_20 : decode cX7_knock 20 = .ok (.istore_n 2, 1) := by decide +kernel
theorem dX7_knock_21 : decode cX7_knock 21 = .ok (.iload_n 2, 1) := by decide +kernel
theorem dX7_knock_22 : decode cX7_knock 22 = .ok (.ifCond .eq 9, 3) := by decide +kernel
theorem dX7_knock_25 : decode cX7_knock 25 = .ok (.sipush (-1000), 3) := by decide +kernel
theorem dX7_knock_28 : decode cX7_knock 28 = .ok (.iload_n 2, 1) := by decide +kernel
theorem dX7_knock_29 : decode cX7_knock 29 = .ok (.isub, 1) := by decide +kernel
theorem dX7_knock_30 : decode cX7_knock 30 = .ok (.ireturn, 1) := by decide +kernel
theorem dX7_knock_31 : decode cX7_knock 31 = .ok (.aload_n 0, 1) := by decide +kernel
theorem dX7_knock_32 : decode cX7_knock 32 = .ok (.aload_n 0, 1) := by decide +kernel
theorem dX7_knock_33 : decode cX7_knock 33 = .ok (.getfield 9, 3) := by decide +kernel
theorem dX7_knock_36 : decode cX7_knock 36 = .ok (.invokevirtual 221, 3) := by decide +kernel
theorem dX7_knock_39 : decode cX7_knock 39 = .ok (.aload_n 0, 1) := by decide +kernel
theorem dX7_knock_40 : decode cX7_knock 40 = .ok (.iload_n 1, 1) := by decide +kernel
theorem dX7_knock_41 : decode cX7_knock 41 = .ok (.invokevirtual 238, 3) := by decide +kernel
theorem dX7_knock_44 : decode cX7_knock 44 = .ok (.ireturn, 1) := by decide +kernel
theorem dX7_deal_0 : decode cX7_deal 0 = .ok (.aload_n 0, 1) := by decide +kernel
theorem dX7_deal_1 : decode cX7_deal 1 = .ok (.iconst 0, 1) := by decide +kernel
theorem dX7_deal_2 : decode cX7_deal 2 = .ok (.putfield 62, 3) := by decide +kernel
theorem dX7_deal_5 : decode cX7_deal 5 = .ok (.aload_n 0, 1) := by decide +kernel
theorem dX7_deal_6 : decode cX7_deal 6 = .ok (.invokevirtual 241, 3) := by decide +kernel
theorem dX7_deal_9 : decode cX7_deal 9 = .ok (.istore_n 1, 1) := by decide +kernel
theorem dX7_deal_10 : decode cX7_deal 10 = .ok (.iload_n 1, 1) := by decide +kernel
theorem dX7_deal_11 : decode cX7_deal 11 = .ok (.ifCond .eq 6, 3) := by decide +kernel
theorem dX7_deal_14 : decode cX7_deal 14 = .ok (.iload_n 1, 1) := by decide +kernel
theorem dX7_deal_15 : decode cX7_deal 15 = .ok (.ineg, 1) := by decide +kernel
theorem dX7_deal_16 : decode cX7_deal 16 = .ok (.ireturn, 1) := by decide +kernel
theorem dX7_deal_17 : decode cX7_deal 17 = .ok (.aload_n 0, 1) := by decide +kernel
theorem dX7_deal_18 : decode cX7_deal 18 = .ok (.aload_n 0, 1) := by decide +kernel
theorem dX7_deal_19 : decode cX7_deal 19 = .ok (.getfield 9, 3) := by decide +kernel
theorem dX7_deal_22 : decode cX7_deal 22 = .ok (.invokevirtual 221, 3) := by decide +kernel
theorem dX7_deal_25 : decode cX7_deal 25 = .ok (.aload_n 0, 1) := by decide +kernel
theorem dX7_deal_26 : decode cX7_deal 26 = .ok (.invokevirtual 244, 3) := by decide +kernel
theorem dX7_deal_29 : decode cX7_deal 29 = .ok (.ireturn, 1) := by decide +kernel
theorem dX7_set_0 : decode cX7_set 0 = .ok (.aload_n 0, 1) := by decide +kernel
theorem dX7_set_1 : decode cX7_set 1 = .ok (.iconst 0, 1) := by decide +kernel
theorem dX7_set_2 : decode cX7_set 2 = .ok (.putfield 62, 3) := by decide +kernel
theorem dX7_set_5 : decode cX7_set 5 = .ok (.aload_n 0, 1) := by decide +kernel
theorem dX7_set_6 : decode cX7_set 6 = .ok (.iload_n 2, 1) := by decide +kernel
theorem dX7_set_7 : decode cX7_set 7 = .ok (.i2l, 1) := by decide +kernel
theorem dX7_set_8 : decode cX7_set 8 = .ok (.iload_n 1, 1) := by decide +kernel
theorem dX7_set_9 : decode cX7_set 9 = .ok (.ifCond .eq 9, 3) := by decide +kernel
theorem dX7_set_12 : decode cX7_set 12 = .ok (.ldc2_w 247, 3) := by decide +kernel
theorem dX7_set_15 : decode cX7_set 15 = .ok (.goto 4, 3) := by decide +kernel
theorem dX7_set_18 : decode cX7_set 18 = .ok (.lconst 0, 1) := by decide +kernel
theorem dX7_set_19 : decode cX7_set 19 = .ok (.iload_n 1, 1) := by decide +kernel
theorem dX7_set_20 : decode cX7_set 20 = .ok (.ifCond .eq 9, 3) := by decide +kernel
theorem dX7_set_23 : decode cX7_set 23 = .ok (.ldc2_w 249, 3) := by decide +kernel
theorem dX7_set_26 : decode cX7_set 26 = .ok (.goto 6, 3) := by decide +kernel
theorem dX7_set_29 : decode cX7_set 29 = .ok (.ldc2_w 247, 3) := by decide +kernel
theorem dX7_set_32 : decode cX7_set 32 = .ok (.iconst 1, 1) := by decide +kernel
theorem dX7_set_33 : decode cX7_set 33 = .ok (.invokevirtual 72, 3) := by decide +kernel
theorem dX7_set_36 : decode cX7_set 36 = .ok (.ifCond .eq 5, 3) := by decide +kernel
theorem dX7_set_39 : decode cX7_set 39 = .ok (.iconst 0, 1) := by decide +kernel
theorem dX7_set_40 : decode cX7_set 40 = .ok (.ireturn, 1) := by decide +kernel
theorem dX7_set_41 : decode cX7_set 41 = .ok (.aload_n 0, 1) := by decide +kernel
theorem dX7_set_42 : decode cX7_set 42 = .ok (.aload_n 0, 1) := by decide +kernel
theorem dX7_set_43 : decode cX7_set 43 = .ok (.getfield 9, 3) := by decide +kernel
theorem dX7_set_46 : decode cX7_set 46 = .ok (.invokevirtual 221, 3) := by decide +kernel
theorem dX7_set_49 : decode cX7_set 49 = .ok (.iload_n 1, 1) := by decide +kernel
theorem dX7_set_50 : decode cX7_set 50 = .ok (.ifCond .eq 7, 3) := by decide +kernel
theorem dX7_set_53 : decode cX7_set 53 = .ok (.iconst 2, 1) := by decide +kernel
theorem dX7_set_54 : decode cX7_set 54 = .ok (.goto 4, 3) := by decide +kernel
theorem dX7_set_57 : decode cX7_set 57 = .ok (.iconst 1, 1) := by decide +kernel
theorem dX7_set_58 : decode cX7_set 58 = .ok (.istore_n 3, 1) := by decide +kernel
theorem dX7_set_59 : decode cX7_set 59 = .ok (.aload_n 0, 1) := by decide +kernel
theorem dX7_set_60 : decode cX7_set 60 = .ok (.getfield 9, 3) := by decide +kernel
theorem dX7_set_63 : decode cX7_set 63 = .ok (.iload_n 3, 1) := by decide +kernel
theorem dX7_set_64 : decode cX7_set 64 = .ok (.iaload, 1) := by decide +kernel
theorem dX7_set_65 : decode cX7_set 65 = .ok (.istore 4, 2) := by decide +kernel
theorem dX7_set_67 : decode cX7_set 67 = .ok (.aload_n 0, 1) := by decide +kernel
theorem dX7_set_68 : decode cX7_set 68 = .ok (.getfield 9, 3) := by decide +kernel
theorem dX7_set_71 : decode cX7_set 71 = .ok (.iload_n 3, 1) := by decide +kernel
theorem dX7_set_72 : decode cX7_set 72 = .ok (.iload_n 2, 1) := by decide +kernel
theorem dX7_set_73 : decode cX7_set 73 = .ok (.iastore, 1) := by decide +kernel
theorem dX7_set_74 : decode cX7_set 74 = .ok (.iload 4, 2) := by decide +kernel
theorem dX7_set_76 : decode cX7_set 76 = .ok (.ireturn, 1) := by decide +kernel
theorem dX7_undo_0 : decode cX7_undo 0 = .ok (.aload_n 0, 1) := by decide +kernel
theorem dX7_undo_1 : decode cX7_undo 1 = .ok (.iconst 0, 1) := by decide +kernel
theorem dX7_undo_2 : decode cX7_undo 2 = .ok (.putfield 62, 3) := by decide +kernel
theorem dX7_undo_5 : decode cX7_undo 5 = .ok (.aload_n 0, 1) := by decide +kernel
theorem dX7_undo_6 : decode cX7_undo 6 = .ok (.getfield 65, 3) := by decide +kernel
theorem dX7_undo_9 : decode cX7_undo 9 = .ok (.ifCond .ne 5, 3) := by decide +kernel
theorem dX7_undo_12 : decode cX7_undo 12 = .ok (.iconst (-1), 1) := by decide +kernel
theorem dX7_undo_13 : decode cX7_undo 13 = .ok (.ireturn, 1) := by decide +kernel
theorem dX7_undo_14 : decode cX7_undo 14 = .ok (.aload_n 0, 1) := by decide +kernel
theorem dX7_undo_15 : decode cX7_undo 15 = .ok (.dup, 1) := by decide +kernel
theorem dX7_undo_16 : decode cX7_undo 16 = .ok (.getfield 65, 3) := by decide +kernel
theorem dX7_undo_19 : decode cX7_undo 19 = .ok (.iconst 1, 1) := by decide +kernel
theorem dX7_undo_20 : decode cX7_undo 20 = .ok (.isub, 1) := by decide +kernel
theorem dX7_undo_21 : decode cX7_undo 21 = .ok (.putfield 65, 3) := by decide +kernel
theorem dX7_undo_24 : decode cX7_undo 24 = .ok (.aload_n 0, 1) := by decide +kernel
theorem dX7_undo_25 : decode cX7_undo 25 = .ok (.getfield 15, 3) := by decide +kernel
theorem dX7_undo_28 : decode cX7_undo 28 = .ok (.aload_n 0, 1) := by decide +kernel
theorem dX7_undo_29 : decode cX7_undo 29 = .ok (.getfield 65, 3) := by decide +kernel
theorem dX7_undo_32 : decode cX7_undo 32 = .ok (.aaload, 1) := by decide +kernel
theorem dX7_undo_33 : decode cX7_undo 33 = .ok (.aload_n 0, 1) := by decide +kernel
theorem dX7_undo_34 : decode cX7_undo 34 = .ok (.getfield 9, 3) := by decide +kernel
theorem dX7_undo_37 : decode cX7_undo 37 = .ok (.invokestatic 68, 3) := by decide +kernel
theorem dX7_undo_40 : decode cX7_undo 40 = .ok (.aload_n 0, 1) := by decide +kernel
theorem dX7_undo_41 : decode cX7_undo 41 = .ok (.getfield 65, 3) := by decide +kernel
theorem dX7_undo_44 : decode cX7_undo 44 = .ok (.ireturn, 1) := by decide +kernel
theorem dX7_keep_0 : decode cX7_keep 0 = .ok (.aload_n 0, 1) := by decide +kernel
theorem dX7_keep_1 : decode cX7_keep 1 = .ok (.iconst 0, 1) := by decide +kernel
theorem dX7_keep_2 : decode cX7_keep 2 = .ok (.putfield 62, 3) := by decide +kernel
theorem dX7_keep_5 : decode cX7_keep 5 = .ok (.aload_n 0, 1) := by decide +kernel
theorem dX7_keep_6 : decode cX7_keep 6 = .ok (.iload_n 1, 1) := by decide +kernel
theorem dX7_keep_7 : decode cX7_keep 7 = .ok (.i2l, 1) := by decide +kernel
theorem dX7_keep_8 : decode cX7_keep 8 = .ok (.lconst 0, 1) := by decide +kernel
theorem dX7_keep_9 : decode cX7_keep 9 = .ok (.lconst 1, 1) := by decide +kernel
theorem dX7_keep_10 : decode cX7_keep 10 = .ok (.iconst 1, 1) := by decide +kernel
theorem dX7_keep_11 : decode cX7_keep 11 = .ok (.invokevirtual 72, 3) := by decide +kernel
theorem dX7_keep_14 : decode cX7_keep 14 = .ok (.ifCond .eq 5, 3) := by decide +kernel
theorem dX7_keep_17 : decode cX7_keep 17 = .ok (.iconst 0, 1) := by decide +kernel
theorem dX7_keep_18 : decode cX7_keep 18 = .ok (.ireturn, 1) := by decide +kernel
theorem dX7_keep_19 : decode cX7_keep 19 = .ok (.aload_n 0, 1) := by decide +kernel
theorem dX7_keep_20 : decode cX7_keep 20 = .ok (.getfield 9, 3) := by decide +kernel
theorem dX7_keep_23 : decode cX7_keep 23 = .ok (.aload_n 0, 1) := by decide +kernel
theorem dX7_keep_24 : decode cX7_keep 24 = .ok (.getfield 18, 3) := by decide +kernel
theorem dX7_keep_27 : decode cX7_keep 27 = .ok (.iload_n 1, 1) := by decide +kernel
theorem dX7_keep_28 : decode cX7_keep 28 = .ok (.aaload, 1) := by decide +kernel
theorem dX7_keep_29 : decode cX7_keep 29 = .ok (.invokestatic 68, 3) := by decide +kernel
theorem dX7_keep_32 : decode cX7_keep 32 = .ok (.aload_n 0, 1) := by decide +kernel
theorem dX7_keep_33 : decode cX7_keep 33 = .ok (.getfield 21, 3) := by decide +kernel
theorem dX7_keep_36 : decode cX7_keep 36 = .ok (.iload_n 1, 1) := by decide +kernel
theorem dX7_keep_37 : decode cX7_keep 37 = .ok (.iconst 1, 1) := by decide +kernel
theorem dX7_keep_38 : decode cX7_keep 38 = .ok (.bastore, 1) := by decide +kernel
theorem dX7_keep_39 : decode cX7_keep 39 = .ok (.aload_n 0, 1) := by decide +kernel
theorem dX7_keep_40 : decode cX7_keep 40 = .ok (.getfield 9, 3) := by decide +kernel
theorem dX7_keep_43 : decode cX7_keep 43 = .ok (.iconst 3, 1) := by decide +kernel
theorem dX7_keep_44 : decode cX7_keep 44 = .ok (.iaload, 1) := by decide +kernel
theorem dX7_keep_45 : decode cX7_keep 45 = .ok (.ireturn, 1) := by decide +kernel
theorem dX7_restore_0 : decode cX7_restore 0 = .ok (.aload_n 0, 1) := by decide +kernel
theorem dX7_restore_1 : decode cX7_restore 1 = .ok (.iconst 0, 1) := by decide +kernel
theorem dX7_restore_2 : decode cX7_restore 2 = .ok (.putfield 62, 3) := by decide +kernel
theorem dX7_restore_5 : decode cX7_restore 5 = .ok (.aload_n 0, 1) := by decide +kernel
theorem dX7_restore_6 : decode cX7_restore 6 = .ok (.iload_n 1, 1) := by decide +kernel
theorem dX7_restore_7 : decode cX7_restore 7 = .ok (.i2l, 1) := by decide +kernel
theorem dX7_restore_8 : decode cX7_restore 8 = .ok (.lconst 0, 1) := by decide +kernel
theorem dX7_restore_9 : decode cX7_restore 9 = .ok (.lconst 1, 1) := by decide +kernel
theorem dX7_restore_10 : decode cX7_restore 10 = .ok (.iconst 1, 1) := by decide +kernel
theorem dX7_restore_11 : decode cX7_restore 11 = .ok (.invokevirtual 72, 3) := by decide +kernel
theorem dX7_restore_14 : decode cX7_restore 14 = .ok (.ifCond .eq 5, 3) := by decide +kernel
theorem dX7_restore_17 : decode cX7_restore 17 = .ok (.iconst 0, 1) := by decide +kernel
theorem dX7_restore_18 : decode cX7_restore 18 = .ok (.ireturn, 1) := by decide +kernel
theorem dX7_restore_19 : decode cX7_restore 19 = .ok (.aload_n 0, 1) := by decide +kernel
theorem dX7_restore_20 : decode cX7_restore 20 = .ok (.getfield 21, 3) := by decide +kernel
theorem dX7_restore_23 : decode cX7_restore 23 = .ok (.iload_n 1, 1) := by decide +kernel
theorem dX7_restore_24 : decode cX7_restore 24 = .ok (.baload, 1) := by decide +kernel
theorem dX7_restore_25 : decode cX7_restore 25 = .ok (.ifCond .ne 10, 3) := by decide +kernel
theorem dX7_restore_28 : decode cX7_restore 28 = .ok (.aload_n 0, 1) := by decide +kernel
theorem dX7_restore_29 : decode cX7_restore 29 = .ok (.iconst 2, 1) := by decide +kernel
theorem dX7_restore_30 : decode cX7_restore 30 = .ok (.putfield 62, 3) := by decide +kernel
theorem dX7_restore_33 : decode cX7_restore 33 = .ok (.iconst 0, 1) := by decide +kernel
theorem dX7_restore_34 : decode cX7_restore 34 = .ok (.ireturn, 1) := by decide +kernel
theorem dX7_restore_35 : decode cX7_restore 35 = .ok (.aload_n 0, 1) := by decide +kernel
theorem dX7_restore_36 : decode cX7_restore 36 = .ok (.getfield 18, 3) := by decide +kernel
theorem dX7_restore_39 : decode cX7_restore 39 = .ok (.iload_n 1, 1) := by decide +kernel
theorem dX7_restore_40 : decode cX7_restore 40 = .ok (.aaload, 1) := by decide +kernel
theorem dX7_restore_41 : decode cX7_restore 41 = .ok (.aload_n 0, 1) := by decide +kernel
theorem dX7_restore_42 : decode cX7_restore 42 = .ok (.getfield 9, 3) := by decide +kernel
theorem dX7_restore_45 : decode cX7_restore 45 = .ok (.invokestatic 68, 3) := by decide +kernel
theorem dX7_restore_48 : decode cX7_restore 48 = .ok (.aload_n 0, 1) := by decide +kernel
theorem dX7_restore_49 : decode cX7_restore 49 = .ok (.iconst 0, 1) := by decide +kernel
theorem dX7_restore_50 : decode cX7_restore 50 = .ok (.putfield 65, 3) := by decide +kernel
theorem dX7_restore_53 : decode cX7_restore 53 = .ok (.aload_n 0, 1) := by decide +kernel
theorem dX7_restore_54 : decode cX7_restore 54 = .ok (.getfield 9, 3) := by decide +kernel
theorem dX7_restore_57 : decode cX7_restore 57 = .ok (.iconst 3, 1) := by decide +kernel
theorem dX7_restore_58 : decode cX7_restore 58 = .ok (.iaload, 1) := by decide +kernel
theorem dX7_restore_59 : decode cX7_restore 59 = .ok (.ireturn, 1) := by decide +kernel
theorem dX7_letterAt_0 : decode cX7_letterAt 0 = .ok (.iload_n 1, 1) := by decide +kernel
theorem dX7_letterAt_1 : decode cX7_letterAt 1 = .ok (.aload_n 0, 1) := by decide +kernel
theorem dX7_letterAt_2 : decode cX7_letterAt 2 = .ok (.getfield 251, 3) := by decide +kernel
theorem dX7_letterAt_5 : decode cX7_letterAt 5 = .ok (.if_icmp .ge 29, 3) := by decide +kernel
theorem dX7_letterAt_8 : decode cX7_letterAt 8 = .ok (.aload_n 0, 1) := by decide +kernel
theorem dX7_letterAt_9 : decode cX7_letterAt 9 = .ok (.getfield 28, 3) := by decide +kernel
theorem dX7_letterAt_12 : decode cX7_letterAt 12 = .ok (.iload_n 1, 1) := by decide +kernel
theorem dX7_letterAt_13 : decode cX7_letterAt 13 = .ok (.iaload, 1) := by decide +kernel
theorem dX7_letterAt_14 : decode cX7_letterAt 14 = .ok (.bipush 97, 2) := by decide +kernel
theorem dX7_letterAt_16 : decode cX7_letterAt 16 = .ok (.if_icmp .lt 18, 3) := by decide +kernel
theorem dX7_letterAt_19 : decode cX7_letterAt 19 = .ok (.aload_n 0, 1) := by decide +kernel
theorem dX7_letterAt_20 : decode cX7_letterAt 20 = .ok (.getfield 28, 3) := by decide +kernel
theorem dX7_letterAt_23 : decode cX7_letterAt 23 = .ok (.iload_n 1, 1) := by decide +kernel
theorem dX7_letterAt_24 : decode cX7_letterAt 24 = .ok (.iaload, 1) := by decide +kernel
theorem dX7_letterAt_25 : decode cX7_letterAt 25 = .ok (.bipush 122, 2) := by decide +kernel
theorem dX7_letterAt_27 : decode cX7_letterAt 27 = .ok (.if_icmp .gt 7, 3) := by decide +kernel
theorem dX7_letterAt_30 : decode cX7_letterAt 30 = .ok (.iconst 1, 1) := by decide +kernel
theorem dX7_letterAt_31 : decode cX7_letterAt 31 = .ok (.goto 4, 3) := by decide +kernel
theorem dX7_letterAt_34 : decode cX7_letterAt 34 = .ok (.iconst 0, 1) := by decide +kernel
theorem dX7_letterAt_35 : decode cX7_letterAt 35 = .ok (.ireturn, 1) := by decide +kernel
theorem dX7_digitAt_0 : decode cX7_digitAt 0 = .ok (.iload_n 1, 1) := by decide +kernel
theorem dX7_digitAt_1 : decode cX7_digitAt 1 = .ok (.aload_n 0, 1) := by decide +kernel
theorem dX7_digitAt_2 : decode cX7_digitAt 2 = .ok (.getfield 251, 3) := by decide +kernel
theorem dX7_digitAt_5 : decode cX7_digitAt 5 = .ok (.if_icmp .ge 29, 3) := by decide +kernel
theorem dX7_digitAt_8 : decode cX7_digitAt 8 = .ok (.aload_n 0, 1) := by decide +kernel
theorem dX7_digitAt_9 : decode cX7_digitAt 9 = .ok (.getfield 28, 3) := by decide +kernel
theorem dX7_digitAt_12 : decode cX7_digitAt 12 = .ok (.iload_n 1, 1) := by decide +kernel
theorem dX7_digitAt_13 : decode cX7_digitAt 13 = .ok (.iaload, 1) := by decide +kernel
theorem dX7_digitAt_14 : decode cX7_digitAt 14 = .ok (.bipush 48, 2) := by decide +kernel
theorem dX7_digitAt_16 : decode cX7_digitAt 16 = .ok (.if_icmp .lt 18, 3) := by decide +kernel
theorem dX7_digitAt_19 : decode cX7_digitAt 19 = .ok (.aload_n 0, 1) := by decide +kernel
theorem dX7_digitAt_20 : decode cX7_digitAt 20 = .ok (.getfield 28, 3) := by decide +kernel
theorem dX7_digitAt_23 : decode cX7_digitAt 23 = .ok (.iload_n 1, 1) := by decide +kernel
theorem dX7_digitAt_24 : decode cX7_digitAt 24 = .ok (.iaload, 1) := by decide +kernel
theorem dX7_digitAt_25 : decode cX7_digitAt 25 = .ok (.bipush 57, 2) := by decide +kernel
theorem dX7_digitAt_27 : decode cX7_digitAt 27 = .ok (.if_icmp .gt 7, 3) := by decide +kernel
theorem dX7_digitAt_30 : decode cX7_digitAt 30 = .ok (.iconst 1, 1) := by decide +kernel
theorem dX7_digitAt_31 : decode cX7_digitAt 31 = .ok (.goto 4, 3) := by decide +kernel
theorem dX7_digitAt_34 : decode cX7_digitAt 34 = .ok (.iconst 0, 1) := by decide +kernel
theorem dX7_digitAt_35 : decode cX7_digitAt 35 = .ok (.ireturn, 1) := by decide +kernel
theorem dX7_scan_0 : decode cX7_scan 0 = .ok (.aload_n 0, 1) := by decide +kernel
theorem dX7_scan_1 : decode cX7_scan 1 = .ok (.getfield 254, 3) := by decide +kernel
theorem dX7_scan_4 : decode cX7_scan 4 = .ok (.aload_n 0, 1) := by decide +kernel
theorem dX7_scan_5 : decode cX7_scan 5 = .ok (.getfield 251, 3) := by decide +kernel
theorem dX7_scan_8 : decode cX7_scan 8 = .ok (.if_icmp .ge 44, 3) := by decide +kernel
theorem dX7_scan_11 : decode cX7_scan 11 = .ok (.aload_n 0, 1) := by decide +kernel
theorem dX7_scan_12 : decode cX7_scan 12 = .ok (.getfield 28, 3) := by decide +kernel
theorem dX7_scan_15 : decode cX7_scan 15 = .ok (.aload_n 0, 1) := by decide +kernel
theorem dX7_scan_16 : decode cX7_scan 16 = .ok (.getfield 254, 3) := by decide +kernel
theorem dX7_scan_19 : decode cX7_scan 19 = .ok (.iaload, 1) := by decide +kernel
theorem dX7_scan_20 : decode cX7_scan 20 = .ok (.bipush 32, 2) := by decide +kernel
theorem dX7_scan_22 : decode cX7_scan 22 = .ok (.if_icmp .eq 17, 3) := by decide +kernel
theorem dX7_scan_25 : decode cX7_scan 25 = .ok (.aload_n 0, 1) := by decide +kernel
theorem dX7_scan_26 : decode cX7_scan 26 = .ok (.getfield 28, 3) := by decide +kernel
theorem dX7_scan_29 : decode cX7_scan 29 = .ok (.aload_n 0, 1) := by decide +kernel
theorem dX7_scan_30 : decode cX7_scan 30 = .ok (.getfield 254, 3) := by decide +kernel
theorem dX7_scan_33 : decode cX7_scan 33 = .ok (.iaload, 1) := by decide +kernel
theorem dX7_scan_34 : decode cX7_scan 34 = .ok (.bipush 10, 2) := by decide +kernel
theorem dX7_scan_36 : decode cX7_scan 36 = .ok (.if_icmp .ne 16, 3) := by decide +kernel
theorem dX7_scan_39 : decode cX7_scan 39 = .ok (.aload_n 0, 1) := by decide +kernel
theorem dX7_scan_40 : decode cX7_scan 40 = .ok (.dup, 1) := by decide +kernel
theorem dX7_scan_41 : decode cX7_scan 41 = .ok (.getfield 254, 3) := by decide +kernel
theorem dX7_scan_44 : decode cX7_scan 44 = .ok (.iconst 1, 1) := by decide +kernel
theorem dX7_scan_45 : decode cX7_scan 45 = .ok (.iadd, 1) := by decide +kernel
theorem dX7_scan_46 : decode cX7_scan 46 = .ok (.putfield 254, 3) := by decide +kernel
theorem dX7_scan_49 : decode cX7_scan 49 = .ok (.goto (-49), 3) := by decide +kernel
theorem dX7_scan_52 : decode cX7_scan 52 = .ok (.aload_n 0, 1) := by decide +kernel
theorem dX7_scan_53 : decode cX7_scan 53 = .ok (.aload_n 0, 1) := by decide +kernel
theorem dX7_scan_54 : decode cX7_scan 54 = .ok (.getfield 254, 3) := by decide +kernel
theorem dX7_scan_57 : decode cX7_scan 57 = .ok (.putfield 257, 3) := by decide +kernel
theorem dX7_scan_60 : decode cX7_scan 60 = .ok (.aload_n 0, 1) := by decide +kernel
theorem dX7_scan_61 : decode cX7_scan 61 = .ok (.getfield 254, 3) := by decide +kernel
theorem dX7_scan_64 : decode cX7_scan 64 = .ok (.aload_n 0, 1) := by decide +kernel
theorem dX7_scan_65 : decode cX7_scan 65 = .ok (.getfield 251, 3) := by decide +kernel
theorem dX7_scan_68 : decode cX7_scan 68 = .ok (.if_icmp .ne 11, 3) := by decide +kernel
theorem dX7_scan_71 : decode cX7_scan 71 = .ok (.aload_n 0, 1) := by decide +kernel
theorem dX7_scan_72 : decode cX7_scan 72 = .ok (.iconst 0, 1) := by decide +kernel
theorem dX7_scan_73 : decode cX7_scan 73 = .ok (.putfield 260, 3) := by decide +kernel
theorem dX7_scan_76 : decode cX7_scan 76 = .ok (.goto 190, 3) := by decide +kernel
theorem dX7_scan_79 : decode cX7_scan 79 = .ok (.aload_n 0, 1) := by decide +kernel
theorem dX7_scan_80 : decode cX7_scan 80 = .ok (.aload_n 0, 1) := by decide +kernel
theorem dX7_scan_81 : decode cX7_scan 81 = .ok (.getfield 254, 3) := by decide +kernel
theorem dX7_scan_84 : decode cX7_scan 84 = .ok (.invokevirtual 263, 3) := by decide +kernel
theorem dX7_scan_87 : decode cX7_scan 87 = .ok (.ifCond .eq 35, 3) := by decide +kernel
theorem dX7_scan_90 : decode cX7_scan 90 = .ok (.aload_n 0, 1) := by decide +kernel
theorem dX7_scan_91 : decode cX7_scan 91 = .ok (.aload_n 0, 1) := by decide +kernel
theorem dX7_scan_92 : decode cX7_scan 92 = .ok (.getfield 254, 3) := by decide +kernel
theorem dX7_scan_95 : decode cX7_scan 95 = .ok (.invokevirtual 263, 3) := by decide +kernel
theorem dX7_scan_98 : decode cX7_scan 98 = .ok (.ifCond .eq 16, 3) := by decide +kernel
theorem dX7_scan_101 : decode cX7_scan 101 = .ok (.aload_n 0, 1) := by decide +kernel
theorem dX7_scan_102 : decode cX7_scan 102 = .ok (.dup, 1) := by decide +kernel
theorem dX7_scan_103 : decode cX7_scan 103 = .ok (.getfield 254, 3) := by decide +kernel
theorem dX7_scan_106 : decode cX7_scan 106 = .ok (.iconst 1, 1) := by decide +kernel
theorem dX7_scan_107 : decode cX7_scan 107 = .ok (.iadd, 1) := by decide +kernel
theorem dX7_scan_108 : decode cX7_scan 108 = .ok (.putfield 254, 3) := by decide +kernel
theorem dX7_scan_111 : decode cX7_scan 111 = .ok (.goto (-21), 3) := by decide +kernel
theorem dX7_scan_114 : decode cX7_scan 114 = .ok (.aload_n 0, 1) := by decide +kernel
theorem dX7_scan_115 : decode cX7_scan 115 = .ok (.iconst 3, 1) := by decide +kernel
theorem dX7_scan_116 : decode cX7_scan 116 = .ok (.putfield 260, 3) := by decide +kernel
theorem dX7_scan_119 : decode cX7_scan 119 = .ok (.goto 147, 3) := by decide +kernel
theorem dX7_scan_122 : decode cX7_scan 122 = .ok (.aload_n 0, 1) := by decide +kernel
theorem dX7_scan_123 : decode cX7_scan 123 = .ok (.aload_n 0, 1) := by decide +kernel
theorem dX7_scan_124 : decode cX7_scan 124 = .ok (.getfield 254, 3) := by decide +kernel
theorem dX7_scan_127 : decode cX7_scan 127 = .ok (.invokevirtual 266, 3) := by decide +kernel
theorem dX7_scan_130 : decode cX7_scan 130 = .ok (.ifCond .eq 103, 3) := by decide +kernel
theorem dX7_scan_133 : decode cX7_scan 133 = .ok (.aload_n 0, 1) := by decide +kernel
theorem dX7_scan_134 : decode cX7_scan 134 = .ok (.iconst 0, 1) := by decide +kernel
theorem dX7_scan_135 : decode cX7_scan 135 = .ok (.putfield 269, 3) := by decide +kernel
theorem dX7_scan_138 : decode cX7_scan 138 = .ok (.aload_n 0, 1) := by decide +kernel
theorem dX7_scan_139 : decode cX7_scan 139 = .ok (.aload_n 0, 1) := by decide +kernel
theorem dX7_scan_140 : decode cX7_scan 140 = .ok (.getfield 254, 3) := by decide +kernel
theorem dX7_scan_143 : decode cX7_scan 143 = .ok (.invokevirtual 266, 3) := by decide +kernel
theorem dX7_scan_146 : decode cX7_scan 146 = .ok (.ifCond .eq 61, 3) := by decide +kernel
theorem dX7_scan_149 : decode cX7_scan 149 = .ok (.aload_n 0, 1) := by decide +kernel
theorem dX7_scan_150 : decode cX7_scan 150 = .ok (.aload_n 0, 1) := by decide +kernel
theorem dX7_scan_151 : decode cX7_scan 151 = .ok (.getfield 254, 3) := by decide +kernel
theorem dX7_scan_154 : decode cX7_scan 154 = .ok (.aload_n 0, 1) := by decide +kernel
theorem dX7_scan_155 : decode cX7_scan 155 = .ok (.getfield 257, 3) := by decide +kernel
theorem dX7_scan_158 : decode cX7_scan 158 = .ok (.isub, 1) := by decide +kernel
theorem dX7_scan_159 : decode cX7_scan 159 = .ok (.bipush 9, 2) := by decide +kernel
theorem dX7_scan_161 : decode cX7_scan 161 = .ok (.if_icmp .ge 26, 3) := by decide +kernel
theorem dX7_scan_164 : decode cX7_scan 164 = .ok (.bipush 10, 2) := by decide +kernel
theorem dX7_scan_166 : decode cX7_scan 166 = .ok (.aload_n 0, 1) := by decide +kernel
theorem dX7_scan_167 : decode cX7_scan 167 = .ok (.getfield 269, 3) := by decide +kernel
theorem dX7_scan_170 : decode cX7_scan 170 = .ok (.imul, 1) := by decide +kernel
theorem dX7_scan_171 : decode cX7_scan 171 = .ok (.aload_n 0, 1) := by decide +kernel
theorem dX7_scan_172 : decode cX7_scan 172 = .ok (.getfield 28, 3) := by decide +kernel
theorem dX7_scan_175 : decode cX7_scan 175 = .ok (.aload_n 0, 1) := by decide +kernel
theorem dX7_scan_176 : decode cX7_scan 176 = .ok (.getfield 254, 3) := by decide +kernel
theorem dX7_scan_179 : decode cX7_scan 179 = .ok (.iaload, 1) := by decide +kernel
theorem dX7_scan_180 : decode cX7_scan 180 = .ok (.iadd, 1) := by decide +kernel
theorem dX7_scan_181 : decode cX7_scan 181 = .ok (.bipush 48, 2) := by decide +kernel
theorem dX7_scan_183 : decode cX7_scan 183 = .ok (.isub, 1) := by decide +kernel
theorem dX7_scan_184 : decode cX7_scan 184 = .ok (.goto 7, 3) := by decide +kernel
theorem dX7_scan_187 : decode cX7_scan 187 = .ok (.aload_n 0, 1) := by decide +kernel
theorem dX7_scan_188 : decode cX7_scan 188 = .ok (.getfield 269, 3) := by decide +kernel
theorem dX7_scan_191 : decode cX7_scan 191 = .ok (.putfield 269, 3) := by decide +kernel
theorem dX7_scan_194 : decode cX7_scan 194 = .ok (.aload_n 0, 1) := by decide +kernel
theorem dX7_scan_195 : decode cX7_scan 195 = .ok (.dup, 1) := by decide +kernel
theorem dX7_scan_196 : decode cX7_scan 196 = .ok (.getfield 254, 3) := by decide +kernel
theorem dX7_scan_199 : decode cX7_scan 199 = .ok (.iconst 1, 1) := by decide +kernel
theorem dX7_scan_200 : decode cX7_scan 200 = .ok (.iadd, 1) := by decide +kernel
theorem dX7_scan_201 : decode cX7_scan 201 = .ok (.putfield 254, 3) := by decide +kernel
theorem dX7_scan_204 : decode cX7_scan 204 = .ok (.goto (-66), 3) := by decide +kernel
theorem dX7_scan_207 : decode cX7_scan 207 = .ok (.aload_n 0, 1) := by decide +kernel
theorem dX7_scan_208 : decode cX7_scan 208 = .ok (.aload_n 0, 1) := by decide +kernel
theorem dX7_scan_209 : decode cX7_scan 209 = .ok (.getfield 254, 3) := by decide +kernel
theorem dX7_scan_212 : decode cX7_scan 212 = .ok (.aload_n 0, 1) := by decide +kernel
theorem dX7_scan_213 : decode cX7_scan 213 = .ok (.getfield 257, 3) := by decide +kernel
theorem dX7_scan_216 : decode cX7_scan 216 = .ok (.isub, 1) := by decide +kernel
theorem dX7_scan_217 : decode cX7_scan 217 = .ok (.bipush 9, 2) := by decide +kernel
theorem dX7_scan_219 : decode cX7_scan 219 = .ok (.if_icmp .le 7, 3) := by decide +kernel
theorem dX7_scan_222 : decode cX7_scan 222 = .ok (.iconst 4, 1) := by decide +kernel
theorem dX7_scan_223 : decode cX7_scan 223 = .ok (.goto 4, 3) := by decide +kernel
theorem dX7_scan_226 : decode cX7_scan 226 = .ok (.iconst 2, 1) := by decide +kernel
theorem dX7_scan_227 : decode cX7_scan 227 = .ok (.putfield 260, 3) := by decide +kernel
theorem dX7_scan_230 : decode cX7_scan 230 = .ok (.goto 36, 3) := by decide +kernel
theorem dX7_scan_233 : decode cX7_scan 233 = .ok (.aload_n 0, 1) := by decide +kernel
theorem dX7_scan_234 : decode cX7_scan 234 = .ok (.aload_n 0, 1) := by decide +kernel
theorem dX7_scan_235 : decode cX7_scan 235 = .ok (.getfield 28, 3) := by decide +kernel
theorem dX7_scan_238 : decode cX7_scan 238 = .ok (.aload_n 0, 1) := by decide +kernel
theorem dX7_scan_239 : decode cX7_scan 239 = .ok (.getfield 254, 3) := by decide +kernel
theorem dX7_scan_242 : decode cX7_scan 242 = .ok (.iaload, 1) := by decide +kernel
theorem dX7_scan_243 : decode cX7_scan 243 = .ok (.bipush 59, 2) := by decide +kernel
theorem dX7_scan_245 : decode cX7_scan 245 = .ok (.if_icmp .ne 7, 3) := by decide +kernel
theorem dX7_scan_248 : decode cX7_scan 248 = .ok (.iconst 1, 1) := by decide +kernel
theorem dX7_scan_249 : decode cX7_scan 249 = .ok (.goto 4, 3) := by decide +kernel
theorem dX7_scan_252 : decode cX7_scan 252 = .ok (.iconst 4, 1) := by decide +kernel
theorem dX7_scan_253 : decode cX7_scan 253 = .ok (.putfield 260, 3) := by decide +kernel
theorem dX7_scan_256 : decode cX7_scan 256 = .ok (.aload_n 0, 1) := by decide +kernel
theorem dX7_scan_257 : decode cX7_scan 257 = .ok (.dup, 1) := by decide +kernel
theorem dX7_scan_258 : decode cX7_scan 258 = .ok (.getfield 254, 3) := by decide +kernel
theorem dX7_scan_261 : decode cX7_scan 261 = .ok (.iconst 1, 1) := by decide +kernel
theorem dX7_scan_262 : decode cX7_scan 262 = .ok (.iadd, 1) := by decide +kernel
theorem dX7_scan_263 : decode cX7_scan 263 = .ok (.putfield 254, 3) := by decide +kernel
theorem dX7_scan_266 : decode cX7_scan 266 = .ok (.return_, 1) := by decide +kernel
theorem dX7_isWord_0 : decode cX7_isWord 0 = .ok (.aload_n 0, 1) := by decide +kernel
theorem dX7_isWord_1 : decode cX7_isWord 1 = .ok (.getfield 272, 3) := by decide +kernel
theorem dX7_isWord_4 : decode cX7_isWord 4 = .ok (.ifCond .ne 31, 3) := by decide +kernel
theorem dX7_isWord_7 : decode cX7_isWord 7 = .ok (.aload_n 0, 1) := by decide +kernel
theorem dX7_isWord_8 : decode cX7_isWord 8 = .ok (.getfield 260, 3) := by decide +kernel
theorem dX7_isWord_11 : decode cX7_isWord 11 = .ok (.iconst 3, 1) := by decide +kernel
theorem dX7_isWord_12 : decode cX7_isWord 12 = .ok (.if_icmp .ne 23, 3) := by decide +kernel
theorem dX7_isWord_15 : decode cX7_isWord 15 = .ok (.aload_n 0, 1) := by decide +kernel
theorem dX7_isWord_16 : decode cX7_isWord 16 = .ok (.getfield 254, 3) := by decide +kernel
theorem dX7_isWord_19 : decode cX7_isWord 19 = .ok (.aload_n 0, 1) := by decide +kernel
theorem dX7_isWord_20 : decode cX7_isWord 20 = .ok (.getfield 257, 3) := by decide +kernel
theorem dX7_isWord_23 : decode cX7_isWord 23 = .ok (.isub, 1) := by decide +kernel
theorem dX7_isWord_24 : decode cX7_isWord 24 = .ok (.aload_n 1, 1) := by decide +kernel
theorem dX7_isWord_25 : decode cX7_isWord 25 = .ok (.invokevirtual 275, 3) := by decide +kernel
theorem dX7_isWord_28 : decode cX7_isWord 28 = .ok (.if_icmp .ne 7, 3) := by decide +kernel
theorem dX7_isWord_31 : decode cX7_isWord 31 = .ok (.iconst 1, 1) := by decide +kernel
theorem dX7_isWord_32 : decode cX7_isWord 32 = .ok (.goto 4, 3) := by decide +kernel
theorem dX7_isWord_35 : decode cX7_isWord 35 = .ok (.iconst 0, 1) := by decide +kernel
theorem dX7_isWord_36 : decode cX7_isWord 36 = .ok (.istore_n 2, 1) := by decide +kernel
theorem dX7_isWord_37 : decode cX7_isWord 37 = .ok (.iconst 0, 1) := by decide +kernel
theorem dX7_isWord_38 : decode cX7_isWord 38 = .ok (.istore_n 3, 1) := by decide +kernel
theorem dX7_isWord_39 : decode cX7_isWord 39 = .ok (.iload_n 2, 1) := by decide +kernel
theorem dX7_isWord_40 : decode cX7_isWord 40 = .ok (.ifCond .eq 42, 3) := by decide +kernel
theorem dX7_isWord_43 : decode cX7_isWord 43 = .ok (.iload_n 3, 1) := by decide +kernel
theorem dX7_isWord_44 : decode cX7_isWord 44 = .ok (.aload_n 1, 1) := by decide +kernel
theorem dX7_isWord_45 : decode cX7_isWord 45 = .ok (.invokevirtual 275, 3) := by decide +kernel
theorem dX7_isWord_48 : decode cX7_isWord 48 = .ok (.if_icmp .ge 34, 3) := by decide +kernel
theorem dX7_isWord_51 : decode cX7_isWord 51 = .ok (.aload_n 0, 1) := by decide +kernel
theorem dX7_isWord_52 : decode cX7_isWord 52 = .ok (.getfield 28, 3) := by decide +kernel
theorem dX7_isWord_55 : decode cX7_isWord 55 = .ok (.aload_n 0, 1) := by decide +kernel
theorem dX7_isWord_56 : decode cX7_isWord 56 = .ok (.getfield 257, 3) := by decide +kernel
theorem dX7_isWord_59 : decode cX7_isWord 59 = .ok (.iload_n 3, 1) := by decide +kernel
theorem dX7_isWord_60 : decode cX7_isWord 60 = .ok (.iadd, 1) := by decide +kernel
theorem dX7_isWord_61 : decode cX7_isWord 61 = .ok (.iaload, 1) := by decide +kernel
theorem dX7_isWord_62 : decode cX7_isWord 62 = .ok (.aload_n 1, 1) := by decide +kernel
theorem dX7_isWord_63 : decode cX7_isWord 63 = .ok (.iload_n 3, 1) := by decide +kernel
theorem dX7_isWord_64 : decode cX7_isWord 64 = .ok (.invokevirtual 280, 3) := by decide +kernel
theorem dX7_isWord_67 : decode cX7_isWord 67 = .ok (.if_icmp .ne 7, 3) := by decide +kernel
theorem dX7_isWord_70 : decode cX7_isWord 70 = .ok (.iconst 1, 1) := by decide +kernel
theorem dX7_isWord_71 : decode cX7_isWord 71 = .ok (.goto 4, 3) := by decide +kernel
theorem dX7_isWord_74 : decode cX7_isWord 74 = .ok (.iconst 0, 1) := by decide +kernel
theorem dX7_isWord_75 : decode cX7_isWord 75 = .ok (.istore_n 2, 1) := by decide +kernel
theorem dX7_isWord_76 : decode cX7_isWord 76 = .ok (.iinc 3 1, 3) := by decide +kernel
theorem dX7_isWord_79 : decode cX7_isWord 79 = .ok (.goto (-40), 3) := by decide +kernel
theorem dX7_isWord_82 : decode cX7_isWord 82 = .ok (.iload_n 2, 1) := by decide +kernel
theorem dX7_isWord_83 : decode cX7_isWord 83 = .ok (.ireturn, 1) := by decide +kernel
theorem dX7_wrong_0 : decode cX7_wrong 0 = .ok (.aload_n 0, 1) := by decide +kernel
theorem dX7_wrong_1 : decode cX7_wrong 1 = .ok (.getfield 272, 3) := by decide +kernel
theorem dX7_wrong_4 : decode cX7_wrong 4 = .ok (.ifCond .ne 16, 3) := by decide +kernel
theorem dX7_wrong_7 : decode cX7_wrong 7 = .ok (.aload_n 0, 1) := by decide +kernel
theorem dX7_wrong_8 : decode cX7_wrong 8 = .ok (.bipush 8, 2) := by decide +kernel
theorem dX7_wrong_10 : decode cX7_wrong 10 = .ok (.aload_n 0, 1) := by decide +kernel
theorem dX7_wrong_11 : decode cX7_wrong 11 = .ok (.getfield 257, 3) := by decide +kernel
theorem dX7_wrong_14 : decode cX7_wrong 14 = .ok (.imul, 1) := by decide +kernel
theorem dX7_wrong_15 : decode cX7_wrong 15 = .ok (.iload_n 1, 1) := by decide +kernel
theorem dX7_wrong_16 : decode cX7_wrong 16 = .ok (.iadd, 1) := by decide +kernel
theorem dX7_wrong_17 : decode cX7_wrong 17 = .ok (.putfield 272, 3) := by decide +kernel
theorem dX7_wrong_20 : decode cX7_wrong 20 = .ok (.return_, 1) := by decide +kernel
theorem dX7_goOn_0 : decode cX7_goOn 0 = .ok (.aload_n 0, 1) := by decide +kernel
theorem dX7_goOn_1 : decode cX7_goOn 1 = .ok (.getfield 272, 3) := by decide +kernel
theorem dX7_goOn_4 : decode cX7_goOn 4 = .ok (.ifCond .ne 7, 3) := by decide +kernel
theorem dX7_goOn_7 : decode cX7_goOn 7 = .ok (.aload_n 0, 1) := by decide +kernel
theorem dX7_goOn_8 : decode cX7_goOn 8 = .ok (.invokevirtual 284, 3) := by decide +kernel
theorem dX7_goOn_11 : decode cX7_goOn 11 = .ok (.return_, 1) := by decide +kernel
theorem dX7_bounds_0 : decode cX7_bounds 0 = .ok (.aload_n 0, 1) := by decide +kernel
theorem dX7_bounds_1 : decode cX7_bounds 1 = .ok (.getfield 272, 3) := by decide +kernel
theorem dX7_bounds_4 : decode cX7_bounds 4 = .ok (.ifCond .ne 19, 3) := by decide +kernel
theorem dX7_bounds_7 : decode cX7_bounds 7 = .ok (.aload_n 0, 1) := by decide +kernel
theorem dX7_bounds_8 : decode cX7_bounds 8 = .ok (.getfield 260, 3) := by decide +kernel
theorem dX7_bounds_11 : decode cX7_bounds 11 = .ok (.iconst 2, 1) := by decide +kernel
theorem dX7_bounds_12 : decode cX7_bounds 12 = .ok (.if_icmp .eq 11, 3) := by decide +kernel
theorem dX7_bounds_15 : decode cX7_bounds 15 = .ok (.aload_n 0, 1) := by decide +kernel
theorem dX7_bounds_16 : decode cX7_bounds 16 = .ok (.iconst 1, 1) := by decide +kernel
theorem dX7_bounds_17 : decode cX7_bounds 17 = .ok (.invokevirtual 287, 3) := by decide +kernel
theorem dX7_bounds_20 : decode cX7_bounds 20 = .ok (.goto 31, 3) := by decide +kernel
theorem dX7_bounds_23 : decode cX7_bounds 23 = .ok (.aload_n 0, 1) := by decide +kernel
theorem dX7_bounds_24 : decode cX7_bounds 24 = .ok (.getfield 272, 3) := by decide +kernel
theorem dX7_bounds_27 : decode cX7_bounds 27 = .ok (.ifCond .ne 24, 3) := by decide +kernel
theorem dX7_bounds_30 : decode cX7_bounds 30 = .ok (.aload_n 0, 1) := by decide +kernel
theorem dX7_bounds_31 : decode cX7_bounds 31 = .ok (.getfield 269, 3) := by decide +kernel
theorem dX7_bounds_34 : decode cX7_bounds 34 = .ok (.iload_n 1, 1) := by decide +kernel
theorem dX7_bounds_35 : decode cX7_bounds 35 = .ok (.if_icmp .lt 11, 3) := by decide +kernel
theorem dX7_bounds_38 : decode cX7_bounds 38 = .ok (.aload_n 0, 1) := by decide +kernel
theorem dX7_bounds_39 : decode cX7_bounds 39 = .ok (.getfield 269, 3) := by decide +kernel
theorem dX7_bounds_42 : decode cX7_bounds 42 = .ok (.iload_n 2, 1) := by decide +kernel
theorem dX7_bounds_43 : decode cX7_bounds 43 = .ok (.if_icmp .le 8, 3) := by decide +kernel
theorem dX7_bounds_46 : decode cX7_bounds 46 = .ok (.aload_n 0, 1) := by decide +kernel
theorem dX7_bounds_47 : decode cX7_bounds 47 = .ok (.iconst 2, 1) := by decide +kernel
theorem dX7_bounds_48 : decode cX7_bounds 48 = .ok (.invokevirtual 287, 3) := by decide +kernel
theorem dX7_bounds_51 : decode cX7_bounds 51 = .ok (.return_, 1) := by decide +kernel
theorem dX7_readNumber_0 : decode cX7_readNumber 0 = .ok (.aload_n 0, 1) := by decide +kernel
theorem dX7_readNumber_1 : decode cX7_readNumber 1 = .ok (.iload_n 1, 1) := by decide +kernel
theorem dX7_readNumber_2 : decode cX7_readNumber 2 = .ok (.iload_n 2, 1) := by decide +kernel
theorem dX7_readNumber_3 : decode cX7_readNumber 3 = .ok (.invokevirtual 290, 3) := by decide +kernel
theorem dX7_readNumber_6 : decode cX7_readNumber 6 = .ok (.aload_n 0, 1) := by decide +kernel
theorem dX7_readNumber_7 : decode cX7_readNumber 7 = .ok (.getfield 269, 3) := by decide +kernel
theorem dX7_readNumber_10 : decode cX7_readNumber 10 = .ok (.istore_n 3, 1) := by decide +kernel
theorem dX7_readNumber_11 : decode cX7_readNumber 11 = .ok (.aload_n 0, 1) := by decide +kernel
theorem dX7_readNumber_12 : decode cX7_readNumber 12 = .ok (.invokevirtual 293, 3) := by decide +kernel
theorem dX7_readNumber_15 : decode cX7_readNumber 15 = .ok (.aload_n 0, 1) := by decide +kernel
theorem dX7_readNumber_16 : decode cX7_readNumber 16 = .ok (.getfield 272, 3) := by decide +kernel
theorem dX7_readNumber_19 : decode cX7_readNumber 19 = .ok (.ifCond .ne 7, 3) := by decide +kernel
theorem dX7_readNumber_22 : decode cX7_readNumber 22 = .ok (.iload_n 3, 1) := by decide +kernel
theorem dX7_readNumber_23 : decode cX7_readNumber 23 = .ok (.goto 4, 3) := by decide +kernel
theorem dX7_readNumber_26 : decode cX7_readNumber 26 = .ok (.iconst 0, 1) := by decide +kernel
theorem dX7_readNumber_27 : decode cX7_readNumber 27 = .ok (.ireturn, 1) := by decide +kernel
theorem dX7_ends_0 : decode cX7_ends 0 = .ok (.aload_n 0, 1) := by decide +kernel
theorem dX7_ends_1 : decode cX7_ends 1 = .ok (.getfield 272, 3) := by decide +kernel
theorem dX7_ends_4 : decode cX7_ends 4 = .ok (.ifCond .ne 16, 3) := by decide +kernel
theorem dX7_ends_7 : decode cX7_ends 7 = .ok (.aload_n 0, 1) := by decide +kernel
theorem dX7_ends_8 : decode cX7_ends 8 = .ok (.getfield 260, 3) := by decide +kernel
theorem dX7_ends_11 : decode cX7_ends 11 = .ok (.iconst 1, 1) := by decide +kernel
theorem dX7_ends_12 : decode cX7_ends 12 = .ok (.if_icmp .eq 8, 3) := by decide +kernel
theorem dX7_ends_15 : decode cX7_ends 15 = .ok (.aload_n 0, 1) := by decide +kernel
theorem dX7_ends_16 : decode cX7_ends 16 = .ok (.iconst 1, 1) := by decide +kernel
theorem dX7_ends_17 : decode cX7_ends 17 = .ok (.invokevirtual 287, 3) := by decide +kernel
theorem dX7_ends_20 : decode cX7_ends 20 = .ok (.aload_n 0, 1) := by decide +kernel
theorem dX7_ends_21 : decode cX7_ends 21 = .ok (.getfield 272, 3) := by decide +kernel
theorem dX7_ends_24 : decode cX7_ends 24 = .ok (.ifCond .ne 12, 3) := by decide +kernel
theorem dX7_ends_27 : decode cX7_ends 27 = .ok (.iload_n 1, 1) := by decide +kernel
theorem dX7_ends_28 : decode cX7_ends 28 = .ok (.ifCond .eq 8, 3) := by decide +kernel
theorem dX7_ends_31 : decode cX7_ends 31 = .ok (.aload_n 0, 1) := by decide +kernel
theorem dX7_ends_32 : decode cX7_ends 32 = .ok (.iconst 4, 1) := by decide +kernel
theorem dX7_ends_33 : decode cX7_ends 33 = .ok (.invokevirtual 287, 3) := by decide +kernel
theorem dX7_ends_36 : decode cX7_ends 36 = .ok (.aload_n 0, 1) := by decide +kernel
theorem dX7_ends_37 : decode cX7_ends 37 = .ok (.getfield 272, 3) := by decide +kernel
theorem dX7_ends_40 : decode cX7_ends 40 = .ok (.ifCond .ne 7, 3) := by decide +kernel
theorem dX7_ends_43 : decode cX7_ends 43 = .ok (.iconst 1, 1) := by decide +kernel
theorem dX7_ends_44 : decode cX7_ends 44 = .ok (.goto 4, 3) := by decide +kernel
theorem dX7_ends_47 : decode cX7_ends 47 = .ok (.iconst 0, 1) := by decide +kernel
theorem dX7_ends_48 : decode cX7_ends 48 = .ok (.ireturn, 1) := by decide +kernel
theorem dX7_load_0 : decode cX7_load 0 = .ok (.aload_n 0, 1) := by decide +kernel
theorem dX7_load_1 : decode cX7_load 1 = .ok (.iconst 0, 1) := by decide +kernel
theorem dX7_load_2 : decode cX7_load 2 = .ok (.putfield 62, 3) := by decide +kernel
theorem dX7_load_5 : decode cX7_load 5 = .ok (.aload_n 0, 1) := by decide +kernel
theorem dX7_load_6 : decode cX7_load 6 = .ok (.getfield 9, 3) := by decide +kernel
theorem dX7_load_9 : decode cX7_load 9 = .ok (.aload_n 0, 1) := by decide +kernel
theorem dX7_load_10 : decode cX7_load 10 = .ok (.getfield 25, 3) := by decide +kernel
theorem dX7_load_13 : decode cX7_load 13 = .ok (.invokestatic 68, 3) := by decide +kernel
theorem dX7_load_16 : decode cX7_load 16 = .ok (.aload_n 0, 1) := by decide +kernel
theorem dX7_load_17 : decode cX7_load 17 = .ok (.iconst 0, 1) := by decide +kernel
theorem dX7_load_18 : decode cX7_load 18 = .ok (.putfield 254, 3) := by decide +kernel
theorem dX7_load_21 : decode cX7_load 21 = .ok (.aload_n 0, 1) := by decide +kernel
theorem dX7_load_22 : decode cX7_load 22 = .ok (.iconst 0, 1) := by decide +kernel
theorem dX7_load_23 : decode cX7_load 23 = .ok (.putfield 272, 3) := by decide +kernel
theorem dX7_load_26 : decode cX7_load 26 = .ok (.aload_n 0, 1) := by decide +kernel
theorem dX7_load_27 : decode cX7_load 27 = .ok (.invokevirtual 284, 3) := by decide +kernel
theorem dX7_load_30 : decode cX7_load 30 = .ok (.aload_n 0, 1) := by decide +kernel
theorem dX7_load_31 : decode cX7_load 31 = .ok (.ldc_w 296, 3) := by decide +kernel
theorem dX7_load_34 : decode cX7_load 34 = .ok (.invokevirtual 297, 3) := by decide +kernel
theorem dX7_load_37 : decode cX7_load 37 = .ok (.ifCond .eq 10, 3) := by decide +kernel
theorem dX7_load_40 : decode cX7_load 40 = .ok (.aload_n 0, 1) := by decide +kernel
theorem dX7_load_41 : decode cX7_load 41 = .ok (.invokevirtual 284, 3) := by decide +kernel
theorem dX7_load_44 : decode cX7_load 44 = .ok (.goto 8, 3) := by decide +kernel
theorem dX7_load_47 : decode cX7_load 47 = .ok (.aload_n 0, 1) := by decide +kernel
theorem dX7_load_48 : decode cX7_load 48 = .ok (.iconst 1, 1) := by decide +kernel
theorem dX7_load_49 : decode cX7_load 49 = .ok (.invokevirtual 287, 3) := by decide +kernel
theorem dX7_load_52 : decode cX7_load 52 = .ok (.aload_n 0, 1) := by decide +kernel
theorem dX7_load_53 : decode cX7_load 53 = .ok (.iconst 0, 1) := by decide +kernel
theorem dX7_load_54 : decode cX7_load 54 = .ok (.ldc_w 301, 3) := by decide +kernel
theorem dX7_load_57 : decode cX7_load 57 = .ok (.invokevirtual 302, 3) := by decide +kernel
theorem dX7_load_60 : decode cX7_load 60 = .ok (.istore_n 1, 1) := by decide +kernel
theorem dX7_load_61 : decode cX7_load 61 = .ok (.aload_n 0, 1) := by decide +kernel
theorem dX7_load_62 : decode cX7_load 62 = .ok (.bipush 7, 2) := by decide +kernel
theorem dX7_load_64 : decode cX7_load 64 = .ok (.bipush 10, 2) := by decide +kernel
theorem dX7_load_66 : decode cX7_load 66 = .ok (.invokevirtual 302, 3) := by decide +kernel
theorem dX7_load_69 : decode cX7_load 69 = .ok (.istore_n 2, 1) := by decide +kernel
theorem dX7_load_70 : decode cX7_load 70 = .ok (.aload_n 0, 1) := by decide +kernel
theorem dX7_load_71 : decode cX7_load 71 = .ok (.iconst 0, 1) := by decide +kernel
theorem dX7_load_72 : decode cX7_load 72 = .ok (.bipush 20, 2) := by decide +kernel
theorem dX7_load_74 : decode cX7_load 74 = .ok (.invokevirtual 302, 3) := by decide +kernel
theorem dX7_load_77 : decode cX7_load 77 = .ok (.istore_n 3, 1) := by decide +kernel
theorem dX7_load_78 : decode cX7_load 78 = .ok (.aload_n 0, 1) := by decide +kernel
theorem dX7_load_79 : decode cX7_load 79 = .ok (.bipush 20, 2) := by decide +kernel
theorem dX7_load_81 : decode cX7_load 81 = .ok (.sipush 500, 3) := by decide +kernel
theorem dX7_load_84 : decode cX7_load 84 = .ok (.invokevirtual 302, 3) := by decide +kernel
theorem dX7_load_87 : decode cX7_load 87 = .ok (.istore 4, 2) := by decide +kernel
theorem dX7_load_89 : decode cX7_load 89 = .ok (.aload_n 0, 1) := by decide +kernel
theorem dX7_load_90 : decode cX7_load 90 = .ok (.iconst 0, 1) := by decide +kernel
theorem dX7_load_91 : decode cX7_load 91 = .ok (.invokevirtual 306, 3) := by decide +kernel
theorem dX7_load_94 : decode cX7_load 94 = .ok (.istore 5, 2) := by decide +kernel
theorem dX7_load_96 : decode cX7_load 96 = .ok (.aload_n 0, 1) := by decide +kernel
theorem dX7_load_97 : decode cX7_load 97 = .ok (.invokevirtual 293, 3) := by decide +kernel
theorem dX7_load_100 : decode cX7_load 100 = .ok (.aload_n 0, 1) := by decide +kernel
theorem dX7_load_101 : decode cX7_load 101 = .ok (.iconst 0, 1) := by decide +kernel
theorem dX7_load_102 : decode cX7_load 102 = .ok (.putfield 54, 3) := by decide +kernel
theorem dX7_load_105 : decode cX7_load 105 = .ok (.aload_n 0, 1) := by decide +kernel
theorem dX7_load_106 : decode cX7_load 106 = .ok (.ldc_w 309, 3) := by decide +kernel
theorem dX7_load_109 : decode cX7_load 109 = .ok (.invokevirtual 297, 3) := by decide +kernel
theorem dX7_load_112 : decode cX7_load 112 = .ok (.ifCond .eq 11, 3) := by decide +kernel
theorem dX7_load_115 : decode cX7_load 115 = .ok (.aload_n 0, 1) := by decide +kernel
theorem dX7_load_116 : decode cX7_load 116 = .ok (.invokevirtual 284, 3) := by decide +kernel
theorem dX7_load_119 : decode cX7_load 119 = .ok (.aload_n 0, 1) := by decide +kernel
theorem dX7_load_120 : decode cX7_load 120 = .ok (.invokevirtual 311, 3) := by decide +kernel
theorem dX7_load_123 : decode cX7_load 123 = .ok (.aload_n 0, 1) := by decide +kernel
theorem dX7_load_124 : decode cX7_load 124 = .ok (.getfield 272, 3) := by decide +kernel
theorem dX7_load_127 : decode cX7_load 127 = .ok (.ifCond .ne 12, 3) := by decide +kernel
theorem dX7_load_130 : decode cX7_load 130 = .ok (.aload_n 0, 1) := by decide +kernel
theorem dX7_load_131 : decode cX7_load 131 = .ok (.iload_n 1, 1) := by decide +kernel
theorem dX7_load_132 : decode cX7_load 132 = .ok (.iload_n 2, 1) := by decide +kernel
theorem dX7_load_133 : decode cX7_load 133 = .ok (.iload_n 3, 1) := by decide +kernel
theorem dX7_load_134 : decode cX7_load 134 = .ok (.iload 4, 2) := by decide +kernel
theorem dX7_load_136 : decode cX7_load 136 = .ok (.invokevirtual 58, 3) := by decide +kernel
theorem dX7_load_139 : decode cX7_load 139 = .ok (.aload_n 0, 1) := by decide +kernel
theorem dX7_load_140 : decode cX7_load 140 = .ok (.getfield 272, 3) := by decide +kernel
theorem dX7_load_143 : decode cX7_load 143 = .ok (.ifCond .ne 21, 3) := by decide +kernel
theorem dX7_load_146 : decode cX7_load 146 = .ok (.aload_n 0, 1) := by decide +kernel
theorem dX7_load_147 : decode cX7_load 147 = .ok (.getfield 260, 3) := by decide +kernel
theorem dX7_load_150 : decode cX7_load 150 = .ok (.ifCond .eq 14, 3) := by decide +kernel
theorem dX7_load_153 : decode cX7_load 153 = .ok (.aload_n 0, 1) := by decide +kernel
theorem dX7_load_154 : decode cX7_load 154 = .ok (.invokevirtual 314, 3) := by decide +kernel
theorem dX7_load_157 : decode cX7_load 157 = .ok (.aload_n 0, 1) := by decide +kernel
theorem dX7_load_158 : decode cX7_load 158 = .ok (.invokevirtual 293, 3) := by decide +kernel
theorem dX7_load_161 : decode cX7_load 161 = .ok (.goto (-22), 3) := by decide +kernel
theorem dX7_load_164 : decode cX7_load 164 = .ok (.aload_n 0, 1) := by decide +kernel
theorem dX7_load_165 : decode cX7_load 165 = .ok (.iconst 0, 1) := by decide +kernel
theorem dX7_load_166 : decode cX7_load 166 = .ok (.putfield 251, 3) := by decide +kernel
theorem dX7_load_169 : decode cX7_load 169 = .ok (.aload_n 0, 1) := by decide +kernel
theorem dX7_load_170 : decode cX7_load 170 = .ok (.getfield 272, 3) := by decide +kernel
theorem dX7_load_173 : decode cX7_load 173 = .ok (.ifCond .eq 22, 3) := by decide +kernel
theorem dX7_load_176 : decode cX7_load 176 = .ok (.aload_n 0, 1) := by decide +kernel
theorem dX7_load_177 : decode cX7_load 177 = .ok (.getfield 25, 3) := by decide +kernel
theorem dX7_load_180 : decode cX7_load 180 = .ok (.aload_n 0, 1) := by decide +kernel
theorem dX7_load_181 : decode cX7_load 181 = .ok (.getfield 9, 3) := by decide +kernel
theorem dX7_load_184 : decode cX7_load 184 = .ok (.invokestatic 68, 3) := by decide +kernel
theorem dX7_load_187 : decode cX7_load 187 = .ok (.bipush (-30), 2) := by decide +kernel
theorem dX7_load_189 : decode cX7_load 189 = .ok (.aload_n 0, 1) := by decide +kernel
theorem dX7_load_190 : decode cX7_load 190 = .ok (.getfield 272, 3) := by decide +kernel
theorem dX7_load_193 : decode cX7_load 193 = .ok (.isub, 1) := by decide +kernel
theorem dX7_load_194 : decode cX7_load 194 = .ok (.ireturn, 1) := by decide +kernel
theorem dX7_load_195 : decode cX7_load 195 = .ok (.aload_n 0, 1) := by decide +kernel
theorem dX7_load_196 : decode cX7_load 196 = .ok (.aload_n 0, 1) := by decide +kernel
theorem dX7_load_197 : decode cX7_load 197 = .ok (.getfield 25, 3) := by decide +kernel
theorem dX7_load_200 : decode cX7_load 200 = .ok (.invokevirtual 221, 3) := by decide +kernel
theorem dX7_load_203 : decode cX7_load 203 = .ok (.iload 5, 2) := by decide +kernel
theorem dX7_load_205 : decode cX7_load 205 = .ok (.ifCond .eq 12, 3) := by decide +kernel
theorem dX7_load_208 : decode cX7_load 208 = .ok (.aload_n 0, 1) := by decide +kernel
theorem dX7_load_209 : decode cX7_load 209 = .ok (.getfield 9, 3) := by decide +kernel
theorem dX7_load_212 : decode cX7_load 212 = .ok (.iconst 0, 1) := by decide +kernel
theorem dX7_load_213 : decode cX7_load 213 = .ok (.iaload, 1) := by decide +kernel
theorem dX7_load_214 : decode cX7_load 214 = .ok (.goto 4, 3) := by decide +kernel
theorem dX7_load_217 : decode cX7_load 217 = .ok (.iconst (-1), 1) := by decide +kernel
theorem dX7_load_218 : decode cX7_load 218 = .ok (.ireturn, 1) := by decide +kernel
theorem dX7_readDeck_0 : decode cX7_readDeck 0 = .ok (.aload_n 0, 1) := by decide +kernel
theorem dX7_readDeck_1 : decode cX7_readDeck 1 = .ok (.getfield 272, 3) := by decide +kernel
theorem dX7_readDeck_4 : decode cX7_readDeck 4 = .ok (.ifCond .ne 103, 3) := by decide +kernel
theorem dX7_readDeck_7 : decode cX7_readDeck 7 = .ok (.aload_n 0, 1) := by decide +kernel
theorem dX7_readDeck_8 : decode cX7_readDeck 8 = .ok (.getfield 54, 3) := by decide +kernel
theorem dX7_readDeck_11 : decode cX7_readDeck 11 = .ok (.ifCond .eq 11, 3) := by decide +kernel
theorem dX7_readDeck_14 : decode cX7_readDeck 14 = .ok (.aload_n 0, 1) := by decide +kernel
theorem dX7_readDeck_15 : decode cX7_readDeck 15 = .ok (.getfield 260, 3) := by decide +kernel
theorem dX7_readDeck_18 : decode cX7_readDeck 18 = .ok (.iconst 2, 1) := by decide +kernel
theorem dX7_readDeck_19 : decode cX7_readDeck 19 = .ok (.if_icmp .ne 88, 3) := by decide +kernel
theorem dX7_readDeck_22 : decode cX7_readDeck 22 = .ok (.aload_n 0, 1) := by decide +kernel
theorem dX7_readDeck_23 : decode cX7_readDeck 23 = .ok (.iconst 0, 1) := by decide +kernel
theorem dX7_readDeck_24 : decode cX7_readDeck 24 = .ok (.bipush 51, 2) := by decide +kernel
theorem dX7_readDeck_26 : decode cX7_readDeck 26 = .ok (.invokevirtual 290, 3) := by decide +kernel
theorem dX7_readDeck_29 : decode cX7_readDeck 29 = .ok (.iconst 0, 1) := by decide +kernel
theorem dX7_readDeck_30 : decode cX7_readDeck 30 = .ok (.istore_n 1, 1) := by decide +kernel
theorem dX7_readDeck_31 : decode cX7_readDeck 31 = .ok (.iload_n 1, 1) := by decide +kernel
theorem dX7_readDeck_32 : decode cX7_readDeck 32 = .ok (.aload_n 0, 1) := by decide +kernel
theorem dX7_readDeck_33 : decode cX7_readDeck 33 = .ok (.getfield 54, 3) := by decide +kernel
theorem dX7_readDeck_36 : decode cX7_readDeck 36 = .ok (.if_icmp .ge 34, 3) := by decide +kernel
theorem dX7_readDeck_39 : decode cX7_readDeck 39 = .ok (.aload_n 0, 1) := by decide +kernel
theorem dX7_readDeck_40 : decode cX7_readDeck 40 = .ok (.getfield 272, 3) := by decide +kernel
theorem dX7_readDeck_43 : decode cX7_readDeck 43 = .ok (.ifCond .ne 27, 3) := by decide +kernel
theorem dX7_readDeck_46 : decode cX7_readDeck 46 = .ok (.aload_n 0, 1) := by decide +kernel
theorem dX7_readDeck_47 : decode cX7_readDeck 47 = .ok (.getfield 51, 3) := by decide +kernel
theorem dX7_readDeck_50 : decode cX7_readDeck 50 = .ok (.iload_n 1, 1) := by decide +kernel
theorem dX7_readDeck_51 : decode cX7_readDeck 51 = .ok (.iaload, 1) := by decide +kernel
theorem dX7_readDeck_52 : decode cX7_readDeck 52 = .ok (.aload_n 0, 1) := by decide +kernel
theorem dX7_readDeck_53 : decode cX7_readDeck 53 = .ok (.getfield 269, 3) := by decide +kernel
theorem dX7_readDeck_56 : decode cX7_readDeck 56 = .ok (.if_icmp .ne 8, 3) := by decide +kernel
theorem dX7_readDeck_59 : decode cX7_readDeck 59 = .ok (.aload_n 0, 1) := by decide +kernel
theorem dX7_readDeck_60 : decode cX7_readDeck 60 = .ok (.iconst 3, 1) := by decide +kernel
theorem dX7_readDeck_61 : decode cX7_readDeck 61 = .ok (.invokevirtual 287, 3) := by decide +kernel
theorem dX7_readDeck_64 : decode cX7_readDeck 64 = .ok (.iinc 1 1, 3) := by decide +kernel
theorem dX7_readDeck_67 : decode cX7_readDeck 67 = .ok (.goto (-36), 3) := by decide +kernel
theorem dX7_readDeck_70 : decode cX7_readDeck 70 = .ok (.aload_n 0, 1) := by decide +kernel
theorem dX7_readDeck_71 : decode cX7_readDeck 71 = .ok (.getfield 272, 3) := by decide +kernel
theorem dX7_readDeck_74 : decode cX7_readDeck 74 = .ok (.ifCond .ne 26, 3) := by decide +kernel
theorem dX7_readDeck_77 : decode cX7_readDeck 77 = .ok (.aload_n 0, 1) := by decide +kernel
theorem dX7_readDeck_78 : decode cX7_readDeck 78 = .ok (.getfield 51, 3) := by decide +kernel
theorem dX7_readDeck_81 : decode cX7_readDeck 81 = .ok (.aload_n 0, 1) := by decide +kernel
theorem dX7_readDeck_82 : decode cX7_readDeck 82 = .ok (.getfield 54, 3) := by decide +kernel
theorem dX7_readDeck_85 : decode cX7_readDeck 85 = .ok (.aload_n 0, 1) := by decide +kernel
theorem dX7_readDeck_86 : decode cX7_readDeck 86 = .ok (.getfield 269, 3) := by decide +kernel
theorem dX7_readDeck_89 : decode cX7_readDeck 89 = .ok (.iastore, 1) := by decide +kernel
theorem dX7_readDeck_90 : decode cX7_readDeck 90 = .ok (.aload_n 0, 1) := by decide +kernel
theorem dX7_readDeck_91 : decode cX7_readDeck 91 = .ok (.dup, 1) := by decide +kernel
theorem dX7_readDeck_92 : decode cX7_readDeck 92 = .ok (.getfield 54, 3) := by decide +kernel
theorem dX7_readDeck_95 : decode cX7_readDeck 95 = .ok (.iconst 1, 1) := by decide +kernel
theorem dX7_readDeck_96 : decode cX7_readDeck 96 = .ok (.iadd, 1) := by decide +kernel
theorem dX7_readDeck_97 : decode cX7_readDeck 97 = .ok (.putfield 54, 3) := by decide +kernel
theorem dX7_readDeck_100 : decode cX7_readDeck 100 = .ok (.aload_n 0, 1) := by decide +kernel
theorem dX7_readDeck_101 : decode cX7_readDeck 101 = .ok (.invokevirtual 293, 3) := by decide +kernel
theorem dX7_readDeck_104 : decode cX7_readDeck 104 = .ok (.goto (-104), 3) := by decide +kernel
theorem dX7_readDeck_107 : decode cX7_readDeck 107 = .ok (.aload_n 0, 1) := by decide +kernel
theorem dX7_readDeck_108 : decode cX7_readDeck 108 = .ok (.getfield 272, 3) := by decide +kernel
theorem dX7_readDeck_111 : decode cX7_readDeck 111 = .ok (.ifCond .ne 16, 3) := by decide +kernel
theorem dX7_readDeck_114 : decode cX7_readDeck 114 = .ok (.aload_n 0, 1) := by decide +kernel
theorem dX7_readDeck_115 : decode cX7_readDeck 115 = .ok (.getfield 260, 3) := by decide +kernel
theorem dX7_readDeck_118 : decode cX7_readDeck 118 = .ok (.iconst 1, 1) := by decide +kernel
theorem dX7_readDeck_119 : decode cX7_readDeck 119 = .ok (.if_icmp .eq 8, 3) := by decide +kernel
theorem dX7_readDeck_122 : decode cX7_readDeck 122 = .ok (.aload_n 0, 1) := by decide +kernel
theorem dX7_readDeck_123 : decode cX7_readDeck 123 = .ok (.iconst 1, 1) := by decide +kernel
theorem dX7_readDeck_124 : decode cX7_readDeck 124 = .ok (.invokevirtual 287, 3) := by decide +kernel
theorem dX7_readDeck_127 : decode cX7_readDeck 127 = .ok (.aload_n 0, 1) := by decide +kernel
theorem dX7_readDeck_128 : decode cX7_readDeck 128 = .ok (.invokevirtual 293, 3) := by decide +kernel
theorem dX7_readDeck_131 : decode cX7_readDeck 131 = .ok (.return_, 1) := by decide +kernel
theorem dX7_cardHere_0 : decode cX7_cardHere 0 = .ok (.aload_n 0, 1) := by decide +kernel
theorem dX7_cardHere_1 : decode cX7_cardHere 1 = .ok (.iconst 0, 1) := by decide +kernel
theorem dX7_cardHere_2 : decode cX7_cardHere 2 = .ok (.bipush 51, 2) := by decide +kernel
theorem dX7_cardHere_4 : decode cX7_cardHere 4 = .ok (.invokevirtual 290, 3) := by decide +kernel
theorem dX7_cardHere_7 : decode cX7_cardHere 7 = .ok (.aload_n 0, 1) := by decide +kernel
theorem dX7_cardHere_8 : decode cX7_cardHere 8 = .ok (.getfield 272, 3) := by decide +kernel
theorem dX7_cardHere_11 : decode cX7_cardHere 11 = .ok (.ifCond .ne 25, 3) := by decide +kernel
theorem dX7_cardHere_14 : decode cX7_cardHere 14 = .ok (.aload_n 0, 1) := by decide +kernel
theorem dX7_cardHere_15 : decode cX7_cardHere 15 = .ok (.aload_n 0, 1) := by decide +kernel
theorem dX7_cardHere_16 : decode cX7_cardHere 16 = .ok (.getfield 9, 3) := by decide +kernel
theorem dX7_cardHere_19 : decode cX7_cardHere 19 = .ok (.iconst 4, 1) := by decide +kernel
theorem dX7_cardHere_20 : decode cX7_cardHere 20 = .ok (.iaload, 1) := by decide +kernel
theorem dX7_cardHere_21 : decode cX7_cardHere 21 = .ok (.aload_n 0, 1) := by decide +kernel
theorem dX7_cardHere_22 : decode cX7_cardHere 22 = .ok (.getfield 269, 3) := by decide +kernel
theorem dX7_cardHere_25 : decode cX7_cardHere 25 = .ok (.invokevirtual 76, 3) := by decide +kernel
theorem dX7_cardHere_28 : decode cX7_cardHere 28 = .ok (.ifCond .ne 8, 3) := by decide +kernel
theorem dX7_cardHere_31 : decode cX7_cardHere 31 = .ok (.aload_n 0, 1) := by decide +kernel
theorem dX7_cardHere_32 : decode cX7_cardHere 32 = .ok (.iconst 3, 1) := by decide +kernel
theorem dX7_cardHere_33 : decode cX7_cardHere 33 = .ok (.invokevirtual 287, 3) := by decide +kernel
theorem dX7_cardHere_36 : decode cX7_cardHere 36 = .ok (.aload_n 0, 1) := by decide +kernel
theorem dX7_cardHere_37 : decode cX7_cardHere 37 = .ok (.getfield 269, 3) := by decide +kernel
theorem dX7_cardHere_40 : decode cX7_cardHere 40 = .ok (.istore_n 1, 1) := by decide +kernel
theorem dX7_cardHere_41 : decode cX7_cardHere 41 = .ok (.aload_n 0, 1) := by decide +kernel
theorem dX7_cardHere_42 : decode cX7_cardHere 42 = .ok (.invokevirtual 293, 3) := by decide +kernel
theorem dX7_cardHere_45 : decode cX7_cardHere 45 = .ok (.aload_n 0, 1) := by decide +kernel
theorem dX7_cardHere_46 : decode cX7_cardHere 46 = .ok (.getfield 272, 3) := by decide +kernel
theorem dX7_cardHere_49 : decode cX7_cardHere 49 = .ok (.ifCond .ne 7, 3) := by decide +kernel
theorem dX7_cardHere_52 : decode cX7_cardHere 52 = .ok (.iload_n 1, 1) := by decide +kernel
theorem dX7_cardHere_53 : decode cX7_cardHere 53 = .ok (.goto 4, 3) := by decide +kernel
theorem dX7_cardHere_56 : decode cX7_cardHere 56 = .ok (.iconst 0, 1) := by decide +kernel
theorem dX7_cardHere_57 : decode cX7_cardHere 57 = .ok (.ireturn, 1) := by decide +kernel
theorem dX7_move_0 : decode cX7_move 0 = .ok (.aload_n 0, 1) := by decide +kernel
theorem dX7_move_1 : decode cX7_move 1 = .ok (.ldc_w 317, 3) := by decide +kernel
theorem dX7_move_4 : decode cX7_move 4 = .ok (.invokevirtual 297, 3) := by decide +kernel
theorem dX7_move_7 : decode cX7_move 7 = .ok (.istore_n 1, 1) := by decide +kernel
theorem dX7_move_8 : decode cX7_move 8 = .ok (.iload_n 1, 1) := by decide +kernel
theorem dX7_move_9 : decode cX7_move 9 = .ok (.ifCond .ne 13, 3) := by decide +kernel
theorem dX7_move_12 : decode cX7_move 12 = .ok (.aload_n 0, 1) := by decide +kernel
theorem dX7_move_13 : decode cX7_move 13 = .ok (.ldc_w 319, 3) := by decide +kernel
theorem dX7_move_16 : decode cX7_move 16 = .ok (.invokevirtual 297, 3) := by decide +kernel
theorem dX7_move_19 : decode cX7_move 19 = .ok (.ifCond .eq 27, 3) := by decide +kernel
theorem dX7_move_22 : decode cX7_move 22 = .ok (.aload_n 0, 1) := by decide +kernel
theorem dX7_move_23 : decode cX7_move 23 = .ok (.invokevirtual 284, 3) := by decide +kernel
theorem dX7_move_26 : decode cX7_move 26 = .ok (.aload_n 0, 1) := by decide +kernel
theorem dX7_move_27 : decode cX7_move 27 = .ok (.aload_n 0, 1) := by decide +kernel
theorem dX7_move_28 : decode cX7_move 28 = .ok (.invokevirtual 218, 3) := by decide +kernel
theorem dX7_move_31 : decode cX7_move 31 = .ok (.invokevirtual 306, 3) := by decide +kernel
theorem dX7_move_34 : decode cX7_move 34 = .ok (.ifCond .eq 141, 3) := by decide +kernel
theorem dX7_move_37 : decode cX7_move 37 = .ok (.aload_n 0, 1) := by decide +kernel
theorem dX7_move_38 : decode cX7_move 38 = .ok (.iload_n 1, 1) := by decide +kernel
theorem dX7_move_39 : decode cX7_move 39 = .ok (.invokevirtual 225, 3) := by decide +kernel
theorem dX7_move_42 : decode cX7_move 42 = .ok (.istore_n 2, 1) := by decide +kernel
theorem dX7_move_43 : decode cX7_move 43 = .ok (.goto 132, 3) := by decide +kernel
theorem dX7_move_46 : decode cX7_move 46 = .ok (.aload_n 0, 1) := by decide +kernel
theorem dX7_move_47 : decode cX7_move 47 = .ok (.ldc_w 321, 3) := by decide +kernel
theorem dX7_move_50 : decode cX7_move 50 = .ok (.invokevirtual 297, 3) := by decide +kernel
theorem dX7_move_53 : decode cX7_move 53 = .ok (.ifCond .eq 33, 3) := by decide +kernel
theorem dX7_move_56 : decode cX7_move 56 = .ok (.aload_n 0, 1) := by decide +kernel
theorem dX7_move_57 : decode cX7_move 57 = .ok (.invokevirtual 284, 3) := by decide +kernel
theorem dX7_move_60 : decode cX7_move 60 = .ok (.aload_n 0, 1) := by decide +kernel
theorem dX7_move_61 : decode cX7_move 61 = .ok (.invokevirtual 323, 3) := by decide +kernel
theorem dX7_move_64 : decode cX7_move 64 = .ok (.istore_n 2, 1) := by decide +kernel
theorem dX7_move_65 : decode cX7_move 65 = .ok (.aload_n 0, 1) := by decide +kernel
theorem dX7_move_66 : decode cX7_move 66 = .ok (.aload_n 0, 1) := by decide +kernel
theorem dX7_move_67 : decode cX7_move 67 = .ok (.iload_n 2, 1) := by decide +kernel
theorem dX7_move_68 : decode cX7_move 68 = .ok (.invokevirtual 192, 3) := by decide +kernel
theorem dX7_move_71 : decode cX7_move 71 = .ok (.invokevirtual 306, 3) := by decide +kernel
theorem dX7_move_74 : decode cX7_move 74 = .ok (.ifCond .eq 9, 3) := by decide +kernel
theorem dX7_move_77 : decode cX7_move 77 = .ok (.aload_n 0, 1) := by decide +kernel
theorem dX7_move_78 : decode cX7_move 78 = .ok (.iload_n 2, 1) := by decide +kernel
theorem dX7_move_79 : decode cX7_move 79 = .ok (.invokevirtual 232, 3) := by decide +kernel
theorem dX7_move_82 : decode cX7_move 82 = .ok (.istore_n 3, 1) := by decide +kernel
theorem dX7_move_83 : decode cX7_move 83 = .ok (.goto 92, 3) := by decide +kernel
theorem dX7_move_86 : decode cX7_move 86 = .ok (.aload_n 0, 1) := by decide +kernel
theorem dX7_move_87 : decode cX7_move 87 = .ok (.ldc_w 326, 3) := by decide +kernel
theorem dX7_move_90 : decode cX7_move 90 = .ok (.invokevirtual 297, 3) := by decide +kernel
theorem dX7_move_93 : decode cX7_move 93 = .ok (.ifCond .eq 44, 3) := by decide +kernel
theorem dX7_move_96 : decode cX7_move 96 = .ok (.aload_n 0, 1) := by decide +kernel
theorem dX7_move_97 : decode cX7_move 97 = .ok (.invokevirtual 284, 3) := by decide +kernel
theorem dX7_move_100 : decode cX7_move 100 = .ok (.aload_n 0, 1) := by decide +kernel
theorem dX7_move_101 : decode cX7_move 101 = .ok (.invokevirtual 323, 3) := by decide +kernel
theorem dX7_move_104 : decode cX7_move 104 = .ok (.istore_n 2, 1) := by decide +kernel
theorem dX7_move_105 : decode cX7_move 105 = .ok (.aload_n 0, 1) := by decide +kernel
theorem dX7_move_106 : decode cX7_move 106 = .ok (.aload_n 0, 1) := by decide +kernel
theorem dX7_move_107 : decode cX7_move 107 = .ok (.getfield 272, 3) := by decide +kernel
theorem dX7_move_110 : decode cX7_move 110 = .ok (.ifCond .ne 11, 3) := by decide +kernel
theorem dX7_move_113 : decode cX7_move 113 = .ok (.aload_n 0, 1) := by decide +kernel
theorem dX7_move_114 : decode cX7_move 114 = .ok (.iload_n 2, 1) := by decide +kernel
theorem dX7_move_115 : decode cX7_move 115 = .ok (.invokevirtual 235, 3) := by decide +kernel
theorem dX7_move_118 : decode cX7_move 118 = .ok (.goto 4, 3) := by decide +kernel
theorem dX7_move_121 : decode cX7_move 121 = .ok (.iconst 0, 1) := by decide +kernel
theorem dX7_move_122 : decode cX7_move 122 = .ok (.invokevirtual 306, 3) := by decide +kernel
theorem dX7_move_125 : decode cX7_move 125 = .ok (.ifCond .eq 9, 3) := by decide +kernel
theorem dX7_move_128 : decode cX7_move 128 = .ok (.aload_n 0, 1) := by decide +kernel
theorem dX7_move_129 : decode cX7_move 129 = .ok (.iload_n 2, 1) := by decide +kernel
theorem dX7_move_130 : decode cX7_move 130 = .ok (.invokevirtual 238, 3) := by decide +kernel
theorem dX7_move_133 : decode cX7_move 133 = .ok (.istore_n 3, 1) := by decide +kernel
theorem dX7_move_134 : decode cX7_move 134 = .ok (.goto 41, 3) := by decide +kernel
theorem dX7_move_137 : decode cX7_move 137 = .ok (.aload_n 0, 1) := by decide +kernel
theorem dX7_move_138 : decode cX7_move 138 = .ok (.ldc_w 328, 3) := by decide +kernel
theorem dX7_move_141 : decode cX7_move 141 = .ok (.invokevirtual 297, 3) := by decide +kernel
theorem dX7_move_144 : decode cX7_move 144 = .ok (.ifCond .eq 26, 3) := by decide +kernel
theorem dX7_move_147 : decode cX7_move 147 = .ok (.aload_n 0, 1) := by decide +kernel
theorem dX7_move_148 : decode cX7_move 148 = .ok (.invokevirtual 284, 3) := by decide +kernel
theorem dX7_move_151 : decode cX7_move 151 = .ok (.aload_n 0, 1) := by decide +kernel
theorem dX7_move_152 : decode cX7_move 152 = .ok (.aload_n 0, 1) := by decide +kernel
theorem dX7_move_153 : decode cX7_move 153 = .ok (.invokevirtual 241, 3) := by decide +kernel
theorem dX7_move_156 : decode cX7_move 156 = .ok (.invokevirtual 306, 3) := by decide +kernel
theorem dX7_move_159 : decode cX7_move 159 = .ok (.ifCond .eq 16, 3) := by decide +kernel
theorem dX7_move_162 : decode cX7_move 162 = .ok (.aload_n 0, 1) := by decide +kernel
theorem dX7_move_163 : decode cX7_move 163 = .ok (.invokevirtual 244, 3) := by decide +kernel
theorem dX7_move_166 : decode cX7_move 166 = .ok (.istore_n 2, 1) := by decide +kernel
theorem dX7_move_167 : decode cX7_move 167 = .ok (.goto 8, 3) := by decide +kernel
theorem dX7_move_170 : decode cX7_move 170 = .ok (.aload_n 0, 1) := by decide +kernel
theorem dX7_move_171 : decode cX7_move 171 = .ok (.iconst 1, 1) := by decide +kernel
theorem dX7_move_172 : decode cX7_move 172 = .ok (.invokevirtual 287, 3) := by decide +kernel
theorem dX7_move_175 : decode cX7_move 175 = .ok (.return_, 1) := by decide +kernel
theorem dX7_type_0 : decode cX7_type 0 = .ok (.bipush 24, 2) := by decide +kernel
theorem dX7_type_2 : decode cX7_type 2 = .ok (.istore_n 2, 1) := by decide +kernel
theorem dX7_type_3 : decode cX7_type 3 = .ok (.iload_n 2, 1) := by decide +kernel
theorem dX7_type_4 : decode cX7_type 4 = .ok (.ifCond .lt 35, 3) := by decide +kernel
theorem dX7_type_7 : decode cX7_type 7 = .ok (.aload_n 0, 1) := by decide +kernel
theorem dX7_type_8 : decode cX7_type 8 = .ok (.getfield 28, 3) := by decide +kernel
theorem dX7_type_11 : decode cX7_type 11 = .ok (.aload_n 0, 1) := by decide +kernel
theorem dX7_type_12 : decode cX7_type 12 = .ok (.getfield 251, 3) := by decide +kernel
theorem dX7_type_15 : decode cX7_type 15 = .ok (.iload_n 1, 1) := by decide +kernel
theorem dX7_type_16 : decode cX7_type 16 = .ok (.iload_n 2, 1) := by decide +kernel
theorem dX7_type_17 : decode cX7_type 17 = .ok (.iushr, 1) := by decide +kernel
theorem dX7_type_18 : decode cX7_type 18 = .ok (.sipush 255, 3) := by decide +kernel
theorem dX7_type_21 : decode cX7_type 21 = .ok (.iand, 1) := by decide +kernel
theorem dX7_type_22 : decode cX7_type 22 = .ok (.iastore, 1) := by decide +kernel
theorem dX7_type_23 : decode cX7_type 23 = .ok (.aload_n 0, 1) := by decide +kernel
theorem dX7_type_24 : decode cX7_type 24 = .ok (.dup, 1) := by decide +kernel
theorem dX7_type_25 : decode cX7_type 25 = .ok (.getfield 251, 3) := by decide +kernel
theorem dX7_type_28 : decode cX7_type 28 = .ok (.iconst 1, 1) := by decide +kernel
theorem dX7_type_29 : decode cX7_type 29 = .ok (.iadd, 1) := by decide +kernel
theorem dX7_type_30 : decode cX7_type 30 = .ok (.putfield 251, 3) := by decide +kernel
theorem dX7_type_33 : decode cX7_type 33 = .ok (.iinc 2 (-8), 3) := by decide +kernel
theorem dX7_type_36 : decode cX7_type 36 = .ok (.goto (-33), 3) := by decide +kernel
theorem dX7_type_39 : decode cX7_type 39 = .ok (.return_, 1) := by decide +kernel
theorem dX7_append_0 : decode cX7_append 0 = .ok (.aload_n 0, 1) := by decide +kernel
theorem dX7_append_1 : decode cX7_append 1 = .ok (.iconst 0, 1) := by decide +kernel
theorem dX7_append_2 : decode cX7_append 2 = .ok (.putfield 62, 3) := by decide +kernel
theorem dX7_append_5 : decode cX7_append 5 = .ok (.aload_n 0, 1) := by decide +kernel
theorem dX7_append_6 : decode cX7_append 6 = .ok (.getfield 251, 3) := by decide +kernel
theorem dX7_append_9 : decode cX7_append 9 = .ok (.bipush 20, 2) := by decide +kernel
theorem dX7_append_11 : decode cX7_append 11 = .ok (.iadd, 1) := by decide +kernel
theorem dX7_append_12 : decode cX7_append 12 = .ok (.sipush 500, 3) := by decide +kernel
theorem dX7_append_15 : decode cX7_append 15 = .ok (.if_icmp .le 6, 3) := by decide +kernel
theorem dX7_append_18 : decode cX7_append 18 = .ok (.bipush (-20), 2) := by decide +kernel
theorem dX7_append_20 : decode cX7_append 20 = .ok (.ireturn, 1) := by decide +kernel
theorem dX7_append_21 : decode cX7_append 21 = .ok (.aload_n 0, 1) := by decide +kernel
theorem dX7_append_22 : decode cX7_append 22 = .ok (.iload_n 1, 1) := by decide +kernel
theorem dX7_append_23 : decode cX7_append 23 = .ok (.invokevirtual 330, 3) := by decide +kernel
theorem dX7_append_26 : decode cX7_append 26 = .ok (.aload_n 0, 1) := by decide +kernel
theorem dX7_append_27 : decode cX7_append 27 = .ok (.iload_n 2, 1) := by decide +kernel
theorem dX7_append_28 : decode cX7_append 28 = .ok (.invokevirtual 330, 3) := by decide +kernel
theorem dX7_append_31 : decode cX7_append 31 = .ok (.aload_n 0, 1) := by decide +kernel
theorem dX7_append_32 : decode cX7_append 32 = .ok (.iload_n 3, 1) := by decide +kernel
theorem dX7_append_33 : decode cX7_append 33 = .ok (.invokevirtual 330, 3) := by decide +kernel
theorem dX7_append_36 : decode cX7_append 36 = .ok (.aload_n 0, 1) := by decide +kernel
theorem dX7_append_37 : decode cX7_append 37 = .ok (.iload 4, 2) := by decide +kernel
theorem dX7_append_39 : decode cX7_append 39 = .ok (.invokevirtual 330, 3) := by decide +kernel
theorem dX7_append_42 : decode cX7_append 42 = .ok (.aload_n 0, 1) := by decide +kernel
theorem dX7_append_43 : decode cX7_append 43 = .ok (.iload 5, 2) := by decide +kernel
theorem dX7_append_45 : decode cX7_append 45 = .ok (.invokevirtual 330, 3) := by decide +kernel
theorem dX7_append_48 : decode cX7_append 48 = .ok (.aload_n 0, 1) := by decide +kernel
theorem dX7_append_49 : decode cX7_append 49 = .ok (.getfield 251, 3) := by decide +kernel
theorem dX7_append_52 : decode cX7_append 52 = .ok (.ireturn, 1) := by decide +kernel
theorem dX7_truncate_0 : decode cX7_truncate 0 = .ok (.aload_n 0, 1) := by decide +kernel
theorem dX7_truncate_1 : decode cX7_truncate 1 = .ok (.iconst 0, 1) := by decide +kernel
theorem dX7_truncate_2 : decode cX7_truncate 2 = .ok (.putfield 62, 3) := by decide +kernel
theorem dX7_truncate_5 : decode cX7_truncate 5 = .ok (.aload_n 0, 1) := by decide +kernel
theorem dX7_truncate_6 : decode cX7_truncate 6 = .ok (.iload_n 1, 1) := by decide +kernel
theorem dX7_truncate_7 : decode cX7_truncate 7 = .ok (.i2l, 1) := by decide +kernel
theorem dX7_truncate_8 : decode cX7_truncate 8 = .ok (.lconst 0, 1) := by decide +kernel
theorem dX7_truncate_9 : decode cX7_truncate 9 = .ok (.aload_n 0, 1) := by decide +kernel
theorem dX7_truncate_10 : decode cX7_truncate 10 = .ok (.getfield 251, 3) := by decide +kernel
theorem dX7_truncate_13 : decode cX7_truncate 13 = .ok (.i2l, 1) := by decide +kernel
theorem dX7_truncate_14 : decode cX7_truncate 14 = .ok (.iconst 1, 1) := by decide +kernel
theorem dX7_truncate_15 : decode cX7_truncate 15 = .ok (.invokevirtual 72, 3) := by decide +kernel
theorem dX7_truncate_18 : decode cX7_truncate 18 = .ok (.ifCond .eq 5, 3) := by decide +kernel
theorem dX7_truncate_21 : decode cX7_truncate 21 = .ok (.iconst 0, 1) := by decide +kernel
theorem dX7_truncate_22 : decode cX7_truncate 22 = .ok (.ireturn, 1) := by decide +kernel
theorem dX7_truncate_23 : decode cX7_truncate 23 = .ok (.aload_n 0, 1) := by decide +kernel
theorem dX7_truncate_24 : decode cX7_truncate 24 = .ok (.iload_n 1, 1) := by decide +kernel
theorem dX7_truncate_25 : decode cX7_truncate 25 = .ok (.putfield 251, 3) := by decide +kernel
theorem dX7_truncate_28 : decode cX7_truncate 28 = .ok (.aload_n 0, 1) := by decide +kernel
theorem dX7_truncate_29 : decode cX7_truncate 29 = .ok (.getfield 251, 3) := by decide +kernel
theorem dX7_truncate_32 : decode cX7_truncate 32 = .ok (.ireturn, 1) := by decide +kernel
theorem dX7_match_0 : decode cX7_match 0 = .ok (.aload_n 0, 1) := by decide +kernel
theorem dX7_match_1 : decode cX7_match 1 = .ok (.iconst 0, 1) := by decide +kernel
theorem dX7_match_2 : decode cX7_match 2 = .ok (.putfield 62, 3) := by decide +kernel
theorem dX7_match_5 : decode cX7_match 5 = .ok (.aload_n 0, 1) := by decide +kernel
theorem dX7_match_6 : decode cX7_match 6 = .ok (.iload_n 1, 1) := by decide +kernel
theorem dX7_match_7 : decode cX7_match 7 = .ok (.i2l, 1) := by decide +kernel
theorem dX7_match_8 : decode cX7_match 8 = .ok (.lconst 0, 1) := by decide +kernel
theorem dX7_match_9 : decode cX7_match 9 = .ok (.ldc2_w 333, 3) := by decide +kernel
theorem dX7_match_12 : decode cX7_match 12 = .ok (.iconst 1, 1) := by decide +kernel
theorem dX7_match_13 : decode cX7_match 13 = .ok (.invokevirtual 72, 3) := by decide +kernel
theorem dX7_match_16 : decode cX7_match 16 = .ok (.ifCond .eq 5, 3) := by decide +kernel
theorem dX7_match_19 : decode cX7_match 19 = .ok (.iconst 0, 1) := by decide +kernel
theorem dX7_match_20 : decode cX7_match 20 = .ok (.ireturn, 1) := by decide +kernel
theorem dX7_match_21 : decode cX7_match 21 = .ok (.iload_n 1, 1) := by decide +kernel
theorem dX7_match_22 : decode cX7_match 22 = .ok (.tableswitch 127 7 16 #[54, 67, 72, 80, 85, 93, 101, 109, 117, 122], 54) := by decide +kernel
theorem dX7_match_76 : decode cX7_match 76 = .ok (.aload_n 0, 1) := by decide +kernel
theorem dX7_match_77 : decode cX7_match 77 = .ok (.invokevirtual 214, 3) := by decide +kernel
theorem dX7_match_80 : decode cX7_match 80 = .ok (.ifCond .eq 7, 3) := by decide +kernel
theorem dX7_match_83 : decode cX7_match 83 = .ok (.iconst 1, 1) := by decide +kernel
theorem dX7_match_84 : decode cX7_match 84 = .ok (.goto 4, 3) := by decide +kernel
theorem dX7_match_87 : decode cX7_match 87 = .ok (.iconst 0, 1) := by decide +kernel
theorem dX7_match_88 : decode cX7_match 88 = .ok (.ireturn, 1) := by decide +kernel
theorem dX7_match_89 : decode cX7_match 89 = .ok (.aload_n 0, 1) := by decide +kernel
theorem dX7_match_90 : decode cX7_match 90 = .ok (.invokevirtual 204, 3) := by decide +kernel
theorem dX7_match_93 : decode cX7_match 93 = .ok (.ireturn, 1) := by decide +kernel
theorem dX7_match_94 : decode cX7_match 94 = .ok (.aload_n 0, 1) := by decide +kernel
theorem dX7_match_95 : decode cX7_match 95 = .ok (.getfield 9, 3) := by decide +kernel
theorem dX7_match_98 : decode cX7_match 98 = .ok (.bipush 14, 2) := by decide +kernel
theorem dX7_match_100 : decode cX7_match 100 = .ok (.iaload, 1) := by decide +kernel
theorem dX7_match_101 : decode cX7_match 101 = .ok (.ireturn, 1) := by decide +kernel
theorem dX7_match_102 : decode cX7_match 102 = .ok (.aload_n 0, 1) := by decide +kernel
theorem dX7_match_103 : decode cX7_match 103 = .ok (.invokevirtual 198, 3) := by decide +kernel
theorem dX7_match_106 : decode cX7_match 106 = .ok (.ireturn, 1) := by decide +kernel
theorem dX7_match_107 : decode cX7_match 107 = .ok (.aload_n 0, 1) := by decide +kernel
theorem dX7_match_108 : decode cX7_match 108 = .ok (.getfield 9, 3) := by decide +kernel
theorem dX7_match_111 : decode cX7_match 111 = .ok (.bipush 8, 2) := by decide +kernel
theorem dX7_match_113 : decode cX7_match 113 = .ok (.iaload, 1) := by decide +kernel
theorem dX7_match_114 : decode cX7_match 114 = .ok (.ireturn, 1) := by decide +kernel
theorem dX7_match_115 : decode cX7_match 115 = .ok (.aload_n 0, 1) := by decide +kernel
theorem dX7_match_116 : decode cX7_match 116 = .ok (.getfield 9, 3) := by decide +kernel
theorem dX7_match_119 : decode cX7_match 119 = .ok (.bipush 9, 2) := by decide +kernel
theorem dX7_match_121 : decode cX7_match 121 = .ok (.iaload, 1) := by decide +kernel
theorem dX7_match_122 : decode cX7_match 122 = .ok (.ireturn, 1) := by decide +kernel
theorem dX7_match_123 : decode cX7_match 123 = .ok (.aload_n 0, 1) := by decide +kernel
theorem dX7_match_124 : decode cX7_match 124 = .ok (.getfield 9, 3) := by decide +kernel
theorem dX7_match_127 : decode cX7_match 127 = .ok (.bipush 10, 2) := by decide +kernel
theorem dX7_match_129 : decode cX7_match 129 = .ok (.iaload, 1) := by decide +kernel
theorem dX7_match_130 : decode cX7_match 130 = .ok (.ireturn, 1) := by decide +kernel
theorem dX7_match_131 : decode cX7_match 131 = .ok (.aload_n 0, 1) := by decide +kernel
theorem dX7_match_132 : decode cX7_match 132 = .ok (.getfield 9, 3) := by decide +kernel
theorem dX7_match_135 : decode cX7_match 135 = .ok (.bipush 11, 2) := by decide +kernel
theorem dX7_match_137 : decode cX7_match 137 = .ok (.iaload, 1) := by decide +kernel
theorem dX7_match_138 : decode cX7_match 138 = .ok (.ireturn, 1) := by decide +kernel
theorem dX7_match_139 : decode cX7_match 139 = .ok (.aload_n 0, 1) := by decide +kernel
theorem dX7_match_140 : decode cX7_match 140 = .ok (.getfield 65, 3) := by decide +kernel
theorem dX7_match_143 : decode cX7_match 143 = .ok (.ireturn, 1) := by decide +kernel
theorem dX7_match_144 : decode cX7_match 144 = .ok (.aload_n 0, 1) := by decide +kernel
theorem dX7_match_145 : decode cX7_match 145 = .ok (.getfield 251, 3) := by decide +kernel
theorem dX7_match_148 : decode cX7_match 148 = .ok (.ireturn, 1) := by decide +kernel
theorem dX7_match_149 : decode cX7_match 149 = .ok (.aload_n 0, 1) := by decide +kernel
theorem dX7_match_150 : decode cX7_match 150 = .ok (.getfield 9, 3) := by decide +kernel
theorem dX7_match_153 : decode cX7_match 153 = .ok (.iload_n 1, 1) := by decide +kernel
theorem dX7_match_154 : decode cX7_match 154 = .ok (.iaload, 1) := by decide +kernel
theorem dX7_match_155 : decode cX7_match 155 = .ok (.ireturn, 1) := by decide +kernel
theorem dX7_number_0 : decode cX7_number 0 = .ok (.aload_n 0, 1) := by decide +kernel
theorem dX7_number_1 : decode cX7_number 1 = .ok (.iconst 0, 1) := by decide +kernel
theorem dX7_number_2 : decode cX7_number 2 = .ok (.putfield 62, 3) := by decide +kernel
theorem dX7_number_5 : decode cX7_number 5 = .ok (.aload_n 0, 1) := by decide +kernel
theorem dX7_number_6 : decode cX7_number 6 = .ok (.getfield 9, 3) := by decide +kernel
theorem dX7_number_9 : decode cX7_number 9 = .ok (.bipush 12, 2) := by decide +kernel
theorem dX7_number_11 : decode cX7_number 11 = .ok (.iaload, 1) := by decide +kernel
theorem dX7_number_12 : decode cX7_number 12 = .ok (.i2l, 1) := by decide +kernel
theorem dX7_number_13 : decode cX7_number 13 = .ok (.lreturn, 1) := by decide +kernel
theorem dX7_isWrapped_0 : decode cX7_isWrapped 0 = .ok (.lload_n 1, 1) := by decide +kernel
theorem dX7_isWrapped_1 : decode cX7_isWrapped 1 = .ok (.invokestatic 164, 3) := by decide +kernel
theorem dX7_isWrapped_4 : decode cX7_isWrapped 4 = .ok (.bipush 13, 2) := by decide +kernel
theorem dX7_isWrapped_6 : decode cX7_isWrapped 6 = .ok (.irem, 1) := by decide +kernel
theorem dX7_isWrapped_7 : decode cX7_isWrapped 7 = .ok (.istore_n 3, 1) := by decide +kernel
theorem dX7_isWrapped_8 : decode cX7_isWrapped 8 = .ok (.lload_n 1, 1) := by decide +kernel
theorem dX7_isWrapped_9 : decode cX7_isWrapped 9 = .ok (.invokestatic 160, 3) := by decide +kernel
theorem dX7_isWrapped_12 : decode cX7_isWrapped 12 = .ok (.ifCond .ne 18, 3) := by decide +kernel
theorem dX7_isWrapped_15 : decode cX7_isWrapped 15 = .ok (.iload_n 3, 1) := by decide +kernel
theorem dX7_isWrapped_16 : decode cX7_isWrapped 16 = .ok (.lload_n 1, 1) := by decide +kernel
theorem dX7_isWrapped_17 : decode cX7_isWrapped 17 = .ok (.invokestatic 103, 3) := by decide +kernel
theorem dX7_isWrapped_20 : decode cX7_isWrapped 20 = .ok (.iadd, 1) := by decide +kernel
theorem dX7_isWrapped_21 : decode cX7_isWrapped 21 = .ok (.bipush 13, 2) := by decide +kernel
theorem dX7_isWrapped_23 : decode cX7_isWrapped 23 = .ok (.if_icmp .le 7, 3) := by decide +kernel
theorem dX7_isWrapped_26 : decode cX7_isWrapped 26 = .ok (.iconst 1, 1) := by decide +kernel
theorem dX7_isWrapped_27 : decode cX7_isWrapped 27 = .ok (.goto 4, 3) := by decide +kernel
theorem dX7_isWrapped_30 : decode cX7_isWrapped 30 = .ok (.iconst 0, 1) := by decide +kernel
theorem dX7_isWrapped_31 : decode cX7_isWrapped 31 = .ok (.ireturn, 1) := by decide +kernel
theorem dX7_countMelds_0 : decode cX7_countMelds 0 = .ok (.iconst 0, 1) := by decide +kernel
theorem dX7_countMelds_1 : decode cX7_countMelds 1 = .ok (.istore_n 2, 1) := by decide +kernel
theorem dX7_countMelds_2 : decode cX7_countMelds 2 = .ok (.iconst 0, 1) := by decide +kernel
theorem dX7_countMelds_3 : decode cX7_countMelds 3 = .ok (.istore_n 3, 1) := by decide +kernel
theorem dX7_countMelds_4 : decode cX7_countMelds 4 = .ok (.iload_n 3, 1) := by decide +kernel
theorem dX7_countMelds_5 : decode cX7_countMelds 5 = .ok (.aload_n 0, 1) := by decide +kernel
theorem dX7_countMelds_6 : decode cX7_countMelds 6 = .ok (.getfield 137, 3) := by decide +kernel
theorem dX7_countMelds_9 : decode cX7_countMelds 9 = .ok (.if_icmp .ge 76, 3) := by decide +kernel
theorem dX7_countMelds_12 : decode cX7_countMelds 12 = .ok (.iload_n 1, 1) := by decide +kernel
theorem dX7_countMelds_13 : decode cX7_countMelds 13 = .ok (.iconst 4, 1) := by decide +kernel
theorem dX7_countMelds_14 : decode cX7_countMelds 14 = .ok (.if_icmp .ne 15, 3) := by decide +kernel
theorem dX7_countMelds_17 : decode cX7_countMelds 17 = .ok (.aload_n 0, 1) := by decide +kernel
theorem dX7_countMelds_18 : decode cX7_countMelds 18 = .ok (.getfield 44, 3) := by decide +kernel
theorem dX7_countMelds_21 : decode cX7_countMelds 21 = .ok (.iload_n 3, 1) := by decide +kernel
theorem dX7_countMelds_22 : decode cX7_countMelds 22 = .ok (.laload, 1) := by decide +kernel
theorem dX7_countMelds_23 : decode cX7_countMelds 23 = .ok (.invokestatic 160, 3) := by decide +kernel
theorem dX7_countMelds_26 : decode cX7_countMelds 26 = .ok (.goto 38, 3) := by decide +kernel
theorem dX7_countMelds_29 : decode cX7_countMelds 29 = .ok (.iload_n 1, 1) := by decide +kernel
theorem dX7_countMelds_30 : decode cX7_countMelds 30 = .ok (.iconst 5, 1) := by decide +kernel
theorem dX7_countMelds_31 : decode cX7_countMelds 31 = .ok (.if_icmp .ne 23, 3) := by decide +kernel
theorem dX7_countMelds_34 : decode cX7_countMelds 34 = .ok (.aload_n 0, 1) := by decide +kernel
theorem dX7_countMelds_35 : decode cX7_countMelds 35 = .ok (.getfield 44, 3) := by decide +kernel
theorem dX7_countMelds_38 : decode cX7_countMelds 38 = .ok (.iload_n 3, 1) := by decide +kernel
theorem dX7_countMelds_39 : decode cX7_countMelds 39 = .ok (.laload, 1) := by decide +kernel
theorem dX7_countMelds_40 : decode cX7_countMelds 40 = .ok (.invokestatic 160, 3) := by decide +kernel
theorem dX7_countMelds_43 : decode cX7_countMelds 43 = .ok (.ifCond .ne 7, 3) := by decide +kernel
theorem dX7_countMelds_46 : decode cX7_countMelds 46 = .ok (.iconst 1, 1) := by decide +kernel
theorem dX7_countMelds_47 : decode cX7_countMelds 47 = .ok (.goto 17, 3) := by decide +kernel
theorem dX7_countMelds_50 : decode cX7_countMelds 50 = .ok (.iconst 0, 1) := by decide +kernel
theorem dX7_countMelds_51 : decode cX7_countMelds 51 = .ok (.goto 13, 3) := by decide +kernel
theorem dX7_countMelds_54 : decode cX7_countMelds 54 = .ok (.aload_n 0, 1) := by decide +kernel
theorem dX7_countMelds_55 : decode cX7_countMelds 55 = .ok (.aload_n 0, 1) := by decide +kernel
theorem dX7_countMelds_56 : decode cX7_countMelds 56 = .ok (.getfield 44, 3) := by decide +kernel
theorem dX7_countMelds_59 : decode cX7_countMelds 59 = .ok (.iload_n 3, 1) := by decide +kernel
theorem dX7_countMelds_60 : decode cX7_countMelds 60 = .ok (.laload, 1) := by decide +kernel
theorem dX7_countMelds_61 : decode cX7_countMelds 61 = .ok (.invokevirtual 335, 3) := by decide +kernel
theorem dX7_countMelds_64 : decode cX7_countMelds 64 = .ok (.istore 4, 2) := by decide +kernel
theorem dX7_countMelds_66 : decode cX7_countMelds 66 = .ok (.iload_n 2, 1) := by decide +kernel
theorem dX7_countMelds_67 : decode cX7_countMelds 67 = .ok (.iload 4, 2) := by decide +kernel
theorem dX7_countMelds_69 : decode cX7_countMelds 69 = .ok (.ifCond .eq 7, 3) := by decide +kernel
theorem dX7_countMelds_72 : decode cX7_countMelds 72 = .ok (.iconst 1, 1) := by decide +kernel
theorem dX7_countMelds_73 : decode cX7_countMelds 73 = .ok (.goto 4, 3) := by decide +kernel
theorem dX7_countMelds_76 : decode cX7_countMelds 76 = .ok (.iconst 0, 1) := by decide +kernel
theorem dX7_countMelds_77 : decode cX7_countMelds 77 = .ok (.iadd, 1) := by decide +kernel
theorem dX7_countMelds_78 : decode cX7_countMelds 78 = .ok (.istore_n 2, 1) := by decide +kernel
theorem dX7_countMelds_79 : decode cX7_countMelds 79 = .ok (.iinc 3 1, 3) := by decide +kernel
theorem dX7_countMelds_82 : decode cX7_countMelds 82 = .ok (.goto (-78), 3) := by decide +kernel
theorem dX7_countMelds_85 : decode cX7_countMelds 85 = .ok (.iload_n 2, 1) := by decide +kernel
theorem dX7_countMelds_86 : decode cX7_countMelds 86 = .ok (.ireturn, 1) := by decide +kernel
theorem dX7_player_0 : decode cX7_player 0 = .ok (.aload_n 0, 1) := by decide +kernel
theorem dX7_player_1 : decode cX7_player 1 = .ok (.iconst 0, 1) := by decide +kernel
theorem dX7_player_2 : decode cX7_player 2 = .ok (.putfield 62, 3) := by decide +kernel
theorem dX7_player_5 : decode cX7_player 5 = .ok (.aload_n 0, 1) := by decide +kernel
theorem dX7_player_6 : decode cX7_player 6 = .ok (.iload_n 1, 1) := by decide +kernel
theorem dX7_player_7 : decode cX7_player 7 = .ok (.invokevirtual 338, 3) := by decide +kernel
theorem dX7_player_10 : decode cX7_player 10 = .ok (.ifCond .ne 17, 3) := by decide +kernel
theorem dX7_player_13 : decode cX7_player 13 = .ok (.aload_n 0, 1) := by decide +kernel
theorem dX7_player_14 : decode cX7_player 14 = .ok (.iload_n 2, 1) := by decide +kernel
theorem dX7_player_15 : decode cX7_player 15 = .ok (.i2l, 1) := by decide +kernel
theorem dX7_player_16 : decode cX7_player 16 = .ok (.lconst 0, 1) := by decide +kernel
theorem dX7_player_17 : decode cX7_player 17 = .ok (.ldc2_w 341, 3) := by decide +kernel
theorem dX7_player_20 : decode cX7_player 20 = .ok (.iconst 1, 1) := by decide +kernel
theorem dX7_player_21 : decode cX7_player 21 = .ok (.invokevirtual 72, 3) := by decide +kernel
theorem dX7_player_24 : decode cX7_player 24 = .ok (.ifCond .eq 5, 3) := by decide +kernel
theorem dX7_player_27 : decode cX7_player 27 = .ok (.iconst 0, 1) := by decide +kernel
theorem dX7_player_28 : decode cX7_player 28 = .ok (.ireturn, 1) := by decide +kernel
theorem dX7_player_29 : decode cX7_player 29 = .ok (.aload_n 0, 1) := by decide +kernel
theorem dX7_player_30 : decode cX7_player 30 = .ok (.iload_n 1, 1) := by decide +kernel
theorem dX7_player_31 : decode cX7_player 31 = .ok (.invokevirtual 177, 3) := by decide +kernel
theorem dX7_player_34 : decode cX7_player 34 = .ok (.iload_n 2, 1) := by decide +kernel
theorem dX7_player_35 : decode cX7_player 35 = .ok (.tableswitch 80 0 6 #[41, 46, 51, 56, 80, 80, 64], 41) := by decide +kernel
theorem dX7_player_76 : decode cX7_player 76 = .ok (.aload_n 0, 1) := by decide +kernel
theorem dX7_player_77 : decode cX7_player 77 = .ok (.getfield 100, 3) := by decide +kernel
theorem dX7_player_80 : decode cX7_player 80 = .ok (.ireturn, 1) := by decide +kernel
theorem dX7_player_81 : decode cX7_player 81 = .ok (.aload_n 0, 1) := by decide +kernel
theorem dX7_player_82 : decode cX7_player 82 = .ok (.getfield 134, 3) := by decide +kernel
theorem dX7_player_85 : decode cX7_player 85 = .ok (.ireturn, 1) := by decide +kernel
theorem dX7_player_86 : decode cX7_player 86 = .ok (.aload_n 0, 1) := by decide +kernel
theorem dX7_player_87 : decode cX7_player 87 = .ok (.getfield 137, 3) := by decide +kernel
theorem dX7_player_90 : decode cX7_player 90 = .ok (.ireturn, 1) := by decide +kernel
theorem dX7_player_91 : decode cX7_player 91 = .ok (.aload_n 0, 1) := by decide +kernel
theorem dX7_player_92 : decode cX7_player 92 = .ok (.getfield 140, 3) := by decide +kernel
theorem dX7_player_95 : decode cX7_player 95 = .ok (.invokestatic 103, 3) := by decide +kernel
theorem dX7_player_98 : decode cX7_player 98 = .ok (.ireturn, 1) := by decide +kernel
theorem dX7_player_99 : decode cX7_player 99 = .ok (.aload_n 0, 1) := by decide +kernel
theorem dX7_player_100 : decode cX7_player 100 = .ok (.iconst 1, 1) := by decide +kernel
theorem dX7_player_101 : decode cX7_player 101 = .ok (.aload_n 0, 1) := by decide +kernel
theorem dX7_player_102 : decode cX7_player 102 = .ok (.getfield 100, 3) := by decide +kernel
theorem dX7_player_105 : decode cX7_player 105 = .ok (.ishl, 1) := by decide +kernel
theorem dX7_player_106 : decode cX7_player 106 = .ok (.iconst 1, 1) := by decide +kernel
theorem dX7_player_107 : decode cX7_player 107 = .ok (.isub, 1) := by decide +kernel
theorem dX7_player_108 : decode cX7_player 108 = .ok (.invokevirtual 144, 3) := by decide +kernel
theorem dX7_player_111 : decode cX7_player 111 = .ok (.invokestatic 186, 3) := by decide +kernel
theorem dX7_player_114 : decode cX7_player 114 = .ok (.ireturn, 1) := by decide +kernel
theorem dX7_player_115 : decode cX7_player 115 = .ok (.aload_n 0, 1) := by decide +kernel
theorem dX7_player_116 : decode cX7_player 116 = .ok (.iload_n 2, 1) := by decide +kernel
theorem dX7_player_117 : decode cX7_player 117 = .ok (.invokevirtual 343, 3) := by decide +kernel
theorem dX7_player_120 : decode cX7_player 120 = .ok (.ireturn, 1) := by decide +kernel
theorem dX7_card_0 : decode cX7_card 0 = .ok (.aload_n 0, 1) := by decide +kernel
theorem dX7_card_1 : decode cX7_card 1 = .ok (.iconst 0, 1) := by decide +kernel
theorem dX7_card_2 : decode cX7_card 2 = .ok (.putfield 62, 3) := by decide +kernel
theorem dX7_card_5 : decode cX7_card 5 = .ok (.aload_n 0, 1) := by decide +kernel
theorem dX7_card_6 : decode cX7_card 6 = .ok (.iload_n 1, 1) := by decide +kernel
theorem dX7_card_7 : decode cX7_card 7 = .ok (.invokevirtual 338, 3) := by decide +kernel
theorem dX7_card_10 : decode cX7_card 10 = .ok (.ifCond .eq 5, 3) := by decide +kernel
theorem dX7_card_13 : decode cX7_card 13 = .ok (.iconst 0, 1) := by decide +kernel
theorem dX7_card_14 : decode cX7_card 14 = .ok (.ireturn, 1) := by decide +kernel
theorem dX7_card_15 : decode cX7_card 15 = .ok (.aload_n 0, 1) := by decide +kernel
theorem dX7_card_16 : decode cX7_card 16 = .ok (.iload_n 1, 1) := by decide +kernel
theorem dX7_card_17 : decode cX7_card 17 = .ok (.iconst (-1), 1) := by decide +kernel
theorem dX7_card_18 : decode cX7_card 18 = .ok (.iconst (-1), 1) := by decide +kernel
theorem dX7_card_19 : decode cX7_card 19 = .ok (.invokevirtual 148, 3) := by decide +kernel
theorem dX7_card_22 : decode cX7_card 22 = .ok (.iload_n 2, 1) := by decide +kernel
theorem dX7_card_23 : decode cX7_card 23 = .ok (.ifCond .lt 11, 3) := by decide +kernel
theorem dX7_card_26 : decode cX7_card 26 = .ok (.iload_n 2, 1) := by decide +kernel
theorem dX7_card_27 : decode cX7_card 27 = .ok (.aload_n 0, 1) := by decide +kernel
theorem dX7_card_28 : decode cX7_card 28 = .ok (.getfield 100, 3) := by decide +kernel
theorem dX7_card_31 : decode cX7_card 31 = .ok (.if_icmp .lt 7, 3) := by decide +kernel
theorem dX7_card_34 : decode cX7_card 34 = .ok (.iconst (-1), 1) := by decide +kernel
theorem dX7_card_35 : decode cX7_card 35 = .ok (.goto 9, 3) := by decide +kernel
theorem dX7_card_38 : decode cX7_card 38 = .ok (.aload_n 0, 1) := by decide +kernel
theorem dX7_card_39 : decode cX7_card 39 = .ok (.getfield 35, 3) := by decide +kernel
theorem dX7_card_42 : decode cX7_card 42 = .ok (.iload_n 2, 1) := by decide +kernel
theorem dX7_card_43 : decode cX7_card 43 = .ok (.iaload, 1) := by decide +kernel
theorem dX7_card_44 : decode cX7_card 44 = .ok (.ireturn, 1) := by decide +kernel
theorem dX7_where_0 : decode cX7_where 0 = .ok (.aload_n 0, 1) := by decide +kernel
theorem dX7_where_1 : decode cX7_where 1 = .ok (.iconst 0, 1) := by decide +kernel
theorem dX7_where_2 : decode cX7_where 2 = .ok (.putfield 62, 3) := by decide +kernel
theorem dX7_where_5 : decode cX7_where 5 = .ok (.aload_n 0, 1) := by decide +kernel
theorem dX7_where_6 : decode cX7_where 6 = .ok (.iload_n 1, 1) := by decide +kernel
theorem dX7_where_7 : decode cX7_where 7 = .ok (.i2l, 1) := by decide +kernel
theorem dX7_where_8 : decode cX7_where 8 = .ok (.lconst 0, 1) := by decide +kernel
theorem dX7_where_9 : decode cX7_where 9 = .ok (.ldc2_w 346, 3) := by decide +kernel
theorem dX7_where_12 : decode cX7_where 12 = .ok (.iconst 1, 1) := by decide +kernel
theorem dX7_where_13 : decode cX7_where 13 = .ok (.invokevirtual 72, 3) := by decide +kernel
theorem dX7_where_16 : decode cX7_where 16 = .ok (.ifCond .eq 7, 3) := by decide +kernel
theorem dX7_where_19 : decode cX7_where 19 = .ok (.iconst 0, 1) := by decide +kernel
theorem dX7_where_20 : decode cX7_where 20 = .ok (.goto 12, 3) := by decide +kernel
theorem dX7_where_23 : decode cX7_where 23 = .ok (.aload_n 0, 1) := by decide +kernel
theorem dX7_where_24 : decode cX7_where 24 = .ok (.getfield 9, 3) := by decide +kernel
theorem dX7_where_27 : decode cX7_where 27 = .ok (.bipush 119, 2) := by decide +kernel
theorem dX7_where_29 : decode cX7_where 29 = .ok (.iload_n 1, 1) := by decide +kernel
theorem dX7_where_30 : decode cX7_where 30 = .ok (.iadd, 1) := by decide +kernel
theorem dX7_where_31 : decode cX7_where 31 = .ok (.iaload, 1) := by decide +kernel
theorem dX7_where_32 : decode cX7_where 32 = .ok (.ireturn, 1) := by decide +kernel
theorem dX7_meldOf_0 : decode cX7_meldOf 0 = .ok (.aload_n 0, 1) := by decide +kernel
theorem dX7_meldOf_1 : decode cX7_meldOf 1 = .ok (.iconst 0, 1) := by decide +kernel
theorem dX7_meldOf_2 : decode cX7_meldOf 2 = .ok (.putfield 62, 3) := by decide +kernel
theorem dX7_meldOf_5 : decode cX7_meldOf 5 = .ok (.aload_n 0, 1) := by decide +kernel
theorem dX7_meldOf_6 : decode cX7_meldOf 6 = .ok (.iload_n 1, 1) := by decide +kernel
theorem dX7_meldOf_7 : decode cX7_meldOf 7 = .ok (.invokevirtual 338, 3) := by decide +kernel
theorem dX7_meldOf_10 : decode cX7_meldOf 10 = .ok (.ifCond .eq 5, 3) := by decide +kernel
theorem dX7_meldOf_13 : decode cX7_meldOf 13 = .ok (.iconst 0, 1) := by decide +kernel
theorem dX7_meldOf_14 : decode cX7_meldOf 14 = .ok (.ireturn, 1) := by decide +kernel
theorem dX7_meldOf_15 : decode cX7_meldOf 15 = .ok (.aload_n 0, 1) := by decide +kernel
theorem dX7_meldOf_16 : decode cX7_meldOf 16 = .ok (.iload_n 1, 1) := by decide +kernel
theorem dX7_meldOf_17 : decode cX7_meldOf 17 = .ok (.iload_n 2, 1) := by decide +kernel
theorem dX7_meldOf_18 : decode cX7_meldOf 18 = .ok (.invokevirtual 76, 3) := by decide +kernel
theorem dX7_meldOf_21 : decode cX7_meldOf 21 = .ok (.ifCond .ne 10, 3) := by decide +kernel
theorem dX7_meldOf_24 : decode cX7_meldOf 24 = .ok (.aload_n 0, 1) := by decide +kernel
theorem dX7_meldOf_25 : decode cX7_meldOf 25 = .ok (.iconst 2, 1) := by decide +kernel
theorem dX7_meldOf_26 : decode cX7_meldOf 26 = .ok (.putfield 62, 3) := by decide +kernel
theorem dX7_meldOf_29 : decode cX7_meldOf 29 = .ok (.iconst 0, 1) := by decide +kernel
theorem dX7_meldOf_30 : decode cX7_meldOf 30 = .ok (.ireturn, 1) := by decide +kernel
theorem dX7_meldOf_31 : decode cX7_meldOf 31 = .ok (.aload_n 0, 1) := by decide +kernel
theorem dX7_meldOf_32 : decode cX7_meldOf 32 = .ok (.iload_n 1, 1) := by decide +kernel
theorem dX7_meldOf_33 : decode cX7_meldOf 33 = .ok (.invokevirtual 177, 3) := by decide +kernel
theorem dX7_meldOf_36 : decode cX7_meldOf 36 = .ok (.iconst 0, 1) := by decide +kernel
theorem dX7_meldOf_37 : decode cX7_meldOf 37 = .ok (.istore_n 3, 1) := by decide +kernel
theorem dX7_meldOf_38 : decode cX7_meldOf 38 = .ok (.iload_n 3, 1) := by decide +kernel
theorem dX7_meldOf_39 : decode cX7_meldOf 39 = .ok (.aload_n 0, 1) := by decide +kernel
theorem dX7_meldOf_40 : decode cX7_meldOf 40 = .ok (.getfield 137, 3) := by decide +kernel
theorem dX7_meldOf_43 : decode cX7_meldOf 43 = .ok (.if_icmp .ge 26, 3) := by decide +kernel
theorem dX7_meldOf_46 : decode cX7_meldOf 46 = .ok (.aload_n 0, 1) := by decide +kernel
theorem dX7_meldOf_47 : decode cX7_meldOf 47 = .ok (.getfield 44, 3) := by decide +kernel
theorem dX7_meldOf_50 : decode cX7_meldOf 50 = .ok (.iload_n 3, 1) := by decide +kernel
theorem dX7_meldOf_51 : decode cX7_meldOf 51 = .ok (.laload, 1) := by decide +kernel
theorem dX7_meldOf_52 : decode cX7_meldOf 52 = .ok (.iload_n 2, 1) := by decide +kernel
theorem dX7_meldOf_53 : decode cX7_meldOf 53 = .ok (.lshr, 1) := by decide +kernel
theorem dX7_meldOf_54 : decode cX7_meldOf 54 = .ok (.lconst 1, 1) := by decide +kernel
theorem dX7_meldOf_55 : decode cX7_meldOf 55 = .ok (.land, 1) := by decide +kernel
theorem dX7_meldOf_56 : decode cX7_meldOf 56 = .ok (.lconst 1, 1) := by decide +kernel
theorem dX7_meldOf_57 : decode cX7_meldOf 57 = .ok (.lcmp, 1) := by decide +kernel
theorem dX7_meldOf_58 : decode cX7_meldOf 58 = .ok (.ifCond .ne 5, 3) := by decide +kernel
theorem dX7_meldOf_61 : decode cX7_meldOf 61 = .ok (.iload_n 3, 1) := by decide +kernel
theorem dX7_meldOf_62 : decode cX7_meldOf 62 = .ok (.ireturn, 1) := by decide +kernel
theorem dX7_meldOf_63 : decode cX7_meldOf 63 = .ok (.iinc 3 1, 3) := by decide +kernel
theorem dX7_meldOf_66 : decode cX7_meldOf 66 = .ok (.goto (-28), 3) := by decide +kernel
theorem dX7_meldOf_69 : decode cX7_meldOf 69 = .ok (.iconst (-1), 1) := by decide +kernel
theorem dX7_meldOf_70 : decode cX7_meldOf 70 = .ok (.ireturn, 1) := by decide +kernel
theorem dX7_meld_0 : decode cX7_meld 0 = .ok (.aload_n 0, 1) := by decide +kernel
theorem dX7_meld_1 : decode cX7_meld 1 = .ok (.iconst 0, 1) := by decide +kernel
theorem dX7_meld_2 : decode cX7_meld 2 = .ok (.putfield 62, 3) := by decide +kernel
theorem dX7_meld_5 : decode cX7_meld 5 = .ok (.aload_n 0, 1) := by decide +kernel
theorem dX7_meld_6 : decode cX7_meld 6 = .ok (.iload_n 1, 1) := by decide +kernel
theorem dX7_meld_7 : decode cX7_meld 7 = .ok (.invokevirtual 338, 3) := by decide +kernel
theorem dX7_meld_10 : decode cX7_meld 10 = .ok (.ifCond .ne 17, 3) := by decide +kernel
theorem dX7_meld_13 : decode cX7_meld 13 = .ok (.aload_n 0, 1) := by decide +kernel
theorem dX7_meld_14 : decode cX7_meld 14 = .ok (.iload_n 3, 1) := by decide +kernel
theorem dX7_meld_15 : decode cX7_meld 15 = .ok (.i2l, 1) := by decide +kernel
theorem dX7_meld_16 : decode cX7_meld 16 = .ok (.lconst 0, 1) := by decide +kernel
theorem dX7_meld_17 : decode cX7_meld 17 = .ok (.ldc2_w 348, 3) := by decide +kernel
theorem dX7_meld_20 : decode cX7_meld 20 = .ok (.iconst 1, 1) := by decide +kernel
theorem dX7_meld_21 : decode cX7_meld 21 = .ok (.invokevirtual 72, 3) := by decide +kernel
theorem dX7_meld_24 : decode cX7_meld 24 = .ok (.ifCond .eq 5, 3) := by decide +kernel
theorem dX7_meld_27 : decode cX7_meld 27 = .ok (.iconst 0, 1) := by decide +kernel
theorem dX7_meld_28 : decode cX7_meld 28 = .ok (.ireturn, 1) := by decide +kernel
theorem dX7_meld_29 : decode cX7_meld 29 = .ok (.aload_n 0, 1) := by decide +kernel
theorem dX7_meld_30 : decode cX7_meld 30 = .ok (.iload_n 1, 1) := by decide +kernel
theorem dX7_meld_31 : decode cX7_meld 31 = .ok (.invokevirtual 177, 3) := by decide +kernel
theorem dX7_meld_34 : decode cX7_meld 34 = .ok (.iload_n 2, 1) := by decide +kernel
theorem dX7_meld_35 : decode cX7_meld 35 = .ok (.ifCond .lt 11, 3) := by decide +kernel
theorem dX7_meld_38 : decode cX7_meld 38 = .ok (.iload_n 2, 1) := by decide +kernel
theorem dX7_meld_39 : decode cX7_meld 39 = .ok (.aload_n 0, 1) := by decide +kernel
theorem dX7_meld_40 : decode cX7_meld 40 = .ok (.getfield 137, 3) := by decide +kernel
theorem dX7_meld_43 : decode cX7_meld 43 = .ok (.if_icmp .lt 5, 3) := by decide +kernel
theorem dX7_meld_46 : decode cX7_meld 46 = .ok (.iconst (-1), 1) := by decide +kernel
theorem dX7_meld_47 : decode cX7_meld 47 = .ok (.ireturn, 1) := by decide +kernel
theorem dX7_meld_48 : decode cX7_meld 48 = .ok (.aload_n 0, 1) := by decide +kernel
theorem dX7_meld_49 : decode cX7_meld 49 = .ok (.getfield 44, 3) := by decide +kernel
theorem dX7_meld_52 : decode cX7_meld 52 = .ok (.iload_n 2, 1) := by decide +kernel
theorem dX7_meld_53 : decode cX7_meld 53 = .ok (.laload, 1) := by decide +kernel
theorem dX7_meld_54 : decode cX7_meld 54 = .ok (.lstore 4, 2) := by decide +kernel
theorem dX7_meld_56 : decode cX7_meld 56 = .ok (.iload_n 3, 1) := by decide +kernel
theorem dX7_meld_57 : decode cX7_meld 57 = .ok (.tableswitch 72 0 2 #[27, 33, 47], 27) := by decide +kernel
theorem dX7_meld_84 : decode cX7_meld 84 = .ok (.lload 4, 2) := by decide +kernel
theorem dX7_meld_86 : decode cX7_meld 86 = .ok (.invokestatic 103, 3) := by decide +kernel
theorem dX7_meld_89 : decode cX7_meld 89 = .ok (.ireturn, 1) := by decide +kernel
theorem dX7_meld_90 : decode cX7_meld 90 = .ok (.lload 4, 2) := by decide +kernel
theorem dX7_meld_92 : decode cX7_meld 92 = .ok (.invokestatic 160, 3) := by decide +kernel
theorem dX7_meld_95 : decode cX7_meld 95 = .ok (.ifCond .eq 7, 3) := by decide +kernel
theorem dX7_meld_98 : decode cX7_meld 98 = .ok (.iconst 0, 1) := by decide +kernel
theorem dX7_meld_99 : decode cX7_meld 99 = .ok (.goto 4, 3) := by decide +kernel
theorem dX7_meld_102 : decode cX7_meld 102 = .ok (.iconst 1, 1) := by decide +kernel
theorem dX7_meld_103 : decode cX7_meld 103 = .ok (.ireturn, 1) := by decide +kernel
theorem dX7_meld_104 : decode cX7_meld 104 = .ok (.lload 4, 2) := by decide +kernel
theorem dX7_meld_106 : decode cX7_meld 106 = .ok (.invokestatic 160, 3) := by decide +kernel
theorem dX7_meld_109 : decode cX7_meld 109 = .ok (.ifCond .eq 14, 3) := by decide +kernel
theorem dX7_meld_112 : decode cX7_meld 112 = .ok (.lload 4, 2) := by decide +kernel
theorem dX7_meld_114 : decode cX7_meld 114 = .ok (.invokestatic 155, 3) := by decide +kernel
theorem dX7_meld_117 : decode cX7_meld 117 = .ok (.bipush 13, 2) := by decide +kernel
theorem dX7_meld_119 : decode cX7_meld 119 = .ok (.irem, 1) := by decide +kernel
theorem dX7_meld_120 : decode cX7_meld 120 = .ok (.goto 8, 3) := by decide +kernel
theorem dX7_meld_123 : decode cX7_meld 123 = .ok (.lload 4, 2) := by decide +kernel
theorem dX7_meld_125 : decode cX7_meld 125 = .ok (.invokestatic 164, 3) := by decide +kernel
theorem dX7_meld_128 : decode cX7_meld 128 = .ok (.ireturn, 1) := by decide +kernel
theorem dX7_meld_129 : decode cX7_meld 129 = .ok (.lload 4, 2) := by decide +kernel
theorem dX7_meld_131 : decode cX7_meld 131 = .ok (.invokestatic 186, 3) := by decide +kernel
theorem dX7_meld_134 : decode cX7_meld 134 = .ok (.ireturn, 1) := by decide +kernel
theorem dX7_restWithout_0 : decode cX7_restWithout 0 = .ok (.aload_n 0, 1) := by decide +kernel
theorem dX7_restWithout_1 : decode cX7_restWithout 1 = .ok (.iconst 0, 1) := by decide +kernel
theorem dX7_restWithout_2 : decode cX7_restWithout 2 = .ok (.putfield 62, 3) := by decide +kernel
theorem dX7_restWithout_5 : decode cX7_restWithout 5 = .ok (.aload_n 0, 1) := by decide +kernel
theorem dX7_restWithout_6 : decode cX7_restWithout 6 = .ok (.iload_n 1, 1) := by decide +kernel
theorem dX7_restWithout_7 : decode cX7_restWithout 7 = .ok (.invokevirtual 229, 3) := by decide +kernel
theorem dX7_restWithout_10 : decode cX7_restWithout 10 = .ok (.ifCond .eq 7, 3) := by decide +kernel
theorem dX7_restWithout_13 : decode cX7_restWithout 13 = .ok (.iconst 0, 1) := by decide +kernel
theorem dX7_restWithout_14 : decode cX7_restWithout 14 = .ok (.goto 8, 3) := by decide +kernel
theorem dX7_restWithout_17 : decode cX7_restWithout 17 = .ok (.aload_n 0, 1) := by decide +kernel
theorem dX7_restWithout_18 : decode cX7_restWithout 18 = .ok (.iload_n 1, 1) := by decide +kernel
theorem dX7_restWithout_19 : decode cX7_restWithout 19 = .ok (.invokevirtual 195, 3) := by decide +kernel
theorem dX7_restWithout_22 : decode cX7_restWithout 22 = .ok (.ireturn, 1) := by decide +kernel
theorem dX7_canDrop_0 : decode cX7_canDrop 0 = .ok (.aload_n 0, 1) := by decide +kernel
theorem dX7_canDrop_1 : decode cX7_canDrop 1 = .ok (.getfield 9, 3) := by decide +kernel
theorem dX7_canDrop_4 : decode cX7_canDrop 4 = .ok (.bipush 6, 2) := by decide +kernel
theorem dX7_canDrop_6 : decode cX7_canDrop 6 = .ok (.iaload, 1) := by decide +kernel
theorem dX7_canDrop_7 : decode cX7_canDrop 7 = .ok (.ifCond .ne 17, 3) := by decide +kernel
theorem dX7_canDrop_10 : decode cX7_canDrop 10 = .ok (.aload_n 0, 1) := by decide +kernel
theorem dX7_canDrop_11 : decode cX7_canDrop 11 = .ok (.getfield 9, 3) := by decide +kernel
theorem dX7_canDrop_14 : decode cX7_canDrop 14 = .ok (.iconst 5, 1) := by decide +kernel
theorem dX7_canDrop_15 : decode cX7_canDrop 15 = .ok (.iaload, 1) := by decide +kernel
theorem dX7_canDrop_16 : decode cX7_canDrop 16 = .ok (.iconst 1, 1) := by decide +kernel
theorem dX7_canDrop_17 : decode cX7_canDrop 17 = .ok (.if_icmp .ne 7, 3) := by decide +kernel
theorem dX7_canDrop_20 : decode cX7_canDrop 20 = .ok (.iconst 1, 1) := by decide +kernel
theorem dX7_canDrop_21 : decode cX7_canDrop 21 = .ok (.goto 4, 3) := by decide +kernel
theorem dX7_canDrop_24 : decode cX7_canDrop 24 = .ok (.iconst 0, 1) := by decide +kernel
theorem dX7_canDrop_25 : decode cX7_canDrop 25 = .ok (.ireturn, 1) := by decide +kernel
theorem dX7_leastBehind_0 : decode cX7_leastBehind 0 = .ok (.aload_n 0, 1) := by decide +kernel
theorem dX7_leastBehind_1 : decode cX7_leastBehind 1 = .ok (.invokevirtual 130, 3) := by decide +kernel
theorem dX7_leastBehind_4 : decode cX7_leastBehind 4 = .ok (.istore_n 2, 1) := by decide +kernel
theorem dX7_leastBehind_5 : decode cX7_leastBehind 5 = .ok (.ldc_w 352, 3) := by decide +kernel
theorem dX7_leastBehind_8 : decode cX7_leastBehind 8 = .ok (.istore_n 3, 1) := by decide +kernel
theorem dX7_leastBehind_9 : decode cX7_leastBehind 9 = .ok (.iconst 0, 1) := by decide +kernel
theorem dX7_leastBehind_10 : decode cX7_leastBehind 10 = .ok (.istore 4, 2) := by decide +kernel
theorem dX7_leastBehind_12 : decode cX7_leastBehind 12 = .ok (.iload 4, 2) := by decide +kernel
theorem dX7_leastBehind_14 : decode cX7_leastBehind 14 = .ok (.aload_n 0, 1) := by decide +kernel
theorem dX7_leastBehind_15 : decode cX7_leastBehind 15 = .ok (.getfield 100, 3) := by decide +kernel
theorem dX7_leastBehind_18 : decode cX7_leastBehind 18 = .ok (.if_icmp .ge 55, 3) := by decide +kernel
theorem dX7_leastBehind_21 : decode cX7_leastBehind 21 = .ok (.aload_n 0, 1) := by decide +kernel
theorem dX7_leastBehind_22 : decode cX7_leastBehind 22 = .ok (.getfield 41, 3) := by decide +kernel
theorem dX7_leastBehind_25 : decode cX7_leastBehind 25 = .ok (.iconst 1, 1) := by decide +kernel
theorem dX7_leastBehind_26 : decode cX7_leastBehind 26 = .ok (.aload_n 0, 1) := by decide +kernel
theorem dX7_leastBehind_27 : decode cX7_leastBehind 27 = .ok (.getfield 100, 3) := by decide +kernel
theorem dX7_leastBehind_30 : decode cX7_leastBehind 30 = .ok (.ishl, 1) := by decide +kernel
theorem dX7_leastBehind_31 : decode cX7_leastBehind 31 = .ok (.iconst 1, 1) := by decide +kernel
theorem dX7_leastBehind_32 : decode cX7_leastBehind 32 = .ok (.isub, 1) := by decide +kernel
theorem dX7_leastBehind_33 : decode cX7_leastBehind 33 = .ok (.iconst 1, 1) := by decide +kernel
theorem dX7_leastBehind_34 : decode cX7_leastBehind 34 = .ok (.iload 4, 2) := by decide +kernel
theorem dX7_leastBehind_36 : decode cX7_leastBehind 36 = .ok (.ishl, 1) := by decide +kernel
theorem dX7_leastBehind_37 : decode cX7_leastBehind 37 = .ok (.iconst (-1), 1) := by decide +kernel
theorem dX7_leastBehind_38 : decode cX7_leastBehind 38 = .ok (.ixor, 1) := by decide +kernel
theorem dX7_leastBehind_39 : decode cX7_leastBehind 39 = .ok (.iand, 1) := by decide +kernel
theorem dX7_leastBehind_40 : decode cX7_leastBehind 40 = .ok (.iaload, 1) := by decide +kernel
theorem dX7_leastBehind_41 : decode cX7_leastBehind 41 = .ok (.istore 5, 2) := by decide +kernel
theorem dX7_leastBehind_43 : decode cX7_leastBehind 43 = .ok (.aload_n 0, 1) := by decide +kernel
theorem dX7_leastBehind_44 : decode cX7_leastBehind 44 = .ok (.getfield 35, 3) := by decide +kernel
theorem dX7_leastBehind_47 : decode cX7_leastBehind 47 = .ok (.iload 4, 2) := by decide +kernel
theorem dX7_leastBehind_49 : decode cX7_leastBehind 49 = .ok (.iaload, 1) := by decide +kernel
theorem dX7_leastBehind_50 : decode cX7_leastBehind 50 = .ok (.iload_n 1, 1) := by decide +kernel
theorem dX7_leastBehind_51 : decode cX7_leastBehind 51 = .ok (.if_icmp .eq 14, 3) := by decide +kernel
theorem dX7_leastBehind_54 : decode cX7_leastBehind 54 = .ok (.iload 5, 2) := by decide +kernel
theorem dX7_leastBehind_56 : decode cX7_leastBehind 56 = .ok (.iload_n 3, 1) := by decide +kernel
theorem dX7_leastBehind_57 : decode cX7_leastBehind 57 = .ok (.if_icmp .ge 8, 3) := by decide +kernel
theorem dX7_leastBehind_60 : decode cX7_leastBehind 60 = .ok (.iload 5, 2) := by decide +kernel
theorem dX7_leastBehind_62 : decode cX7_leastBehind 62 = .ok (.goto 4, 3) := by decide +kernel
theorem dX7_leastBehind_65 : decode cX7_leastBehind 65 = .ok (.iload_n 3, 1) := by decide +kernel
theorem dX7_leastBehind_66 : decode cX7_leastBehind 66 = .ok (.istore_n 3, 1) := by decide +kernel
theorem dX7_leastBehind_67 : decode cX7_leastBehind 67 = .ok (.iinc 4 1, 3) := by decide +kernel
theorem dX7_leastBehind_70 : decode cX7_leastBehind 70 = .ok (.goto (-58), 3) := by decide +kernel
theorem dX7_leastBehind_73 : decode cX7_leastBehind 73 = .ok (.iload_n 3, 1) := by decide +kernel
theorem dX7_leastBehind_74 : decode cX7_leastBehind 74 = .ok (.ireturn, 1) := by decide +kernel
theorem dX7_bestDrop_0 : decode cX7_bestDrop 0 = .ok (.aload_n 0, 1) := by decide +kernel
theorem dX7_bestDrop_1 : decode cX7_bestDrop 1 = .ok (.iconst 0, 1) := by decide +kernel
theorem dX7_bestDrop_2 : decode cX7_bestDrop 2 = .ok (.putfield 62, 3) := by decide +kernel
theorem dX7_bestDrop_5 : decode cX7_bestDrop 5 = .ok (.aload_n 0, 1) := by decide +kernel
theorem dX7_bestDrop_6 : decode cX7_bestDrop 6 = .ok (.invokevirtual 353, 3) := by decide +kernel
theorem dX7_bestDrop_9 : decode cX7_bestDrop 9 = .ok (.ifCond .ne 5, 3) := by decide +kernel
theorem dX7_bestDrop_12 : decode cX7_bestDrop 12 = .ok (.iconst (-1), 1) := by decide +kernel
theorem dX7_bestDrop_13 : decode cX7_bestDrop 13 = .ok (.ireturn, 1) := by decide +kernel
theorem dX7_bestDrop_14 : decode cX7_bestDrop 14 = .ok (.aload_n 0, 1) := by decide +kernel
theorem dX7_bestDrop_15 : decode cX7_bestDrop 15 = .ok (.aload_n 0, 1) := by decide +kernel
theorem dX7_bestDrop_16 : decode cX7_bestDrop 16 = .ok (.getfield 9, 3) := by decide +kernel
theorem dX7_bestDrop_19 : decode cX7_bestDrop 19 = .ok (.iconst 4, 1) := by decide +kernel
theorem dX7_bestDrop_20 : decode cX7_bestDrop 20 = .ok (.iaload, 1) := by decide +kernel
theorem dX7_bestDrop_21 : decode cX7_bestDrop 21 = .ok (.iconst (-1), 1) := by decide +kernel
theorem dX7_bestDrop_22 : decode cX7_bestDrop 22 = .ok (.iconst (-1), 1) := by decide +kernel
theorem dX7_bestDrop_23 : decode cX7_bestDrop 23 = .ok (.invokevirtual 148, 3) := by decide +kernel
theorem dX7_bestDrop_26 : decode cX7_bestDrop 26 = .ok (.aload_n 0, 1) := by decide +kernel
theorem dX7_bestDrop_27 : decode cX7_bestDrop 27 = .ok (.aload_n 0, 1) := by decide +kernel
theorem dX7_bestDrop_28 : decode cX7_bestDrop 28 = .ok (.getfield 9, 3) := by decide +kernel
theorem dX7_bestDrop_31 : decode cX7_bestDrop 31 = .ok (.bipush 7, 2) := by decide +kernel
theorem dX7_bestDrop_33 : decode cX7_bestDrop 33 = .ok (.iaload, 1) := by decide +kernel
theorem dX7_bestDrop_34 : decode cX7_bestDrop 34 = .ok (.invokevirtual 356, 3) := by decide +kernel
theorem dX7_bestDrop_37 : decode cX7_bestDrop 37 = .ok (.istore_n 1, 1) := by decide +kernel
theorem dX7_bestDrop_38 : decode cX7_bestDrop 38 = .ok (.iconst (-1), 1) := by decide +kernel
theorem dX7_bestDrop_39 : decode cX7_bestDrop 39 = .ok (.istore_n 2, 1) := by decide +kernel
theorem dX7_bestDrop_40 : decode cX7_bestDrop 40 = .ok (.iconst 0, 1) := by decide +kernel
theorem dX7_bestDrop_41 : decode cX7_bestDrop 41 = .ok (.istore_n 3, 1) := by decide +kernel
theorem dX7_bestDrop_42 : decode cX7_bestDrop 42 = .ok (.iload_n 3, 1) := by decide +kernel
theorem dX7_bestDrop_43 : decode cX7_bestDrop 43 = .ok (.aload_n 0, 1) := by decide +kernel
theorem dX7_bestDrop_44 : decode cX7_bestDrop 44 = .ok (.getfield 100, 3) := by decide +kernel
theorem dX7_bestDrop_47 : decode cX7_bestDrop 47 = .ok (.if_icmp .ge 92, 3) := by decide +kernel
theorem dX7_bestDrop_50 : decode cX7_bestDrop 50 = .ok (.aload_n 0, 1) := by decide +kernel
theorem dX7_bestDrop_51 : decode cX7_bestDrop 51 = .ok (.getfield 35, 3) := by decide +kernel
theorem dX7_bestDrop_54 : decode cX7_bestDrop 54 = .ok (.iload_n 3, 1) := by decide +kernel
theorem dX7_bestDrop_55 : decode cX7_bestDrop 55 = .ok (.iaload, 1) := by decide +kernel
theorem dX7_bestDrop_56 : decode cX7_bestDrop 56 = .ok (.aload_n 0, 1) := by decide +kernel
theorem dX7_bestDrop_57 : decode cX7_bestDrop 57 = .ok (.getfield 9, 3) := by decide +kernel
theorem dX7_bestDrop_60 : decode cX7_bestDrop 60 = .ok (.bipush 7, 2) := by decide +kernel
theorem dX7_bestDrop_62 : decode cX7_bestDrop 62 = .ok (.iaload, 1) := by decide +kernel
theorem dX7_bestDrop_63 : decode cX7_bestDrop 63 = .ok (.if_icmp .eq 30, 3) := by decide +kernel
theorem dX7_bestDrop_66 : decode cX7_bestDrop 66 = .ok (.aload_n 0, 1) := by decide +kernel
theorem dX7_bestDrop_67 : decode cX7_bestDrop 67 = .ok (.getfield 41, 3) := by decide +kernel
theorem dX7_bestDrop_70 : decode cX7_bestDrop 70 = .ok (.iconst 1, 1) := by decide +kernel
theorem dX7_bestDrop_71 : decode cX7_bestDrop 71 = .ok (.aload_n 0, 1) := by decide +kernel
theorem dX7_bestDrop_72 : decode cX7_bestDrop 72 = .ok (.getfield 100, 3) := by decide +kernel
theorem dX7_bestDrop_75 : decode cX7_bestDrop 75 = .ok (.ishl, 1) := by decide +kernel
theorem dX7_bestDrop_76 : decode cX7_bestDrop 76 = .ok (.iconst 1, 1) := by decide +kernel
theorem dX7_bestDrop_77 : decode cX7_bestDrop 77 = .ok (.isub, 1) := by decide +kernel
theorem dX7_bestDrop_78 : decode cX7_bestDrop 78 = .ok (.iconst 1, 1) := by decide +kernel
theorem dX7_bestDrop_79 : decode cX7_bestDrop 79 = .ok (.iload_n 3, 1) := by decide +kernel
theorem dX7_bestDrop_80 : decode cX7_bestDrop 80 = .ok (.ishl, 1) := by decide +kernel
theorem dX7_bestDrop_81 : decode cX7_bestDrop 81 = .ok (.iconst (-1), 1) := by decide +kernel
theorem dX7_bestDrop_82 : decode cX7_bestDrop 82 = .ok (.ixor, 1) := by decide +kernel
theorem dX7_bestDrop_83 : decode cX7_bestDrop 83 = .ok (.iand, 1) := by decide +kernel
theorem dX7_bestDrop_84 : decode cX7_bestDrop 84 = .ok (.iaload, 1) := by decide +kernel
theorem dX7_bestDrop_85 : decode cX7_bestDrop 85 = .ok (.iload_n 1, 1) := by decide +kernel
theorem dX7_bestDrop_86 : decode cX7_bestDrop 86 = .ok (.if_icmp .ne 7, 3) := by decide +kernel
theorem dX7_bestDrop_89 : decode cX7_bestDrop 89 = .ok (.iconst 1, 1) := by decide +kernel
theorem dX7_bestDrop_90 : decode cX7_bestDrop 90 = .ok (.goto 4, 3) := by decide +kernel
theorem dX7_bestDrop_93 : decode cX7_bestDrop 93 = .ok (.iconst 0, 1) := by decide +kernel
theorem dX7_bestDrop_94 : decode cX7_bestDrop 94 = .ok (.istore 4, 2) := by decide +kernel
theorem dX7_bestDrop_96 : decode cX7_bestDrop 96 = .ok (.iload 4, 2) := by decide +kernel
theorem dX7_bestDrop_98 : decode cX7_bestDrop 98 = .ok (.ifCond .eq 33, 3) := by decide +kernel
theorem dX7_bestDrop_101 : decode cX7_bestDrop 101 = .ok (.iload_n 2, 1) := by decide +kernel
theorem dX7_bestDrop_102 : decode cX7_bestDrop 102 = .ok (.iconst (-1), 1) := by decide +kernel
theorem dX7_bestDrop_103 : decode cX7_bestDrop 103 = .ok (.if_icmp .eq 19, 3) := by decide +kernel
theorem dX7_bestDrop_106 : decode cX7_bestDrop 106 = .ok (.aload_n 0, 1) := by decide +kernel
theorem dX7_bestDrop_107 : decode cX7_bestDrop 107 = .ok (.getfield 35, 3) := by decide +kernel
theorem dX7_bestDrop_110 : decode cX7_bestDrop 110 = .ok (.iload_n 3, 1) := by decide +kernel
theorem dX7_bestDrop_111 : decode cX7_bestDrop 111 = .ok (.iaload, 1) := by decide +kernel
theorem dX7_bestDrop_112 : decode cX7_bestDrop 112 = .ok (.invokestatic 80, 3) := by decide +kernel
theorem dX7_bestDrop_115 : decode cX7_bestDrop 115 = .ok (.iload_n 2, 1) := by decide +kernel
theorem dX7_bestDrop_116 : decode cX7_bestDrop 116 = .ok (.invokestatic 80, 3) := by decide +kernel
theorem dX7_bestDrop_119 : decode cX7_bestDrop 119 = .ok (.if_icmp .le 12, 3) := by decide +kernel
theorem dX7_bestDrop_122 : decode cX7_bestDrop 122 = .ok (.aload_n 0, 1) := by decide +kernel
theorem dX7_bestDrop_123 : decode cX7_bestDrop 123 = .ok (.getfield 35, 3) := by decide +kernel
theorem dX7_bestDrop_126 : decode cX7_bestDrop 126 = .ok (.iload_n 3, 1) := by decide +kernel
theorem dX7_bestDrop_127 : decode cX7_bestDrop 127 = .ok (.iaload, 1) := by decide +kernel
theorem dX7_bestDrop_128 : decode cX7_bestDrop 128 = .ok (.goto 4, 3) := by decide +kernel
theorem dX7_bestDrop_131 : decode cX7_bestDrop 131 = .ok (.iload_n 2, 1) := by decide +kernel
theorem dX7_bestDrop_132 : decode cX7_bestDrop 132 = .ok (.istore_n 2, 1) := by decide +kernel
theorem dX7_bestDrop_133 : decode cX7_bestDrop 133 = .ok (.iinc 3 1, 3) := by decide +kernel
theorem dX7_bestDrop_136 : decode cX7_bestDrop 136 = .ok (.goto (-94), 3) := by decide +kernel
theorem dX7_bestDrop_139 : decode cX7_bestDrop 139 = .ok (.iload_n 2, 1) := by decide +kernel
theorem dX7_bestDrop_140 : decode cX7_bestDrop 140 = .ok (.ireturn, 1) := by decide +kernel
theorem dX7_restByPile_0 : decode cX7_restByPile 0 = .ok (.aload_n 0, 1) := by decide +kernel
theorem dX7_restByPile_1 : decode cX7_restByPile 1 = .ok (.iconst 0, 1) := by decide +kernel
theorem dX7_restByPile_2 : decode cX7_restByPile 2 = .ok (.putfield 62, 3) := by decide +kernel
theorem dX7_restByPile_5 : decode cX7_restByPile 5 = .ok (.aload_n 0, 1) := by decide +kernel
theorem dX7_restByPile_6 : decode cX7_restByPile 6 = .ok (.invokevirtual 218, 3) := by decide +kernel
theorem dX7_restByPile_9 : decode cX7_restByPile 9 = .ok (.ifCond .ne 13, 3) := by decide +kernel
theorem dX7_restByPile_12 : decode cX7_restByPile 12 = .ok (.aload_n 0, 1) := by decide +kernel
theorem dX7_restByPile_13 : decode cX7_restByPile 13 = .ok (.getfield 9, 3) := by decide +kernel
theorem dX7_restByPile_16 : decode cX7_restByPile 16 = .ok (.bipush 14, 2) := by decide +kernel
theorem dX7_restByPile_18 : decode cX7_restByPile 18 = .ok (.iaload, 1) := by decide +kernel
theorem dX7_restByPile_19 : decode cX7_restByPile 19 = .ok (.ifCond .ne 5, 3) := by decide +kernel
theorem dX7_restByPile_22 : decode cX7_restByPile 22 = .ok (.iconst (-1), 1) := by decide +kernel
theorem dX7_restByPile_23 : decode cX7_restByPile 23 = .ok (.ireturn, 1) := by decide +kernel
theorem dX7_restByPile_24 : decode cX7_restByPile 24 = .ok (.aload_n 0, 1) := by decide +kernel
theorem dX7_restByPile_25 : decode cX7_restByPile 25 = .ok (.aload_n 0, 1) := by decide +kernel
theorem dX7_restByPile_26 : decode cX7_restByPile 26 = .ok (.getfield 9, 3) := by decide +kernel
theorem dX7_restByPile_29 : decode cX7_restByPile 29 = .ok (.iconst 4, 1) := by decide +kernel
theorem dX7_restByPile_30 : decode cX7_restByPile 30 = .ok (.iaload, 1) := by decide +kernel
theorem dX7_restByPile_31 : decode cX7_restByPile 31 = .ok (.iconst (-1), 1) := by decide +kernel
theorem dX7_restByPile_32 : decode cX7_restByPile 32 = .ok (.aload_n 0, 1) := by decide +kernel
theorem dX7_restByPile_33 : decode cX7_restByPile 33 = .ok (.invokevirtual 198, 3) := by decide +kernel
theorem dX7_restByPile_36 : decode cX7_restByPile 36 = .ok (.invokevirtual 148, 3) := by decide +kernel
theorem dX7_restByPile_39 : decode cX7_restByPile 39 = .ok (.aload_n 0, 1) := by decide +kernel
theorem dX7_restByPile_40 : decode cX7_restByPile 40 = .ok (.aload_n 0, 1) := by decide +kernel
theorem dX7_restByPile_41 : decode cX7_restByPile 41 = .ok (.invokevirtual 198, 3) := by decide +kernel
theorem dX7_restByPile_44 : decode cX7_restByPile 44 = .ok (.invokevirtual 356, 3) := by decide +kernel
theorem dX7_restByPile_47 : decode cX7_restByPile 47 = .ok (.ireturn, 1) := by decide +kernel
theorem dX7_helping_0 : decode cX7_helping 0 = .ok (.aload_n 0, 1) := by decide +kernel
theorem dX7_helping_1 : decode cX7_helping 1 = .ok (.iconst 0, 1) := by decide +kernel
theorem dX7_helping_2 : decode cX7_helping 2 = .ok (.putfield 62, 3) := by decide +kernel
theorem dX7_helping_5 : decode cX7_helping 5 = .ok (.aload_n 0, 1) := by decide +kernel
theorem dX7_helping_6 : decode cX7_helping 6 = .ok (.iload_n 1, 1) := by decide +kernel
theorem dX7_helping_7 : decode cX7_helping 7 = .ok (.invokevirtual 338, 3) := by decide +kernel
theorem dX7_helping_10 : decode cX7_helping 10 = .ok (.ifCond .eq 5, 3) := by decide +kernel
theorem dX7_helping_13 : decode cX7_helping 13 = .ok (.iconst 0, 1) := by decide +kernel
theorem dX7_helping_14 : decode cX7_helping 14 = .ok (.ireturn, 1) := by decide +kernel
theorem dX7_helping_15 : decode cX7_helping 15 = .ok (.aload_n 0, 1) := by decide +kernel
theorem dX7_helping_16 : decode cX7_helping 16 = .ok (.iload_n 1, 1) := by decide +kernel
theorem dX7_helping_17 : decode cX7_helping 17 = .ok (.iconst (-1), 1) := by decide +kernel
theorem dX7_helping_18 : decode cX7_helping 18 = .ok (.iconst (-1), 1) := by decide +kernel
theorem dX7_helping_19 : decode cX7_helping 19 = .ok (.invokevirtual 148, 3) := by decide +kernel
theorem dX7_helping_22 : decode cX7_helping 22 = .ok (.aload_n 0, 1) := by decide +kernel
theorem dX7_helping_23 : decode cX7_helping 23 = .ok (.getfield 100, 3) := by decide +kernel
theorem dX7_helping_26 : decode cX7_helping 26 = .ok (.aload_n 0, 1) := by decide +kernel
theorem dX7_helping_27 : decode cX7_helping 27 = .ok (.getfield 9, 3) := by decide +kernel
theorem dX7_helping_30 : decode cX7_helping 30 = .ok (.iconst 0, 1) := by decide +kernel
theorem dX7_helping_31 : decode cX7_helping 31 = .ok (.iaload, 1) := by decide +kernel
theorem dX7_helping_32 : decode cX7_helping 32 = .ok (.if_icmp .le 5, 3) := by decide +kernel
theorem dX7_helping_35 : decode cX7_helping 35 = .ok (.iconst (-1), 1) := by decide +kernel
theorem dX7_helping_36 : decode cX7_helping 36 = .ok (.ireturn, 1) := by decide +kernel
theorem dX7_helping_37 : decode cX7_helping 37 = .ok (.aload_n 0, 1) := by decide +kernel
theorem dX7_helping_38 : decode cX7_helping 38 = .ok (.invokevirtual 130, 3) := by decide +kernel
theorem dX7_helping_41 : decode cX7_helping 41 = .ok (.istore_n 2, 1) := by decide +kernel
theorem dX7_helping_42 : decode cX7_helping 42 = .ok (.iconst 0, 1) := by decide +kernel
theorem dX7_helping_43 : decode cX7_helping 43 = .ok (.istore_n 3, 1) := by decide +kernel
theorem dX7_helping_44 : decode cX7_helping 44 = .ok (.iconst 0, 1) := by decide +kernel
theorem dX7_helping_45 : decode cX7_helping 45 = .ok (.istore 4, 2) := by decide +kernel
theorem dX7_helping_47 : decode cX7_helping 47 = .ok (.iload 4, 2) := by decide +kernel
theorem dX7_helping_49 : decode cX7_helping 49 = .ok (.bipush 52, 2) := by decide +kernel
theorem dX7_helping_51 : decode cX7_helping 51 = .ok (.if_icmp .ge 45, 3) := by decide +kernel
theorem dX7_helping_54 : decode cX7_helping 54 = .ok (.aload_n 0, 1) := by decide +kernel
theorem dX7_helping_55 : decode cX7_helping 55 = .ok (.iload_n 1, 1) := by decide +kernel
theorem dX7_helping_56 : decode cX7_helping 56 = .ok (.iload 4, 2) := by decide +kernel
theorem dX7_helping_58 : decode cX7_helping 58 = .ok (.invokevirtual 76, 3) := by decide +kernel
theorem dX7_helping_61 : decode cX7_helping 61 = .ok (.ifCond .ne 29, 3) := by decide +kernel
theorem dX7_helping_64 : decode cX7_helping 64 = .ok (.aload_n 0, 1) := by decide +kernel
theorem dX7_helping_65 : decode cX7_helping 65 = .ok (.iload_n 1, 1) := by decide +kernel
theorem dX7_helping_66 : decode cX7_helping 66 = .ok (.iconst (-1), 1) := by decide +kernel
theorem dX7_helping_67 : decode cX7_helping 67 = .ok (.iload 4, 2) := by decide +kernel
theorem dX7_helping_69 : decode cX7_helping 69 = .ok (.invokevirtual 148, 3) := by decide +kernel
theorem dX7_helping_72 : decode cX7_helping 72 = .ok (.iload_n 3, 1) := by decide +kernel
theorem dX7_helping_73 : decode cX7_helping 73 = .ok (.aload_n 0, 1) := by decide +kernel
theorem dX7_helping_74 : decode cX7_helping 74 = .ok (.iload 4, 2) := by decide +kernel
theorem dX7_helping_76 : decode cX7_helping 76 = .ok (.invokevirtual 356, 3) := by decide +kernel
theorem dX7_helping_79 : decode cX7_helping 79 = .ok (.iload_n 2, 1) := by decide +kernel
theorem dX7_helping_80 : decode cX7_helping 80 = .ok (.if_icmp .ge 7, 3) := by decide +kernel
theorem dX7_helping_83 : decode cX7_helping 83 = .ok (.iconst 1, 1) := by decide +kernel
theorem dX7_helping_84 : decode cX7_helping 84 = .ok (.goto 4, 3) := by decide +kernel
theorem dX7_helping_87 : decode cX7_helping 87 = .ok (.iconst 0, 1) := by decide +kernel
theorem dX7_helping_88 : decode cX7_helping 88 = .ok (.iadd, 1) := by decide +kernel
theorem dX7_helping_89 : decode cX7_helping 89 = .ok (.istore_n 3, 1) := by decide +kernel
theorem dX7_helping_90 : decode cX7_helping 90 = .ok (.iinc 4 1, 3) := by decide +kernel
theorem dX7_helping_93 : decode cX7_helping 93 = .ok (.goto (-46), 3) := by decide +kernel
theorem dX7_helping_96 : decode cX7_helping 96 = .ok (.iload_n 3, 1) := by decide +kernel
theorem dX7_helping_97 : decode cX7_helping 97 = .ok (.ireturn, 1) := by decide +kernel
theorem dX7_ifKnock_0 : decode cX7_ifKnock 0 = .ok (.aload_n 0, 1) := by decide +kernel
theorem dX7_ifKnock_1 : decode cX7_ifKnock 1 = .ok (.iconst 0, 1) := by decide +kernel
theorem dX7_ifKnock_2 : decode cX7_ifKnock 2 = .ok (.putfield 62, 3) := by decide +kernel
theorem dX7_ifKnock_5 : decode cX7_ifKnock 5 = .ok (.aload_n 0, 1) := by decide +kernel
theorem dX7_ifKnock_6 : decode cX7_ifKnock 6 = .ok (.iload_n 1, 1) := by decide +kernel
theorem dX7_ifKnock_7 : decode cX7_ifKnock 7 = .ok (.invokevirtual 229, 3) := by decide +kernel
theorem dX7_ifKnock_10 : decode cX7_ifKnock 10 = .ok (.ifCond .ne 17, 3) := by decide +kernel
theorem dX7_ifKnock_13 : decode cX7_ifKnock 13 = .ok (.aload_n 0, 1) := by decide +kernel
theorem dX7_ifKnock_14 : decode cX7_ifKnock 14 = .ok (.iload_n 2, 1) := by decide +kernel
theorem dX7_ifKnock_15 : decode cX7_ifKnock 15 = .ok (.i2l, 1) := by decide +kernel
theorem dX7_ifKnock_16 : decode cX7_ifKnock 16 = .ok (.lconst 0, 1) := by decide +kernel
theorem dX7_ifKnock_17 : decode cX7_ifKnock 17 = .ok (.ldc2_w 348, 3) := by decide +kernel
theorem dX7_ifKnock_20 : decode cX7_ifKnock 20 = .ok (.iconst 2, 1) := by decide +kernel
theorem dX7_ifKnock_21 : decode cX7_ifKnock 21 = .ok (.invokevirtual 72, 3) := by decide +kernel
theorem dX7_ifKnock_24 : decode cX7_ifKnock 24 = .ok (.ifCond .eq 5, 3) := by decide +kernel
theorem dX7_ifKnock_27 : decode cX7_ifKnock 27 = .ok (.iconst 0, 1) := by decide +kernel
theorem dX7_ifKnock_28 : decode cX7_ifKnock 28 = .ok (.ireturn, 1) := by decide +kernel
theorem dX7_ifKnock_29 : decode cX7_ifKnock 29 = .ok (.iload_n 2, 1) := by decide +kernel
theorem dX7_ifKnock_30 : decode cX7_ifKnock 30 = .ok (.ifCond .ne 9, 3) := by decide +kernel
theorem dX7_ifKnock_33 : decode cX7_ifKnock 33 = .ok (.aload_n 0, 1) := by decide +kernel
theorem dX7_ifKnock_34 : decode cX7_ifKnock 34 = .ok (.iload_n 1, 1) := by decide +kernel
theorem dX7_ifKnock_35 : decode cX7_ifKnock 35 = .ok (.invokevirtual 235, 3) := by decide +kernel
theorem dX7_ifKnock_38 : decode cX7_ifKnock 38 = .ok (.ireturn, 1) := by decide +kernel
theorem dX7_ifKnock_39 : decode cX7_ifKnock 39 = .ok (.aload_n 0, 1) := by decide +kernel
theorem dX7_ifKnock_40 : decode cX7_ifKnock 40 = .ok (.invokevirtual 353, 3) := by decide +kernel
theorem dX7_ifKnock_43 : decode cX7_ifKnock 43 = .ok (.ifCond .ne 5, 3) := by decide +kernel
theorem dX7_ifKnock_46 : decode cX7_ifKnock 46 = .ok (.iconst (-1), 1) := by decide +kernel
theorem dX7_ifKnock_47 : decode cX7_ifKnock 47 = .ok (.ireturn, 1) := by decide +kernel
theorem dX7_ifKnock_48 : decode cX7_ifKnock 48 = .ok (.aload_n 0, 1) := by decide +kernel
theorem dX7_ifKnock_49 : decode cX7_ifKnock 49 = .ok (.iload_n 1, 1) := by decide +kernel
theorem dX7_ifKnock_50 : decode cX7_ifKnock 50 = .ok (.invokevirtual 211, 3) := by decide +kernel
theorem dX7_ifKnock_53 : decode cX7_ifKnock 53 = .ok (.iload_n 2, 1) := by decide +kernel
theorem dX7_ifKnock_54 : decode cX7_ifKnock 54 = .ok (.iconst 1, 1) := by decide +kernel
theorem dX7_ifKnock_55 : decode cX7_ifKnock 55 = .ok (.if_icmp .ne 10, 3) := by decide +kernel
theorem dX7_ifKnock_58 : decode cX7_ifKnock 58 = .ok (.aload_n 0, 1) := by decide +kernel
theorem dX7_ifKnock_59 : decode cX7_ifKnock 59 = .ok (.getfield 174, 3) := by decide +kernel
theorem dX7_ifKnock_62 : decode cX7_ifKnock 62 = .ok (.goto 19, 3) := by decide +kernel
theorem dX7_ifKnock_65 : decode cX7_ifKnock 65 = .ok (.iload_n 2, 1) := by decide +kernel
theorem dX7_ifKnock_66 : decode cX7_ifKnock 66 = .ok (.iconst 2, 1) := by decide +kernel
theorem dX7_ifKnock_67 : decode cX7_ifKnock 67 = .ok (.if_icmp .ne 10, 3) := by decide +kernel
theorem dX7_ifKnock_70 : decode cX7_ifKnock 70 = .ok (.aload_n 0, 1) := by decide +kernel
theorem dX7_ifKnock_71 : decode cX7_ifKnock 71 = .ok (.getfield 189, 3) := by decide +kernel
theorem dX7_ifKnock_74 : decode cX7_ifKnock 74 = .ok (.goto 7, 3) := by decide +kernel
theorem dX7_ifKnock_77 : decode cX7_ifKnock 77 = .ok (.aload_n 0, 1) := by decide +kernel
theorem dX7_ifKnock_78 : decode cX7_ifKnock 78 = .ok (.getfield 180, 3) := by decide +kernel
theorem dX7_ifKnock_81 : decode cX7_ifKnock 81 = .ok (.ireturn, 1) := by decide +kernel
theorem dX7_needed_0 : decode cX7_needed 0 = .ok (.aload_n 0, 1) := by decide +kernel
theorem dX7_needed_1 : decode cX7_needed 1 = .ok (.iconst 0, 1) := by decide +kernel
theorem dX7_needed_2 : decode cX7_needed 2 = .ok (.putfield 62, 3) := by decide +kernel
theorem dX7_needed_5 : decode cX7_needed 5 = .ok (.aload_n 0, 1) := by decide +kernel
theorem dX7_needed_6 : decode cX7_needed 6 = .ok (.invokevirtual 353, 3) := by decide +kernel
theorem dX7_needed_9 : decode cX7_needed 9 = .ok (.ifCond .ne 5, 3) := by decide +kernel
theorem dX7_needed_12 : decode cX7_needed 12 = .ok (.iconst (-1), 1) := by decide +kernel
theorem dX7_needed_13 : decode cX7_needed 13 = .ok (.ireturn, 1) := by decide +kernel
theorem dX7_needed_14 : decode cX7_needed 14 = .ok (.aload_n 0, 1) := by decide +kernel
theorem dX7_needed_15 : decode cX7_needed 15 = .ok (.aload_n 0, 1) := by decide +kernel
theorem dX7_needed_16 : decode cX7_needed 16 = .ok (.getfield 9, 3) := by decide +kernel
theorem dX7_needed_19 : decode cX7_needed 19 = .ok (.iconst 4, 1) := by decide +kernel
theorem dX7_needed_20 : decode cX7_needed 20 = .ok (.iaload, 1) := by decide +kernel
theorem dX7_needed_21 : decode cX7_needed 21 = .ok (.iconst (-1), 1) := by decide +kernel
theorem dX7_needed_22 : decode cX7_needed 22 = .ok (.iconst (-1), 1) := by decide +kernel
theorem dX7_needed_23 : decode cX7_needed 23 = .ok (.invokevirtual 148, 3) := by decide +kernel
theorem dX7_needed_26 : decode cX7_needed 26 = .ok (.aload_n 0, 1) := by decide +kernel
theorem dX7_needed_27 : decode cX7_needed 27 = .ok (.aload_n 0, 1) := by decide +kernel
theorem dX7_needed_28 : decode cX7_needed 28 = .ok (.getfield 9, 3) := by decide +kernel
theorem dX7_needed_31 : decode cX7_needed 31 = .ok (.bipush 7, 2) := by decide +kernel
theorem dX7_needed_33 : decode cX7_needed 33 = .ok (.iaload, 1) := by decide +kernel
theorem dX7_needed_34 : decode cX7_needed 34 = .ok (.invokevirtual 356, 3) := by decide +kernel
theorem dX7_needed_37 : decode cX7_needed 37 = .ok (.ireturn, 1) := by decide +kernel
theorem dX7_kindOf_0 : decode cX7_kindOf 0 = .ok (.lload_n 0, 1) := by decide +kernel
theorem dX7_kindOf_1 : decode cX7_kindOf 1 = .ok (.invokestatic 103, 3) := by decide +kernel
theorem dX7_kindOf_4 : decode cX7_kindOf 4 = .ok (.istore_n 2, 1) := by decide +kernel
theorem dX7_kindOf_5 : decode cX7_kindOf 5 = .ok (.iload_n 2, 1) := by decide +kernel
theorem dX7_kindOf_6 : decode cX7_kindOf 6 = .ok (.iconst 3, 1) := by decide +kernel
theorem dX7_kindOf_7 : decode cX7_kindOf 7 = .ok (.if_icmp .ge 5, 3) := by decide +kernel
theorem dX7_kindOf_10 : decode cX7_kindOf 10 = .ok (.iconst 0, 1) := by decide +kernel
theorem dX7_kindOf_11 : decode cX7_kindOf 11 = .ok (.ireturn, 1) := by decide +kernel
theorem dX7_kindOf_12 : decode cX7_kindOf 12 = .ok (.lload_n 0, 1) := by decide +kernel
theorem dX7_kindOf_13 : decode cX7_kindOf 13 = .ok (.invokestatic 160, 3) := by decide +kernel
theorem dX7_kindOf_16 : decode cX7_kindOf 16 = .ok (.ifCond .eq 5, 3) := by decide +kernel
theorem dX7_kindOf_19 : decode cX7_kindOf 19 = .ok (.iconst 1, 1) := by decide +kernel
theorem dX7_kindOf_20 : decode cX7_kindOf 20 = .ok (.ireturn, 1) := by decide +kernel
theorem dX7_kindOf_21 : decode cX7_kindOf 21 = .ok (.lload_n 0, 1) := by decide +kernel
theorem dX7_kindOf_22 : decode cX7_kindOf 22 = .ok (.invokestatic 155, 3) := by decide +kernel
theorem dX7_kindOf_25 : decode cX7_kindOf 25 = .ok (.bipush 13, 2) := by decide +kernel
theorem dX7_kindOf_27 : decode cX7_kindOf 27 = .ok (.idiv, 1) := by decide +kernel
theorem dX7_kindOf_28 : decode cX7_kindOf 28 = .ok (.bipush 13, 2) := by decide +kernel
theorem dX7_kindOf_30 : decode cX7_kindOf 30 = .ok (.imul, 1) := by decide +kernel
theorem dX7_kindOf_31 : decode cX7_kindOf 31 = .ok (.istore_n 3, 1) := by decide +kernel
theorem dX7_kindOf_32 : decode cX7_kindOf 32 = .ok (.lload_n 0, 1) := by decide +kernel
theorem dX7_kindOf_33 : decode cX7_kindOf 33 = .ok (.iload_n 3, 1) := by decide +kernel
theorem dX7_kindOf_34 : decode cX7_kindOf 34 = .ok (.lshr, 1) := by decide +kernel
theorem dX7_kindOf_35 : decode cX7_kindOf 35 = .ok (.lstore 4, 2) := by decide +kernel
theorem dX7_kindOf_37 : decode cX7_kindOf 37 = .ok (.lload 4, 2) := by decide +kernel
theorem dX7_kindOf_39 : decode cX7_kindOf 39 = .ok (.ldc2_w 359, 3) := by decide +kernel
theorem dX7_kindOf_42 : decode cX7_kindOf 42 = .ok (.lcmp, 1) := by decide +kernel
theorem dX7_kindOf_43 : decode cX7_kindOf 43 = .ok (.ifCond .lt 5, 3) := by decide +kernel
theorem dX7_kindOf_46 : decode cX7_kindOf 46 = .ok (.iconst 0, 1) := by decide +kernel
theorem dX7_kindOf_47 : decode cX7_kindOf 47 = .ok (.ireturn, 1) := by decide +kernel
theorem dX7_kindOf_48 : decode cX7_kindOf 48 = .ok (.iconst 0, 1) := by decide +kernel
theorem dX7_kindOf_49 : decode cX7_kindOf 49 = .ok (.istore 6, 2) := by decide +kernel
theorem dX7_kindOf_51 : decode cX7_kindOf 51 = .ok (.iconst 0, 1) := by decide +kernel
theorem dX7_kindOf_52 : decode cX7_kindOf 52 = .ok (.istore 7, 2) := by decide +kernel
theorem dX7_kindOf_54 : decode cX7_kindOf 54 = .ok (.iload 7, 2) := by decide +kernel
theorem dX7_kindOf_56 : decode cX7_kindOf 56 = .ok (.bipush 13, 2) := by decide +kernel
theorem dX7_kindOf_58 : decode cX7_kindOf 58 = .ok (.if_icmp .ge 75, 3) := by decide +kernel
theorem dX7_kindOf_61 : decode cX7_kindOf 61 = .ok (.lload 4, 2) := by decide +kernel
theorem dX7_kindOf_63 : decode cX7_kindOf 63 = .ok (.iload 7, 2) := by decide +kernel
theorem dX7_kindOf_65 : decode cX7_kindOf 65 = .ok (.lshr, 1) := by decide +kernel
theorem dX7_kindOf_66 : decode cX7_kindOf 66 = .ok (.lconst 1, 1) := by decide +kernel
theorem dX7_kindOf_67 : decode cX7_kindOf 67 = .ok (.land, 1) := by decide +kernel
theorem dX7_kindOf_68 : decode cX7_kindOf 68 = .ok (.lconst 1, 1) := by decide +kernel
theorem dX7_kindOf_69 : decode cX7_kindOf 69 = .ok (.lcmp, 1) := by decide +kernel
theorem dX7_kindOf_70 : decode cX7_kindOf 70 = .ok (.ifCond .ne 7, 3) := by decide +kernel
theorem dX7_kindOf_73 : decode cX7_kindOf 73 = .ok (.iconst 1, 1) := by decide +kernel
theorem dX7_kindOf_74 : decode cX7_kindOf 74 = .ok (.goto 4, 3) := by decide +kernel
theorem dX7_kindOf_77 : decode cX7_kindOf 77 = .ok (.iconst 0, 1) := by decide +kernel
theorem dX7_kindOf_78 : decode cX7_kindOf 78 = .ok (.istore 8, 2) := by decide +kernel
theorem dX7_kindOf_80 : decode cX7_kindOf 80 = .ok (.lload 4, 2) := by decide +kernel
theorem dX7_kindOf_82 : decode cX7_kindOf 82 = .ok (.iload 7, 2) := by decide +kernel
theorem dX7_kindOf_84 : decode cX7_kindOf 84 = .ok (.bipush 13, 2) := by decide +kernel
theorem dX7_kindOf_86 : decode cX7_kindOf 86 = .ok (.iadd, 1) := by decide +kernel
theorem dX7_kindOf_87 : decode cX7_kindOf 87 = .ok (.iconst 1, 1) := by decide +kernel
theorem dX7_kindOf_88 : decode cX7_kindOf 88 = .ok (.isub, 1) := by decide +kernel
theorem dX7_kindOf_89 : decode cX7_kindOf 89 = .ok (.bipush 13, 2) := by decide +kernel
theorem dX7_kindOf_91 : decode cX7_kindOf 91 = .ok (.irem, 1) := by decide +kernel
theorem dX7_kindOf_92 : decode cX7_kindOf 92 = .ok (.lshr, 1) := by decide +kernel
theorem dX7_kindOf_93 : decode cX7_kindOf 93 = .ok (.lconst 1, 1) := by decide +kernel
theorem dX7_kindOf_94 : decode cX7_kindOf 94 = .ok (.land, 1) := by decide +kernel
theorem dX7_kindOf_95 : decode cX7_kindOf 95 = .ok (.lconst 1, 1) := by decide +kernel
theorem dX7_kindOf_96 : decode cX7_kindOf 96 = .ok (.lcmp, 1) := by decide +kernel
theorem dX7_kindOf_97 : decode cX7_kindOf 97 = .ok (.ifCond .ne 7, 3) := by decide +kernel
theorem dX7_kindOf_100 : decode cX7_kindOf 100 = .ok (.iconst 1, 1) := by decide +kernel
theorem dX7_kindOf_101 : decode cX7_kindOf 101 = .ok (.goto 4, 3) := by decide +kernel
theorem dX7_kindOf_104 : decode cX7_kindOf 104 = .ok (.iconst 0, 1) := by decide +kernel
theorem dX7_kindOf_105 : decode cX7_kindOf 105 = .ok (.istore 9, 2) := by decide +kernel
theorem dX7_kindOf_107 : decode cX7_kindOf 107 = .ok (.iload 6, 2) := by decide +kernel
theorem dX7_kindOf_109 : decode cX7_kindOf 109 = .ok (.iload 8, 2) := by decide +kernel
theorem dX7_kindOf_111 : decode cX7_kindOf 111 = .ok (.ifCond .eq 12, 3) := by decide +kernel
theorem dX7_kindOf_114 : decode cX7_kindOf 114 = .ok (.iload 9, 2) := by decide +kernel
theorem dX7_kindOf_116 : decode cX7_kindOf 116 = .ok (.ifCond .ne 7, 3) := by decide +kernel
theorem dX7_kindOf_119 : decode cX7_kindOf 119 = .ok (.iconst 1, 1) := by decide +kernel
theorem dX7_kindOf_120 : decode cX7_kindOf 120 = .ok (.goto 4, 3) := by decide +kernel
theorem dX7_kindOf_123 : decode cX7_kindOf 123 = .ok (.iconst 0, 1) := by decide +kernel
theorem dX7_kindOf_124 : decode cX7_kindOf 124 = .ok (.iadd, 1) := by decide +kernel
theorem dX7_kindOf_125 : decode cX7_kindOf 125 = .ok (.istore 6, 2) := by decide +kernel
theorem dX7_kindOf_127 : decode cX7_kindOf 127 = .ok (.iinc 7 1, 3) := by decide +kernel
theorem dX7_kindOf_130 : decode cX7_kindOf 130 = .ok (.goto (-76), 3) := by decide +kernel
theorem dX7_kindOf_133 : decode cX7_kindOf 133 = .ok (.iload 6, 2) := by decide +kernel
theorem dX7_kindOf_135 : decode cX7_kindOf 135 = .ok (.iconst 1, 1) := by decide +kernel
theorem dX7_kindOf_136 : decode cX7_kindOf 136 = .ok (.if_icmp .gt 7, 3) := by decide +kernel
theorem dX7_kindOf_139 : decode cX7_kindOf 139 = .ok (.iconst 2, 1) := by decide +kernel
theorem dX7_kindOf_140 : decode cX7_kindOf 140 = .ok (.goto 4, 3) := by decide +kernel
theorem dX7_kindOf_143 : decode cX7_kindOf 143 = .ok (.iconst 0, 1) := by decide +kernel
theorem dX7_kindOf_144 : decode cX7_kindOf 144 = .ok (.ireturn, 1) := by decide +kernel
theorem dX7_kind_0 : decode cX7_kind 0 = .ok (.aload_n 0, 1) := by decide +kernel
theorem dX7_kind_1 : decode cX7_kind 1 = .ok (.iconst 0, 1) := by decide +kernel
theorem dX7_kind_2 : decode cX7_kind 2 = .ok (.putfield 62, 3) := by decide +kernel
theorem dX7_kind_5 : decode cX7_kind 5 = .ok (.aload_n 0, 1) := by decide +kernel
theorem dX7_kind_6 : decode cX7_kind 6 = .ok (.lload_n 1, 1) := by decide +kernel
theorem dX7_kind_7 : decode cX7_kind 7 = .ok (.lconst 0, 1) := by decide +kernel
theorem dX7_kind_8 : decode cX7_kind 8 = .ok (.ldc2_w 361, 3) := by decide +kernel
theorem dX7_kind_11 : decode cX7_kind 11 = .ok (.iconst 1, 1) := by decide +kernel
theorem dX7_kind_12 : decode cX7_kind 12 = .ok (.invokevirtual 72, 3) := by decide +kernel
theorem dX7_kind_15 : decode cX7_kind 15 = .ok (.ifCond .eq 7, 3) := by decide +kernel
theorem dX7_kind_18 : decode cX7_kind 18 = .ok (.iconst 0, 1) := by decide +kernel
theorem dX7_kind_19 : decode cX7_kind 19 = .ok (.goto 7, 3) := by decide +kernel
theorem dX7_kind_22 : decode cX7_kind 22 = .ok (.lload_n 1, 1) := by decide +kernel
theorem dX7_kind_23 : decode cX7_kind 23 = .ok (.invokestatic 363, 3) := by decide +kernel
theorem dX7_kind_26 : decode cX7_kind 26 = .ok (.ireturn, 1) := by decide +kernel
theorem dX7_size_0 : decode cX7_size 0 = .ok (.iload_n 0, 1) := by decide +kernel
theorem dX7_size_1 : decode cX7_size 1 = .ok (.ifCond .ge 8, 3) := by decide +kernel
theorem dX7_size_4 : decode cX7_size 4 = .ok (.iload_n 0, 1) := by decide +kernel
theorem dX7_size_5 : decode cX7_size 5 = .ok (.ineg, 1) := by decide +kernel
theorem dX7_size_6 : decode cX7_size 6 = .ok (.goto 4, 3) := by decide +kernel
theorem dX7_size_9 : decode cX7_size 9 = .ok (.iload_n 0, 1) := by decide +kernel
theorem dX7_size_10 : decode cX7_size 10 = .ok (.ireturn, 1) := by decide +kernel
theorem dX7_wrongHand_0 : decode cX7_wrongHand 0 = .ok (.aload_n 0, 1) := by decide +kernel
theorem dX7_wrongHand_1 : decode cX7_wrongHand 1 = .ok (.iload_n 1, 1) := by decide +kernel
theorem dX7_wrongHand_2 : decode cX7_wrongHand 2 = .ok (.invokevirtual 177, 3) := by decide +kernel
theorem dX7_wrongHand_5 : decode cX7_wrongHand 5 = .ok (.aload_n 0, 1) := by decide +kernel
theorem dX7_wrongHand_6 : decode cX7_wrongHand 6 = .ok (.getfield 134, 3) := by decide +kernel
theorem dX7_wrongHand_9 : decode cX7_wrongHand 9 = .ok (.aload_n 0, 1) := by decide +kernel
theorem dX7_wrongHand_10 : decode cX7_wrongHand 10 = .ok (.iconst 1, 1) := by decide +kernel
theorem dX7_wrongHand_11 : decode cX7_wrongHand 11 = .ok (.aload_n 0, 1) := by decide +kernel
theorem dX7_wrongHand_12 : decode cX7_wrongHand 12 = .ok (.getfield 100, 3) := by decide +kernel
theorem dX7_wrongHand_15 : decode cX7_wrongHand 15 = .ok (.ishl, 1) := by decide +kernel
theorem dX7_wrongHand_16 : decode cX7_wrongHand 16 = .ok (.iconst 1, 1) := by decide +kernel
theorem dX7_wrongHand_17 : decode cX7_wrongHand 17 = .ok (.isub, 1) := by decide +kernel
theorem dX7_wrongHand_18 : decode cX7_wrongHand 18 = .ok (.invokevirtual 144, 3) := by decide +kernel
theorem dX7_wrongHand_21 : decode cX7_wrongHand 21 = .ok (.invokestatic 186, 3) := by decide +kernel
theorem dX7_wrongHand_24 : decode cX7_wrongHand 24 = .ok (.isub, 1) := by decide +kernel
theorem dX7_wrongHand_25 : decode cX7_wrongHand 25 = .ok (.istore_n 2, 1) := by decide +kernel
theorem dX7_wrongHand_26 : decode cX7_wrongHand 26 = .ok (.iconst 0, 1) := by decide +kernel
theorem dX7_wrongHand_27 : decode cX7_wrongHand 27 = .ok (.istore_n 3, 1) := by decide +kernel
theorem dX7_wrongHand_28 : decode cX7_wrongHand 28 = .ok (.iconst 0, 1) := by decide +kernel
theorem dX7_wrongHand_29 : decode cX7_wrongHand 29 = .ok (.istore 4, 2) := by decide +kernel
theorem dX7_wrongHand_31 : decode cX7_wrongHand 31 = .ok (.iload 4, 2) := by decide +kernel
theorem dX7_wrongHand_33 : decode cX7_wrongHand 33 = .ok (.aload_n 0, 1) := by decide +kernel
theorem dX7_wrongHand_34 : decode cX7_wrongHand 34 = .ok (.getfield 137, 3) := by decide +kernel
theorem dX7_wrongHand_37 : decode cX7_wrongHand 37 = .ok (.if_icmp .ge 43, 3) := by decide +kernel
theorem dX7_wrongHand_40 : decode cX7_wrongHand 40 = .ok (.iload_n 2, 1) := by decide +kernel
theorem dX7_wrongHand_41 : decode cX7_wrongHand 41 = .ok (.aload_n 0, 1) := by decide +kernel
theorem dX7_wrongHand_42 : decode cX7_wrongHand 42 = .ok (.getfield 44, 3) := by decide +kernel
theorem dX7_wrongHand_45 : decode cX7_wrongHand 45 = .ok (.iload 4, 2) := by decide +kernel
theorem dX7_wrongHand_47 : decode cX7_wrongHand 47 = .ok (.laload, 1) := by decide +kernel
theorem dX7_wrongHand_48 : decode cX7_wrongHand 48 = .ok (.invokestatic 186, 3) := by decide +kernel
theorem dX7_wrongHand_51 : decode cX7_wrongHand 51 = .ok (.iadd, 1) := by decide +kernel
theorem dX7_wrongHand_52 : decode cX7_wrongHand 52 = .ok (.istore_n 2, 1) := by decide +kernel
theorem dX7_wrongHand_53 : decode cX7_wrongHand 53 = .ok (.iload_n 3, 1) := by decide +kernel
theorem dX7_wrongHand_54 : decode cX7_wrongHand 54 = .ok (.aload_n 0, 1) := by decide +kernel
theorem dX7_wrongHand_55 : decode cX7_wrongHand 55 = .ok (.getfield 44, 3) := by decide +kernel
theorem dX7_wrongHand_58 : decode cX7_wrongHand 58 = .ok (.iload 4, 2) := by decide +kernel
theorem dX7_wrongHand_60 : decode cX7_wrongHand 60 = .ok (.laload, 1) := by decide +kernel
theorem dX7_wrongHand_61 : decode cX7_wrongHand 61 = .ok (.invokestatic 363, 3) := by decide +kernel
theorem dX7_wrongHand_64 : decode cX7_wrongHand 64 = .ok (.ifCond .ne 7, 3) := by decide +kernel
theorem dX7_wrongHand_67 : decode cX7_wrongHand 67 = .ok (.iconst 1, 1) := by decide +kernel
theorem dX7_wrongHand_68 : decode cX7_wrongHand 68 = .ok (.goto 4, 3) := by decide +kernel
theorem dX7_wrongHand_71 : decode cX7_wrongHand 71 = .ok (.iconst 0, 1) := by decide +kernel
theorem dX7_wrongHand_72 : decode cX7_wrongHand 72 = .ok (.iadd, 1) := by decide +kernel
theorem dX7_wrongHand_73 : decode cX7_wrongHand 73 = .ok (.istore_n 3, 1) := by decide +kernel
theorem dX7_wrongHand_74 : decode cX7_wrongHand 74 = .ok (.iinc 4 1, 3) := by decide +kernel
theorem dX7_wrongHand_77 : decode cX7_wrongHand 77 = .ok (.goto (-46), 3) := by decide +kernel
theorem dX7_wrongHand_80 : decode cX7_wrongHand 80 = .ok (.iload_n 2, 1) := by decide +kernel
theorem dX7_wrongHand_81 : decode cX7_wrongHand 81 = .ok (.invokestatic 366, 3) := by decide +kernel
theorem dX7_wrongHand_84 : decode cX7_wrongHand 84 = .ok (.iload_n 3, 1) := by decide +kernel
theorem dX7_wrongHand_85 : decode cX7_wrongHand 85 = .ok (.iadd, 1) := by decide +kernel
theorem dX7_wrongHand_86 : decode cX7_wrongHand 86 = .ok (.ireturn, 1) := by decide +kernel
theorem dX7_gap_0 : decode cX7_gap 0 = .ok (.aload_n 0, 1) := by decide +kernel
theorem dX7_gap_1 : decode cX7_gap 1 = .ok (.iconst 0, 1) := by decide +kernel
theorem dX7_gap_2 : decode cX7_gap 2 = .ok (.putfield 62, 3) := by decide +kernel
theorem dX7_gap_5 : decode cX7_gap 5 = .ok (.aload_n 0, 1) := by decide +kernel
theorem dX7_gap_6 : decode cX7_gap 6 = .ok (.iconst 0, 1) := by decide +kernel
theorem dX7_gap_7 : decode cX7_gap 7 = .ok (.iconst (-1), 1) := by decide +kernel
theorem dX7_gap_8 : decode cX7_gap 8 = .ok (.iconst (-1), 1) := by decide +kernel
theorem dX7_gap_9 : decode cX7_gap 9 = .ok (.invokevirtual 148, 3) := by decide +kernel
theorem dX7_gap_12 : decode cX7_gap 12 = .ok (.aload_n 0, 1) := by decide +kernel
theorem dX7_gap_13 : decode cX7_gap 13 = .ok (.getfield 100, 3) := by decide +kernel
theorem dX7_gap_16 : decode cX7_gap 16 = .ok (.istore_n 1, 1) := by decide +kernel
theorem dX7_gap_17 : decode cX7_gap 17 = .ok (.aload_n 0, 1) := by decide +kernel
theorem dX7_gap_18 : decode cX7_gap 18 = .ok (.iconst 1, 1) := by decide +kernel
theorem dX7_gap_19 : decode cX7_gap 19 = .ok (.iconst (-1), 1) := by decide +kernel
theorem dX7_gap_20 : decode cX7_gap 20 = .ok (.iconst (-1), 1) := by decide +kernel
theorem dX7_gap_21 : decode cX7_gap 21 = .ok (.invokevirtual 148, 3) := by decide +kernel
theorem dX7_gap_24 : decode cX7_gap 24 = .ok (.iload_n 1, 1) := by decide +kernel
theorem dX7_gap_25 : decode cX7_gap 25 = .ok (.aload_n 0, 1) := by decide +kernel
theorem dX7_gap_26 : decode cX7_gap 26 = .ok (.getfield 100, 3) := by decide +kernel
theorem dX7_gap_29 : decode cX7_gap 29 = .ok (.aload_n 0, 1) := by decide +kernel
theorem dX7_gap_30 : decode cX7_gap 30 = .ok (.invokevirtual 204, 3) := by decide +kernel
theorem dX7_gap_33 : decode cX7_gap 33 = .ok (.iadd, 1) := by decide +kernel
theorem dX7_gap_34 : decode cX7_gap 34 = .ok (.aload_n 0, 1) := by decide +kernel
theorem dX7_gap_35 : decode cX7_gap 35 = .ok (.getfield 9, 3) := by decide +kernel
theorem dX7_gap_38 : decode cX7_gap 38 = .ok (.bipush 14, 2) := by decide +kernel
theorem dX7_gap_40 : decode cX7_gap 40 = .ok (.iaload, 1) := by decide +kernel
theorem dX7_gap_41 : decode cX7_gap 41 = .ok (.iadd, 1) := by decide +kernel
theorem dX7_gap_42 : decode cX7_gap 42 = .ok (.iadd, 1) := by decide +kernel
theorem dX7_gap_43 : decode cX7_gap 43 = .ok (.istore_n 1, 1) := by decide +kernel
theorem dX7_gap_44 : decode cX7_gap 44 = .ok (.bipush 52, 2) := by decide +kernel
theorem dX7_gap_46 : decode cX7_gap 46 = .ok (.iload_n 1, 1) := by decide +kernel
theorem dX7_gap_47 : decode cX7_gap 47 = .ok (.isub, 1) := by decide +kernel
theorem dX7_gap_48 : decode cX7_gap 48 = .ok (.invokestatic 366, 3) := by decide +kernel
theorem dX7_gap_51 : decode cX7_gap 51 = .ok (.aload_n 0, 1) := by decide +kernel
theorem dX7_gap_52 : decode cX7_gap 52 = .ok (.iconst 0, 1) := by decide +kernel
theorem dX7_gap_53 : decode cX7_gap 53 = .ok (.invokevirtual 369, 3) := by decide +kernel
theorem dX7_gap_56 : decode cX7_gap 56 = .ok (.iadd, 1) := by decide +kernel
theorem dX7_gap_57 : decode cX7_gap 57 = .ok (.aload_n 0, 1) := by decide +kernel
theorem dX7_gap_58 : decode cX7_gap 58 = .ok (.iconst 1, 1) := by decide +kernel
theorem dX7_gap_59 : decode cX7_gap 59 = .ok (.invokevirtual 369, 3) := by decide +kernel
theorem dX7_gap_62 : decode cX7_gap 62 = .ok (.iadd, 1) := by decide +kernel
theorem dX7_gap_63 : decode cX7_gap 63 = .ok (.ireturn, 1) := by decide +kernel
theorem dX7_meanRest_0 : decode cX7_meanRest 0 = .ok (.aload_n 0, 1) := by decide +kernel
theorem dX7_meanRest_1 : decode cX7_meanRest 1 = .ok (.iconst 0, 1) := by decide +kernel
theorem dX7_meanRest_2 : decode cX7_meanRest 2 = .ok (.putfield 62, 3) := by decide +kernel
theorem dX7_meanRest_5 : decode cX7_meanRest 5 = .ok (.aload_n 0, 1) := by decide +kernel
theorem dX7_meanRest_6 : decode cX7_meanRest 6 = .ok (.iconst 0, 1) := by decide +kernel
theorem dX7_meanRest_7 : decode cX7_meanRest 7 = .ok (.invokevirtual 177, 3) := by decide +kernel
theorem dX7_meanRest_10 : decode cX7_meanRest 10 = .ok (.aload_n 0, 1) := by decide +kernel
theorem dX7_meanRest_11 : decode cX7_meanRest 11 = .ok (.getfield 134, 3) := by decide +kernel
theorem dX7_meanRest_14 : decode cX7_meanRest 14 = .ok (.istore_n 1, 1) := by decide +kernel
theorem dX7_meanRest_15 : decode cX7_meanRest 15 = .ok (.aload_n 0, 1) := by decide +kernel
theorem dX7_meanRest_16 : decode cX7_meanRest 16 = .ok (.iconst 1, 1) := by decide +kernel
theorem dX7_meanRest_17 : decode cX7_meanRest 17 = .ok (.invokevirtual 177, 3) := by decide +kernel
theorem dX7_meanRest_20 : decode cX7_meanRest 20 = .ok (.iload_n 1, 1) := by decide +kernel
theorem dX7_meanRest_21 : decode cX7_meanRest 21 = .ok (.aload_n 0, 1) := by decide +kernel
theorem dX7_meanRest_22 : decode cX7_meanRest 22 = .ok (.getfield 134, 3) := by decide +kernel
theorem dX7_meanRest_25 : decode cX7_meanRest 25 = .ok (.iadd, 1) := by decide +kernel
theorem dX7_meanRest_26 : decode cX7_meanRest 26 = .ok (.i2d, 1) := by decide +kernel
theorem dX7_meanRest_27 : decode cX7_meanRest 27 = .ok (.ldc2_w 372, 3) := by decide +kernel
theorem dX7_meanRest_30 : decode cX7_meanRest 30 = .ok (.ddiv, 1) := by decide +kernel
theorem dX7_meanRest_31 : decode cX7_meanRest 31 = .ok (.dreturn, 1) := by decide +kernel
theorem dX7_laid_0 : decode cX7_laid 0 = .ok (.aload_n 0, 1) := by decide +kernel
theorem dX7_laid_1 : decode cX7_laid 1 = .ok (.iconst 0, 1) := by decide +kernel
theorem dX7_laid_2 : decode cX7_laid 2 = .ok (.putfield 62, 3) := by decide +kernel
theorem dX7_laid_5 : decode cX7_laid 5 = .ok (.aload_n 0, 1) := by decide +kernel
theorem dX7_laid_6 : decode cX7_laid 6 = .ok (.iload_n 1, 1) := by decide +kernel
theorem dX7_laid_7 : decode cX7_laid 7 = .ok (.invokevirtual 338, 3) := by decide +kernel
theorem dX7_laid_10 : decode cX7_laid 10 = .ok (.ifCond .eq 5, 3) := by decide +kernel
theorem dX7_laid_13 : decode cX7_laid 13 = .ok (.fconst 0, 1) := by decide +kernel
theorem dX7_laid_14 : decode cX7_laid 14 = .ok (.freturn, 1) := by decide +kernel
theorem dX7_laid_15 : decode cX7_laid 15 = .ok (.aload_n 0, 1) := by decide +kernel
theorem dX7_laid_16 : decode cX7_laid 16 = .ok (.iload_n 1, 1) := by decide +kernel
theorem dX7_laid_17 : decode cX7_laid 17 = .ok (.invokevirtual 177, 3) := by decide +kernel
theorem dX7_laid_20 : decode cX7_laid 20 = .ok (.aload_n 0, 1) := by decide +kernel
theorem dX7_laid_21 : decode cX7_laid 21 = .ok (.getfield 100, 3) := by decide +kernel
theorem dX7_laid_24 : decode cX7_laid 24 = .ok (.aload_n 0, 1) := by decide +kernel
theorem dX7_laid_25 : decode cX7_laid 25 = .ok (.getfield 140, 3) := by decide +kernel
theorem dX7_laid_28 : decode cX7_laid 28 = .ok (.invokestatic 103, 3) := by decide +kernel
theorem dX7_laid_31 : decode cX7_laid 31 = .ok (.isub, 1) := by decide +kernel
theorem dX7_laid_32 : decode cX7_laid 32 = .ok (.i2f, 1) := by decide +kernel
theorem dX7_laid_33 : decode cX7_laid 33 = .ok (.aload_n 0, 1) := by decide +kernel
theorem dX7_laid_34 : decode cX7_laid 34 = .ok (.getfield 100, 3) := by decide +kernel
theorem dX7_laid_37 : decode cX7_laid 37 = .ok (.i2f, 1) := by decide +kernel
theorem dX7_laid_38 : decode cX7_laid 38 = .ok (.fdiv, 1) := by decide +kernel
theorem dX7_laid_39 : decode cX7_laid 39 = .ok (.freturn, 1) := by decide +kernel
theorem dX7_say_0 : decode cX7_say 0 = .ok (.aload_n 0, 1) := by decide +kernel
theorem dX7_say_1 : decode cX7_say 1 = .ok (.getfield 31, 3) := by decide +kernel
theorem dX7_say_4 : decode cX7_say 4 = .ok (.aload_n 0, 1) := by decide +kernel
theorem dX7_say_5 : decode cX7_say 5 = .ok (.getfield 374, 3) := by decide +kernel
theorem dX7_say_8 : decode cX7_say 8 = .ok (.iload_n 1, 1) := by decide +kernel
theorem dX7_say_9 : decode cX7_say 9 = .ok (.i2b, 1) := by decide +kernel
theorem dX7_say_10 : decode cX7_say 10 = .ok (.bastore, 1) := by decide +kernel
theorem dX7_say_11 : decode cX7_say 11 = .ok (.aload_n 0, 1) := by decide +kernel
theorem dX7_say_12 : decode cX7_say 12 = .ok (.dup, 1) := by decide +kernel
theorem dX7_say_13 : decode cX7_say 13 = .ok (.getfield 374, 3) := by decide +kernel
theorem dX7_say_16 : decode cX7_say 16 = .ok (.iconst 1, 1) := by decide +kernel
theorem dX7_say_17 : decode cX7_say 17 = .ok (.iadd, 1) := by decide +kernel
theorem dX7_say_18 : decode cX7_say 18 = .ok (.putfield 374, 3) := by decide +kernel
theorem dX7_say_21 : decode cX7_say 21 = .ok (.return_, 1) := by decide +kernel
theorem dX7_sayCard_0 : decode cX7_sayCard 0 = .ok (.iload_n 2, 1) := by decide +kernel
theorem dX7_sayCard_1 : decode cX7_sayCard 1 = .ok (.ifCond .ne 9, 3) := by decide +kernel
theorem dX7_sayCard_4 : decode cX7_sayCard 4 = .ok (.aload_n 0, 1) := by decide +kernel
theorem dX7_sayCard_5 : decode cX7_sayCard 5 = .ok (.bipush 44, 2) := by decide +kernel
theorem dX7_sayCard_7 : decode cX7_sayCard 7 = .ok (.invokevirtual 377, 3) := by decide +kernel
theorem dX7_sayCard_10 : decode cX7_sayCard 10 = .ok (.aload_n 0, 1) := by decide +kernel
theorem dX7_sayCard_11 : decode cX7_sayCard 11 = .ok (.ldc_w 380, 3) := by decide +kernel
theorem dX7_sayCard_14 : decode cX7_sayCard 14 = .ok (.iload_n 1, 1) := by decide +kernel
theorem dX7_sayCard_15 : decode cX7_sayCard 15 = .ok (.bipush 13, 2) := by decide +kernel
theorem dX7_sayCard_17 : decode cX7_sayCard 17 = .ok (.irem, 1) := by decide +kernel
theorem dX7_sayCard_18 : decode cX7_sayCard 18 = .ok (.invokevirtual 280, 3) := by decide +kernel
theorem dX7_sayCard_21 : decode cX7_sayCard 21 = .ok (.invokevirtual 377, 3) := by decide +kernel
theorem dX7_sayCard_24 : decode cX7_sayCard 24 = .ok (.aload_n 0, 1) := by decide +kernel
theorem dX7_sayCard_25 : decode cX7_sayCard 25 = .ok (.ldc_w 382, 3) := by decide +kernel
theorem dX7_sayCard_28 : decode cX7_sayCard 28 = .ok (.iload_n 1, 1) := by decide +kernel
theorem dX7_sayCard_29 : decode cX7_sayCard 29 = .ok (.bipush 13, 2) := by decide +kernel
theorem dX7_sayCard_31 : decode cX7_sayCard 31 = .ok (.idiv, 1) := by decide +kernel
theorem dX7_sayCard_32 : decode cX7_sayCard 32 = .ok (.invokevirtual 280, 3) := by decide +kernel
theorem dX7_sayCard_35 : decode cX7_sayCard 35 = .ok (.invokevirtual 377, 3) := by decide +kernel
theorem dX7_sayCard_38 : decode cX7_sayCard 38 = .ok (.return_, 1) := by decide +kernel
theorem dX7_sayAscending_0 : decode cX7_sayAscending 0 = .ok (.iconst 0, 1) := by decide +kernel
theorem dX7_sayAscending_1 : decode cX7_sayAscending 1 = .ok (.istore_n 3, 1) := by decide +kernel
theorem dX7_sayAscending_2 : decode cX7_sayAscending 2 = .ok (.iconst 0, 1) := by decide +kernel
theorem dX7_sayAscending_3 : decode cX7_sayAscending 3 = .ok (.istore 4, 2) := by decide +kernel
theorem dX7_sayAscending_5 : decode cX7_sayAscending 5 = .ok (.iload 4, 2) := by decide +kernel
theorem dX7_sayAscending_7 : decode cX7_sayAscending 7 = .ok (.bipush 52, 2) := by decide +kernel
theorem dX7_sayAscending_9 : decode cX7_sayAscending 9 = .ok (.if_icmp .ge 38, 3) := by decide +kernel
theorem dX7_sayAscending_12 : decode cX7_sayAscending 12 = .ok (.lload_n 1, 1) := by decide +kernel
theorem dX7_sayAscending_13 : decode cX7_sayAscending 13 = .ok (.iload 4, 2) := by decide +kernel
theorem dX7_sayAscending_15 : decode cX7_sayAscending 15 = .ok (.lshr, 1) := by decide +kernel
theorem dX7_sayAscending_16 : decode cX7_sayAscending 16 = .ok (.lconst 1, 1) := by decide +kernel
theorem dX7_sayAscending_17 : decode cX7_sayAscending 17 = .ok (.land, 1) := by decide +kernel
theorem dX7_sayAscending_18 : decode cX7_sayAscending 18 = .ok (.lconst 1, 1) := by decide +kernel
theorem dX7_sayAscending_19 : decode cX7_sayAscending 19 = .ok (.lcmp, 1) := by decide +kernel
theorem dX7_sayAscending_20 : decode cX7_sayAscending 20 = .ok (.ifCond .ne 21, 3) := by decide +kernel
theorem dX7_sayAscending_23 : decode cX7_sayAscending 23 = .ok (.aload_n 0, 1) := by decide +kernel
theorem dX7_sayAscending_24 : decode cX7_sayAscending 24 = .ok (.iload 4, 2) := by decide +kernel
theorem dX7_sayAscending_26 : decode cX7_sayAscending 26 = .ok (.iload_n 3, 1) := by decide +kernel
theorem dX7_sayAscending_27 : decode cX7_sayAscending 27 = .ok (.ifCond .ne 7, 3) := by decide +kernel
theorem dX7_sayAscending_30 : decode cX7_sayAscending 30 = .ok (.iconst 1, 1) := by decide +kernel
theorem dX7_sayAscending_31 : decode cX7_sayAscending 31 = .ok (.goto 4, 3) := by decide +kernel
theorem dX7_sayAscending_34 : decode cX7_sayAscending 34 = .ok (.iconst 0, 1) := by decide +kernel
theorem dX7_sayAscending_35 : decode cX7_sayAscending 35 = .ok (.invokevirtual 384, 3) := by decide +kernel
theorem dX7_sayAscending_38 : decode cX7_sayAscending 38 = .ok (.iinc 3 1, 3) := by decide +kernel
theorem dX7_sayAscending_41 : decode cX7_sayAscending 41 = .ok (.iinc 4 1, 3) := by decide +kernel
theorem dX7_sayAscending_44 : decode cX7_sayAscending 44 = .ok (.goto (-39), 3) := by decide +kernel
theorem dX7_sayAscending_47 : decode cX7_sayAscending 47 = .ok (.return_, 1) := by decide +kernel
theorem dX7_sayRun_0 : decode cX7_sayRun 0 = .ok (.lload_n 1, 1) := by decide +kernel
theorem dX7_sayRun_1 : decode cX7_sayRun 1 = .ok (.invokestatic 164, 3) := by decide +kernel
theorem dX7_sayRun_4 : decode cX7_sayRun 4 = .ok (.istore_n 3, 1) := by decide +kernel
theorem dX7_sayRun_5 : decode cX7_sayRun 5 = .ok (.iload_n 3, 1) := by decide +kernel
theorem dX7_sayRun_6 : decode cX7_sayRun 6 = .ok (.bipush 13, 2) := by decide +kernel
theorem dX7_sayRun_8 : decode cX7_sayRun 8 = .ok (.idiv, 1) := by decide +kernel
theorem dX7_sayRun_9 : decode cX7_sayRun 9 = .ok (.bipush 13, 2) := by decide +kernel
theorem dX7_sayRun_11 : decode cX7_sayRun 11 = .ok (.imul, 1) := by decide +kernel
theorem dX7_sayRun_12 : decode cX7_sayRun 12 = .ok (.istore 4, 2) := by decide +kernel
theorem dX7_sayRun_14 : decode cX7_sayRun 14 = .ok (.iconst 0, 1) := by decide +kernel
theorem dX7_sayRun_15 : decode cX7_sayRun 15 = .ok (.istore 5, 2) := by decide +kernel
theorem dX7_sayRun_17 : decode cX7_sayRun 17 = .ok (.iload 5, 2) := by decide +kernel
theorem dX7_sayRun_19 : decode cX7_sayRun 19 = .ok (.lload_n 1, 1) := by decide +kernel
theorem dX7_sayRun_20 : decode cX7_sayRun 20 = .ok (.invokestatic 103, 3) := by decide +kernel
theorem dX7_sayRun_23 : decode cX7_sayRun 23 = .ok (.if_icmp .ge 36, 3) := by decide +kernel
theorem dX7_sayRun_26 : decode cX7_sayRun 26 = .ok (.aload_n 0, 1) := by decide +kernel
theorem dX7_sayRun_27 : decode cX7_sayRun 27 = .ok (.iload 4, 2) := by decide +kernel
theorem dX7_sayRun_29 : decode cX7_sayRun 29 = .ok (.iload_n 3, 1) := by decide +kernel
theorem dX7_sayRun_30 : decode cX7_sayRun 30 = .ok (.bipush 13, 2) := by decide +kernel
theorem dX7_sayRun_32 : decode cX7_sayRun 32 = .ok (.irem, 1) := by decide +kernel
theorem dX7_sayRun_33 : decode cX7_sayRun 33 = .ok (.iload 5, 2) := by decide +kernel
theorem dX7_sayRun_35 : decode cX7_sayRun 35 = .ok (.iadd, 1) := by decide +kernel
theorem dX7_sayRun_36 : decode cX7_sayRun 36 = .ok (.bipush 13, 2) := by decide +kernel
theorem dX7_sayRun_38 : decode cX7_sayRun 38 = .ok (.irem, 1) := by decide +kernel
theorem dX7_sayRun_39 : decode cX7_sayRun 39 = .ok (.iadd, 1) := by decide +kernel
theorem dX7_sayRun_40 : decode cX7_sayRun 40 = .ok (.iload 5, 2) := by decide +kernel
theorem dX7_sayRun_42 : decode cX7_sayRun 42 = .ok (.ifCond .ne 7, 3) := by decide +kernel
theorem dX7_sayRun_45 : decode cX7_sayRun 45 = .ok (.iconst 1, 1) := by decide +kernel
theorem dX7_sayRun_46 : decode cX7_sayRun 46 = .ok (.goto 4, 3) := by decide +kernel
theorem dX7_sayRun_49 : decode cX7_sayRun 49 = .ok (.iconst 0, 1) := by decide +kernel
theorem dX7_sayRun_50 : decode cX7_sayRun 50 = .ok (.invokevirtual 384, 3) := by decide +kernel
theorem dX7_sayRun_53 : decode cX7_sayRun 53 = .ok (.iinc 5 1, 3) := by decide +kernel
theorem dX7_sayRun_56 : decode cX7_sayRun 56 = .ok (.goto (-39), 3) := by decide +kernel
theorem dX7_sayRun_59 : decode cX7_sayRun 59 = .ok (.return_, 1) := by decide +kernel
theorem dX7_writeLaying_0 : decode cX7_writeLaying 0 = .ok (.aload_n 0, 1) := by decide +kernel
theorem dX7_writeLaying_1 : decode cX7_writeLaying 1 = .ok (.iconst 0, 1) := by decide +kernel
theorem dX7_writeLaying_2 : decode cX7_writeLaying 2 = .ok (.putfield 62, 3) := by decide +kernel
theorem dX7_writeLaying_5 : decode cX7_writeLaying 5 = .ok (.aload_n 0, 1) := by decide +kernel
theorem dX7_writeLaying_6 : decode cX7_writeLaying 6 = .ok (.iload_n 1, 1) := by decide +kernel
theorem dX7_writeLaying_7 : decode cX7_writeLaying 7 = .ok (.invokevirtual 338, 3) := by decide +kernel
theorem dX7_writeLaying_10 : decode cX7_writeLaying 10 = .ok (.ifCond .eq 5, 3) := by decide +kernel
theorem dX7_writeLaying_13 : decode cX7_writeLaying 13 = .ok (.iconst 0, 1) := by decide +kernel
theorem dX7_writeLaying_14 : decode cX7_writeLaying 14 = .ok (.ireturn, 1) := by decide +kernel
theorem dX7_writeLaying_15 : decode cX7_writeLaying 15 = .ok (.aload_n 0, 1) := by decide +kernel
theorem dX7_writeLaying_16 : decode cX7_writeLaying 16 = .ok (.iload_n 1, 1) := by decide +kernel
theorem dX7_writeLaying_17 : decode cX7_writeLaying 17 = .ok (.invokevirtual 177, 3) := by decide +kernel
theorem dX7_writeLaying_20 : decode cX7_writeLaying 20 = .ok (.aload_n 0, 1) := by decide +kernel
theorem dX7_writeLaying_21 : decode cX7_writeLaying 21 = .ok (.iconst 0, 1) := by decide +kernel
theorem dX7_writeLaying_22 : decode cX7_writeLaying 22 = .ok (.putfield 374, 3) := by decide +kernel
theorem dX7_writeLaying_25 : decode cX7_writeLaying 25 = .ok (.iconst 0, 1) := by decide +kernel
theorem dX7_writeLaying_26 : decode cX7_writeLaying 26 = .ok (.istore_n 2, 1) := by decide +kernel
theorem dX7_writeLaying_27 : decode cX7_writeLaying 27 = .ok (.iload_n 2, 1) := by decide +kernel
theorem dX7_writeLaying_28 : decode cX7_writeLaying 28 = .ok (.aload_n 0, 1) := by decide +kernel
theorem dX7_writeLaying_29 : decode cX7_writeLaying 29 = .ok (.getfield 137, 3) := by decide +kernel
theorem dX7_writeLaying_32 : decode cX7_writeLaying 32 = .ok (.if_icmp .ge 54, 3) := by decide +kernel
theorem dX7_writeLaying_35 : decode cX7_writeLaying 35 = .ok (.iload_n 2, 1) := by decide +kernel
theorem dX7_writeLaying_36 : decode cX7_writeLaying 36 = .ok (.ifCond .le 9, 3) := by decide +kernel
theorem dX7_writeLaying_39 : decode cX7_writeLaying 39 = .ok (.aload_n 0, 1) := by decide +kernel
theorem dX7_writeLaying_40 : decode cX7_writeLaying 40 = .ok (.bipush 32, 2) := by decide +kernel
theorem dX7_writeLaying_42 : decode cX7_writeLaying 42 = .ok (.invokevirtual 377, 3) := by decide +kernel
theorem dX7_writeLaying_45 : decode cX7_writeLaying 45 = .ok (.aload_n 0, 1) := by decide +kernel
theorem dX7_writeLaying_46 : decode cX7_writeLaying 46 = .ok (.getfield 44, 3) := by decide +kernel
theorem dX7_writeLaying_49 : decode cX7_writeLaying 49 = .ok (.iload_n 2, 1) := by decide +kernel
theorem dX7_writeLaying_50 : decode cX7_writeLaying 50 = .ok (.laload, 1) := by decide +kernel
theorem dX7_writeLaying_51 : decode cX7_writeLaying 51 = .ok (.invokestatic 160, 3) := by decide +kernel
theorem dX7_writeLaying_54 : decode cX7_writeLaying 54 = .ok (.ifCond .eq 16, 3) := by decide +kernel
theorem dX7_writeLaying_57 : decode cX7_writeLaying 57 = .ok (.aload_n 0, 1) := by decide +kernel
theorem dX7_writeLaying_58 : decode cX7_writeLaying 58 = .ok (.aload_n 0, 1) := by decide +kernel
theorem dX7_writeLaying_59 : decode cX7_writeLaying 59 = .ok (.getfield 44, 3) := by decide +kernel
theorem dX7_writeLaying_62 : decode cX7_writeLaying 62 = .ok (.iload_n 2, 1) := by decide +kernel
theorem dX7_writeLaying_63 : decode cX7_writeLaying 63 = .ok (.laload, 1) := by decide +kernel
theorem dX7_writeLaying_64 : decode cX7_writeLaying 64 = .ok (.invokevirtual 388, 3) := by decide +kernel
theorem dX7_writeLaying_67 : decode cX7_writeLaying 67 = .ok (.goto 13, 3) := by decide +kernel
theorem dX7_writeLaying_70 : decode cX7_writeLaying 70 = .ok (.aload_n 0, 1) := by decide +kernel
theorem dX7_writeLaying_71 : decode cX7_writeLaying 71 = .ok (.aload_n 0, 1) := by decide +kernel
theorem dX7_writeLaying_72 : decode cX7_writeLaying 72 = .ok (.getfield 44, 3) := by decide +kernel
theorem dX7_writeLaying_75 : decode cX7_writeLaying 75 = .ok (.iload_n 2, 1) := by decide +kernel
theorem dX7_writeLaying_76 : decode cX7_writeLaying 76 = .ok (.laload, 1) := by decide +kernel
theorem dX7_writeLaying_77 : decode cX7_writeLaying 77 = .ok (.invokevirtual 392, 3) := by decide +kernel
theorem dX7_writeLaying_80 : decode cX7_writeLaying 80 = .ok (.iinc 2 1, 3) := by decide +kernel
theorem dX7_writeLaying_83 : decode cX7_writeLaying 83 = .ok (.goto (-56), 3) := by decide +kernel
theorem dX7_writeLaying_86 : decode cX7_writeLaying 86 = .ok (.aload_n 0, 1) := by decide +kernel
theorem dX7_writeLaying_87 : decode cX7_writeLaying 87 = .ok (.getfield 140, 3) := by decide +kernel
theorem dX7_writeLaying_90 : decode cX7_writeLaying 90 = .ok (.lconst 0, 1) := by decide +kernel
theorem dX7_writeLaying_91 : decode cX7_writeLaying 91 = .ok (.lcmp, 1) := by decide +kernel
theorem dX7_writeLaying_92 : decode cX7_writeLaying 92 = .ok (.ifCond .eq 30, 3) := by decide +kernel
theorem dX7_writeLaying_95 : decode cX7_writeLaying 95 = .ok (.aload_n 0, 1) := by decide +kernel
theorem dX7_writeLaying_96 : decode cX7_writeLaying 96 = .ok (.getfield 374, 3) := by decide +kernel
theorem dX7_writeLaying_99 : decode cX7_writeLaying 99 = .ok (.ifCond .le 9, 3) := by decide +kernel
theorem dX7_writeLaying_102 : decode cX7_writeLaying 102 = .ok (.aload_n 0, 1) := by decide +kernel
theorem dX7_writeLaying_103 : decode cX7_writeLaying 103 = .ok (.bipush 32, 2) := by decide +kernel
theorem dX7_writeLaying_105 : decode cX7_writeLaying 105 = .ok (.invokevirtual 377, 3) := by decide +kernel
theorem dX7_writeLaying_108 : decode cX7_writeLaying 108 = .ok (.aload_n 0, 1) := by decide +kernel
theorem dX7_writeLaying_109 : decode cX7_writeLaying 109 = .ok (.bipush 45, 2) := by decide +kernel
theorem dX7_writeLaying_111 : decode cX7_writeLaying 111 = .ok (.invokevirtual 377, 3) := by decide +kernel
theorem dX7_writeLaying_114 : decode cX7_writeLaying 114 = .ok (.aload_n 0, 1) := by decide +kernel
theorem dX7_writeLaying_115 : decode cX7_writeLaying 115 = .ok (.aload_n 0, 1) := by decide +kernel
theorem dX7_writeLaying_116 : decode cX7_writeLaying 116 = .ok (.getfield 140, 3) := by decide +kernel
theorem dX7_writeLaying_119 : decode cX7_writeLaying 119 = .ok (.invokevirtual 388, 3) := by decide +kernel
theorem dX7_writeLaying_122 : decode cX7_writeLaying 122 = .ok (.aload_n 0, 1) := by decide +kernel
theorem dX7_writeLaying_123 : decode cX7_writeLaying 123 = .ok (.getfield 374, 3) := by decide +kernel
theorem dX7_writeLaying_126 : decode cX7_writeLaying 126 = .ok (.ireturn, 1) := by decide +kernel
theorem dX7_reportByte_0 : decode cX7_reportByte 0 = .ok (.aload_n 0, 1) := by decide +kernel
theorem dX7_reportByte_1 : decode cX7_reportByte 1 = .ok (.iconst 0, 1) := by decide +kernel
theorem dX7_reportByte_2 : decode cX7_reportByte 2 = .ok (.putfield 62, 3) := by decide +kernel
theorem dX7_reportByte_5 : decode cX7_reportByte 5 = .ok (.iload_n 1, 1) := by decide +kernel
theorem dX7_reportByte_6 : decode cX7_reportByte 6 = .ok (.ifCond .lt 11, 3) := by decide +kernel
theorem dX7_reportByte_9 : decode cX7_reportByte 9 = .ok (.iload_n 1, 1) := by decide +kernel
theorem dX7_reportByte_10 : decode cX7_reportByte 10 = .ok (.aload_n 0, 1) := by decide +kernel
theorem dX7_reportByte_11 : decode cX7_reportByte 11 = .ok (.getfield 374, 3) := by decide +kernel
theorem dX7_reportByte_14 : decode cX7_reportByte 14 = .ok (.if_icmp .lt 7, 3) := by decide +kernel
theorem dX7_reportByte_17 : decode cX7_reportByte 17 = .ok (.iconst (-1), 1) := by decide +kernel
theorem dX7_reportByte_18 : decode cX7_reportByte 18 = .ok (.goto 9, 3) := by decide +kernel
theorem dX7_reportByte_21 : decode cX7_reportByte 21 = .ok (.aload_n 0, 1) := by decide +kernel
theorem dX7_reportByte_22 : decode cX7_reportByte 22 = .ok (.getfield 31, 3) := by decide +kernel
theorem dX7_reportByte_25 : decode cX7_reportByte 25 = .ok (.iload_n 1, 1) := by decide +kernel
theorem dX7_reportByte_26 : decode cX7_reportByte 26 = .ok (.baload, 1) := by decide +kernel
theorem dX7_reportByte_27 : decode cX7_reportByte 27 = .ok (.ireturn, 1) := by decide +kernel
theorem dL_drop_0 : decode cL_drop 0 = .ok (.aload_n 2, 1) := by decide +kernel
theorem dL_drop_1 : decode cL_drop 1 = .ok (.iconst 0, 1) := by decide +kernel
theorem dL_drop_2 : decode cL_drop 2 = .ok (.aload_n 0, 1) := by decide +kernel
theorem dL_drop_3 : decode cL_drop 3 = .ok (.iload_n 1, 1) := by decide +kernel
theorem dL_drop_4 : decode cL_drop 4 = .ok (.invokevirtual 7, 3) := by decide +kernel
theorem dL_drop_7 : decode cL_drop 7 = .ok (.i2l, 1) := by decide +kernel
theorem dL_drop_8 : decode cL_drop 8 = .ok (.lastore, 1) := by decide +kernel
theorem dL_drop_9 : decode cL_drop 9 = .ok (.goto 6, 3) := by decide +kernel
theorem dL_drop_12 : decode cL_drop 12 = .ok (.astore_n 3, 1) := by decide +kernel
theorem dL_drop_13 : decode cL_drop 13 = .ok (.iconst 1, 1) := by decide +kernel
theorem dL_drop_14 : decode cL_drop 14 = .ok (.ireturn, 1) := by decide +kernel
theorem dL_drop_15 : decode cL_drop 15 = .ok (.iconst 0, 1) := by decide +kernel
theorem dL_drop_16 : decode cL_drop 16 = .ok (.ireturn, 1) := by decide +kernel
theorem dL_knock_0 : decode cL_knock 0 = .ok (.aload_n 2, 1) := by decide +kernel
theorem dL_knock_1 : decode cL_knock 1 = .ok (.iconst 0, 1) := by decide +kernel
theorem dL_knock_2 : decode cL_knock 2 = .ok (.aload_n 0, 1) := by decide +kernel
theorem dL_knock_3 : decode cL_knock 3 = .ok (.iload_n 1, 1) := by decide +kernel
theorem dL_knock_4 : decode cL_knock 4 = .ok (.invokevirtual 15, 3) := by decide +kernel
theorem dL_knock_7 : decode cL_knock 7 = .ok (.i2l, 1) := by decide +kernel
theorem dL_knock_8 : decode cL_knock 8 = .ok (.lastore, 1) := by decide +kernel
theorem dL_knock_9 : decode cL_knock 9 = .ok (.goto 6, 3) := by decide +kernel
theorem dL_knock_12 : decode cL_knock 12 = .ok (.astore_n 3, 1) := by decide +kernel
theorem dL_knock_13 : decode cL_knock 13 = .ok (.iconst 1, 1) := by decide +kernel
theorem dL_knock_14 : decode cL_knock 14 = .ok (.ireturn, 1) := by decide +kernel
theorem dL_knock_15 : decode cL_knock 15 = .ok (.iconst 0, 1) := by decide +kernel
theorem dL_knock_16 : decode cL_knock 16 = .ok (.ireturn, 1) := by decide +kernel
theorem dL_set_0 : decode cL_set 0 = .ok (.aload_n 3, 1) := by decide +kernel
theorem dL_set_1 : decode cL_set 1 = .ok (.iconst 0, 1) := by decide +kernel
theorem dL_set_2 : decode cL_set 2 = .ok (.aload_n 0, 1) := by decide +kernel
theorem dL_set_3 : decode cL_set 3 = .ok (.iload_n 1, 1) := by decide +kernel
theorem dL_set_4 : decode cL_set 4 = .ok (.iload_n 2, 1) := by decide +kernel
theorem dL_set_5 : decode cL_set 5 = .ok (.invokevirtual 18, 3) := by decide +kernel
theorem dL_set_8 : decode cL_set 8 = .ok (.i2l, 1) := by decide +kernel
theorem dL_set_9 : decode cL_set 9 = .ok (.lastore, 1) := by decide +kernel
theorem dL_set_10 : decode cL_set 10 = .ok (.goto 7, 3) := by decide +kernel
theorem dL_set_13 : decode cL_set 13 = .ok (.astore 4, 2) := by decide +kernel
theorem dL_set_15 : decode cL_set 15 = .ok (.iconst 1, 1) := by decide +kernel
theorem dL_set_16 : decode cL_set 16 = .ok (.ireturn, 1) := by decide +kernel
theorem dL_set_17 : decode cL_set 17 = .ok (.iconst 0, 1) := by decide +kernel
theorem dL_set_18 : decode cL_set 18 = .ok (.ireturn, 1) := by decide +kernel
theorem dL_keep_0 : decode cL_keep 0 = .ok (.aload_n 2, 1) := by decide +kernel
theorem dL_keep_1 : decode cL_keep 1 = .ok (.iconst 0, 1) := by decide +kernel
theorem dL_keep_2 : decode cL_keep 2 = .ok (.aload_n 0, 1) := by decide +kernel
theorem dL_keep_3 : decode cL_keep 3 = .ok (.iload_n 1, 1) := by decide +kernel
theorem dL_keep_4 : decode cL_keep 4 = .ok (.invokevirtual 24, 3) := by decide +kernel
theorem dL_keep_7 : decode cL_keep 7 = .ok (.i2l, 1) := by decide +kernel
theorem dL_keep_8 : decode cL_keep 8 = .ok (.lastore, 1) := by decide +kernel
theorem dL_keep_9 : decode cL_keep 9 = .ok (.goto 6, 3) := by decide +kernel
theorem dL_keep_12 : decode cL_keep 12 = .ok (.astore_n 3, 1) := by decide +kernel
theorem dL_keep_13 : decode cL_keep 13 = .ok (.iconst 1, 1) := by decide +kernel
theorem dL_keep_14 : decode cL_keep 14 = .ok (.ireturn, 1) := by decide +kernel
theorem dL_keep_15 : decode cL_keep 15 = .ok (.iconst 0, 1) := by decide +kernel
theorem dL_keep_16 : decode cL_keep 16 = .ok (.ireturn, 1) := by decide +kernel
theorem dL_restore_0 : decode cL_restore 0 = .ok (.aload_n 2, 1) := by decide +kernel
theorem dL_restore_1 : decode cL_restore 1 = .ok (.iconst 0, 1) := by decide +kernel
theorem dL_restore_2 : decode cL_restore 2 = .ok (.aload_n 0, 1) := by decide +kernel
theorem dL_restore_3 : decode cL_restore 3 = .ok (.iload_n 1, 1) := by decide +kernel
theorem dL_restore_4 : decode cL_restore 4 = .ok (.invokevirtual 27, 3) := by decide +kernel
theorem dL_restore_7 : decode cL_restore 7 = .ok (.i2l, 1) := by decide +kernel
theorem dL_restore_8 : decode cL_restore 8 = .ok (.lastore, 1) := by decide +kernel
theorem dL_restore_9 : decode cL_restore 9 = .ok (.goto 9, 3) := by decide +kernel
theorem dL_restore_12 : decode cL_restore 12 = .ok (.astore_n 3, 1) := by decide +kernel
theorem dL_restore_13 : decode cL_restore 13 = .ok (.iconst 1, 1) := by decide +kernel
theorem dL_restore_14 : decode cL_restore 14 = .ok (.ireturn, 1) := by decide +kernel
theorem dL_restore_15 : decode cL_restore 15 = .ok (.astore_n 3, 1) := by decide +kernel
theorem dL_restore_16 : decode cL_restore 16 = .ok (.iconst 2, 1) := by decide +kernel
theorem dL_restore_17 : decode cL_restore 17 = .ok (.ireturn, 1) := by decide +kernel
theorem dL_restore_18 : decode cL_restore 18 = .ok (.iconst 0, 1) := by decide +kernel
theorem dL_restore_19 : decode cL_restore 19 = .ok (.ireturn, 1) := by decide +kernel
theorem dL_truncate_0 : decode cL_truncate 0 = .ok (.aload_n 2, 1) := by decide +kernel
theorem dL_truncate_1 : decode cL_truncate 1 = .ok (.iconst 0, 1) := by decide +kernel
theorem dL_truncate_2 : decode cL_truncate 2 = .ok (.aload_n 0, 1) := by decide +kernel
theorem dL_truncate_3 : decode cL_truncate 3 = .ok (.iload_n 1, 1) := by decide +kernel
theorem dL_truncate_4 : decode cL_truncate 4 = .ok (.invokevirtual 32, 3) := by decide +kernel
theorem dL_truncate_7 : decode cL_truncate 7 = .ok (.i2l, 1) := by decide +kernel
theorem dL_truncate_8 : decode cL_truncate 8 = .ok (.lastore, 1) := by decide +kernel
theorem dL_truncate_9 : decode cL_truncate 9 = .ok (.goto 6, 3) := by decide +kernel
theorem dL_truncate_12 : decode cL_truncate 12 = .ok (.astore_n 3, 1) := by decide +kernel
theorem dL_truncate_13 : decode cL_truncate 13 = .ok (.iconst 1, 1) := by decide +kernel
theorem dL_truncate_14 : decode cL_truncate 14 = .ok (.ireturn, 1) := by decide +kernel
theorem dL_truncate_15 : decode cL_truncate 15 = .ok (.iconst 0, 1) := by decide +kernel
theorem dL_truncate_16 : decode cL_truncate 16 = .ok (.ireturn, 1) := by decide +kernel
theorem dL_match_0 : decode cL_match 0 = .ok (.aload_n 2, 1) := by decide +kernel
theorem dL_match_1 : decode cL_match 1 = .ok (.iconst 0, 1) := by decide +kernel
theorem dL_match_2 : decode cL_match 2 = .ok (.aload_n 0, 1) := by decide +kernel
theorem dL_match_3 : decode cL_match 3 = .ok (.iload_n 1, 1) := by decide +kernel
theorem dL_match_4 : decode cL_match 4 = .ok (.invokevirtual 35, 3) := by decide +kernel
theorem dL_match_7 : decode cL_match 7 = .ok (.i2l, 1) := by decide +kernel
theorem dL_match_8 : decode cL_match 8 = .ok (.lastore, 1) := by decide +kernel
theorem dL_match_9 : decode cL_match 9 = .ok (.goto 6, 3) := by decide +kernel
theorem dL_match_12 : decode cL_match 12 = .ok (.astore_n 3, 1) := by decide +kernel
theorem dL_match_13 : decode cL_match 13 = .ok (.iconst 1, 1) := by decide +kernel
theorem dL_match_14 : decode cL_match 14 = .ok (.ireturn, 1) := by decide +kernel
theorem dL_match_15 : decode cL_match 15 = .ok (.iconst 0, 1) := by decide +kernel
theorem dL_match_16 : decode cL_match 16 = .ok (.ireturn, 1) := by decide +kernel
theorem dL_player_0 : decode cL_player 0 = .ok (.aload_n 3, 1) := by decide +kernel
theorem dL_player_1 : decode cL_player 1 = .ok (.iconst 0, 1) := by decide +kernel
theorem dL_player_2 : decode cL_player 2 = .ok (.aload_n 0, 1) := by decide +kernel
theorem dL_player_3 : decode cL_player 3 = .ok (.iload_n 1, 1) := by decide +kernel
theorem dL_player_4 : decode cL_player 4 = .ok (.iload_n 2, 1) := by decide +kernel
theorem dL_player_5 : decode cL_player 5 = .ok (.invokevirtual 38, 3) := by decide +kernel
theorem dL_player_8 : decode cL_player 8 = .ok (.i2l, 1) := by decide +kernel
theorem dL_player_9 : decode cL_player 9 = .ok (.lastore, 1) := by decide +kernel
theorem dL_player_10 : decode cL_player 10 = .ok (.goto 7, 3) := by decide +kernel
theorem dL_player_13 : decode cL_player 13 = .ok (.astore 4, 2) := by decide +kernel
theorem dL_player_15 : decode cL_player 15 = .ok (.iconst 1, 1) := by decide +kernel
theorem dL_player_16 : decode cL_player 16 = .ok (.ireturn, 1) := by decide +kernel
theorem dL_player_17 : decode cL_player 17 = .ok (.iconst 0, 1) := by decide +kernel
theorem dL_player_18 : decode cL_player 18 = .ok (.ireturn, 1) := by decide +kernel
theorem dL_card_0 : decode cL_card 0 = .ok (.aload_n 3, 1) := by decide +kernel
theorem dL_card_1 : decode cL_card 1 = .ok (.iconst 0, 1) := by decide +kernel
theorem dL_card_2 : decode cL_card 2 = .ok (.aload_n 0, 1) := by decide +kernel
theorem dL_card_3 : decode cL_card 3 = .ok (.iload_n 1, 1) := by decide +kernel
theorem dL_card_4 : decode cL_card 4 = .ok (.iload_n 2, 1) := by decide +kernel
theorem dL_card_5 : decode cL_card 5 = .ok (.invokevirtual 42, 3) := by decide +kernel
theorem dL_card_8 : decode cL_card 8 = .ok (.i2l, 1) := by decide +kernel
theorem dL_card_9 : decode cL_card 9 = .ok (.lastore, 1) := by decide +kernel
theorem dL_card_10 : decode cL_card 10 = .ok (.goto 7, 3) := by decide +kernel
theorem dL_card_13 : decode cL_card 13 = .ok (.astore 4, 2) := by decide +kernel
theorem dL_card_15 : decode cL_card 15 = .ok (.iconst 1, 1) := by decide +kernel
theorem dL_card_16 : decode cL_card 16 = .ok (.ireturn, 1) := by decide +kernel
theorem dL_card_17 : decode cL_card 17 = .ok (.iconst 0, 1) := by decide +kernel
theorem dL_card_18 : decode cL_card 18 = .ok (.ireturn, 1) := by decide +kernel
theorem dL_where_0 : decode cL_where 0 = .ok (.aload_n 2, 1) := by decide +kernel
theorem dL_where_1 : decode cL_where 1 = .ok (.iconst 0, 1) := by decide +kernel
theorem dL_where_2 : decode cL_where 2 = .ok (.aload_n 0, 1) := by decide +kernel
theorem dL_where_3 : decode cL_where 3 = .ok (.iload_n 1, 1) := by decide +kernel
theorem dL_where_4 : decode cL_where 4 = .ok (.invokevirtual 45, 3) := by decide +kernel
theorem dL_where_7 : decode cL_where 7 = .ok (.i2l, 1) := by decide +kernel
theorem dL_where_8 : decode cL_where 8 = .ok (.lastore, 1) := by decide +kernel
theorem dL_where_9 : decode cL_where 9 = .ok (.goto 6, 3) := by decide +kernel
theorem dL_where_12 : decode cL_where 12 = .ok (.astore_n 3, 1) := by decide +kernel
theorem dL_where_13 : decode cL_where 13 = .ok (.iconst 1, 1) := by decide +kernel
theorem dL_where_14 : decode cL_where 14 = .ok (.ireturn, 1) := by decide +kernel
theorem dL_where_15 : decode cL_where 15 = .ok (.iconst 0, 1) := by decide +kernel
theorem dL_where_16 : decode cL_where 16 = .ok (.ireturn, 1) := by decide +kernel
theorem dL_meldOf_0 : decode cL_meldOf 0 = .ok (.aload_n 3, 1) := by decide +kernel
theorem dL_meldOf_1 : decode cL_meldOf 1 = .ok (.iconst 0, 1) := by decide +kernel
theorem dL_meldOf_2 : decode cL_meldOf 2 = .ok (.aload_n 0, 1) := by decide +kernel
theorem dL_meldOf_3 : decode cL_meldOf 3 = .ok (.iload_n 1, 1) := by decide +kernel
theorem dL_meldOf_4 : decode cL_meldOf 4 = .ok (.iload_n 2, 1) := by decide +kernel
theorem dL_meldOf_5 : decode cL_meldOf 5 = .ok (.invokevirtual 48, 3) := by decide +kernel
theorem dL_meldOf_8 : decode cL_meldOf 8 = .ok (.i2l, 1) := by decide +kernel
theorem dL_meldOf_9 : decode cL_meldOf 9 = .ok (.lastore, 1) := by decide +kernel
theorem dL_meldOf_10 : decode cL_meldOf 10 = .ok (.goto 11, 3) := by decide +kernel
theorem dL_meldOf_13 : decode cL_meldOf 13 = .ok (.astore 4, 2) := by decide +kernel
theorem dL_meldOf_15 : decode cL_meldOf 15 = .ok (.iconst 1, 1) := by decide +kernel
theorem dL_meldOf_16 : decode cL_meldOf 16 = .ok (.ireturn, 1) := by decide +kernel
theorem dL_meldOf_17 : decode cL_meldOf 17 = .ok (.astore 4, 2) := by decide +kernel
theorem dL_meldOf_19 : decode cL_meldOf 19 = .ok (.iconst 2, 1) := by decide +kernel
theorem dL_meldOf_20 : decode cL_meldOf 20 = .ok (.ireturn, 1) := by decide +kernel
theorem dL_meldOf_21 : decode cL_meldOf 21 = .ok (.iconst 0, 1) := by decide +kernel
theorem dL_meldOf_22 : decode cL_meldOf 22 = .ok (.ireturn, 1) := by decide +kernel
theorem dL_meld_0 : decode cL_meld 0 = .ok (.aload 4, 2) := by decide +kernel
theorem dL_meld_2 : decode cL_meld 2 = .ok (.iconst 0, 1) := by decide +kernel
theorem dL_meld_3 : decode cL_meld 3 = .ok (.aload_n 0, 1) := by decide +kernel
theorem dL_meld_4 : decode cL_meld 4 = .ok (.iload_n 1, 1) := by decide +kernel
theorem dL_meld_5 : decode cL_meld 5 = .ok (.iload_n 2, 1) := by decide +kernel
theorem dL_meld_6 : decode cL_meld 6 = .ok (.iload_n 3, 1) := by decide +kernel
theorem dL_meld_7 : decode cL_meld 7 = .ok (.invokevirtual 51, 3) := by decide +kernel
theorem dL_meld_10 : decode cL_meld 10 = .ok (.i2l, 1) := by decide +kernel
theorem dL_meld_11 : decode cL_meld 11 = .ok (.lastore, 1) := by decide +kernel
theorem dL_meld_12 : decode cL_meld 12 = .ok (.goto 7, 3) := by decide +kernel
theorem dL_meld_15 : decode cL_meld 15 = .ok (.astore 5, 2) := by decide +kernel
theorem dL_meld_17 : decode cL_meld 17 = .ok (.iconst 1, 1) := by decide +kernel
theorem dL_meld_18 : decode cL_meld 18 = .ok (.ireturn, 1) := by decide +kernel
theorem dL_meld_19 : decode cL_meld 19 = .ok (.iconst 0, 1) := by decide +kernel
theorem dL_meld_20 : decode cL_meld 20 = .ok (.ireturn, 1) := by decide +kernel
theorem dL_restWithout_0 : decode cL_restWithout 0 = .ok (.aload_n 2, 1) := by decide +kernel
theorem dL_restWithout_1 : decode cL_restWithout 1 = .ok (.iconst 0, 1) := by decide +kernel
theorem dL_restWithout_2 : decode cL_restWithout 2 = .ok (.aload_n 0, 1) := by decide +kernel
theorem dL_restWithout_3 : decode cL_restWithout 3 = .ok (.iload_n 1, 1) := by decide +kernel
theorem dL_restWithout_4 : decode cL_restWithout 4 = .ok (.invokevirtual 55, 3) := by decide +kernel
theorem dL_restWithout_7 : decode cL_restWithout 7 = .ok (.i2l, 1) := by decide +kernel
theorem dL_restWithout_8 : decode cL_restWithout 8 = .ok (.lastore, 1) := by decide +kernel
theorem dL_restWithout_9 : decode cL_restWithout 9 = .ok (.goto 6, 3) := by decide +kernel
theorem dL_restWithout_12 : decode cL_restWithout 12 = .ok (.astore_n 3, 1) := by decide +kernel
theorem dL_restWithout_13 : decode cL_restWithout 13 = .ok (.iconst 1, 1) := by decide +kernel
theorem dL_restWithout_14 : decode cL_restWithout 14 = .ok (.ireturn, 1) := by decide +kernel
theorem dL_restWithout_15 : decode cL_restWithout 15 = .ok (.iconst 0, 1) := by decide +kernel
theorem dL_restWithout_16 : decode cL_restWithout 16 = .ok (.ireturn, 1) := by decide +kernel
theorem dL_helping_0 : decode cL_helping 0 = .ok (.aload_n 2, 1) := by decide +kernel
theorem dL_helping_1 : decode cL_helping 1 = .ok (.iconst 0, 1) := by decide +kernel
theorem dL_helping_2 : decode cL_helping 2 = .ok (.aload_n 0, 1) := by decide +kernel
theorem dL_helping_3 : decode cL_helping 3 = .ok (.iload_n 1, 1) := by decide +kernel
theorem dL_helping_4 : decode cL_helping 4 = .ok (.invokevirtual 58, 3) := by decide +kernel
theorem dL_helping_7 : decode cL_helping 7 = .ok (.i2l, 1) := by decide +kernel
theorem dL_helping_8 : decode cL_helping 8 = .ok (.lastore, 1) := by decide +kernel
theorem dL_helping_9 : decode cL_helping 9 = .ok (.goto 6, 3) := by decide +kernel
theorem dL_helping_12 : decode cL_helping 12 = .ok (.astore_n 3, 1) := by decide +kernel
theorem dL_helping_13 : decode cL_helping 13 = .ok (.iconst 1, 1) := by decide +kernel
theorem dL_helping_14 : decode cL_helping 14 = .ok (.ireturn, 1) := by decide +kernel
theorem dL_helping_15 : decode cL_helping 15 = .ok (.iconst 0, 1) := by decide +kernel
theorem dL_helping_16 : decode cL_helping 16 = .ok (.ireturn, 1) := by decide +kernel
theorem dL_ifKnock_0 : decode cL_ifKnock 0 = .ok (.aload_n 3, 1) := by decide +kernel
theorem dL_ifKnock_1 : decode cL_ifKnock 1 = .ok (.iconst 0, 1) := by decide +kernel
theorem dL_ifKnock_2 : decode cL_ifKnock 2 = .ok (.aload_n 0, 1) := by decide +kernel
theorem dL_ifKnock_3 : decode cL_ifKnock 3 = .ok (.iload_n 1, 1) := by decide +kernel
theorem dL_ifKnock_4 : decode cL_ifKnock 4 = .ok (.iload_n 2, 1) := by decide +kernel
theorem dL_ifKnock_5 : decode cL_ifKnock 5 = .ok (.invokevirtual 61, 3) := by decide +kernel
theorem dL_ifKnock_8 : decode cL_ifKnock 8 = .ok (.i2l, 1) := by decide +kernel
theorem dL_ifKnock_9 : decode cL_ifKnock 9 = .ok (.lastore, 1) := by decide +kernel
theorem dL_ifKnock_10 : decode cL_ifKnock 10 = .ok (.goto 11, 3) := by decide +kernel
theorem dL_ifKnock_13 : decode cL_ifKnock 13 = .ok (.astore 4, 2) := by decide +kernel
theorem dL_ifKnock_15 : decode cL_ifKnock 15 = .ok (.iconst 1, 1) := by decide +kernel
theorem dL_ifKnock_16 : decode cL_ifKnock 16 = .ok (.ireturn, 1) := by decide +kernel
theorem dL_ifKnock_17 : decode cL_ifKnock 17 = .ok (.astore 4, 2) := by decide +kernel
theorem dL_ifKnock_19 : decode cL_ifKnock 19 = .ok (.iconst 2, 1) := by decide +kernel
theorem dL_ifKnock_20 : decode cL_ifKnock 20 = .ok (.ireturn, 1) := by decide +kernel
theorem dL_ifKnock_21 : decode cL_ifKnock 21 = .ok (.iconst 0, 1) := by decide +kernel
theorem dL_ifKnock_22 : decode cL_ifKnock 22 = .ok (.ireturn, 1) := by decide +kernel
theorem dL_kind_0 : decode cL_kind 0 = .ok (.aload_n 3, 1) := by decide +kernel
theorem dL_kind_1 : decode cL_kind 1 = .ok (.iconst 0, 1) := by decide +kernel
theorem dL_kind_2 : decode cL_kind 2 = .ok (.aload_n 0, 1) := by decide +kernel
theorem dL_kind_3 : decode cL_kind 3 = .ok (.lload_n 1, 1) := by decide +kernel
theorem dL_kind_4 : decode cL_kind 4 = .ok (.invokevirtual 64, 3) := by decide +kernel
theorem dL_kind_7 : decode cL_kind 7 = .ok (.i2l, 1) := by decide +kernel
theorem dL_kind_8 : decode cL_kind 8 = .ok (.lastore, 1) := by decide +kernel
theorem dL_kind_9 : decode cL_kind 9 = .ok (.goto 7, 3) := by decide +kernel
theorem dL_kind_12 : decode cL_kind 12 = .ok (.astore 4, 2) := by decide +kernel
theorem dL_kind_14 : decode cL_kind 14 = .ok (.iconst 1, 1) := by decide +kernel
theorem dL_kind_15 : decode cL_kind 15 = .ok (.ireturn, 1) := by decide +kernel
theorem dL_kind_16 : decode cL_kind 16 = .ok (.iconst 0, 1) := by decide +kernel
theorem dL_kind_17 : decode cL_kind 17 = .ok (.ireturn, 1) := by decide +kernel
theorem dL_laid_0 : decode cL_laid 0 = .ok (.aload_n 2, 1) := by decide +kernel
theorem dL_laid_1 : decode cL_laid 1 = .ok (.iconst 0, 1) := by decide +kernel
theorem dL_laid_2 : decode cL_laid 2 = .ok (.aload_n 0, 1) := by decide +kernel
theorem dL_laid_3 : decode cL_laid 3 = .ok (.iload_n 1, 1) := by decide +kernel
theorem dL_laid_4 : decode cL_laid 4 = .ok (.invokevirtual 68, 3) := by decide +kernel
theorem dL_laid_7 : decode cL_laid 7 = .ok (.f2d, 1) := by decide +kernel
theorem dL_laid_8 : decode cL_laid 8 = .ok (.dastore, 1) := by decide +kernel
theorem dL_laid_9 : decode cL_laid 9 = .ok (.goto 6, 3) := by decide +kernel
theorem dL_laid_12 : decode cL_laid 12 = .ok (.astore_n 3, 1) := by decide +kernel
theorem dL_laid_13 : decode cL_laid 13 = .ok (.iconst 1, 1) := by decide +kernel
theorem dL_laid_14 : decode cL_laid 14 = .ok (.ireturn, 1) := by decide +kernel
theorem dL_laid_15 : decode cL_laid 15 = .ok (.iconst 0, 1) := by decide +kernel
theorem dL_laid_16 : decode cL_laid 16 = .ok (.ireturn, 1) := by decide +kernel
theorem dL_writeLaying_0 : decode cL_writeLaying 0 = .ok (.aload_n 2, 1) := by decide +kernel
theorem dL_writeLaying_1 : decode cL_writeLaying 1 = .ok (.iconst 0, 1) := by decide +kernel
theorem dL_writeLaying_2 : decode cL_writeLaying 2 = .ok (.aload_n 0, 1) := by decide +kernel
theorem dL_writeLaying_3 : decode cL_writeLaying 3 = .ok (.iload_n 1, 1) := by decide +kernel
theorem dL_writeLaying_4 : decode cL_writeLaying 4 = .ok (.invokevirtual 72, 3) := by decide +kernel
theorem dL_writeLaying_7 : decode cL_writeLaying 7 = .ok (.i2l, 1) := by decide +kernel
theorem dL_writeLaying_8 : decode cL_writeLaying 8 = .ok (.lastore, 1) := by decide +kernel
theorem dL_writeLaying_9 : decode cL_writeLaying 9 = .ok (.goto 6, 3) := by decide +kernel
theorem dL_writeLaying_12 : decode cL_writeLaying 12 = .ok (.astore_n 3, 1) := by decide +kernel
theorem dL_writeLaying_13 : decode cL_writeLaying 13 = .ok (.iconst 1, 1) := by decide +kernel
theorem dL_writeLaying_14 : decode cL_writeLaying 14 = .ok (.ireturn, 1) := by decide +kernel
theorem dL_writeLaying_15 : decode cL_writeLaying 15 = .ok (.iconst 0, 1) := by decide +kernel
theorem dL_writeLaying_16 : decode cL_writeLaying 16 = .ok (.ireturn, 1) := by decide +kernel
theorem dL_law_0 : decode cL_law 0 = .ok (.new 8, 3) := by decide +kernel
theorem dL_law_3 : decode cL_law 3 = .ok (.dup, 1) := by decide +kernel
theorem dL_law_4 : decode cL_law 4 = .ok (.invokespecial 75, 3) := by decide +kernel
theorem dL_law_7 : decode cL_law 7 = .ok (.astore_n 1, 1) := by decide +kernel
theorem dL_law_8 : decode cL_law 8 = .ok (.new 76, 3) := by decide +kernel
theorem dL_law_11 : decode cL_law 11 = .ok (.dup, 1) := by decide +kernel
theorem dL_law_12 : decode cL_law 12 = .ok (.invokespecial 78, 3) := by decide +kernel
theorem dL_law_15 : decode cL_law 15 = .ok (.astore_n 2, 1) := by decide +kernel
theorem dL_law_16 : decode cL_law 16 = .ok (.iconst 1, 1) := by decide +kernel
theorem dL_law_17 : decode cL_law 17 = .ok (.newarray .long, 2) := by decide +kernel
theorem dL_law_19 : decode cL_law 19 = .ok (.astore_n 3, 1) := by decide +kernel
theorem dL_law_20 : decode cL_law 20 = .ok (.iconst 1, 1) := by decide +kernel
theorem dL_law_21 : decode cL_law 21 = .ok (.newarray .double, 2) := by decide +kernel
theorem dL_law_23 : decode cL_law 23 = .ok (.astore 4, 2) := by decide +kernel
theorem dL_law_25 : decode cL_law 25 = .ok (.iconst 0, 1) := by decide +kernel
theorem dL_law_26 : decode cL_law 26 = .ok (.istore 5, 2) := by decide +kernel
theorem dL_law_28 : decode cL_law 28 = .ok (.iload 5, 2) := by decide +kernel
theorem dL_law_30 : decode cL_law 30 = .ok (.aload_n 0, 1) := by decide +kernel
theorem dL_law_31 : decode cL_law 31 = .ok (.arraylength, 1) := by decide +kernel
theorem dL_law_32 : decode cL_law 32 = .ok (.bipush 6, 2) := by decide +kernel
theorem dL_law_34 : decode cL_law 34 = .ok (.isub, 1) := by decide +kernel
theorem dL_law_35 : decode cL_law 35 = .ok (.if_icmp .gt 1598, 3) := by decide +kernel
theorem dL_law_38 : decode cL_law 38 = .ok (.aload_n 0, 1) := by decide +kernel
theorem dL_law_39 : decode cL_law 39 = .ok (.iload 5, 2) := by decide +kernel
theorem dL_law_41 : decode cL_law 41 = .ok (.iaload, 1) := by decide +kernel
theorem dL_law_42 : decode cL_law 42 = .ok (.bipush 31, 2) := by decide +kernel
theorem dL_law_44 : decode cL_law 44 = .ok (.iand, 1) := by decide +kernel
theorem dL_law_45 : decode cL_law 45 = .ok (.tableswitch 1582 0 29 #[135, 148, 189, 245, 301, 314, 398, 411, 467, 523, 596, 652, 708, 722, 790, 858, 914, 982, 1062, 1118, 1131, 1144, 1200, 1268, 1281, 1369, 1382, 1423, 1501, 1557], 135) := by decide +kernel
theorem dL_law_180 : decode cL_law 180 = .ok (.aload_n 1, 1) := by decide +kernel
theorem dL_law_181 : decode cL_law 181 = .ok (.invokevirtual 79, 3) := by decide +kernel
theorem dL_law_184 : decode cL_law 184 = .ok (.aload_n 2, 1) := by decide +kernel
theorem dL_law_185 : decode cL_law 185 = .ok (.invokevirtual 83, 3) := by decide +kernel
theorem dL_law_188 : decode cL_law 188 = .ok (.if_icmp .eq 1439, 3) := by decide +kernel
theorem dL_law_191 : decode cL_law 191 = .ok (.iconst 0, 1) := by decide +kernel
theorem dL_law_192 : decode cL_law 192 = .ok (.ireturn, 1) := by decide +kernel
theorem dL_law_193 : decode cL_law 193 = .ok (.aload_n 1, 1) := by decide +kernel
theorem dL_law_194 : decode cL_law 194 = .ok (.aload_n 0, 1) := by decide +kernel
theorem dL_law_195 : decode cL_law 195 = .ok (.iload 5, 2) := by decide +kernel
theorem dL_law_197 : decode cL_law 197 = .ok (.iconst 1, 1) := by decide +kernel
theorem dL_law_198 : decode cL_law 198 = .ok (.iadd, 1) := by decide +kernel
theorem dL_law_199 : decode cL_law 199 = .ok (.iaload, 1) := by decide +kernel
theorem dL_law_200 : decode cL_law 200 = .ok (.ifCond .eq 7, 3) := by decide +kernel
theorem dL_law_203 : decode cL_law 203 = .ok (.iconst 1, 1) := by decide +kernel
theorem dL_law_204 : decode cL_law 204 = .ok (.goto 4, 3) := by decide +kernel
theorem dL_law_207 : decode cL_law 207 = .ok (.iconst 0, 1) := by decide +kernel
theorem dL_law_208 : decode cL_law 208 = .ok (.invokevirtual 84, 3) := by decide +kernel
theorem dL_law_211 : decode cL_law 211 = .ok (.aload_n 2, 1) := by decide +kernel
theorem dL_law_212 : decode cL_law 212 = .ok (.aload_n 0, 1) := by decide +kernel
theorem dL_law_213 : decode cL_law 213 = .ok (.iload 5, 2) := by decide +kernel
theorem dL_law_215 : decode cL_law 215 = .ok (.iconst 1, 1) := by decide +kernel
theorem dL_law_216 : decode cL_law 216 = .ok (.iadd, 1) := by decide +kernel
theorem dL_law_217 : decode cL_law 217 = .ok (.iaload, 1) := by decide +kernel
theorem dL_law_218 : decode cL_law 218 = .ok (.ifCond .eq 7, 3) := by decide +kernel
theorem dL_law_221 : decode cL_law 221 = .ok (.iconst 1, 1) := by decide +kernel
theorem dL_law_222 : decode cL_law 222 = .ok (.goto 4, 3) := by decide +kernel
theorem dL_law_225 : decode cL_law 225 = .ok (.iconst 0, 1) := by decide +kernel
theorem dL_law_226 : decode cL_law 226 = .ok (.invokevirtual 88, 3) := by decide +kernel
theorem dL_law_229 : decode cL_law 229 = .ok (.if_icmp .eq 1398, 3) := by decide +kernel
theorem dL_law_232 : decode cL_law 232 = .ok (.iconst 0, 1) := by decide +kernel
theorem dL_law_233 : decode cL_law 233 = .ok (.ireturn, 1) := by decide +kernel
theorem dL_law_234 : decode cL_law 234 = .ok (.aload_n 1, 1) := by decide +kernel
theorem dL_law_235 : decode cL_law 235 = .ok (.aload_n 0, 1) := by decide +kernel
theorem dL_law_236 : decode cL_law 236 = .ok (.iload 5, 2) := by decide +kernel
theorem dL_law_238 : decode cL_law 238 = .ok (.iconst 1, 1) := by decide +kernel
theorem dL_law_239 : decode cL_law 239 = .ok (.iadd, 1) := by decide +kernel
theorem dL_law_240 : decode cL_law 240 = .ok (.iaload, 1) := by decide +kernel
theorem dL_law_241 : decode cL_law 241 = .ok (.aload_n 3, 1) := by decide +kernel
theorem dL_law_242 : decode cL_law 242 = .ok (.invokestatic 89, 3) := by decide +kernel
theorem dL_law_245 : decode cL_law 245 = .ok (.istore 6, 2) := by decide +kernel
theorem dL_law_247 : decode cL_law 247 = .ok (.aload_n 2, 1) := by decide +kernel
theorem dL_law_248 : decode cL_law 248 = .ok (.aload_n 0, 1) := by decide +kernel
theorem dL_law_249 : decode cL_law 249 = .ok (.iload 5, 2) := by decide +kernel
theorem dL_law_251 : decode cL_law 251 = .ok (.iconst 1, 1) := by decide +kernel
theorem dL_law_252 : decode cL_law 252 = .ok (.iadd, 1) := by decide +kernel
theorem dL_law_253 : decode cL_law 253 = .ok (.iaload, 1) := by decide +kernel
theorem dL_law_254 : decode cL_law 254 = .ok (.invokevirtual 94, 3) := by decide +kernel
theorem dL_law_257 : decode cL_law 257 = .ok (.istore 7, 2) := by decide +kernel
theorem dL_law_259 : decode cL_law 259 = .ok (.aload_n 2, 1) := by decide +kernel
theorem dL_law_260 : decode cL_law 260 = .ok (.invokevirtual 95, 3) := by decide +kernel
theorem dL_law_263 : decode cL_law 263 = .ok (.iload 6, 2) := by decide +kernel
theorem dL_law_265 : decode cL_law 265 = .ok (.if_icmp .eq 5, 3) := by decide +kernel
theorem dL_law_268 : decode cL_law 268 = .ok (.iconst 0, 1) := by decide +kernel
theorem dL_law_269 : decode cL_law 269 = .ok (.ireturn, 1) := by decide +kernel
theorem dL_law_270 : decode cL_law 270 = .ok (.iload 6, 2) := by decide +kernel
theorem dL_law_272 : decode cL_law 272 = .ok (.ifCond .ne 15, 3) := by decide +kernel
theorem dL_law_275 : decode cL_law 275 = .ok (.aload_n 3, 1) := by decide +kernel
theorem dL_law_276 : decode cL_law 276 = .ok (.iconst 0, 1) := by decide +kernel
theorem dL_law_277 : decode cL_law 277 = .ok (.laload, 1) := by decide +kernel
theorem dL_law_278 : decode cL_law 278 = .ok (.iload 7, 2) := by decide +kernel
theorem dL_law_280 : decode cL_law 280 = .ok (.i2l, 1) := by decide +kernel
theorem dL_law_281 : decode cL_law 281 = .ok (.lcmp, 1) := by decide +kernel
theorem dL_law_282 : decode cL_law 282 = .ok (.ifCond .eq 5, 3) := by decide +kernel
theorem dL_law_285 : decode cL_law 285 = .ok (.iconst 0, 1) := by decide +kernel
theorem dL_law_286 : decode cL_law 286 = .ok (.ireturn, 1) := by decide +kernel
theorem dL_law_287 : decode cL_law 287 = .ok (.goto 1340, 3) := by decide +kernel
theorem dL_law_290 : decode cL_law 290 = .ok (.aload_n 1, 1) := by decide +kernel
theorem dL_law_291 : decode cL_law 291 = .ok (.aload_n 0, 1) := by decide +kernel
theorem dL_law_292 : decode cL_law 292 = .ok (.iload 5, 2) := by decide +kernel
theorem dL_law_294 : decode cL_law 294 = .ok (.iconst 1, 1) := by decide +kernel
theorem dL_law_295 : decode cL_law 295 = .ok (.iadd, 1) := by decide +kernel
theorem dL_law_296 : decode cL_law 296 = .ok (.iaload, 1) := by decide +kernel
theorem dL_law_297 : decode cL_law 297 = .ok (.aload_n 3, 1) := by decide +kernel
theorem dL_law_298 : decode cL_law 298 = .ok (.invokestatic 98, 3) := by decide +kernel
theorem dL_law_301 : decode cL_law 301 = .ok (.istore 6, 2) := by decide +kernel
theorem dL_law_303 : decode cL_law 303 = .ok (.aload_n 2, 1) := by decide +kernel
theorem dL_law_304 : decode cL_law 304 = .ok (.aload_n 0, 1) := by decide +kernel
theorem dL_law_305 : decode cL_law 305 = .ok (.iload 5, 2) := by decide +kernel
theorem dL_law_307 : decode cL_law 307 = .ok (.iconst 1, 1) := by decide +kernel
theorem dL_law_308 : decode cL_law 308 = .ok (.iadd, 1) := by decide +kernel
theorem dL_law_309 : decode cL_law 309 = .ok (.iaload, 1) := by decide +kernel
theorem dL_law_310 : decode cL_law 310 = .ok (.invokevirtual 100, 3) := by decide +kernel
theorem dL_law_313 : decode cL_law 313 = .ok (.istore 7, 2) := by decide +kernel
theorem dL_law_315 : decode cL_law 315 = .ok (.aload_n 2, 1) := by decide +kernel
theorem dL_law_316 : decode cL_law 316 = .ok (.invokevirtual 95, 3) := by decide +kernel
theorem dL_law_319 : decode cL_law 319 = .ok (.iload 6, 2) := by decide +kernel
theorem dL_law_321 : decode cL_law 321 = .ok (.if_icmp .eq 5, 3) := by decide +kernel
theorem dL_law_324 : decode cL_law 324 = .ok (.iconst 0, 1) := by decide +kernel
theorem dL_law_325 : decode cL_law 325 = .ok (.ireturn, 1) := by decide +kernel
theorem dL_law_326 : decode cL_law 326 = .ok (.iload 6, 2) := by decide +kernel
theorem dL_law_328 : decode cL_law 328 = .ok (.ifCond .ne 15, 3) := by decide +kernel
theorem dL_law_331 : decode cL_law 331 = .ok (.aload_n 3, 1) := by decide +kernel
theorem dL_law_332 : decode cL_law 332 = .ok (.iconst 0, 1) := by decide +kernel
theorem dL_law_333 : decode cL_law 333 = .ok (.laload, 1) := by decide +kernel
theorem dL_law_334 : decode cL_law 334 = .ok (.iload 7, 2) := by decide +kernel
theorem dL_law_336 : decode cL_law 336 = .ok (.i2l, 1) := by decide +kernel
theorem dL_law_337 : decode cL_law 337 = .ok (.lcmp, 1) := by decide +kernel
theorem dL_law_338 : decode cL_law 338 = .ok (.ifCond .eq 5, 3) := by decide +kernel
theorem dL_law_341 : decode cL_law 341 = .ok (.iconst 0, 1) := by decide +kernel
theorem dL_law_342 : decode cL_law 342 = .ok (.ireturn, 1) := by decide +kernel
theorem dL_law_343 : decode cL_law 343 = .ok (.goto 1284, 3) := by decide +kernel
theorem dL_law_346 : decode cL_law 346 = .ok (.aload_n 1, 1) := by decide +kernel
theorem dL_law_347 : decode cL_law 347 = .ok (.invokevirtual 101, 3) := by decide +kernel
theorem dL_law_350 : decode cL_law 350 = .ok (.aload_n 2, 1) := by decide +kernel
theorem dL_law_351 : decode cL_law 351 = .ok (.invokevirtual 104, 3) := by decide +kernel
theorem dL_law_354 : decode cL_law 354 = .ok (.if_icmp .eq 1273, 3) := by decide +kernel
theorem dL_law_357 : decode cL_law 357 = .ok (.iconst 0, 1) := by decide +kernel
theorem dL_law_358 : decode cL_law 358 = .ok (.ireturn, 1) := by decide +kernel
theorem dL_law_359 : decode cL_law 359 = .ok (.aload_n 1, 1) := by decide +kernel
theorem dL_law_360 : decode cL_law 360 = .ok (.aload_n 0, 1) := by decide +kernel
theorem dL_law_361 : decode cL_law 361 = .ok (.iload 5, 2) := by decide +kernel
theorem dL_law_363 : decode cL_law 363 = .ok (.iconst 1, 1) := by decide +kernel
theorem dL_law_364 : decode cL_law 364 = .ok (.iadd, 1) := by decide +kernel
theorem dL_law_365 : decode cL_law 365 = .ok (.iaload, 1) := by decide +kernel
theorem dL_law_366 : decode cL_law 366 = .ok (.ifCond .eq 7, 3) := by decide +kernel
theorem dL_law_369 : decode cL_law 369 = .ok (.iconst 1, 1) := by decide +kernel
theorem dL_law_370 : decode cL_law 370 = .ok (.goto 4, 3) := by decide +kernel
theorem dL_law_373 : decode cL_law 373 = .ok (.iconst 0, 1) := by decide +kernel
theorem dL_law_374 : decode cL_law 374 = .ok (.aload_n 0, 1) := by decide +kernel
theorem dL_law_375 : decode cL_law 375 = .ok (.iload 5, 2) := by decide +kernel
theorem dL_law_377 : decode cL_law 377 = .ok (.iconst 2, 1) := by decide +kernel
theorem dL_law_378 : decode cL_law 378 = .ok (.iadd, 1) := by decide +kernel
theorem dL_law_379 : decode cL_law 379 = .ok (.iaload, 1) := by decide +kernel
theorem dL_law_380 : decode cL_law 380 = .ok (.aload_n 3, 1) := by decide +kernel
theorem dL_law_381 : decode cL_law 381 = .ok (.invokestatic 105, 3) := by decide +kernel
theorem dL_law_384 : decode cL_law 384 = .ok (.istore 6, 2) := by decide +kernel
theorem dL_law_386 : decode cL_law 386 = .ok (.aload_n 2, 1) := by decide +kernel
theorem dL_law_387 : decode cL_law 387 = .ok (.aload_n 0, 1) := by decide +kernel
theorem dL_law_388 : decode cL_law 388 = .ok (.iload 5, 2) := by decide +kernel
theorem dL_law_390 : decode cL_law 390 = .ok (.iconst 1, 1) := by decide +kernel
theorem dL_law_391 : decode cL_law 391 = .ok (.iadd, 1) := by decide +kernel
theorem dL_law_392 : decode cL_law 392 = .ok (.iaload, 1) := by decide +kernel
theorem dL_law_393 : decode cL_law 393 = .ok (.ifCond .eq 7, 3) := by decide +kernel
theorem dL_law_396 : decode cL_law 396 = .ok (.iconst 1, 1) := by decide +kernel
theorem dL_law_397 : decode cL_law 397 = .ok (.goto 4, 3) := by decide +kernel
theorem dL_law_400 : decode cL_law 400 = .ok (.iconst 0, 1) := by decide +kernel
theorem dL_law_401 : decode cL_law 401 = .ok (.aload_n 0, 1) := by decide +kernel
theorem dL_law_402 : decode cL_law 402 = .ok (.iload 5, 2) := by decide +kernel
theorem dL_law_404 : decode cL_law 404 = .ok (.iconst 2, 1) := by decide +kernel
theorem dL_law_405 : decode cL_law 405 = .ok (.iadd, 1) := by decide +kernel
theorem dL_law_406 : decode cL_law 406 = .ok (.iaload, 1) := by decide +kernel
theorem dL_law_407 : decode cL_law 407 = .ok (.invokevirtual 108, 3) := by decide +kernel
theorem dL_law_410 : decode cL_law 410 = .ok (.istore 7, 2) := by decide +kernel
theorem dL_law_412 : decode cL_law 412 = .ok (.aload_n 2, 1) := by decide +kernel
theorem dL_law_413 : decode cL_law 413 = .ok (.invokevirtual 95, 3) := by decide +kernel
theorem dL_law_416 : decode cL_law 416 = .ok (.iload 6, 2) := by decide +kernel
theorem dL_law_418 : decode cL_law 418 = .ok (.if_icmp .eq 5, 3) := by decide +kernel
theorem dL_law_421 : decode cL_law 421 = .ok (.iconst 0, 1) := by decide +kernel
theorem dL_law_422 : decode cL_law 422 = .ok (.ireturn, 1) := by decide +kernel
theorem dL_law_423 : decode cL_law 423 = .ok (.iload 6, 2) := by decide +kernel
theorem dL_law_425 : decode cL_law 425 = .ok (.ifCond .ne 15, 3) := by decide +kernel
theorem dL_law_428 : decode cL_law 428 = .ok (.aload_n 3, 1) := by decide +kernel
theorem dL_law_429 : decode cL_law 429 = .ok (.iconst 0, 1) := by decide +kernel
theorem dL_law_430 : decode cL_law 430 = .ok (.laload, 1) := by decide +kernel
theorem dL_law_431 : decode cL_law 431 = .ok (.iload 7, 2) := by decide +kernel
theorem dL_law_433 : decode cL_law 433 = .ok (.i2l, 1) := by decide +kernel
theorem dL_law_434 : decode cL_law 434 = .ok (.lcmp, 1) := by decide +kernel
theorem dL_law_435 : decode cL_law 435 = .ok (.ifCond .eq 5, 3) := by decide +kernel
theorem dL_law_438 : decode cL_law 438 = .ok (.iconst 0, 1) := by decide +kernel
theorem dL_law_439 : decode cL_law 439 = .ok (.ireturn, 1) := by decide +kernel
theorem dL_law_440 : decode cL_law 440 = .ok (.goto 1187, 3) := by decide +kernel
theorem dL_law_443 : decode cL_law 443 = .ok (.aload_n 1, 1) := by decide +kernel
theorem dL_law_444 : decode cL_law 444 = .ok (.invokevirtual 109, 3) := by decide +kernel
theorem dL_law_447 : decode cL_law 447 = .ok (.aload_n 2, 1) := by decide +kernel
theorem dL_law_448 : decode cL_law 448 = .ok (.invokevirtual 112, 3) := by decide +kernel
theorem dL_law_451 : decode cL_law 451 = .ok (.if_icmp .eq 1176, 3) := by decide +kernel
theorem dL_law_454 : decode cL_law 454 = .ok (.iconst 0, 1) := by decide +kernel
theorem dL_law_455 : decode cL_law 455 = .ok (.ireturn, 1) := by decide +kernel
theorem dL_law_456 : decode cL_law 456 = .ok (.aload_n 1, 1) := by decide +kernel
theorem dL_law_457 : decode cL_law 457 = .ok (.aload_n 0, 1) := by decide +kernel
theorem dL_law_458 : decode cL_law 458 = .ok (.iload 5, 2) := by decide +kernel
theorem dL_law_460 : decode cL_law 460 = .ok (.iconst 1, 1) := by decide +kernel
theorem dL_law_461 : decode cL_law 461 = .ok (.iadd, 1) := by decide +kernel
theorem dL_law_462 : decode cL_law 462 = .ok (.iaload, 1) := by decide +kernel
theorem dL_law_463 : decode cL_law 463 = .ok (.aload_n 3, 1) := by decide +kernel
theorem dL_law_464 : decode cL_law 464 = .ok (.invokestatic 113, 3) := by decide +kernel
theorem dL_law_467 : decode cL_law 467 = .ok (.istore 6, 2) := by decide +kernel
theorem dL_law_469 : decode cL_law 469 = .ok (.aload_n 2, 1) := by decide +kernel
theorem dL_law_470 : decode cL_law 470 = .ok (.aload_n 0, 1) := by decide +kernel
theorem dL_law_471 : decode cL_law 471 = .ok (.iload 5, 2) := by decide +kernel
theorem dL_law_473 : decode cL_law 473 = .ok (.iconst 1, 1) := by decide +kernel
theorem dL_law_474 : decode cL_law 474 = .ok (.iadd, 1) := by decide +kernel
theorem dL_law_475 : decode cL_law 475 = .ok (.iaload, 1) := by decide +kernel
theorem dL_law_476 : decode cL_law 476 = .ok (.invokevirtual 115, 3) := by decide +kernel
theorem dL_law_479 : decode cL_law 479 = .ok (.istore 7, 2) := by decide +kernel
theorem dL_law_481 : decode cL_law 481 = .ok (.aload_n 2, 1) := by decide +kernel
theorem dL_law_482 : decode cL_law 482 = .ok (.invokevirtual 95, 3) := by decide +kernel
theorem dL_law_485 : decode cL_law 485 = .ok (.iload 6, 2) := by decide +kernel
theorem dL_law_487 : decode cL_law 487 = .ok (.if_icmp .eq 5, 3) := by decide +kernel
theorem dL_law_490 : decode cL_law 490 = .ok (.iconst 0, 1) := by decide +kernel
theorem dL_law_491 : decode cL_law 491 = .ok (.ireturn, 1) := by decide +kernel
theorem dL_law_492 : decode cL_law 492 = .ok (.iload 6, 2) := by decide +kernel
theorem dL_law_494 : decode cL_law 494 = .ok (.ifCond .ne 15, 3) := by decide +kernel
theorem dL_law_497 : decode cL_law 497 = .ok (.aload_n 3, 1) := by decide +kernel
theorem dL_law_498 : decode cL_law 498 = .ok (.iconst 0, 1) := by decide +kernel
theorem dL_law_499 : decode cL_law 499 = .ok (.laload, 1) := by decide +kernel
theorem dL_law_500 : decode cL_law 500 = .ok (.iload 7, 2) := by decide +kernel
theorem dL_law_502 : decode cL_law 502 = .ok (.i2l, 1) := by decide +kernel
theorem dL_law_503 : decode cL_law 503 = .ok (.lcmp, 1) := by decide +kernel
theorem dL_law_504 : decode cL_law 504 = .ok (.ifCond .eq 5, 3) := by decide +kernel
theorem dL_law_507 : decode cL_law 507 = .ok (.iconst 0, 1) := by decide +kernel
theorem dL_law_508 : decode cL_law 508 = .ok (.ireturn, 1) := by decide +kernel
theorem dL_law_509 : decode cL_law 509 = .ok (.goto 1118, 3) := by decide +kernel
theorem dL_law_512 : decode cL_law 512 = .ok (.aload_n 1, 1) := by decide +kernel
theorem dL_law_513 : decode cL_law 513 = .ok (.aload_n 0, 1) := by decide +kernel
theorem dL_law_514 : decode cL_law 514 = .ok (.iload 5, 2) := by decide +kernel
theorem dL_law_516 : decode cL_law 516 = .ok (.iconst 1, 1) := by decide +kernel
theorem dL_law_517 : decode cL_law 517 = .ok (.iadd, 1) := by decide +kernel
theorem dL_law_518 : decode cL_law 518 = .ok (.iaload, 1) := by decide +kernel
theorem dL_law_519 : decode cL_law 519 = .ok (.aload_n 3, 1) := by decide +kernel
theorem dL_law_520 : decode cL_law 520 = .ok (.invokestatic 116, 3) := by decide +kernel
theorem dL_law_523 : decode cL_law 523 = .ok (.istore 6, 2) := by decide +kernel
theorem dL_law_525 : decode cL_law 525 = .ok (.aload_n 2, 1) := by decide +kernel
theorem dL_law_526 : decode cL_law 526 = .ok (.aload_n 0, 1) := by decide +kernel
theorem dL_law_527 : decode cL_law 527 = .ok (.iload 5, 2) := by decide +kernel
theorem dL_law_529 : decode cL_law 529 = .ok (.iconst 1, 1) := by decide +kernel
theorem dL_law_530 : decode cL_law 530 = .ok (.iadd, 1) := by decide +kernel
theorem dL_law_531 : decode cL_law 531 = .ok (.iaload, 1) := by decide +kernel
theorem dL_law_532 : decode cL_law 532 = .ok (.invokevirtual 118, 3) := by decide +kernel
theorem dL_law_535 : decode cL_law 535 = .ok (.istore 7, 2) := by decide +kernel
theorem dL_law_537 : decode cL_law 537 = .ok (.aload_n 2, 1) := by decide +kernel
theorem dL_law_538 : decode cL_law 538 = .ok (.invokevirtual 95, 3) := by decide +kernel
theorem dL_law_541 : decode cL_law 541 = .ok (.iload 6, 2) := by decide +kernel
theorem dL_law_543 : decode cL_law 543 = .ok (.if_icmp .eq 5, 3) := by decide +kernel
theorem dL_law_546 : decode cL_law 546 = .ok (.iconst 0, 1) := by decide +kernel
theorem dL_law_547 : decode cL_law 547 = .ok (.ireturn, 1) := by decide +kernel
theorem dL_law_548 : decode cL_law 548 = .ok (.iload 6, 2) := by decide +kernel
theorem dL_law_550 : decode cL_law 550 = .ok (.ifCond .ne 15, 3) := by decide +kernel
theorem dL_law_553 : decode cL_law 553 = .ok (.aload_n 3, 1) := by decide +kernel
theorem dL_law_554 : decode cL_law 554 = .ok (.iconst 0, 1) := by decide +kernel
theorem dL_law_555 : decode cL_law 555 = .ok (.laload, 1) := by decide +kernel
theorem dL_law_556 : decode cL_law 556 = .ok (.iload 7, 2) := by decide +kernel
theorem dL_law_558 : decode cL_law 558 = .ok (.i2l, 1) := by decide +kernel
theorem dL_law_559 : decode cL_law 559 = .ok (.lcmp, 1) := by decide +kernel
theorem dL_law_560 : decode cL_law 560 = .ok (.ifCond .eq 5, 3) := by decide +kernel
theorem dL_law_563 : decode cL_law 563 = .ok (.iconst 0, 1) := by decide +kernel
theorem dL_law_564 : decode cL_law 564 = .ok (.ireturn, 1) := by decide +kernel
theorem dL_law_565 : decode cL_law 565 = .ok (.goto 1062, 3) := by decide +kernel
theorem dL_law_568 : decode cL_law 568 = .ok (.aload_n 1, 1) := by decide +kernel
theorem dL_law_569 : decode cL_law 569 = .ok (.aload_n 0, 1) := by decide +kernel
theorem dL_law_570 : decode cL_law 570 = .ok (.iload 5, 2) := by decide +kernel
theorem dL_law_572 : decode cL_law 572 = .ok (.iconst 1, 1) := by decide +kernel
theorem dL_law_573 : decode cL_law 573 = .ok (.iadd, 1) := by decide +kernel
theorem dL_law_574 : decode cL_law 574 = .ok (.iaload, 1) := by decide +kernel
theorem dL_law_575 : decode cL_law 575 = .ok (.aload_n 0, 1) := by decide +kernel
theorem dL_law_576 : decode cL_law 576 = .ok (.iload 5, 2) := by decide +kernel
theorem dL_law_578 : decode cL_law 578 = .ok (.iconst 2, 1) := by decide +kernel
theorem dL_law_579 : decode cL_law 579 = .ok (.iadd, 1) := by decide +kernel
theorem dL_law_580 : decode cL_law 580 = .ok (.iaload, 1) := by decide +kernel
theorem dL_law_581 : decode cL_law 581 = .ok (.aload_n 0, 1) := by decide +kernel
theorem dL_law_582 : decode cL_law 582 = .ok (.iload 5, 2) := by decide +kernel
theorem dL_law_584 : decode cL_law 584 = .ok (.iconst 3, 1) := by decide +kernel
theorem dL_law_585 : decode cL_law 585 = .ok (.iadd, 1) := by decide +kernel
theorem dL_law_586 : decode cL_law 586 = .ok (.iaload, 1) := by decide +kernel
theorem dL_law_587 : decode cL_law 587 = .ok (.aload_n 0, 1) := by decide +kernel
theorem dL_law_588 : decode cL_law 588 = .ok (.iload 5, 2) := by decide +kernel
theorem dL_law_590 : decode cL_law 590 = .ok (.iconst 4, 1) := by decide +kernel
theorem dL_law_591 : decode cL_law 591 = .ok (.iadd, 1) := by decide +kernel
theorem dL_law_592 : decode cL_law 592 = .ok (.iaload, 1) := by decide +kernel
theorem dL_law_593 : decode cL_law 593 = .ok (.aload_n 0, 1) := by decide +kernel
theorem dL_law_594 : decode cL_law 594 = .ok (.iload 5, 2) := by decide +kernel
theorem dL_law_596 : decode cL_law 596 = .ok (.iconst 5, 1) := by decide +kernel
theorem dL_law_597 : decode cL_law 597 = .ok (.iadd, 1) := by decide +kernel
theorem dL_law_598 : decode cL_law 598 = .ok (.iaload, 1) := by decide +kernel
theorem dL_law_599 : decode cL_law 599 = .ok (.invokevirtual 119, 3) := by decide +kernel
theorem dL_law_602 : decode cL_law 602 = .ok (.aload_n 2, 1) := by decide +kernel
theorem dL_law_603 : decode cL_law 603 = .ok (.aload_n 0, 1) := by decide +kernel
theorem dL_law_604 : decode cL_law 604 = .ok (.iload 5, 2) := by decide +kernel
theorem dL_law_606 : decode cL_law 606 = .ok (.iconst 1, 1) := by decide +kernel
theorem dL_law_607 : decode cL_law 607 = .ok (.iadd, 1) := by decide +kernel
theorem dL_law_608 : decode cL_law 608 = .ok (.iaload, 1) := by decide +kernel
theorem dL_law_609 : decode cL_law 609 = .ok (.aload_n 0, 1) := by decide +kernel
theorem dL_law_610 : decode cL_law 610 = .ok (.iload 5, 2) := by decide +kernel
theorem dL_law_612 : decode cL_law 612 = .ok (.iconst 2, 1) := by decide +kernel
theorem dL_law_613 : decode cL_law 613 = .ok (.iadd, 1) := by decide +kernel
theorem dL_law_614 : decode cL_law 614 = .ok (.iaload, 1) := by decide +kernel
theorem dL_law_615 : decode cL_law 615 = .ok (.aload_n 0, 1) := by decide +kernel
theorem dL_law_616 : decode cL_law 616 = .ok (.iload 5, 2) := by decide +kernel
theorem dL_law_618 : decode cL_law 618 = .ok (.iconst 3, 1) := by decide +kernel
theorem dL_law_619 : decode cL_law 619 = .ok (.iadd, 1) := by decide +kernel
theorem dL_law_620 : decode cL_law 620 = .ok (.iaload, 1) := by decide +kernel
theorem dL_law_621 : decode cL_law 621 = .ok (.aload_n 0, 1) := by decide +kernel
theorem dL_law_622 : decode cL_law 622 = .ok (.iload 5, 2) := by decide +kernel
theorem dL_law_624 : decode cL_law 624 = .ok (.iconst 4, 1) := by decide +kernel
theorem dL_law_625 : decode cL_law 625 = .ok (.iadd, 1) := by decide +kernel
theorem dL_law_626 : decode cL_law 626 = .ok (.iaload, 1) := by decide +kernel
theorem dL_law_627 : decode cL_law 627 = .ok (.aload_n 0, 1) := by decide +kernel
theorem dL_law_628 : decode cL_law 628 = .ok (.iload 5, 2) := by decide +kernel
theorem dL_law_630 : decode cL_law 630 = .ok (.iconst 5, 1) := by decide +kernel
theorem dL_law_631 : decode cL_law 631 = .ok (.iadd, 1) := by decide +kernel
theorem dL_law_632 : decode cL_law 632 = .ok (.iaload, 1) := by decide +kernel
theorem dL_law_633 : decode cL_law 633 = .ok (.invokevirtual 123, 3) := by decide +kernel
theorem dL_law_636 : decode cL_law 636 = .ok (.if_icmp .eq 991, 3) := by decide +kernel
theorem dL_law_639 : decode cL_law 639 = .ok (.iconst 0, 1) := by decide +kernel
theorem dL_law_640 : decode cL_law 640 = .ok (.ireturn, 1) := by decide +kernel
theorem dL_law_641 : decode cL_law 641 = .ok (.aload_n 1, 1) := by decide +kernel
theorem dL_law_642 : decode cL_law 642 = .ok (.aload_n 0, 1) := by decide +kernel
theorem dL_law_643 : decode cL_law 643 = .ok (.iload 5, 2) := by decide +kernel
theorem dL_law_645 : decode cL_law 645 = .ok (.iconst 1, 1) := by decide +kernel
theorem dL_law_646 : decode cL_law 646 = .ok (.iadd, 1) := by decide +kernel
theorem dL_law_647 : decode cL_law 647 = .ok (.iaload, 1) := by decide +kernel
theorem dL_law_648 : decode cL_law 648 = .ok (.aload_n 3, 1) := by decide +kernel
theorem dL_law_649 : decode cL_law 649 = .ok (.invokestatic 124, 3) := by decide +kernel
theorem dL_law_652 : decode cL_law 652 = .ok (.istore 6, 2) := by decide +kernel
theorem dL_law_654 : decode cL_law 654 = .ok (.aload_n 2, 1) := by decide +kernel
theorem dL_law_655 : decode cL_law 655 = .ok (.aload_n 0, 1) := by decide +kernel
theorem dL_law_656 : decode cL_law 656 = .ok (.iload 5, 2) := by decide +kernel
theorem dL_law_658 : decode cL_law 658 = .ok (.iconst 1, 1) := by decide +kernel
theorem dL_law_659 : decode cL_law 659 = .ok (.iadd, 1) := by decide +kernel
theorem dL_law_660 : decode cL_law 660 = .ok (.iaload, 1) := by decide +kernel
theorem dL_law_661 : decode cL_law 661 = .ok (.invokevirtual 126, 3) := by decide +kernel
theorem dL_law_664 : decode cL_law 664 = .ok (.istore 7, 2) := by decide +kernel
theorem dL_law_666 : decode cL_law 666 = .ok (.aload_n 2, 1) := by decide +kernel
theorem dL_law_667 : decode cL_law 667 = .ok (.invokevirtual 95, 3) := by decide +kernel
theorem dL_law_670 : decode cL_law 670 = .ok (.iload 6, 2) := by decide +kernel
theorem dL_law_672 : decode cL_law 672 = .ok (.if_icmp .eq 5, 3) := by decide +kernel
theorem dL_law_675 : decode cL_law 675 = .ok (.iconst 0, 1) := by decide +kernel
theorem dL_law_676 : decode cL_law 676 = .ok (.ireturn, 1) := by decide +kernel
theorem dL_law_677 : decode cL_law 677 = .ok (.iload 6, 2) := by decide +kernel
theorem dL_law_679 : decode cL_law 679 = .ok (.ifCond .ne 15, 3) := by decide +kernel
theorem dL_law_682 : decode cL_law 682 = .ok (.aload_n 3, 1) := by decide +kernel
theorem dL_law_683 : decode cL_law 683 = .ok (.iconst 0, 1) := by decide +kernel
theorem dL_law_684 : decode cL_law 684 = .ok (.laload, 1) := by decide +kernel
theorem dL_law_685 : decode cL_law 685 = .ok (.iload 7, 2) := by decide +kernel
theorem dL_law_687 : decode cL_law 687 = .ok (.i2l, 1) := by decide +kernel
theorem dL_law_688 : decode cL_law 688 = .ok (.lcmp, 1) := by decide +kernel
theorem dL_law_689 : decode cL_law 689 = .ok (.ifCond .eq 5, 3) := by decide +kernel
theorem dL_law_692 : decode cL_law 692 = .ok (.iconst 0, 1) := by decide +kernel
theorem dL_law_693 : decode cL_law 693 = .ok (.ireturn, 1) := by decide +kernel
theorem dL_law_694 : decode cL_law 694 = .ok (.goto 933, 3) := by decide +kernel
theorem dL_law_697 : decode cL_law 697 = .ok (.aload_n 1, 1) := by decide +kernel
theorem dL_law_698 : decode cL_law 698 = .ok (.aload_n 0, 1) := by decide +kernel
theorem dL_law_699 : decode cL_law 699 = .ok (.iload 5, 2) := by decide +kernel
theorem dL_law_701 : decode cL_law 701 = .ok (.iconst 1, 1) := by decide +kernel
theorem dL_law_702 : decode cL_law 702 = .ok (.iadd, 1) := by decide +kernel
theorem dL_law_703 : decode cL_law 703 = .ok (.iaload, 1) := by decide +kernel
theorem dL_law_704 : decode cL_law 704 = .ok (.aload_n 3, 1) := by decide +kernel
theorem dL_law_705 : decode cL_law 705 = .ok (.invokestatic 127, 3) := by decide +kernel
theorem dL_law_708 : decode cL_law 708 = .ok (.istore 6, 2) := by decide +kernel
theorem dL_law_710 : decode cL_law 710 = .ok (.aload_n 2, 1) := by decide +kernel
theorem dL_law_711 : decode cL_law 711 = .ok (.aload_n 0, 1) := by decide +kernel
theorem dL_law_712 : decode cL_law 712 = .ok (.iload 5, 2) := by decide +kernel
theorem dL_law_714 : decode cL_law 714 = .ok (.iconst 1, 1) := by decide +kernel
theorem dL_law_715 : decode cL_law 715 = .ok (.iadd, 1) := by decide +kernel
theorem dL_law_716 : decode cL_law 716 = .ok (.iaload, 1) := by decide +kernel
theorem dL_law_717 : decode cL_law 717 = .ok (.invokevirtual 129, 3) := by decide +kernel
theorem dL_law_720 : decode cL_law 720 = .ok (.istore 7, 2) := by decide +kernel
theorem dL_law_722 : decode cL_law 722 = .ok (.aload_n 2, 1) := by decide +kernel
theorem dL_law_723 : decode cL_law 723 = .ok (.invokevirtual 95, 3) := by decide +kernel
theorem dL_law_726 : decode cL_law 726 = .ok (.iload 6, 2) := by decide +kernel
theorem dL_law_728 : decode cL_law 728 = .ok (.if_icmp .eq 5, 3) := by decide +kernel
theorem dL_law_731 : decode cL_law 731 = .ok (.iconst 0, 1) := by decide +kernel
theorem dL_law_732 : decode cL_law 732 = .ok (.ireturn, 1) := by decide +kernel
theorem dL_law_733 : decode cL_law 733 = .ok (.iload 6, 2) := by decide +kernel
theorem dL_law_735 : decode cL_law 735 = .ok (.ifCond .ne 15, 3) := by decide +kernel
theorem dL_law_738 : decode cL_law 738 = .ok (.aload_n 3, 1) := by decide +kernel
theorem dL_law_739 : decode cL_law 739 = .ok (.iconst 0, 1) := by decide +kernel
theorem dL_law_740 : decode cL_law 740 = .ok (.laload, 1) := by decide +kernel
theorem dL_law_741 : decode cL_law 741 = .ok (.iload 7, 2) := by decide +kernel
theorem dL_law_743 : decode cL_law 743 = .ok (.i2l, 1) := by decide +kernel
theorem dL_law_744 : decode cL_law 744 = .ok (.lcmp, 1) := by decide +kernel
theorem dL_law_745 : decode cL_law 745 = .ok (.ifCond .eq 5, 3) := by decide +kernel
theorem dL_law_748 : decode cL_law 748 = .ok (.iconst 0, 1) := by decide +kernel
theorem dL_law_749 : decode cL_law 749 = .ok (.ireturn, 1) := by decide +kernel
theorem dL_law_750 : decode cL_law 750 = .ok (.goto 877, 3) := by decide +kernel
theorem dL_law_753 : decode cL_law 753 = .ok (.aload_n 1, 1) := by decide +kernel
theorem dL_law_754 : decode cL_law 754 = .ok (.invokevirtual 130, 3) := by decide +kernel
theorem dL_law_757 : decode cL_law 757 = .ok (.aload_n 2, 1) := by decide +kernel
theorem dL_law_758 : decode cL_law 758 = .ok (.invokevirtual 134, 3) := by decide +kernel
theorem dL_law_761 : decode cL_law 761 = .ok (.lcmp, 1) := by decide +kernel
theorem dL_law_762 : decode cL_law 762 = .ok (.ifCond .eq 865, 3) := by decide +kernel
theorem dL_law_765 : decode cL_law 765 = .ok (.iconst 0, 1) := by decide +kernel
theorem dL_law_766 : decode cL_law 766 = .ok (.ireturn, 1) := by decide +kernel
theorem dL_law_767 : decode cL_law 767 = .ok (.aload_n 1, 1) := by decide +kernel
theorem dL_law_768 : decode cL_law 768 = .ok (.aload_n 0, 1) := by decide +kernel
theorem dL_law_769 : decode cL_law 769 = .ok (.iload 5, 2) := by decide +kernel
theorem dL_law_771 : decode cL_law 771 = .ok (.iconst 1, 1) := by decide +kernel
theorem dL_law_772 : decode cL_law 772 = .ok (.iadd, 1) := by decide +kernel
theorem dL_law_773 : decode cL_law 773 = .ok (.iaload, 1) := by decide +kernel
theorem dL_law_774 : decode cL_law 774 = .ok (.aload_n 0, 1) := by decide +kernel
theorem dL_law_775 : decode cL_law 775 = .ok (.iload 5, 2) := by decide +kernel
theorem dL_law_777 : decode cL_law 777 = .ok (.iconst 2, 1) := by decide +kernel
theorem dL_law_778 : decode cL_law 778 = .ok (.iadd, 1) := by decide +kernel
theorem dL_law_779 : decode cL_law 779 = .ok (.iaload, 1) := by decide +kernel
theorem dL_law_780 : decode cL_law 780 = .ok (.aload_n 3, 1) := by decide +kernel
theorem dL_law_781 : decode cL_law 781 = .ok (.invokestatic 135, 3) := by decide +kernel
theorem dL_law_784 : decode cL_law 784 = .ok (.istore 6, 2) := by decide +kernel
theorem dL_law_786 : decode cL_law 786 = .ok (.aload_n 2, 1) := by decide +kernel
theorem dL_law_787 : decode cL_law 787 = .ok (.aload_n 0, 1) := by decide +kernel
theorem dL_law_788 : decode cL_law 788 = .ok (.iload 5, 2) := by decide +kernel
theorem dL_law_790 : decode cL_law 790 = .ok (.iconst 1, 1) := by decide +kernel
theorem dL_law_791 : decode cL_law 791 = .ok (.iadd, 1) := by decide +kernel
theorem dL_law_792 : decode cL_law 792 = .ok (.iaload, 1) := by decide +kernel
theorem dL_law_793 : decode cL_law 793 = .ok (.aload_n 0, 1) := by decide +kernel
theorem dL_law_794 : decode cL_law 794 = .ok (.iload 5, 2) := by decide +kernel
theorem dL_law_796 : decode cL_law 796 = .ok (.iconst 2, 1) := by decide +kernel
theorem dL_law_797 : decode cL_law 797 = .ok (.iadd, 1) := by decide +kernel
theorem dL_law_798 : decode cL_law 798 = .ok (.iaload, 1) := by decide +kernel
theorem dL_law_799 : decode cL_law 799 = .ok (.invokevirtual 138, 3) := by decide +kernel
theorem dL_law_802 : decode cL_law 802 = .ok (.istore 7, 2) := by decide +kernel
theorem dL_law_804 : decode cL_law 804 = .ok (.aload_n 2, 1) := by decide +kernel
theorem dL_law_805 : decode cL_law 805 = .ok (.invokevirtual 95, 3) := by decide +kernel
theorem dL_law_808 : decode cL_law 808 = .ok (.iload 6, 2) := by decide +kernel
theorem dL_law_810 : decode cL_law 810 = .ok (.if_icmp .eq 5, 3) := by decide +kernel
theorem dL_law_813 : decode cL_law 813 = .ok (.iconst 0, 1) := by decide +kernel
theorem dL_law_814 : decode cL_law 814 = .ok (.ireturn, 1) := by decide +kernel
theorem dL_law_815 : decode cL_law 815 = .ok (.iload 6, 2) := by decide +kernel
theorem dL_law_817 : decode cL_law 817 = .ok (.ifCond .ne 15, 3) := by decide +kernel
theorem dL_law_820 : decode cL_law 820 = .ok (.aload_n 3, 1) := by decide +kernel
theorem dL_law_821 : decode cL_law 821 = .ok (.iconst 0, 1) := by decide +kernel
theorem dL_law_822 : decode cL_law 822 = .ok (.laload, 1) := by decide +kernel
theorem dL_law_823 : decode cL_law 823 = .ok (.iload 7, 2) := by decide +kernel
theorem dL_law_825 : decode cL_law 825 = .ok (.i2l, 1) := by decide +kernel
theorem dL_law_826 : decode cL_law 826 = .ok (.lcmp, 1) := by decide +kernel
theorem dL_law_827 : decode cL_law 827 = .ok (.ifCond .eq 5, 3) := by decide +kernel
theorem dL_law_830 : decode cL_law 830 = .ok (.iconst 0, 1) := by decide +kernel
theorem dL_law_831 : decode cL_law 831 = .ok (.ireturn, 1) := by decide +kernel
theorem dL_law_832 : decode cL_law 832 = .ok (.goto 795, 3) := by decide +kernel
theorem dL_law_835 : decode cL_law 835 = .ok (.aload_n 1, 1) := by decide +kernel
theorem dL_law_836 : decode cL_law 836 = .ok (.aload_n 0, 1) := by decide +kernel
theorem dL_law_837 : decode cL_law 837 = .ok (.iload 5, 2) := by decide +kernel
theorem dL_law_839 : decode cL_law 839 = .ok (.iconst 1, 1) := by decide +kernel
theorem dL_law_840 : decode cL_law 840 = .ok (.iadd, 1) := by decide +kernel
theorem dL_law_841 : decode cL_law 841 = .ok (.iaload, 1) := by decide +kernel
theorem dL_law_842 : decode cL_law 842 = .ok (.aload_n 0, 1) := by decide +kernel
theorem dL_law_843 : decode cL_law 843 = .ok (.iload 5, 2) := by decide +kernel
theorem dL_law_845 : decode cL_law 845 = .ok (.iconst 2, 1) := by decide +kernel
theorem dL_law_846 : decode cL_law 846 = .ok (.iadd, 1) := by decide +kernel
theorem dL_law_847 : decode cL_law 847 = .ok (.iaload, 1) := by decide +kernel
theorem dL_law_848 : decode cL_law 848 = .ok (.aload_n 3, 1) := by decide +kernel
theorem dL_law_849 : decode cL_law 849 = .ok (.invokestatic 139, 3) := by decide +kernel
theorem dL_law_852 : decode cL_law 852 = .ok (.istore 6, 2) := by decide +kernel
theorem dL_law_854 : decode cL_law 854 = .ok (.aload_n 2, 1) := by decide +kernel
theorem dL_law_855 : decode cL_law 855 = .ok (.aload_n 0, 1) := by decide +kernel
theorem dL_law_856 : decode cL_law 856 = .ok (.iload 5, 2) := by decide +kernel
theorem dL_law_858 : decode cL_law 858 = .ok (.iconst 1, 1) := by decide +kernel
theorem dL_law_859 : decode cL_law 859 = .ok (.iadd, 1) := by decide +kernel
theorem dL_law_860 : decode cL_law 860 = .ok (.iaload, 1) := by decide +kernel
theorem dL_law_861 : decode cL_law 861 = .ok (.aload_n 0, 1) := by decide +kernel
theorem dL_law_862 : decode cL_law 862 = .ok (.iload 5, 2) := by decide +kernel
theorem dL_law_864 : decode cL_law 864 = .ok (.iconst 2, 1) := by decide +kernel
theorem dL_law_865 : decode cL_law 865 = .ok (.iadd, 1) := by decide +kernel
theorem dL_law_866 : decode cL_law 866 = .ok (.iaload, 1) := by decide +kernel
theorem dL_law_867 : decode cL_law 867 = .ok (.invokevirtual 141, 3) := by decide +kernel
theorem dL_law_870 : decode cL_law 870 = .ok (.istore 7, 2) := by decide +kernel
theorem dL_law_872 : decode cL_law 872 = .ok (.aload_n 2, 1) := by decide +kernel
theorem dL_law_873 : decode cL_law 873 = .ok (.invokevirtual 95, 3) := by decide +kernel
theorem dL_law_876 : decode cL_law 876 = .ok (.iload 6, 2) := by decide +kernel
theorem dL_law_878 : decode cL_law 878 = .ok (.if_icmp .eq 5, 3) := by decide +kernel
theorem dL_law_881 : decode cL_law 881 = .ok (.iconst 0, 1) := by decide +kernel
theorem dL_law_882 : decode cL_law 882 = .ok (.ireturn, 1) := by decide +kernel
theorem dL_law_883 : decode cL_law 883 = .ok (.iload 6, 2) := by decide +kernel
theorem dL_law_885 : decode cL_law 885 = .ok (.ifCond .ne 15, 3) := by decide +kernel
theorem dL_law_888 : decode cL_law 888 = .ok (.aload_n 3, 1) := by decide +kernel
theorem dL_law_889 : decode cL_law 889 = .ok (.iconst 0, 1) := by decide +kernel
theorem dL_law_890 : decode cL_law 890 = .ok (.laload, 1) := by decide +kernel
theorem dL_law_891 : decode cL_law 891 = .ok (.iload 7, 2) := by decide +kernel
theorem dL_law_893 : decode cL_law 893 = .ok (.i2l, 1) := by decide +kernel
theorem dL_law_894 : decode cL_law 894 = .ok (.lcmp, 1) := by decide +kernel
theorem dL_law_895 : decode cL_law 895 = .ok (.ifCond .eq 5, 3) := by decide +kernel
theorem dL_law_898 : decode cL_law 898 = .ok (.iconst 0, 1) := by decide +kernel
theorem dL_law_899 : decode cL_law 899 = .ok (.ireturn, 1) := by decide +kernel
theorem dL_law_900 : decode cL_law 900 = .ok (.goto 727, 3) := by decide +kernel
theorem dL_law_903 : decode cL_law 903 = .ok (.aload_n 1, 1) := by decide +kernel
theorem dL_law_904 : decode cL_law 904 = .ok (.aload_n 0, 1) := by decide +kernel
theorem dL_law_905 : decode cL_law 905 = .ok (.iload 5, 2) := by decide +kernel
theorem dL_law_907 : decode cL_law 907 = .ok (.iconst 1, 1) := by decide +kernel
theorem dL_law_908 : decode cL_law 908 = .ok (.iadd, 1) := by decide +kernel
theorem dL_law_909 : decode cL_law 909 = .ok (.iaload, 1) := by decide +kernel
theorem dL_law_910 : decode cL_law 910 = .ok (.aload_n 3, 1) := by decide +kernel
theorem dL_law_911 : decode cL_law 911 = .ok (.invokestatic 142, 3) := by decide +kernel
theorem dL_law_914 : decode cL_law 914 = .ok (.istore 6, 2) := by decide +kernel
theorem dL_law_916 : decode cL_law 916 = .ok (.aload_n 2, 1) := by decide +kernel
theorem dL_law_917 : decode cL_law 917 = .ok (.aload_n 0, 1) := by decide +kernel
theorem dL_law_918 : decode cL_law 918 = .ok (.iload 5, 2) := by decide +kernel
theorem dL_law_920 : decode cL_law 920 = .ok (.iconst 1, 1) := by decide +kernel
theorem dL_law_921 : decode cL_law 921 = .ok (.iadd, 1) := by decide +kernel
theorem dL_law_922 : decode cL_law 922 = .ok (.iaload, 1) := by decide +kernel
theorem dL_law_923 : decode cL_law 923 = .ok (.invokevirtual 144, 3) := by decide +kernel
theorem dL_law_926 : decode cL_law 926 = .ok (.istore 7, 2) := by decide +kernel
theorem dL_law_928 : decode cL_law 928 = .ok (.aload_n 2, 1) := by decide +kernel
theorem dL_law_929 : decode cL_law 929 = .ok (.invokevirtual 95, 3) := by decide +kernel
theorem dL_law_932 : decode cL_law 932 = .ok (.iload 6, 2) := by decide +kernel
theorem dL_law_934 : decode cL_law 934 = .ok (.if_icmp .eq 5, 3) := by decide +kernel
theorem dL_law_937 : decode cL_law 937 = .ok (.iconst 0, 1) := by decide +kernel
theorem dL_law_938 : decode cL_law 938 = .ok (.ireturn, 1) := by decide +kernel
theorem dL_law_939 : decode cL_law 939 = .ok (.iload 6, 2) := by decide +kernel
theorem dL_law_941 : decode cL_law 941 = .ok (.ifCond .ne 15, 3) := by decide +kernel
theorem dL_law_944 : decode cL_law 944 = .ok (.aload_n 3, 1) := by decide +kernel
theorem dL_law_945 : decode cL_law 945 = .ok (.iconst 0, 1) := by decide +kernel
theorem dL_law_946 : decode cL_law 946 = .ok (.laload, 1) := by decide +kernel
theorem dL_law_947 : decode cL_law 947 = .ok (.iload 7, 2) := by decide +kernel
theorem dL_law_949 : decode cL_law 949 = .ok (.i2l, 1) := by decide +kernel
theorem dL_law_950 : decode cL_law 950 = .ok (.lcmp, 1) := by decide +kernel
theorem dL_law_951 : decode cL_law 951 = .ok (.ifCond .eq 5, 3) := by decide +kernel
theorem dL_law_954 : decode cL_law 954 = .ok (.iconst 0, 1) := by decide +kernel
theorem dL_law_955 : decode cL_law 955 = .ok (.ireturn, 1) := by decide +kernel
theorem dL_law_956 : decode cL_law 956 = .ok (.goto 671, 3) := by decide +kernel
theorem dL_law_959 : decode cL_law 959 = .ok (.aload_n 1, 1) := by decide +kernel
theorem dL_law_960 : decode cL_law 960 = .ok (.aload_n 0, 1) := by decide +kernel
theorem dL_law_961 : decode cL_law 961 = .ok (.iload 5, 2) := by decide +kernel
theorem dL_law_963 : decode cL_law 963 = .ok (.iconst 1, 1) := by decide +kernel
theorem dL_law_964 : decode cL_law 964 = .ok (.iadd, 1) := by decide +kernel
theorem dL_law_965 : decode cL_law 965 = .ok (.iaload, 1) := by decide +kernel
theorem dL_law_966 : decode cL_law 966 = .ok (.aload_n 0, 1) := by decide +kernel
theorem dL_law_967 : decode cL_law 967 = .ok (.iload 5, 2) := by decide +kernel
theorem dL_law_969 : decode cL_law 969 = .ok (.iconst 2, 1) := by decide +kernel
theorem dL_law_970 : decode cL_law 970 = .ok (.iadd, 1) := by decide +kernel
theorem dL_law_971 : decode cL_law 971 = .ok (.iaload, 1) := by decide +kernel
theorem dL_law_972 : decode cL_law 972 = .ok (.aload_n 3, 1) := by decide +kernel
theorem dL_law_973 : decode cL_law 973 = .ok (.invokestatic 145, 3) := by decide +kernel
theorem dL_law_976 : decode cL_law 976 = .ok (.istore 6, 2) := by decide +kernel
theorem dL_law_978 : decode cL_law 978 = .ok (.aload_n 2, 1) := by decide +kernel
theorem dL_law_979 : decode cL_law 979 = .ok (.aload_n 0, 1) := by decide +kernel
theorem dL_law_980 : decode cL_law 980 = .ok (.iload 5, 2) := by decide +kernel
theorem dL_law_982 : decode cL_law 982 = .ok (.iconst 1, 1) := by decide +kernel
theorem dL_law_983 : decode cL_law 983 = .ok (.iadd, 1) := by decide +kernel
theorem dL_law_984 : decode cL_law 984 = .ok (.iaload, 1) := by decide +kernel
theorem dL_law_985 : decode cL_law 985 = .ok (.aload_n 0, 1) := by decide +kernel
theorem dL_law_986 : decode cL_law 986 = .ok (.iload 5, 2) := by decide +kernel
theorem dL_law_988 : decode cL_law 988 = .ok (.iconst 2, 1) := by decide +kernel
theorem dL_law_989 : decode cL_law 989 = .ok (.iadd, 1) := by decide +kernel
theorem dL_law_990 : decode cL_law 990 = .ok (.iaload, 1) := by decide +kernel
theorem dL_law_991 : decode cL_law 991 = .ok (.invokevirtual 147, 3) := by decide +kernel
theorem dL_law_994 : decode cL_law 994 = .ok (.istore 7, 2) := by decide +kernel
theorem dL_law_996 : decode cL_law 996 = .ok (.aload_n 2, 1) := by decide +kernel
theorem dL_law_997 : decode cL_law 997 = .ok (.invokevirtual 95, 3) := by decide +kernel
theorem dL_law_1000 : decode cL_law 1000 = .ok (.iload 6, 2) := by decide +kernel
theorem dL_law_1002 : decode cL_law 1002 = .ok (.if_icmp .eq 5, 3) := by decide +kernel
theorem dL_law_1005 : decode cL_law 1005 = .ok (.iconst 0, 1) := by decide +kernel
theorem dL_law_1006 : decode cL_law 1006 = .ok (.ireturn, 1) := by decide +kernel
theorem dL_law_1007 : decode cL_law 1007 = .ok (.iload 6, 2) := by decide +kernel
theorem dL_law_1009 : decode cL_law 1009 = .ok (.ifCond .ne 15, 3) := by decide +kernel
theorem dL_law_1012 : decode cL_law 1012 = .ok (.aload_n 3, 1) := by decide +kernel
theorem dL_law_1013 : decode cL_law 1013 = .ok (.iconst 0, 1) := by decide +kernel
theorem dL_law_1014 : decode cL_law 1014 = .ok (.laload, 1) := by decide +kernel
theorem dL_law_1015 : decode cL_law 1015 = .ok (.iload 7, 2) := by decide +kernel
theorem dL_law_1017 : decode cL_law 1017 = .ok (.i2l, 1) := by decide +kernel
theorem dL_law_1018 : decode cL_law 1018 = .ok (.lcmp, 1) := by decide +kernel
theorem dL_law_1019 : decode cL_law 1019 = .ok (.ifCond .eq 5, 3) := by decide +kernel
theorem dL_law_1022 : decode cL_law 1022 = .ok (.iconst 0, 1) := by decide +kernel
theorem dL_law_1023 : decode cL_law 1023 = .ok (.ireturn, 1) := by decide +kernel
theorem dL_law_1024 : decode cL_law 1024 = .ok (.goto 603, 3) := by decide +kernel
theorem dL_law_1027 : decode cL_law 1027 = .ok (.aload_n 1, 1) := by decide +kernel
theorem dL_law_1028 : decode cL_law 1028 = .ok (.aload_n 0, 1) := by decide +kernel
theorem dL_law_1029 : decode cL_law 1029 = .ok (.iload 5, 2) := by decide +kernel
theorem dL_law_1031 : decode cL_law 1031 = .ok (.iconst 1, 1) := by decide +kernel
theorem dL_law_1032 : decode cL_law 1032 = .ok (.iadd, 1) := by decide +kernel
theorem dL_law_1033 : decode cL_law 1033 = .ok (.iaload, 1) := by decide +kernel
theorem dL_law_1034 : decode cL_law 1034 = .ok (.aload_n 0, 1) := by decide +kernel
theorem dL_law_1035 : decode cL_law 1035 = .ok (.iload 5, 2) := by decide +kernel
theorem dL_law_1037 : decode cL_law 1037 = .ok (.iconst 2, 1) := by decide +kernel
theorem dL_law_1038 : decode cL_law 1038 = .ok (.iadd, 1) := by decide +kernel
theorem dL_law_1039 : decode cL_law 1039 = .ok (.iaload, 1) := by decide +kernel
theorem dL_law_1040 : decode cL_law 1040 = .ok (.aload_n 0, 1) := by decide +kernel
theorem dL_law_1041 : decode cL_law 1041 = .ok (.iload 5, 2) := by decide +kernel
theorem dL_law_1043 : decode cL_law 1043 = .ok (.iconst 3, 1) := by decide +kernel
theorem dL_law_1044 : decode cL_law 1044 = .ok (.iadd, 1) := by decide +kernel
theorem dL_law_1045 : decode cL_law 1045 = .ok (.iaload, 1) := by decide +kernel
theorem dL_law_1046 : decode cL_law 1046 = .ok (.aload_n 3, 1) := by decide +kernel
theorem dL_law_1047 : decode cL_law 1047 = .ok (.invokestatic 148, 3) := by decide +kernel
theorem dL_law_1050 : decode cL_law 1050 = .ok (.istore 6, 2) := by decide +kernel
theorem dL_law_1052 : decode cL_law 1052 = .ok (.aload_n 2, 1) := by decide +kernel
theorem dL_law_1053 : decode cL_law 1053 = .ok (.aload_n 0, 1) := by decide +kernel
theorem dL_law_1054 : decode cL_law 1054 = .ok (.iload 5, 2) := by decide +kernel
theorem dL_law_1056 : decode cL_law 1056 = .ok (.iconst 1, 1) := by decide +kernel
theorem dL_law_1057 : decode cL_law 1057 = .ok (.iadd, 1) := by decide +kernel
theorem dL_law_1058 : decode cL_law 1058 = .ok (.iaload, 1) := by decide +kernel
theorem dL_law_1059 : decode cL_law 1059 = .ok (.aload_n 0, 1) := by decide +kernel
theorem dL_law_1060 : decode cL_law 1060 = .ok (.iload 5, 2) := by decide +kernel
theorem dL_law_1062 : decode cL_law 1062 = .ok (.iconst 2, 1) := by decide +kernel
theorem dL_law_1063 : decode cL_law 1063 = .ok (.iadd, 1) := by decide +kernel
theorem dL_law_1064 : decode cL_law 1064 = .ok (.iaload, 1) := by decide +kernel
theorem dL_law_1065 : decode cL_law 1065 = .ok (.aload_n 0, 1) := by decide +kernel
theorem dL_law_1066 : decode cL_law 1066 = .ok (.iload 5, 2) := by decide +kernel
theorem dL_law_1068 : decode cL_law 1068 = .ok (.iconst 3, 1) := by decide +kernel
theorem dL_law_1069 : decode cL_law 1069 = .ok (.iadd, 1) := by decide +kernel
theorem dL_law_1070 : decode cL_law 1070 = .ok (.iaload, 1) := by decide +kernel
theorem dL_law_1071 : decode cL_law 1071 = .ok (.invokevirtual 151, 3) := by decide +kernel
theorem dL_law_1074 : decode cL_law 1074 = .ok (.istore 7, 2) := by decide +kernel
theorem dL_law_1076 : decode cL_law 1076 = .ok (.aload_n 2, 1) := by decide +kernel
theorem dL_law_1077 : decode cL_law 1077 = .ok (.invokevirtual 95, 3) := by decide +kernel
theorem dL_law_1080 : decode cL_law 1080 = .ok (.iload 6, 2) := by decide +kernel
theorem dL_law_1082 : decode cL_law 1082 = .ok (.if_icmp .eq 5, 3) := by decide +kernel
theorem dL_law_1085 : decode cL_law 1085 = .ok (.iconst 0, 1) := by decide +kernel
theorem dL_law_1086 : decode cL_law 1086 = .ok (.ireturn, 1) := by decide +kernel
theorem dL_law_1087 : decode cL_law 1087 = .ok (.iload 6, 2) := by decide +kernel
theorem dL_law_1089 : decode cL_law 1089 = .ok (.ifCond .ne 15, 3) := by decide +kernel
theorem dL_law_1092 : decode cL_law 1092 = .ok (.aload_n 3, 1) := by decide +kernel
theorem dL_law_1093 : decode cL_law 1093 = .ok (.iconst 0, 1) := by decide +kernel
theorem dL_law_1094 : decode cL_law 1094 = .ok (.laload, 1) := by decide +kernel
theorem dL_law_1095 : decode cL_law 1095 = .ok (.iload 7, 2) := by decide +kernel
theorem dL_law_1097 : decode cL_law 1097 = .ok (.i2l, 1) := by decide +kernel
theorem dL_law_1098 : decode cL_law 1098 = .ok (.lcmp, 1) := by decide +kernel
theorem dL_law_1099 : decode cL_law 1099 = .ok (.ifCond .eq 5, 3) := by decide +kernel
theorem dL_law_1102 : decode cL_law 1102 = .ok (.iconst 0, 1) := by decide +kernel
theorem dL_law_1103 : decode cL_law 1103 = .ok (.ireturn, 1) := by decide +kernel
theorem dL_law_1104 : decode cL_law 1104 = .ok (.goto 523, 3) := by decide +kernel
theorem dL_law_1107 : decode cL_law 1107 = .ok (.aload_n 1, 1) := by decide +kernel
theorem dL_law_1108 : decode cL_law 1108 = .ok (.aload_n 0, 1) := by decide +kernel
theorem dL_law_1109 : decode cL_law 1109 = .ok (.iload 5, 2) := by decide +kernel
theorem dL_law_1111 : decode cL_law 1111 = .ok (.iconst 1, 1) := by decide +kernel
theorem dL_law_1112 : decode cL_law 1112 = .ok (.iadd, 1) := by decide +kernel
theorem dL_law_1113 : decode cL_law 1113 = .ok (.iaload, 1) := by decide +kernel
theorem dL_law_1114 : decode cL_law 1114 = .ok (.aload_n 3, 1) := by decide +kernel
theorem dL_law_1115 : decode cL_law 1115 = .ok (.invokestatic 152, 3) := by decide +kernel
theorem dL_law_1118 : decode cL_law 1118 = .ok (.istore 6, 2) := by decide +kernel
theorem dL_law_1120 : decode cL_law 1120 = .ok (.aload_n 2, 1) := by decide +kernel
theorem dL_law_1121 : decode cL_law 1121 = .ok (.aload_n 0, 1) := by decide +kernel
theorem dL_law_1122 : decode cL_law 1122 = .ok (.iload 5, 2) := by decide +kernel
theorem dL_law_1124 : decode cL_law 1124 = .ok (.iconst 1, 1) := by decide +kernel
theorem dL_law_1125 : decode cL_law 1125 = .ok (.iadd, 1) := by decide +kernel
theorem dL_law_1126 : decode cL_law 1126 = .ok (.iaload, 1) := by decide +kernel
theorem dL_law_1127 : decode cL_law 1127 = .ok (.invokevirtual 154, 3) := by decide +kernel
theorem dL_law_1130 : decode cL_law 1130 = .ok (.istore 7, 2) := by decide +kernel
theorem dL_law_1132 : decode cL_law 1132 = .ok (.aload_n 2, 1) := by decide +kernel
theorem dL_law_1133 : decode cL_law 1133 = .ok (.invokevirtual 95, 3) := by decide +kernel
theorem dL_law_1136 : decode cL_law 1136 = .ok (.iload 6, 2) := by decide +kernel
theorem dL_law_1138 : decode cL_law 1138 = .ok (.if_icmp .eq 5, 3) := by decide +kernel
theorem dL_law_1141 : decode cL_law 1141 = .ok (.iconst 0, 1) := by decide +kernel
theorem dL_law_1142 : decode cL_law 1142 = .ok (.ireturn, 1) := by decide +kernel
theorem dL_law_1143 : decode cL_law 1143 = .ok (.iload 6, 2) := by decide +kernel
theorem dL_law_1145 : decode cL_law 1145 = .ok (.ifCond .ne 15, 3) := by decide +kernel
theorem dL_law_1148 : decode cL_law 1148 = .ok (.aload_n 3, 1) := by decide +kernel
theorem dL_law_1149 : decode cL_law 1149 = .ok (.iconst 0, 1) := by decide +kernel
theorem dL_law_1150 : decode cL_law 1150 = .ok (.laload, 1) := by decide +kernel
theorem dL_law_1151 : decode cL_law 1151 = .ok (.iload 7, 2) := by decide +kernel
theorem dL_law_1153 : decode cL_law 1153 = .ok (.i2l, 1) := by decide +kernel
theorem dL_law_1154 : decode cL_law 1154 = .ok (.lcmp, 1) := by decide +kernel
theorem dL_law_1155 : decode cL_law 1155 = .ok (.ifCond .eq 5, 3) := by decide +kernel
theorem dL_law_1158 : decode cL_law 1158 = .ok (.iconst 0, 1) := by decide +kernel
theorem dL_law_1159 : decode cL_law 1159 = .ok (.ireturn, 1) := by decide +kernel
theorem dL_law_1160 : decode cL_law 1160 = .ok (.goto 467, 3) := by decide +kernel
theorem dL_law_1163 : decode cL_law 1163 = .ok (.aload_n 1, 1) := by decide +kernel
theorem dL_law_1164 : decode cL_law 1164 = .ok (.invokevirtual 155, 3) := by decide +kernel
theorem dL_law_1167 : decode cL_law 1167 = .ok (.aload_n 2, 1) := by decide +kernel
theorem dL_law_1168 : decode cL_law 1168 = .ok (.invokevirtual 158, 3) := by decide +kernel
theorem dL_law_1171 : decode cL_law 1171 = .ok (.if_icmp .eq 456, 3) := by decide +kernel
theorem dL_law_1174 : decode cL_law 1174 = .ok (.iconst 0, 1) := by decide +kernel
theorem dL_law_1175 : decode cL_law 1175 = .ok (.ireturn, 1) := by decide +kernel
theorem dL_law_1176 : decode cL_law 1176 = .ok (.aload_n 1, 1) := by decide +kernel
theorem dL_law_1177 : decode cL_law 1177 = .ok (.invokevirtual 159, 3) := by decide +kernel
theorem dL_law_1180 : decode cL_law 1180 = .ok (.aload_n 2, 1) := by decide +kernel
theorem dL_law_1181 : decode cL_law 1181 = .ok (.invokevirtual 162, 3) := by decide +kernel
theorem dL_law_1184 : decode cL_law 1184 = .ok (.if_icmp .eq 443, 3) := by decide +kernel
theorem dL_law_1187 : decode cL_law 1187 = .ok (.iconst 0, 1) := by decide +kernel
theorem dL_law_1188 : decode cL_law 1188 = .ok (.ireturn, 1) := by decide +kernel
theorem dL_law_1189 : decode cL_law 1189 = .ok (.aload_n 1, 1) := by decide +kernel
theorem dL_law_1190 : decode cL_law 1190 = .ok (.aload_n 0, 1) := by decide +kernel
theorem dL_law_1191 : decode cL_law 1191 = .ok (.iload 5, 2) := by decide +kernel
theorem dL_law_1193 : decode cL_law 1193 = .ok (.iconst 1, 1) := by decide +kernel
theorem dL_law_1194 : decode cL_law 1194 = .ok (.iadd, 1) := by decide +kernel
theorem dL_law_1195 : decode cL_law 1195 = .ok (.iaload, 1) := by decide +kernel
theorem dL_law_1196 : decode cL_law 1196 = .ok (.aload_n 3, 1) := by decide +kernel
theorem dL_law_1197 : decode cL_law 1197 = .ok (.invokestatic 163, 3) := by decide +kernel
theorem dL_law_1200 : decode cL_law 1200 = .ok (.istore 6, 2) := by decide +kernel
theorem dL_law_1202 : decode cL_law 1202 = .ok (.aload_n 2, 1) := by decide +kernel
theorem dL_law_1203 : decode cL_law 1203 = .ok (.aload_n 0, 1) := by decide +kernel
theorem dL_law_1204 : decode cL_law 1204 = .ok (.iload 5, 2) := by decide +kernel
theorem dL_law_1206 : decode cL_law 1206 = .ok (.iconst 1, 1) := by decide +kernel
theorem dL_law_1207 : decode cL_law 1207 = .ok (.iadd, 1) := by decide +kernel
theorem dL_law_1208 : decode cL_law 1208 = .ok (.iaload, 1) := by decide +kernel
theorem dL_law_1209 : decode cL_law 1209 = .ok (.invokevirtual 165, 3) := by decide +kernel
theorem dL_law_1212 : decode cL_law 1212 = .ok (.istore 7, 2) := by decide +kernel
theorem dL_law_1214 : decode cL_law 1214 = .ok (.aload_n 2, 1) := by decide +kernel
theorem dL_law_1215 : decode cL_law 1215 = .ok (.invokevirtual 95, 3) := by decide +kernel
theorem dL_law_1218 : decode cL_law 1218 = .ok (.iload 6, 2) := by decide +kernel
theorem dL_law_1220 : decode cL_law 1220 = .ok (.if_icmp .eq 5, 3) := by decide +kernel
theorem dL_law_1223 : decode cL_law 1223 = .ok (.iconst 0, 1) := by decide +kernel
theorem dL_law_1224 : decode cL_law 1224 = .ok (.ireturn, 1) := by decide +kernel
theorem dL_law_1225 : decode cL_law 1225 = .ok (.iload 6, 2) := by decide +kernel
theorem dL_law_1227 : decode cL_law 1227 = .ok (.ifCond .ne 15, 3) := by decide +kernel
theorem dL_law_1230 : decode cL_law 1230 = .ok (.aload_n 3, 1) := by decide +kernel
theorem dL_law_1231 : decode cL_law 1231 = .ok (.iconst 0, 1) := by decide +kernel
theorem dL_law_1232 : decode cL_law 1232 = .ok (.laload, 1) := by decide +kernel
theorem dL_law_1233 : decode cL_law 1233 = .ok (.iload 7, 2) := by decide +kernel
theorem dL_law_1235 : decode cL_law 1235 = .ok (.i2l, 1) := by decide +kernel
theorem dL_law_1236 : decode cL_law 1236 = .ok (.lcmp, 1) := by decide +kernel
theorem dL_law_1237 : decode cL_law 1237 = .ok (.ifCond .eq 5, 3) := by decide +kernel
theorem dL_law_1240 : decode cL_law 1240 = .ok (.iconst 0, 1) := by decide +kernel
theorem dL_law_1241 : decode cL_law 1241 = .ok (.ireturn, 1) := by decide +kernel
theorem dL_law_1242 : decode cL_law 1242 = .ok (.goto 385, 3) := by decide +kernel
theorem dL_law_1245 : decode cL_law 1245 = .ok (.aload_n 1, 1) := by decide +kernel
theorem dL_law_1246 : decode cL_law 1246 = .ok (.aload_n 0, 1) := by decide +kernel
theorem dL_law_1247 : decode cL_law 1247 = .ok (.iload 5, 2) := by decide +kernel
theorem dL_law_1249 : decode cL_law 1249 = .ok (.iconst 1, 1) := by decide +kernel
theorem dL_law_1250 : decode cL_law 1250 = .ok (.iadd, 1) := by decide +kernel
theorem dL_law_1251 : decode cL_law 1251 = .ok (.iaload, 1) := by decide +kernel
theorem dL_law_1252 : decode cL_law 1252 = .ok (.aload_n 0, 1) := by decide +kernel
theorem dL_law_1253 : decode cL_law 1253 = .ok (.iload 5, 2) := by decide +kernel
theorem dL_law_1255 : decode cL_law 1255 = .ok (.iconst 2, 1) := by decide +kernel
theorem dL_law_1256 : decode cL_law 1256 = .ok (.iadd, 1) := by decide +kernel
theorem dL_law_1257 : decode cL_law 1257 = .ok (.iaload, 1) := by decide +kernel
theorem dL_law_1258 : decode cL_law 1258 = .ok (.aload_n 3, 1) := by decide +kernel
theorem dL_law_1259 : decode cL_law 1259 = .ok (.invokestatic 166, 3) := by decide +kernel
theorem dL_law_1262 : decode cL_law 1262 = .ok (.istore 6, 2) := by decide +kernel
theorem dL_law_1264 : decode cL_law 1264 = .ok (.aload_n 2, 1) := by decide +kernel
theorem dL_law_1265 : decode cL_law 1265 = .ok (.aload_n 0, 1) := by decide +kernel
theorem dL_law_1266 : decode cL_law 1266 = .ok (.iload 5, 2) := by decide +kernel
theorem dL_law_1268 : decode cL_law 1268 = .ok (.iconst 1, 1) := by decide +kernel
theorem dL_law_1269 : decode cL_law 1269 = .ok (.iadd, 1) := by decide +kernel
theorem dL_law_1270 : decode cL_law 1270 = .ok (.iaload, 1) := by decide +kernel
theorem dL_law_1271 : decode cL_law 1271 = .ok (.aload_n 0, 1) := by decide +kernel
theorem dL_law_1272 : decode cL_law 1272 = .ok (.iload 5, 2) := by decide +kernel
theorem dL_law_1274 : decode cL_law 1274 = .ok (.iconst 2, 1) := by decide +kernel
theorem dL_law_1275 : decode cL_law 1275 = .ok (.iadd, 1) := by decide +kernel
theorem dL_law_1276 : decode cL_law 1276 = .ok (.iaload, 1) := by decide +kernel
theorem dL_law_1277 : decode cL_law 1277 = .ok (.invokevirtual 168, 3) := by decide +kernel
theorem dL_law_1280 : decode cL_law 1280 = .ok (.istore 7, 2) := by decide +kernel
theorem dL_law_1282 : decode cL_law 1282 = .ok (.aload_n 2, 1) := by decide +kernel
theorem dL_law_1283 : decode cL_law 1283 = .ok (.invokevirtual 95, 3) := by decide +kernel
theorem dL_law_1286 : decode cL_law 1286 = .ok (.iload 6, 2) := by decide +kernel
theorem dL_law_1288 : decode cL_law 1288 = .ok (.if_icmp .eq 5, 3) := by decide +kernel
theorem dL_law_1291 : decode cL_law 1291 = .ok (.iconst 0, 1) := by decide +kernel
theorem dL_law_1292 : decode cL_law 1292 = .ok (.ireturn, 1) := by decide +kernel
theorem dL_law_1293 : decode cL_law 1293 = .ok (.iload 6, 2) := by decide +kernel
theorem dL_law_1295 : decode cL_law 1295 = .ok (.ifCond .ne 15, 3) := by decide +kernel
theorem dL_law_1298 : decode cL_law 1298 = .ok (.aload_n 3, 1) := by decide +kernel
theorem dL_law_1299 : decode cL_law 1299 = .ok (.iconst 0, 1) := by decide +kernel
theorem dL_law_1300 : decode cL_law 1300 = .ok (.laload, 1) := by decide +kernel
theorem dL_law_1301 : decode cL_law 1301 = .ok (.iload 7, 2) := by decide +kernel
theorem dL_law_1303 : decode cL_law 1303 = .ok (.i2l, 1) := by decide +kernel
theorem dL_law_1304 : decode cL_law 1304 = .ok (.lcmp, 1) := by decide +kernel
theorem dL_law_1305 : decode cL_law 1305 = .ok (.ifCond .eq 5, 3) := by decide +kernel
theorem dL_law_1308 : decode cL_law 1308 = .ok (.iconst 0, 1) := by decide +kernel
theorem dL_law_1309 : decode cL_law 1309 = .ok (.ireturn, 1) := by decide +kernel
theorem dL_law_1310 : decode cL_law 1310 = .ok (.goto 317, 3) := by decide +kernel
theorem dL_law_1313 : decode cL_law 1313 = .ok (.aload_n 1, 1) := by decide +kernel
theorem dL_law_1314 : decode cL_law 1314 = .ok (.invokevirtual 169, 3) := by decide +kernel
theorem dL_law_1317 : decode cL_law 1317 = .ok (.aload_n 2, 1) := by decide +kernel
theorem dL_law_1318 : decode cL_law 1318 = .ok (.invokevirtual 172, 3) := by decide +kernel
theorem dL_law_1321 : decode cL_law 1321 = .ok (.if_icmp .eq 306, 3) := by decide +kernel
theorem dL_law_1324 : decode cL_law 1324 = .ok (.iconst 0, 1) := by decide +kernel
theorem dL_law_1325 : decode cL_law 1325 = .ok (.ireturn, 1) := by decide +kernel
theorem dL_law_1326 : decode cL_law 1326 = .ok (.aload_n 1, 1) := by decide +kernel
theorem dL_law_1327 : decode cL_law 1327 = .ok (.aload_n 0, 1) := by decide +kernel
theorem dL_law_1328 : decode cL_law 1328 = .ok (.iload 5, 2) := by decide +kernel
theorem dL_law_1330 : decode cL_law 1330 = .ok (.iconst 1, 1) := by decide +kernel
theorem dL_law_1331 : decode cL_law 1331 = .ok (.iadd, 1) := by decide +kernel
theorem dL_law_1332 : decode cL_law 1332 = .ok (.iaload, 1) := by decide +kernel
theorem dL_law_1333 : decode cL_law 1333 = .ok (.i2l, 1) := by decide +kernel
theorem dL_law_1334 : decode cL_law 1334 = .ok (.bipush 32, 2) := by decide +kernel
theorem dL_law_1336 : decode cL_law 1336 = .ok (.lshl, 1) := by decide +kernel
theorem dL_law_1337 : decode cL_law 1337 = .ok (.aload_n 0, 1) := by decide +kernel
theorem dL_law_1338 : decode cL_law 1338 = .ok (.iload 5, 2) := by decide +kernel
theorem dL_law_1340 : decode cL_law 1340 = .ok (.iconst 2, 1) := by decide +kernel
theorem dL_law_1341 : decode cL_law 1341 = .ok (.iadd, 1) := by decide +kernel
theorem dL_law_1342 : decode cL_law 1342 = .ok (.iaload, 1) := by decide +kernel
theorem dL_law_1343 : decode cL_law 1343 = .ok (.i2l, 1) := by decide +kernel
theorem dL_law_1344 : decode cL_law 1344 = .ok (.ldc2_w 173, 3) := by decide +kernel
theorem dL_law_1347 : decode cL_law 1347 = .ok (.land, 1) := by decide +kernel
theorem dL_law_1348 : decode cL_law 1348 = .ok (.lor, 1) := by decide +kernel
theorem dL_law_1349 : decode cL_law 1349 = .ok (.aload_n 3, 1) := by decide +kernel
theorem dL_law_1350 : decode cL_law 1350 = .ok (.invokestatic 175, 3) := by decide +kernel
theorem dL_law_1353 : decode cL_law 1353 = .ok (.istore 6, 2) := by decide +kernel
theorem dL_law_1355 : decode cL_law 1355 = .ok (.aload_n 2, 1) := by decide +kernel
theorem dL_law_1356 : decode cL_law 1356 = .ok (.aload_n 0, 1) := by decide +kernel
theorem dL_law_1357 : decode cL_law 1357 = .ok (.iload 5, 2) := by decide +kernel
theorem dL_law_1359 : decode cL_law 1359 = .ok (.iconst 1, 1) := by decide +kernel
theorem dL_law_1360 : decode cL_law 1360 = .ok (.iadd, 1) := by decide +kernel
theorem dL_law_1361 : decode cL_law 1361 = .ok (.iaload, 1) := by decide +kernel
theorem dL_law_1362 : decode cL_law 1362 = .ok (.i2l, 1) := by decide +kernel
theorem dL_law_1363 : decode cL_law 1363 = .ok (.bipush 32, 2) := by decide +kernel
theorem dL_law_1365 : decode cL_law 1365 = .ok (.lshl, 1) := by decide +kernel
theorem dL_law_1366 : decode cL_law 1366 = .ok (.aload_n 0, 1) := by decide +kernel
theorem dL_law_1367 : decode cL_law 1367 = .ok (.iload 5, 2) := by decide +kernel
theorem dL_law_1369 : decode cL_law 1369 = .ok (.iconst 2, 1) := by decide +kernel
theorem dL_law_1370 : decode cL_law 1370 = .ok (.iadd, 1) := by decide +kernel
theorem dL_law_1371 : decode cL_law 1371 = .ok (.iaload, 1) := by decide +kernel
theorem dL_law_1372 : decode cL_law 1372 = .ok (.i2l, 1) := by decide +kernel
theorem dL_law_1373 : decode cL_law 1373 = .ok (.ldc2_w 173, 3) := by decide +kernel
theorem dL_law_1376 : decode cL_law 1376 = .ok (.land, 1) := by decide +kernel
theorem dL_law_1377 : decode cL_law 1377 = .ok (.lor, 1) := by decide +kernel
theorem dL_law_1378 : decode cL_law 1378 = .ok (.invokevirtual 178, 3) := by decide +kernel
theorem dL_law_1381 : decode cL_law 1381 = .ok (.istore 7, 2) := by decide +kernel
theorem dL_law_1383 : decode cL_law 1383 = .ok (.aload_n 2, 1) := by decide +kernel
theorem dL_law_1384 : decode cL_law 1384 = .ok (.invokevirtual 95, 3) := by decide +kernel
theorem dL_law_1387 : decode cL_law 1387 = .ok (.iload 6, 2) := by decide +kernel
theorem dL_law_1389 : decode cL_law 1389 = .ok (.if_icmp .eq 5, 3) := by decide +kernel
theorem dL_law_1392 : decode cL_law 1392 = .ok (.iconst 0, 1) := by decide +kernel
theorem dL_law_1393 : decode cL_law 1393 = .ok (.ireturn, 1) := by decide +kernel
theorem dL_law_1394 : decode cL_law 1394 = .ok (.iload 6, 2) := by decide +kernel
theorem dL_law_1396 : decode cL_law 1396 = .ok (.ifCond .ne 15, 3) := by decide +kernel
theorem dL_law_1399 : decode cL_law 1399 = .ok (.aload_n 3, 1) := by decide +kernel
theorem dL_law_1400 : decode cL_law 1400 = .ok (.iconst 0, 1) := by decide +kernel
theorem dL_law_1401 : decode cL_law 1401 = .ok (.laload, 1) := by decide +kernel
theorem dL_law_1402 : decode cL_law 1402 = .ok (.iload 7, 2) := by decide +kernel
theorem dL_law_1404 : decode cL_law 1404 = .ok (.i2l, 1) := by decide +kernel
theorem dL_law_1405 : decode cL_law 1405 = .ok (.lcmp, 1) := by decide +kernel
theorem dL_law_1406 : decode cL_law 1406 = .ok (.ifCond .eq 5, 3) := by decide +kernel
theorem dL_law_1409 : decode cL_law 1409 = .ok (.iconst 0, 1) := by decide +kernel
theorem dL_law_1410 : decode cL_law 1410 = .ok (.ireturn, 1) := by decide +kernel
theorem dL_law_1411 : decode cL_law 1411 = .ok (.goto 216, 3) := by decide +kernel
theorem dL_law_1414 : decode cL_law 1414 = .ok (.aload_n 1, 1) := by decide +kernel
theorem dL_law_1415 : decode cL_law 1415 = .ok (.invokevirtual 179, 3) := by decide +kernel
theorem dL_law_1418 : decode cL_law 1418 = .ok (.aload_n 2, 1) := by decide +kernel
theorem dL_law_1419 : decode cL_law 1419 = .ok (.invokevirtual 182, 3) := by decide +kernel
theorem dL_law_1422 : decode cL_law 1422 = .ok (.if_icmp .eq 205, 3) := by decide +kernel
theorem dL_law_1425 : decode cL_law 1425 = .ok (.iconst 0, 1) := by decide +kernel
theorem dL_law_1426 : decode cL_law 1426 = .ok (.ireturn, 1) := by decide +kernel
theorem dL_law_1427 : decode cL_law 1427 = .ok (.aload_n 1, 1) := by decide +kernel
theorem dL_law_1428 : decode cL_law 1428 = .ok (.invokevirtual 183, 3) := by decide +kernel
theorem dL_law_1431 : decode cL_law 1431 = .ok (.dstore 6, 2) := by decide +kernel
theorem dL_law_1433 : decode cL_law 1433 = .ok (.aload_n 2, 1) := by decide +kernel
theorem dL_law_1434 : decode cL_law 1434 = .ok (.invokevirtual 187, 3) := by decide +kernel
theorem dL_law_1437 : decode cL_law 1437 = .ok (.dstore 8, 2) := by decide +kernel
theorem dL_law_1439 : decode cL_law 1439 = .ok (.dload 6, 2) := by decide +kernel
theorem dL_law_1441 : decode cL_law 1441 = .ok (.dload 8, 2) := by decide +kernel
theorem dL_law_1443 : decode cL_law 1443 = .ok (.dcmp .l, 1) := by decide +kernel
theorem dL_law_1444 : decode cL_law 1444 = .ok (.ifCond .eq 21, 3) := by decide +kernel
theorem dL_law_1447 : decode cL_law 1447 = .ok (.dload 6, 2) := by decide +kernel
theorem dL_law_1449 : decode cL_law 1449 = .ok (.dload 6, 2) := by decide +kernel
theorem dL_law_1451 : decode cL_law 1451 = .ok (.dcmp .l, 1) := by decide +kernel
theorem dL_law_1452 : decode cL_law 1452 = .ok (.ifCond .eq 11, 3) := by decide +kernel
theorem dL_law_1455 : decode cL_law 1455 = .ok (.dload 8, 2) := by decide +kernel
theorem dL_law_1457 : decode cL_law 1457 = .ok (.dload 8, 2) := by decide +kernel
theorem dL_law_1459 : decode cL_law 1459 = .ok (.dcmp .l, 1) := by decide +kernel
theorem dL_law_1460 : decode cL_law 1460 = .ok (.ifCond .ne 5, 3) := by decide +kernel
theorem dL_law_1463 : decode cL_law 1463 = .ok (.iconst 0, 1) := by decide +kernel
theorem dL_law_1464 : decode cL_law 1464 = .ok (.ireturn, 1) := by decide +kernel
theorem dL_law_1465 : decode cL_law 1465 = .ok (.goto 162, 3) := by decide +kernel
theorem dL_law_1468 : decode cL_law 1468 = .ok (.aload_n 1, 1) := by decide +kernel
theorem dL_law_1469 : decode cL_law 1469 = .ok (.aload_n 0, 1) := by decide +kernel
theorem dL_law_1470 : decode cL_law 1470 = .ok (.iload 5, 2) := by decide +kernel
theorem dL_law_1472 : decode cL_law 1472 = .ok (.iconst 1, 1) := by decide +kernel
theorem dL_law_1473 : decode cL_law 1473 = .ok (.iadd, 1) := by decide +kernel
theorem dL_law_1474 : decode cL_law 1474 = .ok (.iaload, 1) := by decide +kernel
theorem dL_law_1475 : decode cL_law 1475 = .ok (.aload 4, 2) := by decide +kernel
theorem dL_law_1477 : decode cL_law 1477 = .ok (.invokestatic 188, 3) := by decide +kernel
theorem dL_law_1480 : decode cL_law 1480 = .ok (.istore 6, 2) := by decide +kernel
theorem dL_law_1482 : decode cL_law 1482 = .ok (.aload_n 2, 1) := by decide +kernel
theorem dL_law_1483 : decode cL_law 1483 = .ok (.aload_n 0, 1) := by decide +kernel
theorem dL_law_1484 : decode cL_law 1484 = .ok (.iload 5, 2) := by decide +kernel
theorem dL_law_1486 : decode cL_law 1486 = .ok (.iconst 1, 1) := by decide +kernel
theorem dL_law_1487 : decode cL_law 1487 = .ok (.iadd, 1) := by decide +kernel
theorem dL_law_1488 : decode cL_law 1488 = .ok (.iaload, 1) := by decide +kernel
theorem dL_law_1489 : decode cL_law 1489 = .ok (.invokevirtual 191, 3) := by decide +kernel
theorem dL_law_1492 : decode cL_law 1492 = .ok (.fstore 7, 2) := by decide +kernel
theorem dL_law_1494 : decode cL_law 1494 = .ok (.aload_n 2, 1) := by decide +kernel
theorem dL_law_1495 : decode cL_law 1495 = .ok (.invokevirtual 95, 3) := by decide +kernel
theorem dL_law_1498 : decode cL_law 1498 = .ok (.iload 6, 2) := by decide +kernel
theorem dL_law_1500 : decode cL_law 1500 = .ok (.if_icmp .eq 5, 3) := by decide +kernel
theorem dL_law_1503 : decode cL_law 1503 = .ok (.iconst 0, 1) := by decide +kernel
theorem dL_law_1504 : decode cL_law 1504 = .ok (.ireturn, 1) := by decide +kernel
theorem dL_law_1505 : decode cL_law 1505 = .ok (.iload 6, 2) := by decide +kernel
theorem dL_law_1507 : decode cL_law 1507 = .ok (.ifCond .ne 36, 3) := by decide +kernel
theorem dL_law_1510 : decode cL_law 1510 = .ok (.aload 4, 2) := by decide +kernel
theorem dL_law_1512 : decode cL_law 1512 = .ok (.iconst 0, 1) := by decide +kernel
theorem dL_law_1513 : decode cL_law 1513 = .ok (.daload, 1) := by decide +kernel
theorem dL_law_1514 : decode cL_law 1514 = .ok (.fload 7, 2) := by decide +kernel
theorem dL_law_1516 : decode cL_law 1516 = .ok (.f2d, 1) := by decide +kernel
theorem dL_law_1517 : decode cL_law 1517 = .ok (.dcmp .l, 1) := by decide +kernel
theorem dL_law_1518 : decode cL_law 1518 = .ok (.ifCond .eq 25, 3) := by decide +kernel
theorem dL_law_1521 : decode cL_law 1521 = .ok (.aload 4, 2) := by decide +kernel
theorem dL_law_1523 : decode cL_law 1523 = .ok (.iconst 0, 1) := by decide +kernel
theorem dL_law_1524 : decode cL_law 1524 = .ok (.daload, 1) := by decide +kernel
theorem dL_law_1525 : decode cL_law 1525 = .ok (.aload 4, 2) := by decide +kernel
theorem dL_law_1527 : decode cL_law 1527 = .ok (.iconst 0, 1) := by decide +kernel
theorem dL_law_1528 : decode cL_law 1528 = .ok (.daload, 1) := by decide +kernel
theorem dL_law_1529 : decode cL_law 1529 = .ok (.dcmp .l, 1) := by decide +kernel
theorem dL_law_1530 : decode cL_law 1530 = .ok (.ifCond .eq 11, 3) := by decide +kernel
theorem dL_law_1533 : decode cL_law 1533 = .ok (.fload 7, 2) := by decide +kernel
theorem dL_law_1535 : decode cL_law 1535 = .ok (.fload 7, 2) := by decide +kernel
theorem dL_law_1537 : decode cL_law 1537 = .ok (.fcmp .l, 1) := by decide +kernel
theorem dL_law_1538 : decode cL_law 1538 = .ok (.ifCond .ne 5, 3) := by decide +kernel
theorem dL_law_1541 : decode cL_law 1541 = .ok (.iconst 0, 1) := by decide +kernel
theorem dL_law_1542 : decode cL_law 1542 = .ok (.ireturn, 1) := by decide +kernel
theorem dL_law_1543 : decode cL_law 1543 = .ok (.goto 84, 3) := by decide +kernel
theorem dL_law_1546 : decode cL_law 1546 = .ok (.aload_n 1, 1) := by decide +kernel
theorem dL_law_1547 : decode cL_law 1547 = .ok (.aload_n 0, 1) := by decide +kernel
theorem dL_law_1548 : decode cL_law 1548 = .ok (.iload 5, 2) := by decide +kernel
theorem dL_law_1550 : decode cL_law 1550 = .ok (.iconst 1, 1) := by decide +kernel
theorem dL_law_1551 : decode cL_law 1551 = .ok (.iadd, 1) := by decide +kernel
theorem dL_law_1552 : decode cL_law 1552 = .ok (.iaload, 1) := by decide +kernel
theorem dL_law_1553 : decode cL_law 1553 = .ok (.aload_n 3, 1) := by decide +kernel
theorem dL_law_1554 : decode cL_law 1554 = .ok (.invokestatic 192, 3) := by decide +kernel
theorem dL_law_1557 : decode cL_law 1557 = .ok (.istore 6, 2) := by decide +kernel
theorem dL_law_1559 : decode cL_law 1559 = .ok (.aload_n 2, 1) := by decide +kernel
theorem dL_law_1560 : decode cL_law 1560 = .ok (.aload_n 0, 1) := by decide +kernel
theorem dL_law_1561 : decode cL_law 1561 = .ok (.iload 5, 2) := by decide +kernel
theorem dL_law_1563 : decode cL_law 1563 = .ok (.iconst 1, 1) := by decide +kernel
theorem dL_law_1564 : decode cL_law 1564 = .ok (.iadd, 1) := by decide +kernel
theorem dL_law_1565 : decode cL_law 1565 = .ok (.iaload, 1) := by decide +kernel
theorem dL_law_1566 : decode cL_law 1566 = .ok (.invokevirtual 194, 3) := by decide +kernel
theorem dL_law_1569 : decode cL_law 1569 = .ok (.istore 7, 2) := by decide +kernel
theorem dL_law_1571 : decode cL_law 1571 = .ok (.aload_n 2, 1) := by decide +kernel
theorem dL_law_1572 : decode cL_law 1572 = .ok (.invokevirtual 95, 3) := by decide +kernel
theorem dL_law_1575 : decode cL_law 1575 = .ok (.iload 6, 2) := by decide +kernel
theorem dL_law_1577 : decode cL_law 1577 = .ok (.if_icmp .eq 5, 3) := by decide +kernel
theorem dL_law_1580 : decode cL_law 1580 = .ok (.iconst 0, 1) := by decide +kernel
theorem dL_law_1581 : decode cL_law 1581 = .ok (.ireturn, 1) := by decide +kernel
theorem dL_law_1582 : decode cL_law 1582 = .ok (.iload 6, 2) := by decide +kernel
theorem dL_law_1584 : decode cL_law 1584 = .ok (.ifCond .ne 15, 3) := by decide +kernel
theorem dL_law_1587 : decode cL_law 1587 = .ok (.aload_n 3, 1) := by decide +kernel
theorem dL_law_1588 : decode cL_law 1588 = .ok (.iconst 0, 1) := by decide +kernel
theorem dL_law_1589 : decode cL_law 1589 = .ok (.laload, 1) := by decide +kernel
theorem dL_law_1590 : decode cL_law 1590 = .ok (.iload 7, 2) := by decide +kernel
theorem dL_law_1592 : decode cL_law 1592 = .ok (.i2l, 1) := by decide +kernel
theorem dL_law_1593 : decode cL_law 1593 = .ok (.lcmp, 1) := by decide +kernel
theorem dL_law_1594 : decode cL_law 1594 = .ok (.ifCond .eq 5, 3) := by decide +kernel
theorem dL_law_1597 : decode cL_law 1597 = .ok (.iconst 0, 1) := by decide +kernel
theorem dL_law_1598 : decode cL_law 1598 = .ok (.ireturn, 1) := by decide +kernel
theorem dL_law_1599 : decode cL_law 1599 = .ok (.goto 28, 3) := by decide +kernel
theorem dL_law_1602 : decode cL_law 1602 = .ok (.aload_n 1, 1) := by decide +kernel
theorem dL_law_1603 : decode cL_law 1603 = .ok (.aload_n 0, 1) := by decide +kernel
theorem dL_law_1604 : decode cL_law 1604 = .ok (.iload 5, 2) := by decide +kernel
theorem dL_law_1606 : decode cL_law 1606 = .ok (.iconst 1, 1) := by decide +kernel
theorem dL_law_1607 : decode cL_law 1607 = .ok (.iadd, 1) := by decide +kernel
theorem dL_law_1608 : decode cL_law 1608 = .ok (.iaload, 1) := by decide +kernel
theorem dL_law_1609 : decode cL_law 1609 = .ok (.invokevirtual 195, 3) := by decide +kernel
theorem dL_law_1612 : decode cL_law 1612 = .ok (.aload_n 2, 1) := by decide +kernel
theorem dL_law_1613 : decode cL_law 1613 = .ok (.aload_n 0, 1) := by decide +kernel
theorem dL_law_1614 : decode cL_law 1614 = .ok (.iload 5, 2) := by decide +kernel
theorem dL_law_1616 : decode cL_law 1616 = .ok (.iconst 1, 1) := by decide +kernel
theorem dL_law_1617 : decode cL_law 1617 = .ok (.iadd, 1) := by decide +kernel
theorem dL_law_1618 : decode cL_law 1618 = .ok (.iaload, 1) := by decide +kernel
theorem dL_law_1619 : decode cL_law 1619 = .ok (.invokevirtual 198, 3) := by decide +kernel
theorem dL_law_1622 : decode cL_law 1622 = .ok (.if_icmp .eq 5, 3) := by decide +kernel
theorem dL_law_1625 : decode cL_law 1625 = .ok (.iconst 0, 1) := by decide +kernel
theorem dL_law_1626 : decode cL_law 1626 = .ok (.ireturn, 1) := by decide +kernel
theorem dL_law_1627 : decode cL_law 1627 = .ok (.iinc 5 6, 3) := by decide +kernel
theorem dL_law_1630 : decode cL_law 1630 = .ok (.goto (-1602), 3) := by decide +kernel
theorem dL_law_1633 : decode cL_law 1633 = .ok (.iconst 1, 1) := by decide +kernel
theorem dL_law_1634 : decode cL_law 1634 = .ok (.ireturn, 1) := by decide +kernel
