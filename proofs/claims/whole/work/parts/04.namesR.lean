theorem dX6_init_0 : decode cX6_init 0 = .ok (.aload_n 0, 1) := by decide +kernel
theorem dX6_init_1 : decode cX6_init 1 = .ok (.invokespecial 1, 3) := by decide +kernel
theorem dX6_init_4 : decode cX6_init 4 = .ok (.aload_n 0, 1) := by decide +kernel
theorem dX6_init_5 : decode cX6_init 5 = .ok (.sipush 1000, 3) := by decide +kernel
theorem dX6_init_8 : decode cX6_init 8 = .ok (.newarray .int, 2) := by decide +kernel
theorem dX6_init_10 : decode cX6_init 10 = .ok (.putfield 7, 3) := by decide +kernel
theorem dX6_init_13 : decode cX6_init 13 = .ok (.aload_n 0, 1) := by decide +kernel
theorem dX6_init_14 : decode cX6_init 14 = .ok (.sipush 1000, 3) := by decide +kernel
theorem dX6_init_17 : decode cX6_init 17 = .ok (.newarray .int, 2) := by decide +kernel
theorem dX6_init_19 : decode cX6_init 19 = .ok (.putfield 13, 3) := by decide +kernel
theorem dX6_init_22 : decode cX6_init 22 = .ok (.aload_n 0, 1) := by decide +kernel
theorem dX6_init_23 : decode cX6_init 23 = .ok (.iconst 2, 1) := by decide +kernel
theorem dX6_init_24 : decode cX6_init 24 = .ok (.newarray .int, 2) := by decide +kernel
theorem dX6_init_26 : decode cX6_init 26 = .ok (.putfield 16, 3) := by decide +kernel
theorem dX6_init_29 : decode cX6_init 29 = .ok (.aload_n 0, 1) := by decide +kernel
theorem dX6_init_30 : decode cX6_init 30 = .ok (.iconst 4, 1) := by decide +kernel
theorem dX6_init_31 : decode cX6_init 31 = .ok (.putfield 19, 3) := by decide +kernel
theorem dX6_init_34 : decode cX6_init 34 = .ok (.aload_n 0, 1) := by decide +kernel
theorem dX6_init_35 : decode cX6_init 35 = .ok (.iconst 5, 1) := by decide +kernel
theorem dX6_init_36 : decode cX6_init 36 = .ok (.putfield 23, 3) := by decide +kernel
theorem dX6_init_39 : decode cX6_init 39 = .ok (.aload_n 0, 1) := by decide +kernel
theorem dX6_init_40 : decode cX6_init 40 = .ok (.iconst 4, 1) := by decide +kernel
theorem dX6_init_41 : decode cX6_init 41 = .ok (.putfield 26, 3) := by decide +kernel
theorem dX6_init_44 : decode cX6_init 44 = .ok (.aload_n 0, 1) := by decide +kernel
theorem dX6_init_45 : decode cX6_init 45 = .ok (.sipush 10000, 3) := by decide +kernel
theorem dX6_init_48 : decode cX6_init 48 = .ok (.newarray .int, 2) := by decide +kernel
theorem dX6_init_50 : decode cX6_init 50 = .ok (.putfield 29, 3) := by decide +kernel
theorem dX6_init_53 : decode cX6_init 53 = .ok (.aload_n 0, 1) := by decide +kernel
theorem dX6_init_54 : decode cX6_init 54 = .ok (.sipush 420, 3) := by decide +kernel
theorem dX6_init_57 : decode cX6_init 57 = .ok (.newarray .int, 2) := by decide +kernel
theorem dX6_init_59 : decode cX6_init 59 = .ok (.putfield 32, 3) := by decide +kernel
theorem dX6_init_62 : decode cX6_init 62 = .ok (.aload_n 0, 1) := by decide +kernel
theorem dX6_init_63 : decode cX6_init 63 = .ok (.bipush 10, 2) := by decide +kernel
theorem dX6_init_65 : decode cX6_init 65 = .ok (.newarray .int, 2) := by decide +kernel
theorem dX6_init_67 : decode cX6_init 67 = .ok (.putfield 35, 3) := by decide +kernel
theorem dX6_init_70 : decode cX6_init 70 = .ok (.aload_n 0, 1) := by decide +kernel
theorem dX6_init_71 : decode cX6_init 71 = .ok (.sipush 4000, 3) := by decide +kernel
theorem dX6_init_74 : decode cX6_init 74 = .ok (.newarray .int, 2) := by decide +kernel
theorem dX6_init_76 : decode cX6_init 76 = .ok (.putfield 38, 3) := by decide +kernel
theorem dX6_init_79 : decode cX6_init 79 = .ok (.aload_n 0, 1) := by decide +kernel
theorem dX6_init_80 : decode cX6_init 80 = .ok (.sipush 4000, 3) := by decide +kernel
theorem dX6_init_83 : decode cX6_init 83 = .ok (.newarray .int, 2) := by decide +kernel
theorem dX6_init_85 : decode cX6_init 85 = .ok (.putfield 41, 3) := by decide +kernel
theorem dX6_init_88 : decode cX6_init 88 = .ok (.aload_n 0, 1) := by decide +kernel
theorem dX6_init_89 : decode cX6_init 89 = .ok (.sipush 4000, 3) := by decide +kernel
theorem dX6_init_92 : decode cX6_init 92 = .ok (.newarray .int, 2) := by decide +kernel
theorem dX6_init_94 : decode cX6_init 94 = .ok (.putfield 44, 3) := by decide +kernel
theorem dX6_init_97 : decode cX6_init 97 = .ok (.aload_n 0, 1) := by decide +kernel
theorem dX6_init_98 : decode cX6_init 98 = .ok (.sipush 4000, 3) := by decide +kernel
theorem dX6_init_101 : decode cX6_init 101 = .ok (.newarray .int, 2) := by decide +kernel
theorem dX6_init_103 : decode cX6_init 103 = .ok (.putfield 47, 3) := by decide +kernel
theorem dX6_init_106 : decode cX6_init 106 = .ok (.aload_n 0, 1) := by decide +kernel
theorem dX6_init_107 : decode cX6_init 107 = .ok (.sipush 4000, 3) := by decide +kernel
theorem dX6_init_110 : decode cX6_init 110 = .ok (.newarray .int, 2) := by decide +kernel
theorem dX6_init_112 : decode cX6_init 112 = .ok (.putfield 50, 3) := by decide +kernel
theorem dX6_init_115 : decode cX6_init 115 = .ok (.aload_n 0, 1) := by decide +kernel
theorem dX6_init_116 : decode cX6_init 116 = .ok (.iconst (-1), 1) := by decide +kernel
theorem dX6_init_117 : decode cX6_init 117 = .ok (.putfield 53, 3) := by decide +kernel
theorem dX6_init_120 : decode cX6_init 120 = .ok (.aload_n 0, 1) := by decide +kernel
theorem dX6_init_121 : decode cX6_init 121 = .ok (.iconst 4, 1) := by decide +kernel
theorem dX6_init_122 : decode cX6_init 122 = .ok (.newarray .int, 2) := by decide +kernel
theorem dX6_init_124 : decode cX6_init 124 = .ok (.putfield 56, 3) := by decide +kernel
theorem dX6_init_127 : decode cX6_init 127 = .ok (.aload_n 0, 1) := by decide +kernel
theorem dX6_init_128 : decode cX6_init 128 = .ok (.sipush 1500, 3) := by decide +kernel
theorem dX6_init_131 : decode cX6_init 131 = .ok (.newarray .int, 2) := by decide +kernel
theorem dX6_init_133 : decode cX6_init 133 = .ok (.putfield 59, 3) := by decide +kernel
theorem dX6_init_136 : decode cX6_init 136 = .ok (.return_, 1) := by decide +kernel
theorem dX6_isTable_0 : decode cX6_isTable 0 = .ok (.iload_n 0, 1) := by decide +kernel
theorem dX6_isTable_1 : decode cX6_isTable 1 = .ok (.ifCond .eq 8, 3) := by decide +kernel
theorem dX6_isTable_4 : decode cX6_isTable 4 = .ok (.iload_n 0, 1) := by decide +kernel
theorem dX6_isTable_5 : decode cX6_isTable 5 = .ok (.iconst 1, 1) := by decide +kernel
theorem dX6_isTable_6 : decode cX6_isTable 6 = .ok (.if_icmp .ne 7, 3) := by decide +kernel
theorem dX6_isTable_9 : decode cX6_isTable 9 = .ok (.iconst 1, 1) := by decide +kernel
theorem dX6_isTable_10 : decode cX6_isTable 10 = .ok (.goto 4, 3) := by decide +kernel
theorem dX6_isTable_13 : decode cX6_isTable 13 = .ok (.iconst 0, 1) := by decide +kernel
theorem dX6_isTable_14 : decode cX6_isTable 14 = .ok (.ireturn, 1) := by decide +kernel
set_option maxRecDepth 20000 in
theorem ggX6_row_X6_isTable : GoodIn wsX6_row wsX6_isTable := goodIn_r _ [7] (by decide +kernel) (by decide +kernel)
set_option maxRecDepth 20000 in
theorem gX6_row_X6_isTable : GoodIn wsX6_row (va_wsS RX6 62 yX6_isTable wsX6_isTable) := goodIn_app (goodIn_of _ (by decide +kernel)) ggX6_row_X6_isTable
theorem dX6_row_0 : decode cX6_row 0 = .ok (.iload_n 1, 1) := by decide +kernel
theorem dX6_row_1 : decode cX6_row 1 = .ok (.invokestatic 62, 3) := by decide +kernel
theorem dX6_row_4 : decode cX6_row 4 = .ok (.ifCond .ne 5, 3) := by decide +kernel
theorem dX6_row_7 : decode cX6_row 7 = .ok (.iconst (-1), 1) := by decide +kernel
theorem dX6_row_8 : decode cX6_row 8 = .ok (.ireturn, 1) := by decide +kernel
theorem dX6_row_9 : decode cX6_row 9 = .ok (.aload_n 0, 1) := by decide +kernel
theorem dX6_row_10 : decode cX6_row 10 = .ok (.getfield 16, 3) := by decide +kernel
theorem dX6_row_13 : decode cX6_row 13 = .ok (.iload_n 1, 1) := by decide +kernel
theorem dX6_row_14 : decode cX6_row 14 = .ok (.iaload, 1) := by decide +kernel
theorem dX6_row_15 : decode cX6_row 15 = .ok (.sipush 500, 3) := by decide +kernel
theorem dX6_row_18 : decode cX6_row 18 = .ok (.if_icmp .ne 6, 3) := by decide +kernel
theorem dX6_row_21 : decode cX6_row 21 = .ok (.bipush (-2), 2) := by decide +kernel
theorem dX6_row_23 : decode cX6_row 23 = .ok (.ireturn, 1) := by decide +kernel
theorem dX6_row_24 : decode cX6_row 24 = .ok (.aload_n 0, 1) := by decide +kernel
theorem dX6_row_25 : decode cX6_row 25 = .ok (.getfield 7, 3) := by decide +kernel
theorem dX6_row_28 : decode cX6_row 28 = .ok (.sipush 500, 3) := by decide +kernel
theorem dX6_row_31 : decode cX6_row 31 = .ok (.iload_n 1, 1) := by decide +kernel
theorem dX6_row_32 : decode cX6_row 32 = .ok (.imul, 1) := by decide +kernel
theorem dX6_row_33 : decode cX6_row 33 = .ok (.aload_n 0, 1) := by decide +kernel
theorem dX6_row_34 : decode cX6_row 34 = .ok (.getfield 16, 3) := by decide +kernel
theorem dX6_row_37 : decode cX6_row 37 = .ok (.iload_n 1, 1) := by decide +kernel
theorem dX6_row_38 : decode cX6_row 38 = .ok (.iaload, 1) := by decide +kernel
theorem dX6_row_39 : decode cX6_row 39 = .ok (.iadd, 1) := by decide +kernel
theorem dX6_row_40 : decode cX6_row 40 = .ok (.iload_n 2, 1) := by decide +kernel
theorem dX6_row_41 : decode cX6_row 41 = .ok (.iastore, 1) := by decide +kernel
theorem dX6_row_42 : decode cX6_row 42 = .ok (.aload_n 0, 1) := by decide +kernel
theorem dX6_row_43 : decode cX6_row 43 = .ok (.getfield 13, 3) := by decide +kernel
theorem dX6_row_46 : decode cX6_row 46 = .ok (.sipush 500, 3) := by decide +kernel
theorem dX6_row_49 : decode cX6_row 49 = .ok (.iload_n 1, 1) := by decide +kernel
theorem dX6_row_50 : decode cX6_row 50 = .ok (.imul, 1) := by decide +kernel
theorem dX6_row_51 : decode cX6_row 51 = .ok (.aload_n 0, 1) := by decide +kernel
theorem dX6_row_52 : decode cX6_row 52 = .ok (.getfield 16, 3) := by decide +kernel
theorem dX6_row_55 : decode cX6_row 55 = .ok (.iload_n 1, 1) := by decide +kernel
theorem dX6_row_56 : decode cX6_row 56 = .ok (.iaload, 1) := by decide +kernel
theorem dX6_row_57 : decode cX6_row 57 = .ok (.iadd, 1) := by decide +kernel
theorem dX6_row_58 : decode cX6_row 58 = .ok (.iload_n 3, 1) := by decide +kernel
theorem dX6_row_59 : decode cX6_row 59 = .ok (.iastore, 1) := by decide +kernel
theorem dX6_row_60 : decode cX6_row 60 = .ok (.aload_n 0, 1) := by decide +kernel
theorem dX6_row_61 : decode cX6_row 61 = .ok (.getfield 16, 3) := by decide +kernel
theorem dX6_row_64 : decode cX6_row 64 = .ok (.iload_n 1, 1) := by decide +kernel
theorem dX6_row_65 : decode cX6_row 65 = .ok (.dup2, 1) := by decide +kernel
theorem dX6_row_66 : decode cX6_row 66 = .ok (.iaload, 1) := by decide +kernel
theorem dX6_row_67 : decode cX6_row 67 = .ok (.iconst 1, 1) := by decide +kernel
theorem dX6_row_68 : decode cX6_row 68 = .ok (.iadd, 1) := by decide +kernel
theorem dX6_row_69 : decode cX6_row 69 = .ok (.iastore, 1) := by decide +kernel
theorem dX6_row_70 : decode cX6_row 70 = .ok (.aload_n 0, 1) := by decide +kernel
theorem dX6_row_71 : decode cX6_row 71 = .ok (.getfield 16, 3) := by decide +kernel
theorem dX6_row_74 : decode cX6_row 74 = .ok (.iload_n 1, 1) := by decide +kernel
theorem dX6_row_75 : decode cX6_row 75 = .ok (.iaload, 1) := by decide +kernel
theorem dX6_row_76 : decode cX6_row 76 = .ok (.ireturn, 1) := by decide +kernel
set_option maxRecDepth 20000 in
theorem ggX6_cut_X6_isTable : GoodIn wsX6_cut wsX6_isTable := goodIn_r _ [5] (by decide +kernel) (by decide +kernel)
set_option maxRecDepth 20000 in
theorem gX6_cut_X6_isTable : GoodIn wsX6_cut (va_wsS RX6 62 yX6_isTable wsX6_isTable) := goodIn_app (goodIn_of _ (by decide +kernel)) ggX6_cut_X6_isTable
theorem dX6_cut_0 : decode cX6_cut 0 = .ok (.iload_n 1, 1) := by decide +kernel
theorem dX6_cut_1 : decode cX6_cut 1 = .ok (.invokestatic 62, 3) := by decide +kernel
theorem dX6_cut_4 : decode cX6_cut 4 = .ok (.ifCond .eq 17, 3) := by decide +kernel
theorem dX6_cut_7 : decode cX6_cut 7 = .ok (.iload_n 2, 1) := by decide +kernel
theorem dX6_cut_8 : decode cX6_cut 8 = .ok (.ifCond .lt 13, 3) := by decide +kernel
theorem dX6_cut_11 : decode cX6_cut 11 = .ok (.iload_n 2, 1) := by decide +kernel
theorem dX6_cut_12 : decode cX6_cut 12 = .ok (.aload_n 0, 1) := by decide +kernel
theorem dX6_cut_13 : decode cX6_cut 13 = .ok (.getfield 16, 3) := by decide +kernel
theorem dX6_cut_16 : decode cX6_cut 16 = .ok (.iload_n 1, 1) := by decide +kernel
theorem dX6_cut_17 : decode cX6_cut 17 = .ok (.iaload, 1) := by decide +kernel
theorem dX6_cut_18 : decode cX6_cut 18 = .ok (.if_icmp .le 5, 3) := by decide +kernel
theorem dX6_cut_21 : decode cX6_cut 21 = .ok (.iconst (-1), 1) := by decide +kernel
theorem dX6_cut_22 : decode cX6_cut 22 = .ok (.ireturn, 1) := by decide +kernel
theorem dX6_cut_23 : decode cX6_cut 23 = .ok (.aload_n 0, 1) := by decide +kernel
theorem dX6_cut_24 : decode cX6_cut 24 = .ok (.getfield 16, 3) := by decide +kernel
theorem dX6_cut_27 : decode cX6_cut 27 = .ok (.iload_n 1, 1) := by decide +kernel
theorem dX6_cut_28 : decode cX6_cut 28 = .ok (.aload_n 0, 1) := by decide +kernel
theorem dX6_cut_29 : decode cX6_cut 29 = .ok (.getfield 16, 3) := by decide +kernel
theorem dX6_cut_32 : decode cX6_cut 32 = .ok (.iload_n 1, 1) := by decide +kernel
theorem dX6_cut_33 : decode cX6_cut 33 = .ok (.iaload, 1) := by decide +kernel
theorem dX6_cut_34 : decode cX6_cut 34 = .ok (.iload_n 2, 1) := by decide +kernel
theorem dX6_cut_35 : decode cX6_cut 35 = .ok (.isub, 1) := by decide +kernel
theorem dX6_cut_36 : decode cX6_cut 36 = .ok (.iastore, 1) := by decide +kernel
theorem dX6_cut_37 : decode cX6_cut 37 = .ok (.aload_n 0, 1) := by decide +kernel
theorem dX6_cut_38 : decode cX6_cut 38 = .ok (.getfield 16, 3) := by decide +kernel
theorem dX6_cut_41 : decode cX6_cut 41 = .ok (.iload_n 1, 1) := by decide +kernel
theorem dX6_cut_42 : decode cX6_cut 42 = .ok (.iaload, 1) := by decide +kernel
theorem dX6_cut_43 : decode cX6_cut 43 = .ok (.ireturn, 1) := by decide +kernel
theorem dX6_size_0 : decode cX6_size 0 = .ok (.iload_n 1, 1) := by decide +kernel
theorem dX6_size_1 : decode cX6_size 1 = .ok (.ifCond .ne 10, 3) := by decide +kernel
theorem dX6_size_4 : decode cX6_size 4 = .ok (.aload_n 0, 1) := by decide +kernel
theorem dX6_size_5 : decode cX6_size 5 = .ok (.getfield 19, 3) := by decide +kernel
theorem dX6_size_8 : decode cX6_size 8 = .ok (.goto 19, 3) := by decide +kernel
theorem dX6_size_11 : decode cX6_size 11 = .ok (.iload_n 1, 1) := by decide +kernel
theorem dX6_size_12 : decode cX6_size 12 = .ok (.iconst 1, 1) := by decide +kernel
theorem dX6_size_13 : decode cX6_size 13 = .ok (.if_icmp .ne 10, 3) := by decide +kernel
theorem dX6_size_16 : decode cX6_size 16 = .ok (.aload_n 0, 1) := by decide +kernel
theorem dX6_size_17 : decode cX6_size 17 = .ok (.getfield 23, 3) := by decide +kernel
theorem dX6_size_20 : decode cX6_size 20 = .ok (.goto 7, 3) := by decide +kernel
theorem dX6_size_23 : decode cX6_size 23 = .ok (.aload_n 0, 1) := by decide +kernel
theorem dX6_size_24 : decode cX6_size 24 = .ok (.getfield 26, 3) := by decide +kernel
theorem dX6_size_27 : decode cX6_size 27 = .ok (.istore_n 3, 1) := by decide +kernel
theorem dX6_size_28 : decode cX6_size 28 = .ok (.iload_n 1, 1) := by decide +kernel
theorem dX6_size_29 : decode cX6_size 29 = .ok (.ifCond .ne 14, 3) := by decide +kernel
theorem dX6_size_32 : decode cX6_size 32 = .ok (.iload_n 2, 1) := by decide +kernel
theorem dX6_size_33 : decode cX6_size 33 = .ok (.iconst 1, 1) := by decide +kernel
theorem dX6_size_34 : decode cX6_size 34 = .ok (.if_icmp .lt 9, 3) := by decide +kernel
theorem dX6_size_37 : decode cX6_size 37 = .ok (.iload_n 2, 1) := by decide +kernel
theorem dX6_size_38 : decode cX6_size 38 = .ok (.bipush 16, 2) := by decide +kernel
theorem dX6_size_40 : decode cX6_size 40 = .ok (.if_icmp .le 34, 3) := by decide +kernel
theorem dX6_size_43 : decode cX6_size 43 = .ok (.iload_n 1, 1) := by decide +kernel
theorem dX6_size_44 : decode cX6_size 44 = .ok (.iconst 1, 1) := by decide +kernel
theorem dX6_size_45 : decode cX6_size 45 = .ok (.if_icmp .ne 14, 3) := by decide +kernel
theorem dX6_size_48 : decode cX6_size 48 = .ok (.iload_n 2, 1) := by decide +kernel
theorem dX6_size_49 : decode cX6_size 49 = .ok (.iconst 3, 1) := by decide +kernel
theorem dX6_size_50 : decode cX6_size 50 = .ok (.if_icmp .lt 9, 3) := by decide +kernel
theorem dX6_size_53 : decode cX6_size 53 = .ok (.iload_n 2, 1) := by decide +kernel
theorem dX6_size_54 : decode cX6_size 54 = .ok (.bipush 20, 2) := by decide +kernel
theorem dX6_size_56 : decode cX6_size 56 = .ok (.if_icmp .le 18, 3) := by decide +kernel
theorem dX6_size_59 : decode cX6_size 59 = .ok (.iload_n 1, 1) := by decide +kernel
theorem dX6_size_60 : decode cX6_size 60 = .ok (.iconst 2, 1) := by decide +kernel
theorem dX6_size_61 : decode cX6_size 61 = .ok (.if_icmp .ne 17, 3) := by decide +kernel
theorem dX6_size_64 : decode cX6_size 64 = .ok (.iload_n 2, 1) := by decide +kernel
theorem dX6_size_65 : decode cX6_size 65 = .ok (.ifCond .lt 13, 3) := by decide +kernel
theorem dX6_size_68 : decode cX6_size 68 = .ok (.iload_n 2, 1) := by decide +kernel
theorem dX6_size_69 : decode cX6_size 69 = .ok (.bipush 8, 2) := by decide +kernel
theorem dX6_size_71 : decode cX6_size 71 = .ok (.if_icmp .gt 7, 3) := by decide +kernel
theorem dX6_size_74 : decode cX6_size 74 = .ok (.iconst 1, 1) := by decide +kernel
theorem dX6_size_75 : decode cX6_size 75 = .ok (.goto 4, 3) := by decide +kernel
theorem dX6_size_78 : decode cX6_size 78 = .ok (.iconst 0, 1) := by decide +kernel
theorem dX6_size_79 : decode cX6_size 79 = .ok (.istore 4, 2) := by decide +kernel
theorem dX6_size_81 : decode cX6_size 81 = .ok (.iload 4, 2) := by decide +kernel
theorem dX6_size_83 : decode cX6_size 83 = .ok (.ifCond .ne 5, 3) := by decide +kernel
theorem dX6_size_86 : decode cX6_size 86 = .ok (.iconst (-1), 1) := by decide +kernel
theorem dX6_size_87 : decode cX6_size 87 = .ok (.ireturn, 1) := by decide +kernel
theorem dX6_size_88 : decode cX6_size 88 = .ok (.aload_n 0, 1) := by decide +kernel
theorem dX6_size_89 : decode cX6_size 89 = .ok (.iload_n 1, 1) := by decide +kernel
theorem dX6_size_90 : decode cX6_size 90 = .ok (.ifCond .ne 7, 3) := by decide +kernel
theorem dX6_size_93 : decode cX6_size 93 = .ok (.iload_n 2, 1) := by decide +kernel
theorem dX6_size_94 : decode cX6_size 94 = .ok (.goto 7, 3) := by decide +kernel
theorem dX6_size_97 : decode cX6_size 97 = .ok (.aload_n 0, 1) := by decide +kernel
theorem dX6_size_98 : decode cX6_size 98 = .ok (.getfield 19, 3) := by decide +kernel
theorem dX6_size_101 : decode cX6_size 101 = .ok (.putfield 19, 3) := by decide +kernel
theorem dX6_size_104 : decode cX6_size 104 = .ok (.aload_n 0, 1) := by decide +kernel
theorem dX6_size_105 : decode cX6_size 105 = .ok (.iload_n 1, 1) := by decide +kernel
theorem dX6_size_106 : decode cX6_size 106 = .ok (.iconst 1, 1) := by decide +kernel
theorem dX6_size_107 : decode cX6_size 107 = .ok (.if_icmp .ne 7, 3) := by decide +kernel
theorem dX6_size_110 : decode cX6_size 110 = .ok (.iload_n 2, 1) := by decide +kernel
theorem dX6_size_111 : decode cX6_size 111 = .ok (.goto 7, 3) := by decide +kernel
theorem dX6_size_114 : decode cX6_size 114 = .ok (.aload_n 0, 1) := by decide +kernel
theorem dX6_size_115 : decode cX6_size 115 = .ok (.getfield 23, 3) := by decide +kernel
theorem dX6_size_118 : decode cX6_size 118 = .ok (.putfield 23, 3) := by decide +kernel
theorem dX6_size_121 : decode cX6_size 121 = .ok (.aload_n 0, 1) := by decide +kernel
theorem dX6_size_122 : decode cX6_size 122 = .ok (.iload_n 1, 1) := by decide +kernel
theorem dX6_size_123 : decode cX6_size 123 = .ok (.iconst 2, 1) := by decide +kernel
theorem dX6_size_124 : decode cX6_size 124 = .ok (.if_icmp .ne 7, 3) := by decide +kernel
theorem dX6_size_127 : decode cX6_size 127 = .ok (.iload_n 2, 1) := by decide +kernel
theorem dX6_size_128 : decode cX6_size 128 = .ok (.goto 7, 3) := by decide +kernel
theorem dX6_size_131 : decode cX6_size 131 = .ok (.aload_n 0, 1) := by decide +kernel
theorem dX6_size_132 : decode cX6_size 132 = .ok (.getfield 26, 3) := by decide +kernel
theorem dX6_size_135 : decode cX6_size 135 = .ok (.putfield 26, 3) := by decide +kernel
theorem dX6_size_138 : decode cX6_size 138 = .ok (.iload_n 3, 1) := by decide +kernel
theorem dX6_size_139 : decode cX6_size 139 = .ok (.ireturn, 1) := by decide +kernel
theorem dX6_pagesOf_0 : decode cX6_pagesOf 0 = .ok (.iload_n 1, 1) := by decide +kernel
theorem dX6_pagesOf_1 : decode cX6_pagesOf 1 = .ok (.aload_n 0, 1) := by decide +kernel
theorem dX6_pagesOf_2 : decode cX6_pagesOf 2 = .ok (.getfield 19, 3) := by decide +kernel
theorem dX6_pagesOf_5 : decode cX6_pagesOf 5 = .ok (.iadd, 1) := by decide +kernel
theorem dX6_pagesOf_6 : decode cX6_pagesOf 6 = .ok (.iconst 1, 1) := by decide +kernel
theorem dX6_pagesOf_7 : decode cX6_pagesOf 7 = .ok (.isub, 1) := by decide +kernel
theorem dX6_pagesOf_8 : decode cX6_pagesOf 8 = .ok (.aload_n 0, 1) := by decide +kernel
theorem dX6_pagesOf_9 : decode cX6_pagesOf 9 = .ok (.getfield 19, 3) := by decide +kernel
theorem dX6_pagesOf_12 : decode cX6_pagesOf 12 = .ok (.idiv, 1) := by decide +kernel
theorem dX6_pagesOf_13 : decode cX6_pagesOf 13 = .ok (.ireturn, 1) := by decide +kernel
set_option maxRecDepth 20000 in
theorem ggX6_pages_X6_isTable : GoodIn wsX6_pages wsX6_isTable := goodIn_r _ [5] (by decide +kernel) (by decide +kernel)
set_option maxRecDepth 20000 in
theorem gX6_pages_X6_isTable : GoodIn wsX6_pages (va_wsS RX6 62 yX6_isTable wsX6_isTable) := goodIn_app (goodIn_of _ (by decide +kernel)) ggX6_pages_X6_isTable
set_option maxRecDepth 20000 in
theorem ggX6_pages_X6_pagesOf : GoodIn wsX6_pages wsX6_pagesOf := goodIn_r _ [9, 10, 11, 12, 13, 14, 15, 16, 17, 18, 19, 20, 21, 22, 23, 24, 25, 26, 27, 28, 29, 30, 31, 32, 33, 34] (by decide +kernel) (by decide +kernel)
set_option maxRecDepth 20000 in
theorem gX6_pages_X6_pagesOf : GoodIn wsX6_pages (wsV RX6 66 RX6 yX6_pagesOf wsX6_pagesOf) := goodIn_app (goodIn_of _ (by decide +kernel)) ggX6_pages_X6_pagesOf
theorem dX6_pages_0 : decode cX6_pages 0 = .ok (.iload_n 1, 1) := by decide +kernel
theorem dX6_pages_1 : decode cX6_pages 1 = .ok (.invokestatic 62, 3) := by decide +kernel
theorem dX6_pages_4 : decode cX6_pages 4 = .ok (.ifCond .eq 16, 3) := by decide +kernel
theorem dX6_pages_7 : decode cX6_pages 7 = .ok (.aload_n 0, 1) := by decide +kernel
theorem dX6_pages_8 : decode cX6_pages 8 = .ok (.aload_n 0, 1) := by decide +kernel
theorem dX6_pages_9 : decode cX6_pages 9 = .ok (.getfield 16, 3) := by decide +kernel
theorem dX6_pages_12 : decode cX6_pages 12 = .ok (.iload_n 1, 1) := by decide +kernel
theorem dX6_pages_13 : decode cX6_pages 13 = .ok (.iaload, 1) := by decide +kernel
theorem dX6_pages_14 : decode cX6_pages 14 = .ok (.invokevirtual 66, 3) := by decide +kernel
theorem dX6_pages_17 : decode cX6_pages 17 = .ok (.goto 4, 3) := by decide +kernel
theorem dX6_pages_20 : decode cX6_pages 20 = .ok (.iconst (-1), 1) := by decide +kernel
theorem dX6_pages_21 : decode cX6_pages 21 = .ok (.ireturn, 1) := by decide +kernel
theorem dX6_partOf_0 : decode cX6_partOf 0 = .ok (.iload_n 1, 1) := by decide +kernel
theorem dX6_partOf_1 : decode cX6_partOf 1 = .ok (.ldc 70, 2) := by decide +kernel
theorem dX6_partOf_3 : decode cX6_partOf 3 = .ok (.imul, 1) := by decide +kernel
theorem dX6_partOf_4 : decode cX6_partOf 4 = .ok (.iload_n 2, 1) := by decide +kernel
theorem dX6_partOf_5 : decode cX6_partOf 5 = .ok (.ldc 71, 2) := by decide +kernel
theorem dX6_partOf_7 : decode cX6_partOf 7 = .ok (.imul, 1) := by decide +kernel
theorem dX6_partOf_8 : decode cX6_partOf 8 = .ok (.iadd, 1) := by decide +kernel
theorem dX6_partOf_9 : decode cX6_partOf 9 = .ok (.istore_n 3, 1) := by decide +kernel
theorem dX6_partOf_10 : decode cX6_partOf 10 = .ok (.iload_n 3, 1) := by decide +kernel
theorem dX6_partOf_11 : decode cX6_partOf 11 = .ok (.iload_n 3, 1) := by decide +kernel
theorem dX6_partOf_12 : decode cX6_partOf 12 = .ok (.bipush 15, 2) := by decide +kernel
theorem dX6_partOf_14 : decode cX6_partOf 14 = .ok (.iushr, 1) := by decide +kernel
theorem dX6_partOf_15 : decode cX6_partOf 15 = .ok (.ixor, 1) := by decide +kernel
theorem dX6_partOf_16 : decode cX6_partOf 16 = .ok (.istore_n 3, 1) := by decide +kernel
theorem dX6_partOf_17 : decode cX6_partOf 17 = .ok (.iload_n 3, 1) := by decide +kernel
theorem dX6_partOf_18 : decode cX6_partOf 18 = .ok (.ldc 72, 2) := by decide +kernel
theorem dX6_partOf_20 : decode cX6_partOf 20 = .ok (.imul, 1) := by decide +kernel
theorem dX6_partOf_21 : decode cX6_partOf 21 = .ok (.istore_n 3, 1) := by decide +kernel
theorem dX6_partOf_22 : decode cX6_partOf 22 = .ok (.iload_n 3, 1) := by decide +kernel
theorem dX6_partOf_23 : decode cX6_partOf 23 = .ok (.iload_n 3, 1) := by decide +kernel
theorem dX6_partOf_24 : decode cX6_partOf 24 = .ok (.bipush 13, 2) := by decide +kernel
theorem dX6_partOf_26 : decode cX6_partOf 26 = .ok (.iushr, 1) := by decide +kernel
theorem dX6_partOf_27 : decode cX6_partOf 27 = .ok (.ixor, 1) := by decide +kernel
theorem dX6_partOf_28 : decode cX6_partOf 28 = .ok (.istore_n 3, 1) := by decide +kernel
theorem dX6_partOf_29 : decode cX6_partOf 29 = .ok (.iload_n 3, 1) := by decide +kernel
theorem dX6_partOf_30 : decode cX6_partOf 30 = .ok (.i2l, 1) := by decide +kernel
theorem dX6_partOf_31 : decode cX6_partOf 31 = .ok (.ldc2_w 73, 3) := by decide +kernel
theorem dX6_partOf_34 : decode cX6_partOf 34 = .ok (.land, 1) := by decide +kernel
theorem dX6_partOf_35 : decode cX6_partOf 35 = .ok (.aload_n 0, 1) := by decide +kernel
theorem dX6_partOf_36 : decode cX6_partOf 36 = .ok (.getfield 23, 3) := by decide +kernel
theorem dX6_partOf_39 : decode cX6_partOf 39 = .ok (.iconst 1, 1) := by decide +kernel
theorem dX6_partOf_40 : decode cX6_partOf 40 = .ok (.isub, 1) := by decide +kernel
theorem dX6_partOf_41 : decode cX6_partOf 41 = .ok (.i2l, 1) := by decide +kernel
theorem dX6_partOf_42 : decode cX6_partOf 42 = .ok (.lrem, 1) := by decide +kernel
theorem dX6_partOf_43 : decode cX6_partOf 43 = .ok (.l2i, 1) := by decide +kernel
theorem dX6_partOf_44 : decode cX6_partOf 44 = .ok (.ireturn, 1) := by decide +kernel
set_option maxRecDepth 20000 in
theorem ggX6_part_X6_partOf : GoodIn wsX6_part wsX6_partOf := goodIn_r _ [5, 6, 7, 8, 9, 10, 11, 12, 13, 14, 15, 16, 17, 18, 19, 20, 21, 22, 23, 24, 25, 26, 27, 28, 29, 30, 31, 32, 33, 34] (by decide +kernel) (by decide +kernel)
set_option maxRecDepth 20000 in
theorem gX6_part_X6_partOf : GoodIn wsX6_part (wsV RX6 75 RX6 yX6_partOf wsX6_partOf) := goodIn_app (goodIn_of _ (by decide +kernel)) ggX6_part_X6_partOf
theorem dX6_part_0 : decode cX6_part 0 = .ok (.iload_n 2, 1) := by decide +kernel
theorem dX6_part_1 : decode cX6_part 1 = .ok (.ifCond .lt 9, 3) := by decide +kernel
theorem dX6_part_4 : decode cX6_part 4 = .ok (.iload_n 2, 1) := by decide +kernel
theorem dX6_part_5 : decode cX6_part 5 = .ok (.bipush 8, 2) := by decide +kernel
theorem dX6_part_7 : decode cX6_part 7 = .ok (.if_icmp .le 7, 3) := by decide +kernel
theorem dX6_part_10 : decode cX6_part 10 = .ok (.iconst (-1), 1) := by decide +kernel
theorem dX6_part_11 : decode cX6_part 11 = .ok (.goto 9, 3) := by decide +kernel
theorem dX6_part_14 : decode cX6_part 14 = .ok (.aload_n 0, 1) := by decide +kernel
theorem dX6_part_15 : decode cX6_part 15 = .ok (.iload_n 1, 1) := by decide +kernel
theorem dX6_part_16 : decode cX6_part 16 = .ok (.iload_n 2, 1) := by decide +kernel
theorem dX6_part_17 : decode cX6_part 17 = .ok (.invokevirtual 75, 3) := by decide +kernel
theorem dX6_part_20 : decode cX6_part 20 = .ok (.ireturn, 1) := by decide +kernel
theorem dX6_beginOf_0 : decode cX6_beginOf 0 = .ok (.aload_n 0, 1) := by decide +kernel
theorem dX6_beginOf_1 : decode cX6_beginOf 1 = .ok (.getfield 32, 3) := by decide +kernel
theorem dX6_beginOf_4 : decode cX6_beginOf 4 = .ok (.bipush 42, 2) := by decide +kernel
theorem dX6_beginOf_6 : decode cX6_beginOf 6 = .ok (.iload_n 2, 1) := by decide +kernel
theorem dX6_beginOf_7 : decode cX6_beginOf 7 = .ok (.imul, 1) := by decide +kernel
theorem dX6_beginOf_8 : decode cX6_beginOf 8 = .ok (.bipush 21, 2) := by decide +kernel
theorem dX6_beginOf_10 : decode cX6_beginOf 10 = .ok (.iload_n 1, 1) := by decide +kernel
theorem dX6_beginOf_11 : decode cX6_beginOf 11 = .ok (.imul, 1) := by decide +kernel
theorem dX6_beginOf_12 : decode cX6_beginOf 12 = .ok (.iadd, 1) := by decide +kernel
theorem dX6_beginOf_13 : decode cX6_beginOf 13 = .ok (.iload_n 3, 1) := by decide +kernel
theorem dX6_beginOf_14 : decode cX6_beginOf 14 = .ok (.iadd, 1) := by decide +kernel
theorem dX6_beginOf_15 : decode cX6_beginOf 15 = .ok (.iaload, 1) := by decide +kernel
theorem dX6_beginOf_16 : decode cX6_beginOf 16 = .ok (.ireturn, 1) := by decide +kernel
set_option maxRecDepth 20000 in
theorem ggX6_sizeOf_X6_beginOf : GoodIn wsX6_sizeOf wsX6_beginOf := goodIn_r _ [5, 6, 7, 8, 9, 10, 11, 12, 13, 14, 15, 16, 17, 18, 19, 20, 21, 22, 23, 24, 25, 26, 27, 28, 29, 30] (by decide +kernel) (by decide +kernel)
set_option maxRecDepth 20000 in
theorem gX6_sizeOf_X6_beginOf : GoodIn wsX6_sizeOf (wsV RX6 79 RX6 yX6_beginOf wsX6_beginOf) := goodIn_app (goodIn_of _ (by decide +kernel)) ggX6_sizeOf_X6_beginOf
theorem dX6_sizeOf_0 : decode cX6_sizeOf 0 = .ok (.aload_n 0, 1) := by decide +kernel
theorem dX6_sizeOf_1 : decode cX6_sizeOf 1 = .ok (.iload_n 1, 1) := by decide +kernel
theorem dX6_sizeOf_2 : decode cX6_sizeOf 2 = .ok (.iload_n 2, 1) := by decide +kernel
theorem dX6_sizeOf_3 : decode cX6_sizeOf 3 = .ok (.iload_n 3, 1) := by decide +kernel
theorem dX6_sizeOf_4 : decode cX6_sizeOf 4 = .ok (.iconst 1, 1) := by decide +kernel
theorem dX6_sizeOf_5 : decode cX6_sizeOf 5 = .ok (.iadd, 1) := by decide +kernel
theorem dX6_sizeOf_6 : decode cX6_sizeOf 6 = .ok (.invokevirtual 79, 3) := by decide +kernel
theorem dX6_sizeOf_9 : decode cX6_sizeOf 9 = .ok (.aload_n 0, 1) := by decide +kernel
theorem dX6_sizeOf_10 : decode cX6_sizeOf 10 = .ok (.iload_n 1, 1) := by decide +kernel
theorem dX6_sizeOf_11 : decode cX6_sizeOf 11 = .ok (.iload_n 2, 1) := by decide +kernel
theorem dX6_sizeOf_12 : decode cX6_sizeOf 12 = .ok (.iload_n 3, 1) := by decide +kernel
theorem dX6_sizeOf_13 : decode cX6_sizeOf 13 = .ok (.invokevirtual 79, 3) := by decide +kernel
theorem dX6_sizeOf_16 : decode cX6_sizeOf 16 = .ok (.isub, 1) := by decide +kernel
theorem dX6_sizeOf_17 : decode cX6_sizeOf 17 = .ok (.ireturn, 1) := by decide +kernel
set_option maxRecDepth 20000 in
theorem ggX6_rowAt_X6_beginOf : GoodIn wsX6_rowAt wsX6_beginOf := goodIn_r _ [6, 7, 8, 9, 10, 11, 12, 13, 14, 15, 16, 17, 18, 19, 20, 21, 22, 23, 24, 25, 26, 27, 28, 29, 30, 31] (by decide +kernel) (by decide +kernel)
set_option maxRecDepth 20000 in
theorem gX6_rowAt_X6_beginOf : GoodIn wsX6_rowAt (wsV RX6 79 RX6 yX6_beginOf wsX6_beginOf) := goodIn_app (goodIn_of _ (by decide +kernel)) ggX6_rowAt_X6_beginOf
theorem dX6_rowAt_0 : decode cX6_rowAt 0 = .ok (.aload_n 0, 1) := by decide +kernel
theorem dX6_rowAt_1 : decode cX6_rowAt 1 = .ok (.getfield 29, 3) := by decide +kernel
theorem dX6_rowAt_4 : decode cX6_rowAt 4 = .ok (.sipush 1000, 3) := by decide +kernel
theorem dX6_rowAt_7 : decode cX6_rowAt 7 = .ok (.iload_n 2, 1) := by decide +kernel
theorem dX6_rowAt_8 : decode cX6_rowAt 8 = .ok (.imul, 1) := by decide +kernel
theorem dX6_rowAt_9 : decode cX6_rowAt 9 = .ok (.sipush 500, 3) := by decide +kernel
theorem dX6_rowAt_12 : decode cX6_rowAt 12 = .ok (.iload_n 1, 1) := by decide +kernel
theorem dX6_rowAt_13 : decode cX6_rowAt 13 = .ok (.imul, 1) := by decide +kernel
theorem dX6_rowAt_14 : decode cX6_rowAt 14 = .ok (.iadd, 1) := by decide +kernel
theorem dX6_rowAt_15 : decode cX6_rowAt 15 = .ok (.aload_n 0, 1) := by decide +kernel
theorem dX6_rowAt_16 : decode cX6_rowAt 16 = .ok (.iload_n 1, 1) := by decide +kernel
theorem dX6_rowAt_17 : decode cX6_rowAt 17 = .ok (.iload_n 2, 1) := by decide +kernel
theorem dX6_rowAt_18 : decode cX6_rowAt 18 = .ok (.iload_n 3, 1) := by decide +kernel
theorem dX6_rowAt_19 : decode cX6_rowAt 19 = .ok (.invokevirtual 79, 3) := by decide +kernel
theorem dX6_rowAt_22 : decode cX6_rowAt 22 = .ok (.iadd, 1) := by decide +kernel
theorem dX6_rowAt_23 : decode cX6_rowAt 23 = .ok (.iload 4, 2) := by decide +kernel
theorem dX6_rowAt_25 : decode cX6_rowAt 25 = .ok (.iadd, 1) := by decide +kernel
theorem dX6_rowAt_26 : decode cX6_rowAt 26 = .ok (.iaload, 1) := by decide +kernel
theorem dX6_rowAt_27 : decode cX6_rowAt 27 = .ok (.ireturn, 1) := by decide +kernel
set_option maxRecDepth 20000 in
theorem ggX6_keyAt_X6_rowAt : GoodIn wsX6_keyAt wsX6_rowAt := goodIn_r _ [6, 7, 8, 9, 10, 5, 11, 12, 13, 14, 15, 16, 17, 18, 19, 20, 21, 22, 23, 24, 25, 26, 27, 28, 29, 30, 31, 32, 33, 34, 35, 36] (by decide +kernel) (by decide +kernel)
set_option maxRecDepth 20000 in
theorem gX6_keyAt_X6_rowAt : GoodIn wsX6_keyAt (wsV RX6 83 RX6 yX6_rowAt wsX6_rowAt) := goodIn_app (goodIn_of _ (by decide +kernel)) ggX6_keyAt_X6_rowAt
theorem dX6_keyAt_0 : decode cX6_keyAt 0 = .ok (.aload_n 0, 1) := by decide +kernel
theorem dX6_keyAt_1 : decode cX6_keyAt 1 = .ok (.getfield 7, 3) := by decide +kernel
theorem dX6_keyAt_4 : decode cX6_keyAt 4 = .ok (.sipush 500, 3) := by decide +kernel
theorem dX6_keyAt_7 : decode cX6_keyAt 7 = .ok (.iload_n 1, 1) := by decide +kernel
theorem dX6_keyAt_8 : decode cX6_keyAt 8 = .ok (.imul, 1) := by decide +kernel
theorem dX6_keyAt_9 : decode cX6_keyAt 9 = .ok (.aload_n 0, 1) := by decide +kernel
theorem dX6_keyAt_10 : decode cX6_keyAt 10 = .ok (.iload_n 1, 1) := by decide +kernel
theorem dX6_keyAt_11 : decode cX6_keyAt 11 = .ok (.iload_n 2, 1) := by decide +kernel
theorem dX6_keyAt_12 : decode cX6_keyAt 12 = .ok (.iload_n 3, 1) := by decide +kernel
theorem dX6_keyAt_13 : decode cX6_keyAt 13 = .ok (.iload 4, 2) := by decide +kernel
theorem dX6_keyAt_15 : decode cX6_keyAt 15 = .ok (.invokevirtual 83, 3) := by decide +kernel
theorem dX6_keyAt_18 : decode cX6_keyAt 18 = .ok (.iadd, 1) := by decide +kernel
theorem dX6_keyAt_19 : decode cX6_keyAt 19 = .ok (.iaload, 1) := by decide +kernel
theorem dX6_keyAt_20 : decode cX6_keyAt 20 = .ok (.ireturn, 1) := by decide +kernel
set_option maxRecDepth 20000 in
theorem ggX6_isOneKey_X6_keyAt : GoodIn wsX6_isOneKey wsX6_keyAt := goodIn_r _ [5, 6, 7, 8, 9, 4, 10, 11, 12, 13, 14, 15, 16, 21, 22, 23, 24, 25, 26, 27, 28, 29, 30, 31, 32, 33, 34, 35, 36, 37, 38, 39, 40, 41, 42, 43, 44] (by decide +kernel) (by decide +kernel)
set_option maxRecDepth 20000 in
theorem gX6_isOneKey_X6_keyAt : GoodIn wsX6_isOneKey (wsV RX6 87 RX6 yX6_keyAt wsX6_keyAt) := goodIn_app (goodIn_of _ (by decide +kernel)) ggX6_isOneKey_X6_keyAt
set_option maxRecDepth 20000 in
theorem ggX6_isOneKey_X6_sizeOf : GoodIn wsX6_isOneKey wsX6_sizeOf := goodIn_r _ [20, 12, 13, 14, 4, 15, 16, 21, 22, 23, 24, 25, 26, 27, 28, 29, 30, 31, 32, 33, 34, 35, 36, 37, 38, 39, 40, 41, 42, 43, 44] (by decide +kernel) (by decide +kernel)
set_option maxRecDepth 20000 in
theorem gX6_isOneKey_X6_sizeOf : GoodIn wsX6_isOneKey (wsV RX6 90 RX6 yX6_sizeOf wsX6_sizeOf) := goodIn_app (goodIn_of _ (by decide +kernel)) ggX6_isOneKey_X6_sizeOf
theorem dX6_isOneKey_0 : decode cX6_isOneKey 0 = .ok (.aload_n 0, 1) := by decide +kernel
theorem dX6_isOneKey_1 : decode cX6_isOneKey 1 = .ok (.iconst 0, 1) := by decide +kernel
theorem dX6_isOneKey_2 : decode cX6_isOneKey 2 = .ok (.iload_n 1, 1) := by decide +kernel
theorem dX6_isOneKey_3 : decode cX6_isOneKey 3 = .ok (.iload_n 2, 1) := by decide +kernel
theorem dX6_isOneKey_4 : decode cX6_isOneKey 4 = .ok (.iconst 0, 1) := by decide +kernel
theorem dX6_isOneKey_5 : decode cX6_isOneKey 5 = .ok (.invokevirtual 87, 3) := by decide +kernel
theorem dX6_isOneKey_8 : decode cX6_isOneKey 8 = .ok (.istore_n 3, 1) := by decide +kernel
theorem dX6_isOneKey_9 : decode cX6_isOneKey 9 = .ok (.iconst 0, 1) := by decide +kernel
theorem dX6_isOneKey_10 : decode cX6_isOneKey 10 = .ok (.istore 4, 2) := by decide +kernel
theorem dX6_isOneKey_12 : decode cX6_isOneKey 12 = .ok (.iload 4, 2) := by decide +kernel
theorem dX6_isOneKey_14 : decode cX6_isOneKey 14 = .ok (.iconst 2, 1) := by decide +kernel
theorem dX6_isOneKey_15 : decode cX6_isOneKey 15 = .ok (.if_icmp .ge 47, 3) := by decide +kernel
theorem dX6_isOneKey_18 : decode cX6_isOneKey 18 = .ok (.iconst 0, 1) := by decide +kernel
theorem dX6_isOneKey_19 : decode cX6_isOneKey 19 = .ok (.istore 5, 2) := by decide +kernel
theorem dX6_isOneKey_21 : decode cX6_isOneKey 21 = .ok (.iload 5, 2) := by decide +kernel
theorem dX6_isOneKey_23 : decode cX6_isOneKey 23 = .ok (.aload_n 0, 1) := by decide +kernel
theorem dX6_isOneKey_24 : decode cX6_isOneKey 24 = .ok (.iload 4, 2) := by decide +kernel
theorem dX6_isOneKey_26 : decode cX6_isOneKey 26 = .ok (.iload_n 1, 1) := by decide +kernel
theorem dX6_isOneKey_27 : decode cX6_isOneKey 27 = .ok (.iload_n 2, 1) := by decide +kernel
theorem dX6_isOneKey_28 : decode cX6_isOneKey 28 = .ok (.invokevirtual 90, 3) := by decide +kernel
theorem dX6_isOneKey_31 : decode cX6_isOneKey 31 = .ok (.if_icmp .ge 25, 3) := by decide +kernel
theorem dX6_isOneKey_34 : decode cX6_isOneKey 34 = .ok (.aload_n 0, 1) := by decide +kernel
theorem dX6_isOneKey_35 : decode cX6_isOneKey 35 = .ok (.iload 4, 2) := by decide +kernel
theorem dX6_isOneKey_37 : decode cX6_isOneKey 37 = .ok (.iload_n 1, 1) := by decide +kernel
theorem dX6_isOneKey_38 : decode cX6_isOneKey 38 = .ok (.iload_n 2, 1) := by decide +kernel
theorem dX6_isOneKey_39 : decode cX6_isOneKey 39 = .ok (.iload 5, 2) := by decide +kernel
theorem dX6_isOneKey_41 : decode cX6_isOneKey 41 = .ok (.invokevirtual 87, 3) := by decide +kernel
theorem dX6_isOneKey_44 : decode cX6_isOneKey 44 = .ok (.iload_n 3, 1) := by decide +kernel
theorem dX6_isOneKey_45 : decode cX6_isOneKey 45 = .ok (.if_icmp .eq 5, 3) := by decide +kernel
theorem dX6_isOneKey_48 : decode cX6_isOneKey 48 = .ok (.iconst 0, 1) := by decide +kernel
theorem dX6_isOneKey_49 : decode cX6_isOneKey 49 = .ok (.ireturn, 1) := by decide +kernel
theorem dX6_isOneKey_50 : decode cX6_isOneKey 50 = .ok (.iinc 5 1, 3) := by decide +kernel
theorem dX6_isOneKey_53 : decode cX6_isOneKey 53 = .ok (.goto (-32), 3) := by decide +kernel
theorem dX6_isOneKey_56 : decode cX6_isOneKey 56 = .ok (.iinc 4 1, 3) := by decide +kernel
theorem dX6_isOneKey_59 : decode cX6_isOneKey 59 = .ok (.goto (-47), 3) := by decide +kernel
theorem dX6_isOneKey_62 : decode cX6_isOneKey 62 = .ok (.iconst 1, 1) := by decide +kernel
theorem dX6_isOneKey_63 : decode cX6_isOneKey 63 = .ok (.ireturn, 1) := by decide +kernel
theorem dX6_makePair_0 : decode cX6_makePair 0 = .ok (.aload_n 0, 1) := by decide +kernel
theorem dX6_makePair_1 : decode cX6_makePair 1 = .ok (.getfield 93, 3) := by decide +kernel
theorem dX6_makePair_4 : decode cX6_makePair 4 = .ok (.sipush 4000, 3) := by decide +kernel
theorem dX6_makePair_7 : decode cX6_makePair 7 = .ok (.if_icmp .ge 72, 3) := by decide +kernel
theorem dX6_makePair_10 : decode cX6_makePair 10 = .ok (.aload_n 0, 1) := by decide +kernel
theorem dX6_makePair_11 : decode cX6_makePair 11 = .ok (.getfield 38, 3) := by decide +kernel
theorem dX6_makePair_14 : decode cX6_makePair 14 = .ok (.aload_n 0, 1) := by decide +kernel
theorem dX6_makePair_15 : decode cX6_makePair 15 = .ok (.getfield 93, 3) := by decide +kernel
theorem dX6_makePair_18 : decode cX6_makePair 18 = .ok (.iload_n 1, 1) := by decide +kernel
theorem dX6_makePair_19 : decode cX6_makePair 19 = .ok (.iastore, 1) := by decide +kernel
theorem dX6_makePair_20 : decode cX6_makePair 20 = .ok (.aload_n 0, 1) := by decide +kernel
theorem dX6_makePair_21 : decode cX6_makePair 21 = .ok (.getfield 41, 3) := by decide +kernel
theorem dX6_makePair_24 : decode cX6_makePair 24 = .ok (.aload_n 0, 1) := by decide +kernel
theorem dX6_makePair_25 : decode cX6_makePair 25 = .ok (.getfield 93, 3) := by decide +kernel
theorem dX6_makePair_28 : decode cX6_makePair 28 = .ok (.iload_n 2, 1) := by decide +kernel
theorem dX6_makePair_29 : decode cX6_makePair 29 = .ok (.iastore, 1) := by decide +kernel
theorem dX6_makePair_30 : decode cX6_makePair 30 = .ok (.aload_n 0, 1) := by decide +kernel
theorem dX6_makePair_31 : decode cX6_makePair 31 = .ok (.getfield 44, 3) := by decide +kernel
theorem dX6_makePair_34 : decode cX6_makePair 34 = .ok (.aload_n 0, 1) := by decide +kernel
theorem dX6_makePair_35 : decode cX6_makePair 35 = .ok (.getfield 93, 3) := by decide +kernel
theorem dX6_makePair_38 : decode cX6_makePair 38 = .ok (.aload_n 0, 1) := by decide +kernel
theorem dX6_makePair_39 : decode cX6_makePair 39 = .ok (.getfield 7, 3) := by decide +kernel
theorem dX6_makePair_42 : decode cX6_makePair 42 = .ok (.iload_n 1, 1) := by decide +kernel
theorem dX6_makePair_43 : decode cX6_makePair 43 = .ok (.iaload, 1) := by decide +kernel
theorem dX6_makePair_44 : decode cX6_makePair 44 = .ok (.iastore, 1) := by decide +kernel
theorem dX6_makePair_45 : decode cX6_makePair 45 = .ok (.aload_n 0, 1) := by decide +kernel
theorem dX6_makePair_46 : decode cX6_makePair 46 = .ok (.getfield 47, 3) := by decide +kernel
theorem dX6_makePair_49 : decode cX6_makePair 49 = .ok (.aload_n 0, 1) := by decide +kernel
theorem dX6_makePair_50 : decode cX6_makePair 50 = .ok (.getfield 93, 3) := by decide +kernel
theorem dX6_makePair_53 : decode cX6_makePair 53 = .ok (.aload_n 0, 1) := by decide +kernel
theorem dX6_makePair_54 : decode cX6_makePair 54 = .ok (.getfield 13, 3) := by decide +kernel
theorem dX6_makePair_57 : decode cX6_makePair 57 = .ok (.iload_n 1, 1) := by decide +kernel
theorem dX6_makePair_58 : decode cX6_makePair 58 = .ok (.iaload, 1) := by decide +kernel
theorem dX6_makePair_59 : decode cX6_makePair 59 = .ok (.iastore, 1) := by decide +kernel
theorem dX6_makePair_60 : decode cX6_makePair 60 = .ok (.aload_n 0, 1) := by decide +kernel
theorem dX6_makePair_61 : decode cX6_makePair 61 = .ok (.getfield 50, 3) := by decide +kernel
theorem dX6_makePair_64 : decode cX6_makePair 64 = .ok (.aload_n 0, 1) := by decide +kernel
theorem dX6_makePair_65 : decode cX6_makePair 65 = .ok (.getfield 93, 3) := by decide +kernel
theorem dX6_makePair_68 : decode cX6_makePair 68 = .ok (.aload_n 0, 1) := by decide +kernel
theorem dX6_makePair_69 : decode cX6_makePair 69 = .ok (.getfield 13, 3) := by decide +kernel
theorem dX6_makePair_72 : decode cX6_makePair 72 = .ok (.sipush 500, 3) := by decide +kernel
theorem dX6_makePair_75 : decode cX6_makePair 75 = .ok (.iload_n 2, 1) := by decide +kernel
theorem dX6_makePair_76 : decode cX6_makePair 76 = .ok (.iadd, 1) := by decide +kernel
theorem dX6_makePair_77 : decode cX6_makePair 77 = .ok (.iaload, 1) := by decide +kernel
theorem dX6_makePair_78 : decode cX6_makePair 78 = .ok (.iastore, 1) := by decide +kernel
theorem dX6_makePair_79 : decode cX6_makePair 79 = .ok (.aload_n 0, 1) := by decide +kernel
theorem dX6_makePair_80 : decode cX6_makePair 80 = .ok (.dup, 1) := by decide +kernel
theorem dX6_makePair_81 : decode cX6_makePair 81 = .ok (.getfield 93, 3) := by decide +kernel
theorem dX6_makePair_84 : decode cX6_makePair 84 = .ok (.iconst 1, 1) := by decide +kernel
theorem dX6_makePair_85 : decode cX6_makePair 85 = .ok (.iadd, 1) := by decide +kernel
theorem dX6_makePair_86 : decode cX6_makePair 86 = .ok (.putfield 93, 3) := by decide +kernel
theorem dX6_makePair_89 : decode cX6_makePair 89 = .ok (.return_, 1) := by decide +kernel
set_option maxRecDepth 20000 in
theorem ggX6_meet_X6_sizeOf : GoodIn wsX6_meet wsX6_sizeOf := goodIn_r _ [5, 6, 7, 8, 4, 9, 10, 32, 33, 34, 35, 36, 37, 38, 39, 40, 41, 42, 43, 44, 45, 46, 47, 48, 49, 50, 51, 52, 53, 54, 55] (by decide +kernel) (by decide +kernel)
set_option maxRecDepth 20000 in
theorem gX6_meet_X6_sizeOf : GoodIn wsX6_meet (wsV RX6 90 RX6 yX6_sizeOf wsX6_sizeOf) := goodIn_app (goodIn_of _ (by decide +kernel)) ggX6_meet_X6_sizeOf
set_option maxRecDepth 20000 in
theorem ggX6_meet_X6_keyAt : GoodIn wsX6_meet wsX6_keyAt := goodIn_r _ [14, 15, 16, 17, 18, 4, 19, 20, 6, 7, 8, 9, 10, 32, 33, 34, 35, 36, 37, 38, 39, 40, 41, 42, 43, 44, 45, 46, 47, 48, 49, 50, 51, 52, 53, 54, 55] (by decide +kernel) (by decide +kernel)
set_option maxRecDepth 20000 in
theorem gX6_meet_X6_keyAt : GoodIn wsX6_meet (wsV RX6 87 RX6 yX6_keyAt wsX6_keyAt) := goodIn_app (goodIn_of _ (by decide +kernel)) ggX6_meet_X6_keyAt
set_option maxRecDepth 20000 in
theorem ggX6_meet_X6_rowAt : GoodIn wsX6_meet wsX6_rowAt := goodIn_r _ [19, 20, 6, 7, 8, 4, 9, 10, 32, 33, 34, 35, 36, 37, 38, 39, 40, 41, 42, 43, 44, 45, 46, 47, 48, 49, 50, 51, 52, 53, 54, 55] (by decide +kernel) (by decide +kernel)
set_option maxRecDepth 20000 in
theorem gX6_meet_X6_rowAt : GoodIn wsX6_meet (wsV RX6 83 RX6 yX6_rowAt wsX6_rowAt) := goodIn_app (goodIn_of _ (by decide +kernel)) ggX6_meet_X6_rowAt
set_option maxRecDepth 20000 in
theorem ggX6_meet_X6_makePair : GoodIn wsX6_meet wsX6_makePair := goodIn_r _ [24, 25, 26, 27, 28, 15, 29, 30, 31, 32, 33, 34, 35, 36, 37, 38, 39, 40, 41, 42, 43, 44, 45, 46, 47, 48, 49, 50, 51, 52, 53, 54, 55] (by decide +kernel) (by decide +kernel)
set_option maxRecDepth 20000 in
theorem gX6_meet_X6_makePair : GoodIn wsX6_meet (wsV RX6 96 RX6 yX6_makePair wsX6_makePair) := goodIn_app (goodIn_of _ (by decide +kernel)) ggX6_meet_X6_makePair
theorem dX6_meet_0 : decode cX6_meet 0 = .ok (.iconst 1, 1) := by decide +kernel
theorem dX6_meet_1 : decode cX6_meet 1 = .ok (.iload_n 1, 1) := by decide +kernel
theorem dX6_meet_2 : decode cX6_meet 2 = .ok (.isub, 1) := by decide +kernel
theorem dX6_meet_3 : decode cX6_meet 3 = .ok (.istore 6, 2) := by decide +kernel
theorem dX6_meet_5 : decode cX6_meet 5 = .ok (.iconst 0, 1) := by decide +kernel
theorem dX6_meet_6 : decode cX6_meet 6 = .ok (.istore 7, 2) := by decide +kernel
theorem dX6_meet_8 : decode cX6_meet 8 = .ok (.iload 7, 2) := by decide +kernel
theorem dX6_meet_10 : decode cX6_meet 10 = .ok (.aload_n 0, 1) := by decide +kernel
theorem dX6_meet_11 : decode cX6_meet 11 = .ok (.iload 6, 2) := by decide +kernel
theorem dX6_meet_13 : decode cX6_meet 13 = .ok (.iload_n 2, 1) := by decide +kernel
theorem dX6_meet_14 : decode cX6_meet 14 = .ok (.iload_n 3, 1) := by decide +kernel
theorem dX6_meet_15 : decode cX6_meet 15 = .ok (.invokevirtual 90, 3) := by decide +kernel
theorem dX6_meet_18 : decode cX6_meet 18 = .ok (.if_icmp .ge 97, 3) := by decide +kernel
theorem dX6_meet_21 : decode cX6_meet 21 = .ok (.iload 4, 2) := by decide +kernel
theorem dX6_meet_23 : decode cX6_meet 23 = .ok (.istore 8, 2) := by decide +kernel
theorem dX6_meet_25 : decode cX6_meet 25 = .ok (.iload 8, 2) := by decide +kernel
theorem dX6_meet_27 : decode cX6_meet 27 = .ok (.iload 5, 2) := by decide +kernel
theorem dX6_meet_29 : decode cX6_meet 29 = .ok (.if_icmp .ge 80, 3) := by decide +kernel
theorem dX6_meet_32 : decode cX6_meet 32 = .ok (.aload_n 0, 1) := by decide +kernel
theorem dX6_meet_33 : decode cX6_meet 33 = .ok (.iload_n 1, 1) := by decide +kernel
theorem dX6_meet_34 : decode cX6_meet 34 = .ok (.iload_n 2, 1) := by decide +kernel
theorem dX6_meet_35 : decode cX6_meet 35 = .ok (.iload_n 3, 1) := by decide +kernel
theorem dX6_meet_36 : decode cX6_meet 36 = .ok (.iload 8, 2) := by decide +kernel
theorem dX6_meet_38 : decode cX6_meet 38 = .ok (.invokevirtual 87, 3) := by decide +kernel
theorem dX6_meet_41 : decode cX6_meet 41 = .ok (.aload_n 0, 1) := by decide +kernel
theorem dX6_meet_42 : decode cX6_meet 42 = .ok (.iload 6, 2) := by decide +kernel
theorem dX6_meet_44 : decode cX6_meet 44 = .ok (.iload_n 2, 1) := by decide +kernel
theorem dX6_meet_45 : decode cX6_meet 45 = .ok (.iload_n 3, 1) := by decide +kernel
theorem dX6_meet_46 : decode cX6_meet 46 = .ok (.iload 7, 2) := by decide +kernel
theorem dX6_meet_48 : decode cX6_meet 48 = .ok (.invokevirtual 87, 3) := by decide +kernel
theorem dX6_meet_51 : decode cX6_meet 51 = .ok (.if_icmp .ne 52, 3) := by decide +kernel
theorem dX6_meet_54 : decode cX6_meet 54 = .ok (.aload_n 0, 1) := by decide +kernel
theorem dX6_meet_55 : decode cX6_meet 55 = .ok (.iload_n 1, 1) := by decide +kernel
theorem dX6_meet_56 : decode cX6_meet 56 = .ok (.iload_n 2, 1) := by decide +kernel
theorem dX6_meet_57 : decode cX6_meet 57 = .ok (.iload_n 3, 1) := by decide +kernel
theorem dX6_meet_58 : decode cX6_meet 58 = .ok (.iload 8, 2) := by decide +kernel
theorem dX6_meet_60 : decode cX6_meet 60 = .ok (.invokevirtual 83, 3) := by decide +kernel
theorem dX6_meet_63 : decode cX6_meet 63 = .ok (.istore 9, 2) := by decide +kernel
theorem dX6_meet_65 : decode cX6_meet 65 = .ok (.aload_n 0, 1) := by decide +kernel
theorem dX6_meet_66 : decode cX6_meet 66 = .ok (.iload 6, 2) := by decide +kernel
theorem dX6_meet_68 : decode cX6_meet 68 = .ok (.iload_n 2, 1) := by decide +kernel
theorem dX6_meet_69 : decode cX6_meet 69 = .ok (.iload_n 3, 1) := by decide +kernel
theorem dX6_meet_70 : decode cX6_meet 70 = .ok (.iload 7, 2) := by decide +kernel
theorem dX6_meet_72 : decode cX6_meet 72 = .ok (.invokevirtual 83, 3) := by decide +kernel
theorem dX6_meet_75 : decode cX6_meet 75 = .ok (.istore 10, 2) := by decide +kernel
theorem dX6_meet_77 : decode cX6_meet 77 = .ok (.aload_n 0, 1) := by decide +kernel
theorem dX6_meet_78 : decode cX6_meet 78 = .ok (.iload_n 1, 1) := by decide +kernel
theorem dX6_meet_79 : decode cX6_meet 79 = .ok (.ifCond .ne 8, 3) := by decide +kernel
theorem dX6_meet_82 : decode cX6_meet 82 = .ok (.iload 9, 2) := by decide +kernel
theorem dX6_meet_84 : decode cX6_meet 84 = .ok (.goto 5, 3) := by decide +kernel
theorem dX6_meet_87 : decode cX6_meet 87 = .ok (.iload 10, 2) := by decide +kernel
theorem dX6_meet_89 : decode cX6_meet 89 = .ok (.iload_n 1, 1) := by decide +kernel
theorem dX6_meet_90 : decode cX6_meet 90 = .ok (.ifCond .ne 8, 3) := by decide +kernel
theorem dX6_meet_93 : decode cX6_meet 93 = .ok (.iload 10, 2) := by decide +kernel
theorem dX6_meet_95 : decode cX6_meet 95 = .ok (.goto 5, 3) := by decide +kernel
theorem dX6_meet_98 : decode cX6_meet 98 = .ok (.iload 9, 2) := by decide +kernel
theorem dX6_meet_100 : decode cX6_meet 100 = .ok (.invokevirtual 96, 3) := by decide +kernel
theorem dX6_meet_103 : decode cX6_meet 103 = .ok (.iinc 8 1, 3) := by decide +kernel
theorem dX6_meet_106 : decode cX6_meet 106 = .ok (.goto (-81), 3) := by decide +kernel
theorem dX6_meet_109 : decode cX6_meet 109 = .ok (.iinc 7 1, 3) := by decide +kernel
theorem dX6_meet_112 : decode cX6_meet 112 = .ok (.goto (-104), 3) := by decide +kernel
theorem dX6_meet_115 : decode cX6_meet 115 = .ok (.return_, 1) := by decide +kernel
set_option maxRecDepth 20000 in
theorem ggX6_note_X6_sizeOf : GoodIn wsX6_note wsX6_sizeOf := goodIn_r _ [11, 12, 13, 14, 10, 15, 16, 17, 18, 19, 20, 21, 22, 23, 24, 25, 26, 27, 28, 29, 30, 31, 32, 33, 34, 35, 36, 37, 38, 39, 40] (by decide +kernel) (by decide +kernel)
set_option maxRecDepth 20000 in
theorem gX6_note_X6_sizeOf : GoodIn wsX6_note (wsV RX6 90 RX6 yX6_sizeOf wsX6_sizeOf) := goodIn_app (goodIn_of _ (by decide +kernel)) ggX6_note_X6_sizeOf
theorem dX6_note_0 : decode cX6_note 0 = .ok (.aload_n 0, 1) := by decide +kernel
theorem dX6_note_1 : decode cX6_note 1 = .ok (.getfield 100, 3) := by decide +kernel
theorem dX6_note_4 : decode cX6_note 4 = .ok (.sipush 300, 3) := by decide +kernel
theorem dX6_note_7 : decode cX6_note 7 = .ok (.if_icmp .ge 84, 3) := by decide +kernel
theorem dX6_note_10 : decode cX6_note 10 = .ok (.aload_n 0, 1) := by decide +kernel
theorem dX6_note_11 : decode cX6_note 11 = .ok (.getfield 59, 3) := by decide +kernel
theorem dX6_note_14 : decode cX6_note 14 = .ok (.iconst 5, 1) := by decide +kernel
theorem dX6_note_15 : decode cX6_note 15 = .ok (.aload_n 0, 1) := by decide +kernel
theorem dX6_note_16 : decode cX6_note 16 = .ok (.getfield 100, 3) := by decide +kernel
theorem dX6_note_19 : decode cX6_note 19 = .ok (.imul, 1) := by decide +kernel
theorem dX6_note_20 : decode cX6_note 20 = .ok (.iload_n 1, 1) := by decide +kernel
theorem dX6_note_21 : decode cX6_note 21 = .ok (.iastore, 1) := by decide +kernel
theorem dX6_note_22 : decode cX6_note 22 = .ok (.aload_n 0, 1) := by decide +kernel
theorem dX6_note_23 : decode cX6_note 23 = .ok (.getfield 59, 3) := by decide +kernel
theorem dX6_note_26 : decode cX6_note 26 = .ok (.iconst 5, 1) := by decide +kernel
theorem dX6_note_27 : decode cX6_note 27 = .ok (.aload_n 0, 1) := by decide +kernel
theorem dX6_note_28 : decode cX6_note 28 = .ok (.getfield 100, 3) := by decide +kernel
theorem dX6_note_31 : decode cX6_note 31 = .ok (.imul, 1) := by decide +kernel
theorem dX6_note_32 : decode cX6_note 32 = .ok (.iconst 1, 1) := by decide +kernel
theorem dX6_note_33 : decode cX6_note 33 = .ok (.iadd, 1) := by decide +kernel
theorem dX6_note_34 : decode cX6_note 34 = .ok (.iload_n 2, 1) := by decide +kernel
theorem dX6_note_35 : decode cX6_note 35 = .ok (.iastore, 1) := by decide +kernel
theorem dX6_note_36 : decode cX6_note 36 = .ok (.aload_n 0, 1) := by decide +kernel
theorem dX6_note_37 : decode cX6_note 37 = .ok (.getfield 59, 3) := by decide +kernel
theorem dX6_note_40 : decode cX6_note 40 = .ok (.iconst 5, 1) := by decide +kernel
theorem dX6_note_41 : decode cX6_note 41 = .ok (.aload_n 0, 1) := by decide +kernel
theorem dX6_note_42 : decode cX6_note 42 = .ok (.getfield 100, 3) := by decide +kernel
theorem dX6_note_45 : decode cX6_note 45 = .ok (.imul, 1) := by decide +kernel
theorem dX6_note_46 : decode cX6_note 46 = .ok (.iconst 2, 1) := by decide +kernel
theorem dX6_note_47 : decode cX6_note 47 = .ok (.iadd, 1) := by decide +kernel
theorem dX6_note_48 : decode cX6_note 48 = .ok (.aload_n 0, 1) := by decide +kernel
theorem dX6_note_49 : decode cX6_note 49 = .ok (.iconst 0, 1) := by decide +kernel
theorem dX6_note_50 : decode cX6_note 50 = .ok (.iload_n 2, 1) := by decide +kernel
theorem dX6_note_51 : decode cX6_note 51 = .ok (.iload_n 3, 1) := by decide +kernel
theorem dX6_note_52 : decode cX6_note 52 = .ok (.invokevirtual 90, 3) := by decide +kernel
theorem dX6_note_55 : decode cX6_note 55 = .ok (.iastore, 1) := by decide +kernel
theorem dX6_note_56 : decode cX6_note 56 = .ok (.aload_n 0, 1) := by decide +kernel
theorem dX6_note_57 : decode cX6_note 57 = .ok (.getfield 59, 3) := by decide +kernel
theorem dX6_note_60 : decode cX6_note 60 = .ok (.iconst 5, 1) := by decide +kernel
theorem dX6_note_61 : decode cX6_note 61 = .ok (.aload_n 0, 1) := by decide +kernel
theorem dX6_note_62 : decode cX6_note 62 = .ok (.getfield 100, 3) := by decide +kernel
theorem dX6_note_65 : decode cX6_note 65 = .ok (.imul, 1) := by decide +kernel
theorem dX6_note_66 : decode cX6_note 66 = .ok (.iconst 3, 1) := by decide +kernel
theorem dX6_note_67 : decode cX6_note 67 = .ok (.iadd, 1) := by decide +kernel
theorem dX6_note_68 : decode cX6_note 68 = .ok (.aload_n 0, 1) := by decide +kernel
theorem dX6_note_69 : decode cX6_note 69 = .ok (.iconst 1, 1) := by decide +kernel
theorem dX6_note_70 : decode cX6_note 70 = .ok (.iload_n 2, 1) := by decide +kernel
theorem dX6_note_71 : decode cX6_note 71 = .ok (.iload_n 3, 1) := by decide +kernel
theorem dX6_note_72 : decode cX6_note 72 = .ok (.invokevirtual 90, 3) := by decide +kernel
theorem dX6_note_75 : decode cX6_note 75 = .ok (.iastore, 1) := by decide +kernel
theorem dX6_note_76 : decode cX6_note 76 = .ok (.aload_n 0, 1) := by decide +kernel
theorem dX6_note_77 : decode cX6_note 77 = .ok (.getfield 59, 3) := by decide +kernel
theorem dX6_note_80 : decode cX6_note 80 = .ok (.iconst 5, 1) := by decide +kernel
theorem dX6_note_81 : decode cX6_note 81 = .ok (.aload_n 0, 1) := by decide +kernel
theorem dX6_note_82 : decode cX6_note 82 = .ok (.getfield 100, 3) := by decide +kernel
theorem dX6_note_85 : decode cX6_note 85 = .ok (.imul, 1) := by decide +kernel
theorem dX6_note_86 : decode cX6_note 86 = .ok (.iconst 4, 1) := by decide +kernel
theorem dX6_note_87 : decode cX6_note 87 = .ok (.iadd, 1) := by decide +kernel
theorem dX6_note_88 : decode cX6_note 88 = .ok (.iload 4, 2) := by decide +kernel
theorem dX6_note_90 : decode cX6_note 90 = .ok (.iastore, 1) := by decide +kernel
theorem dX6_note_91 : decode cX6_note 91 = .ok (.aload_n 0, 1) := by decide +kernel
theorem dX6_note_92 : decode cX6_note 92 = .ok (.dup, 1) := by decide +kernel
theorem dX6_note_93 : decode cX6_note 93 = .ok (.getfield 100, 3) := by decide +kernel
theorem dX6_note_96 : decode cX6_note 96 = .ok (.iconst 1, 1) := by decide +kernel
theorem dX6_note_97 : decode cX6_note 97 = .ok (.iadd, 1) := by decide +kernel
theorem dX6_note_98 : decode cX6_note 98 = .ok (.putfield 100, 3) := by decide +kernel
theorem dX6_note_101 : decode cX6_note 101 = .ok (.aload_n 0, 1) := by decide +kernel
theorem dX6_note_102 : decode cX6_note 102 = .ok (.getfield 56, 3) := by decide +kernel
theorem dX6_note_105 : decode cX6_note 105 = .ok (.iload_n 1, 1) := by decide +kernel
theorem dX6_note_106 : decode cX6_note 106 = .ok (.dup2, 1) := by decide +kernel
theorem dX6_note_107 : decode cX6_note 107 = .ok (.iaload, 1) := by decide +kernel
theorem dX6_note_108 : decode cX6_note 108 = .ok (.iconst 1, 1) := by decide +kernel
theorem dX6_note_109 : decode cX6_note 109 = .ok (.iadd, 1) := by decide +kernel
theorem dX6_note_110 : decode cX6_note 110 = .ok (.iastore, 1) := by decide +kernel
theorem dX6_note_111 : decode cX6_note 111 = .ok (.aload_n 0, 1) := by decide +kernel
theorem dX6_note_112 : decode cX6_note 112 = .ok (.aload_n 0, 1) := by decide +kernel
theorem dX6_note_113 : decode cX6_note 113 = .ok (.getfield 103, 3) := by decide +kernel
theorem dX6_note_116 : decode cX6_note 116 = .ok (.iload 4, 2) := by decide +kernel
theorem dX6_note_118 : decode cX6_note 118 = .ok (.iadd, 1) := by decide +kernel
theorem dX6_note_119 : decode cX6_note 119 = .ok (.putfield 103, 3) := by decide +kernel
theorem dX6_note_122 : decode cX6_note 122 = .ok (.aload_n 0, 1) := by decide +kernel
theorem dX6_note_123 : decode cX6_note 123 = .ok (.iload 5, 2) := by decide +kernel
theorem dX6_note_125 : decode cX6_note 125 = .ok (.aload_n 0, 1) := by decide +kernel
theorem dX6_note_126 : decode cX6_note 126 = .ok (.getfield 106, 3) := by decide +kernel
theorem dX6_note_129 : decode cX6_note 129 = .ok (.if_icmp .le 8, 3) := by decide +kernel
theorem dX6_note_132 : decode cX6_note 132 = .ok (.iload 5, 2) := by decide +kernel
theorem dX6_note_134 : decode cX6_note 134 = .ok (.goto 7, 3) := by decide +kernel
theorem dX6_note_137 : decode cX6_note 137 = .ok (.aload_n 0, 1) := by decide +kernel
theorem dX6_note_138 : decode cX6_note 138 = .ok (.getfield 106, 3) := by decide +kernel
theorem dX6_note_141 : decode cX6_note 141 = .ok (.putfield 106, 3) := by decide +kernel
theorem dX6_note_144 : decode cX6_note 144 = .ok (.aload_n 0, 1) := by decide +kernel
theorem dX6_note_145 : decode cX6_note 145 = .ok (.iload_n 2, 1) := by decide +kernel
theorem dX6_note_146 : decode cX6_note 146 = .ok (.aload_n 0, 1) := by decide +kernel
theorem dX6_note_147 : decode cX6_note 147 = .ok (.getfield 53, 3) := by decide +kernel
theorem dX6_note_150 : decode cX6_note 150 = .ok (.if_icmp .le 7, 3) := by decide +kernel
theorem dX6_note_153 : decode cX6_note 153 = .ok (.iload_n 2, 1) := by decide +kernel
theorem dX6_note_154 : decode cX6_note 154 = .ok (.goto 7, 3) := by decide +kernel
theorem dX6_note_157 : decode cX6_note 157 = .ok (.aload_n 0, 1) := by decide +kernel
theorem dX6_note_158 : decode cX6_note 158 = .ok (.getfield 53, 3) := by decide +kernel
theorem dX6_note_161 : decode cX6_note 161 = .ok (.putfield 53, 3) := by decide +kernel
theorem dX6_note_164 : decode cX6_note 164 = .ok (.return_, 1) := by decide +kernel
set_option maxRecDepth 20000 in
theorem ggX6_divide_X6_sizeOf : GoodIn wsX6_divide wsX6_sizeOf := goodIn_r _ [12, 13, 14, 15, 11, 16, 2, 43, 44, 45, 46, 47, 48, 49, 50, 51, 52, 53, 54, 55, 56, 57, 58, 59, 60, 61, 62, 63, 64, 65, 66] (by decide +kernel) (by decide +kernel)
set_option maxRecDepth 20000 in
theorem gX6_divide_X6_sizeOf : GoodIn wsX6_divide (wsV RX6 90 RX6 yX6_sizeOf wsX6_sizeOf) := goodIn_app (goodIn_of _ (by decide +kernel)) ggX6_divide_X6_sizeOf
set_option maxRecDepth 20000 in
theorem ggX6_divide_X6_keyAt : GoodIn wsX6_divide wsX6_keyAt := goodIn_r _ [20, 21, 22, 23, 24, 11, 25, 3, 13, 14, 15, 16, 2, 43, 44, 45, 46, 47, 48, 49, 50, 51, 52, 53, 54, 55, 56, 57, 58, 59, 60, 61, 62, 63, 64, 65, 66] (by decide +kernel) (by decide +kernel)
set_option maxRecDepth 20000 in
theorem gX6_divide_X6_keyAt : GoodIn wsX6_divide (wsV RX6 87 RX6 yX6_keyAt wsX6_keyAt) := goodIn_app (goodIn_of _ (by decide +kernel)) ggX6_divide_X6_keyAt
set_option maxRecDepth 20000 in
theorem ggX6_divide_X6_partOf : GoodIn wsX6_divide wsX6_partOf := goodIn_r _ [29, 30, 31, 32, 33, 1, 43, 44, 45, 46, 47, 48, 49, 50, 51, 52, 53, 54, 55, 56, 57, 58, 59, 60, 61, 62, 63, 64, 65, 66] (by decide +kernel) (by decide +kernel)
set_option maxRecDepth 20000 in
theorem gX6_divide_X6_partOf : GoodIn wsX6_divide (wsV RX6 75 RX6 yX6_partOf wsX6_partOf) := goodIn_app (goodIn_of _ (by decide +kernel)) ggX6_divide_X6_partOf
set_option maxRecDepth 20000 in
theorem ggX6_divide_X6_rowAt : GoodIn wsX6_divide wsX6_rowAt := goodIn_r _ [25, 3, 13, 14, 15, 11, 16, 2, 43, 44, 45, 46, 47, 48, 49, 50, 51, 52, 53, 54, 55, 56, 57, 58, 59, 60, 61, 62, 63, 64, 65, 66] (by decide +kernel) (by decide +kernel)
set_option maxRecDepth 20000 in
theorem gX6_divide_X6_rowAt : GoodIn wsX6_divide (wsV RX6 83 RX6 yX6_rowAt wsX6_rowAt) := goodIn_app (goodIn_of _ (by decide +kernel)) ggX6_divide_X6_rowAt
set_option maxRecDepth 20000 in
theorem ggX6_divide_X6_pagesAt : GoodIn wsX6_divide wsX6_pagesAt := goodIn_r _ [37, 8, 9, 10, 11, 12, 13, 14, 15, 16, 2, 38, 39, 40, 41, 42, 43, 44, 45, 46, 47, 48, 49, 50, 51, 52, 53, 54, 55, 56, 57, 58, 59, 60, 61, 62, 63, 64, 65, 66] (by decide +kernel) (by decide +kernel)
set_option maxRecDepth 20000 in
theorem gX6_divide_X6_pagesAt : GoodIn wsX6_divide (wsV RX6 112 RX6 yX6_pagesAt wsX6_pagesAt) := goodIn_app (goodIn_of _ (by decide +kernel)) ggX6_divide_X6_pagesAt
theorem dX6_divide_0 : decode cX6_divide 0 = .ok (.aload_n 0, 1) := by decide +kernel
theorem dX6_divide_1 : decode cX6_divide 1 = .ok (.getfield 23, 3) := by decide +kernel
theorem dX6_divide_4 : decode cX6_divide 4 = .ok (.iconst 1, 1) := by decide +kernel
theorem dX6_divide_5 : decode cX6_divide 5 = .ok (.isub, 1) := by decide +kernel
theorem dX6_divide_6 : decode cX6_divide 6 = .ok (.istore_n 3, 1) := by decide +kernel
theorem dX6_divide_7 : decode cX6_divide 7 = .ok (.iconst 0, 1) := by decide +kernel
theorem dX6_divide_8 : decode cX6_divide 8 = .ok (.istore 4, 2) := by decide +kernel
theorem dX6_divide_10 : decode cX6_divide 10 = .ok (.iload 4, 2) := by decide +kernel
theorem dX6_divide_12 : decode cX6_divide 12 = .ok (.iconst 2, 1) := by decide +kernel
theorem dX6_divide_13 : decode cX6_divide 13 = .ok (.if_icmp .ge 147, 3) := by decide +kernel
theorem dX6_divide_16 : decode cX6_divide 16 = .ok (.iconst 0, 1) := by decide +kernel
theorem dX6_divide_17 : decode cX6_divide 17 = .ok (.istore 5, 2) := by decide +kernel
theorem dX6_divide_19 : decode cX6_divide 19 = .ok (.iconst 0, 1) := by decide +kernel
theorem dX6_divide_20 : decode cX6_divide 20 = .ok (.istore 6, 2) := by decide +kernel
theorem dX6_divide_22 : decode cX6_divide 22 = .ok (.iload 6, 2) := by decide +kernel
theorem dX6_divide_24 : decode cX6_divide 24 = .ok (.iload_n 3, 1) := by decide +kernel
theorem dX6_divide_25 : decode cX6_divide 25 = .ok (.if_icmp .ge 108, 3) := by decide +kernel
theorem dX6_divide_28 : decode cX6_divide 28 = .ok (.aload_n 0, 1) := by decide +kernel
theorem dX6_divide_29 : decode cX6_divide 29 = .ok (.getfield 32, 3) := by decide +kernel
theorem dX6_divide_32 : decode cX6_divide 32 = .ok (.bipush 42, 2) := by decide +kernel
theorem dX6_divide_34 : decode cX6_divide 34 = .ok (.iload_n 1, 1) := by decide +kernel
theorem dX6_divide_35 : decode cX6_divide 35 = .ok (.iconst 1, 1) := by decide +kernel
theorem dX6_divide_36 : decode cX6_divide 36 = .ok (.iadd, 1) := by decide +kernel
theorem dX6_divide_37 : decode cX6_divide 37 = .ok (.imul, 1) := by decide +kernel
theorem dX6_divide_38 : decode cX6_divide 38 = .ok (.bipush 21, 2) := by decide +kernel
theorem dX6_divide_40 : decode cX6_divide 40 = .ok (.iload 4, 2) := by decide +kernel
theorem dX6_divide_42 : decode cX6_divide 42 = .ok (.imul, 1) := by decide +kernel
theorem dX6_divide_43 : decode cX6_divide 43 = .ok (.iadd, 1) := by decide +kernel
theorem dX6_divide_44 : decode cX6_divide 44 = .ok (.iload 6, 2) := by decide +kernel
theorem dX6_divide_46 : decode cX6_divide 46 = .ok (.iadd, 1) := by decide +kernel
theorem dX6_divide_47 : decode cX6_divide 47 = .ok (.iload 5, 2) := by decide +kernel
theorem dX6_divide_49 : decode cX6_divide 49 = .ok (.iastore, 1) := by decide +kernel
theorem dX6_divide_50 : decode cX6_divide 50 = .ok (.iconst 0, 1) := by decide +kernel
theorem dX6_divide_51 : decode cX6_divide 51 = .ok (.istore 7, 2) := by decide +kernel
theorem dX6_divide_53 : decode cX6_divide 53 = .ok (.iload 7, 2) := by decide +kernel
theorem dX6_divide_55 : decode cX6_divide 55 = .ok (.aload_n 0, 1) := by decide +kernel
theorem dX6_divide_56 : decode cX6_divide 56 = .ok (.iload 4, 2) := by decide +kernel
theorem dX6_divide_58 : decode cX6_divide 58 = .ok (.iload_n 1, 1) := by decide +kernel
theorem dX6_divide_59 : decode cX6_divide 59 = .ok (.iload_n 2, 1) := by decide +kernel
theorem dX6_divide_60 : decode cX6_divide 60 = .ok (.invokevirtual 90, 3) := by decide +kernel
theorem dX6_divide_63 : decode cX6_divide 63 = .ok (.if_icmp .ge 64, 3) := by decide +kernel
theorem dX6_divide_66 : decode cX6_divide 66 = .ok (.aload_n 0, 1) := by decide +kernel
theorem dX6_divide_67 : decode cX6_divide 67 = .ok (.aload_n 0, 1) := by decide +kernel
theorem dX6_divide_68 : decode cX6_divide 68 = .ok (.iload 4, 2) := by decide +kernel
theorem dX6_divide_70 : decode cX6_divide 70 = .ok (.iload_n 1, 1) := by decide +kernel
theorem dX6_divide_71 : decode cX6_divide 71 = .ok (.iload_n 2, 1) := by decide +kernel
theorem dX6_divide_72 : decode cX6_divide 72 = .ok (.iload 7, 2) := by decide +kernel
theorem dX6_divide_74 : decode cX6_divide 74 = .ok (.invokevirtual 87, 3) := by decide +kernel
theorem dX6_divide_77 : decode cX6_divide 77 = .ok (.iload_n 1, 1) := by decide +kernel
theorem dX6_divide_78 : decode cX6_divide 78 = .ok (.invokevirtual 75, 3) := by decide +kernel
theorem dX6_divide_81 : decode cX6_divide 81 = .ok (.iload 6, 2) := by decide +kernel
theorem dX6_divide_83 : decode cX6_divide 83 = .ok (.if_icmp .ne 38, 3) := by decide +kernel
theorem dX6_divide_86 : decode cX6_divide 86 = .ok (.aload_n 0, 1) := by decide +kernel
theorem dX6_divide_87 : decode cX6_divide 87 = .ok (.getfield 29, 3) := by decide +kernel
theorem dX6_divide_90 : decode cX6_divide 90 = .ok (.sipush 1000, 3) := by decide +kernel
theorem dX6_divide_93 : decode cX6_divide 93 = .ok (.iload_n 1, 1) := by decide +kernel
theorem dX6_divide_94 : decode cX6_divide 94 = .ok (.iconst 1, 1) := by decide +kernel
theorem dX6_divide_95 : decode cX6_divide 95 = .ok (.iadd, 1) := by decide +kernel
theorem dX6_divide_96 : decode cX6_divide 96 = .ok (.imul, 1) := by decide +kernel
theorem dX6_divide_97 : decode cX6_divide 97 = .ok (.sipush 500, 3) := by decide +kernel
theorem dX6_divide_100 : decode cX6_divide 100 = .ok (.iload 4, 2) := by decide +kernel
theorem dX6_divide_102 : decode cX6_divide 102 = .ok (.imul, 1) := by decide +kernel
theorem dX6_divide_103 : decode cX6_divide 103 = .ok (.iadd, 1) := by decide +kernel
theorem dX6_divide_104 : decode cX6_divide 104 = .ok (.iload 5, 2) := by decide +kernel
theorem dX6_divide_106 : decode cX6_divide 106 = .ok (.iadd, 1) := by decide +kernel
theorem dX6_divide_107 : decode cX6_divide 107 = .ok (.aload_n 0, 1) := by decide +kernel
theorem dX6_divide_108 : decode cX6_divide 108 = .ok (.iload 4, 2) := by decide +kernel
theorem dX6_divide_110 : decode cX6_divide 110 = .ok (.iload_n 1, 1) := by decide +kernel
theorem dX6_divide_111 : decode cX6_divide 111 = .ok (.iload_n 2, 1) := by decide +kernel
theorem dX6_divide_112 : decode cX6_divide 112 = .ok (.iload 7, 2) := by decide +kernel
theorem dX6_divide_114 : decode cX6_divide 114 = .ok (.invokevirtual 83, 3) := by decide +kernel
theorem dX6_divide_117 : decode cX6_divide 117 = .ok (.iastore, 1) := by decide +kernel
theorem dX6_divide_118 : decode cX6_divide 118 = .ok (.iinc 5 1, 3) := by decide +kernel
theorem dX6_divide_121 : decode cX6_divide 121 = .ok (.iinc 7 1, 3) := by decide +kernel
theorem dX6_divide_124 : decode cX6_divide 124 = .ok (.goto (-71), 3) := by decide +kernel
theorem dX6_divide_127 : decode cX6_divide 127 = .ok (.iinc 6 1, 3) := by decide +kernel
theorem dX6_divide_130 : decode cX6_divide 130 = .ok (.goto (-108), 3) := by decide +kernel
theorem dX6_divide_133 : decode cX6_divide 133 = .ok (.aload_n 0, 1) := by decide +kernel
theorem dX6_divide_134 : decode cX6_divide 134 = .ok (.getfield 32, 3) := by decide +kernel
theorem dX6_divide_137 : decode cX6_divide 137 = .ok (.bipush 42, 2) := by decide +kernel
theorem dX6_divide_139 : decode cX6_divide 139 = .ok (.iload_n 1, 1) := by decide +kernel
theorem dX6_divide_140 : decode cX6_divide 140 = .ok (.iconst 1, 1) := by decide +kernel
theorem dX6_divide_141 : decode cX6_divide 141 = .ok (.iadd, 1) := by decide +kernel
theorem dX6_divide_142 : decode cX6_divide 142 = .ok (.imul, 1) := by decide +kernel
theorem dX6_divide_143 : decode cX6_divide 143 = .ok (.bipush 21, 2) := by decide +kernel
theorem dX6_divide_145 : decode cX6_divide 145 = .ok (.iload 4, 2) := by decide +kernel
theorem dX6_divide_147 : decode cX6_divide 147 = .ok (.imul, 1) := by decide +kernel
theorem dX6_divide_148 : decode cX6_divide 148 = .ok (.iadd, 1) := by decide +kernel
theorem dX6_divide_149 : decode cX6_divide 149 = .ok (.iload_n 3, 1) := by decide +kernel
theorem dX6_divide_150 : decode cX6_divide 150 = .ok (.iadd, 1) := by decide +kernel
theorem dX6_divide_151 : decode cX6_divide 151 = .ok (.iload 5, 2) := by decide +kernel
theorem dX6_divide_153 : decode cX6_divide 153 = .ok (.iastore, 1) := by decide +kernel
theorem dX6_divide_154 : decode cX6_divide 154 = .ok (.iinc 4 1, 3) := by decide +kernel
theorem dX6_divide_157 : decode cX6_divide 157 = .ok (.goto (-147), 3) := by decide +kernel
theorem dX6_divide_160 : decode cX6_divide 160 = .ok (.iconst 0, 1) := by decide +kernel
theorem dX6_divide_161 : decode cX6_divide 161 = .ok (.istore 4, 2) := by decide +kernel
theorem dX6_divide_163 : decode cX6_divide 163 = .ok (.iload 4, 2) := by decide +kernel
theorem dX6_divide_165 : decode cX6_divide 165 = .ok (.iload_n 3, 1) := by decide +kernel
theorem dX6_divide_166 : decode cX6_divide 166 = .ok (.if_icmp .ge 45, 3) := by decide +kernel
theorem dX6_divide_169 : decode cX6_divide 169 = .ok (.aload_n 0, 1) := by decide +kernel
theorem dX6_divide_170 : decode cX6_divide 170 = .ok (.aload_n 0, 1) := by decide +kernel
theorem dX6_divide_171 : decode cX6_divide 171 = .ok (.getfield 109, 3) := by decide +kernel
theorem dX6_divide_174 : decode cX6_divide 174 = .ok (.aload_n 0, 1) := by decide +kernel
theorem dX6_divide_175 : decode cX6_divide 175 = .ok (.iload_n 1, 1) := by decide +kernel
theorem dX6_divide_176 : decode cX6_divide 176 = .ok (.iconst 1, 1) := by decide +kernel
theorem dX6_divide_177 : decode cX6_divide 177 = .ok (.iadd, 1) := by decide +kernel
theorem dX6_divide_178 : decode cX6_divide 178 = .ok (.iload 4, 2) := by decide +kernel
theorem dX6_divide_180 : decode cX6_divide 180 = .ok (.invokevirtual 112, 3) := by decide +kernel
theorem dX6_divide_183 : decode cX6_divide 183 = .ok (.iadd, 1) := by decide +kernel
theorem dX6_divide_184 : decode cX6_divide 184 = .ok (.putfield 109, 3) := by decide +kernel
theorem dX6_divide_187 : decode cX6_divide 187 = .ok (.aload_n 0, 1) := by decide +kernel
theorem dX6_divide_188 : decode cX6_divide 188 = .ok (.aload_n 0, 1) := by decide +kernel
theorem dX6_divide_189 : decode cX6_divide 189 = .ok (.getfield 115, 3) := by decide +kernel
theorem dX6_divide_192 : decode cX6_divide 192 = .ok (.aload_n 0, 1) := by decide +kernel
theorem dX6_divide_193 : decode cX6_divide 193 = .ok (.iload_n 1, 1) := by decide +kernel
theorem dX6_divide_194 : decode cX6_divide 194 = .ok (.iconst 1, 1) := by decide +kernel
theorem dX6_divide_195 : decode cX6_divide 195 = .ok (.iadd, 1) := by decide +kernel
theorem dX6_divide_196 : decode cX6_divide 196 = .ok (.iload 4, 2) := by decide +kernel
theorem dX6_divide_198 : decode cX6_divide 198 = .ok (.invokevirtual 112, 3) := by decide +kernel
theorem dX6_divide_201 : decode cX6_divide 201 = .ok (.iadd, 1) := by decide +kernel
theorem dX6_divide_202 : decode cX6_divide 202 = .ok (.putfield 115, 3) := by decide +kernel
theorem dX6_divide_205 : decode cX6_divide 205 = .ok (.iinc 4 1, 3) := by decide +kernel
theorem dX6_divide_208 : decode cX6_divide 208 = .ok (.goto (-45), 3) := by decide +kernel
theorem dX6_divide_211 : decode cX6_divide 211 = .ok (.aload_n 0, 1) := by decide +kernel
theorem dX6_divide_212 : decode cX6_divide 212 = .ok (.aload_n 0, 1) := by decide +kernel
theorem dX6_divide_213 : decode cX6_divide 213 = .ok (.getfield 115, 3) := by decide +kernel
theorem dX6_divide_216 : decode cX6_divide 216 = .ok (.aload_n 0, 1) := by decide +kernel
theorem dX6_divide_217 : decode cX6_divide 217 = .ok (.getfield 118, 3) := by decide +kernel
theorem dX6_divide_220 : decode cX6_divide 220 = .ok (.if_icmp .le 10, 3) := by decide +kernel
theorem dX6_divide_223 : decode cX6_divide 223 = .ok (.aload_n 0, 1) := by decide +kernel
theorem dX6_divide_224 : decode cX6_divide 224 = .ok (.getfield 115, 3) := by decide +kernel
theorem dX6_divide_227 : decode cX6_divide 227 = .ok (.goto 7, 3) := by decide +kernel
theorem dX6_divide_230 : decode cX6_divide 230 = .ok (.aload_n 0, 1) := by decide +kernel
theorem dX6_divide_231 : decode cX6_divide 231 = .ok (.getfield 118, 3) := by decide +kernel
theorem dX6_divide_234 : decode cX6_divide 234 = .ok (.putfield 118, 3) := by decide +kernel
theorem dX6_divide_237 : decode cX6_divide 237 = .ok (.aload_n 0, 1) := by decide +kernel
theorem dX6_divide_238 : decode cX6_divide 238 = .ok (.getfield 35, 3) := by decide +kernel
theorem dX6_divide_241 : decode cX6_divide 241 = .ok (.iload_n 1, 1) := by decide +kernel
theorem dX6_divide_242 : decode cX6_divide 242 = .ok (.iconst 1, 1) := by decide +kernel
theorem dX6_divide_243 : decode cX6_divide 243 = .ok (.iadd, 1) := by decide +kernel
theorem dX6_divide_244 : decode cX6_divide 244 = .ok (.iconst 0, 1) := by decide +kernel
theorem dX6_divide_245 : decode cX6_divide 245 = .ok (.iastore, 1) := by decide +kernel
theorem dX6_divide_246 : decode cX6_divide 246 = .ok (.return_, 1) := by decide +kernel
set_option maxRecDepth 20000 in
theorem ggX6_pagesAt_X6_sizeOf : GoodIn wsX6_pagesAt wsX6_sizeOf := goodIn_r _ [5, 6, 7, 8, 4, 9, 10, 16, 17, 18, 19, 20, 21, 22, 23, 24, 25, 26, 27, 28, 29, 30, 31, 32, 33, 34, 35, 36, 37, 38, 39] (by decide +kernel) (by decide +kernel)
set_option maxRecDepth 20000 in
theorem gX6_pagesAt_X6_sizeOf : GoodIn wsX6_pagesAt (wsV RX6 90 RX6 yX6_sizeOf wsX6_sizeOf) := goodIn_app (goodIn_of _ (by decide +kernel)) ggX6_pagesAt_X6_sizeOf
set_option maxRecDepth 20000 in
theorem ggX6_pagesAt_X6_pagesOf : GoodIn wsX6_pagesAt wsX6_pagesOf := goodIn_r _ [14, 15, 16, 17, 18, 19, 20, 21, 22, 23, 24, 25, 26, 27, 28, 29, 30, 31, 32, 33, 34, 35, 36, 37, 38, 39] (by decide +kernel) (by decide +kernel)
set_option maxRecDepth 20000 in
theorem gX6_pagesAt_X6_pagesOf : GoodIn wsX6_pagesAt (wsV RX6 66 RX6 yX6_pagesOf wsX6_pagesOf) := goodIn_app (goodIn_of _ (by decide +kernel)) ggX6_pagesAt_X6_pagesOf
theorem dX6_pagesAt_0 : decode cX6_pagesAt 0 = .ok (.aload_n 0, 1) := by decide +kernel
theorem dX6_pagesAt_1 : decode cX6_pagesAt 1 = .ok (.aload_n 0, 1) := by decide +kernel
theorem dX6_pagesAt_2 : decode cX6_pagesAt 2 = .ok (.iconst 0, 1) := by decide +kernel
theorem dX6_pagesAt_3 : decode cX6_pagesAt 3 = .ok (.iload_n 1, 1) := by decide +kernel
theorem dX6_pagesAt_4 : decode cX6_pagesAt 4 = .ok (.iload_n 2, 1) := by decide +kernel
theorem dX6_pagesAt_5 : decode cX6_pagesAt 5 = .ok (.invokevirtual 90, 3) := by decide +kernel
theorem dX6_pagesAt_8 : decode cX6_pagesAt 8 = .ok (.invokevirtual 66, 3) := by decide +kernel
theorem dX6_pagesAt_11 : decode cX6_pagesAt 11 = .ok (.aload_n 0, 1) := by decide +kernel
theorem dX6_pagesAt_12 : decode cX6_pagesAt 12 = .ok (.aload_n 0, 1) := by decide +kernel
theorem dX6_pagesAt_13 : decode cX6_pagesAt 13 = .ok (.iconst 1, 1) := by decide +kernel
theorem dX6_pagesAt_14 : decode cX6_pagesAt 14 = .ok (.iload_n 1, 1) := by decide +kernel
theorem dX6_pagesAt_15 : decode cX6_pagesAt 15 = .ok (.iload_n 2, 1) := by decide +kernel
theorem dX6_pagesAt_16 : decode cX6_pagesAt 16 = .ok (.invokevirtual 90, 3) := by decide +kernel
theorem dX6_pagesAt_19 : decode cX6_pagesAt 19 = .ok (.invokevirtual 66, 3) := by decide +kernel
theorem dX6_pagesAt_22 : decode cX6_pagesAt 22 = .ok (.iadd, 1) := by decide +kernel
theorem dX6_pagesAt_23 : decode cX6_pagesAt 23 = .ok (.ireturn, 1) := by decide +kernel
set_option maxRecDepth 20000 in
theorem ggX6_joinSet_X6_sizeOf : GoodIn wsX6_joinSet wsX6_sizeOf := goodIn_r _ [8, 9, 10, 11, 7, 12, 13, 77, 78, 79, 80, 81, 82, 83, 84, 85, 86, 87, 88, 89, 90, 91, 92, 93, 94, 95, 96, 97, 98, 99, 100] (by decide +kernel) (by decide +kernel)
set_option maxRecDepth 20000 in
theorem gX6_joinSet_X6_sizeOf : GoodIn wsX6_joinSet (wsV RX6 90 RX6 yX6_sizeOf wsX6_sizeOf) := goodIn_app (goodIn_of _ (by decide +kernel)) ggX6_joinSet_X6_sizeOf
set_option maxRecDepth 20000 in
theorem ggX6_joinSet_X6_note : GoodIn wsX6_joinSet wsX6_note := goodIn_r _ [17, 18, 19, 20, 21, 22, 23, 4, 5, 6, 7, 8, 9, 10, 11, 12, 13, 77, 78, 79, 80, 81, 82, 83, 84, 85, 86, 87, 88, 89, 90, 91, 92, 93, 94, 95, 96, 97, 98, 99, 100] (by decide +kernel) (by decide +kernel)
set_option maxRecDepth 20000 in
theorem gX6_joinSet_X6_note : GoodIn wsX6_joinSet (wsV RX6 121 RX6 yX6_note wsX6_note) := goodIn_app (goodIn_of _ (by decide +kernel)) ggX6_joinSet_X6_note
set_option maxRecDepth 20000 in
theorem ggX6_joinSet_X6_pagesOf : GoodIn wsX6_joinSet wsX6_pagesOf := goodIn_r _ [27, 3, 77, 78, 79, 80, 81, 82, 83, 84, 85, 86, 87, 88, 89, 90, 91, 92, 93, 94, 95, 96, 97, 98, 99, 100] (by decide +kernel) (by decide +kernel)
set_option maxRecDepth 20000 in
theorem gX6_joinSet_X6_pagesOf : GoodIn wsX6_joinSet (wsV RX6 66 RX6 yX6_pagesOf wsX6_pagesOf) := goodIn_app (goodIn_of _ (by decide +kernel)) ggX6_joinSet_X6_pagesOf
set_option maxRecDepth 20000 in
theorem ggX6_joinSet_X6_meet : GoodIn wsX6_joinSet wsX6_meet := goodIn_r _ [31, 4, 5, 6, 7, 8, 9, 10, 11, 12, 13, 32, 33, 34, 35, 36, 37, 38, 39, 40, 41, 42, 43, 44, 45, 46, 47, 48, 49, 50, 51, 52, 77, 78, 79, 80, 81, 82, 83, 84, 85, 86, 87, 88, 89, 90, 91, 92, 93, 94, 95, 96, 97, 98, 99, 100] (by decide +kernel) (by decide +kernel)
set_option maxRecDepth 20000 in
theorem gX6_joinSet_X6_meet : GoodIn wsX6_joinSet (wsV RX6 125 RX6 yX6_meet wsX6_meet) := goodIn_app (goodIn_of _ (by decide +kernel)) ggX6_joinSet_X6_meet
set_option maxRecDepth 20000 in
theorem ggX6_joinSet_X6_isOneKey : GoodIn wsX6_joinSet wsX6_isOneKey := goodIn_r _ [56, 32, 33, 34, 7, 35, 36, 37, 38, 39, 40, 41, 9, 10, 11, 12, 13, 4, 5, 6, 8, 77, 78, 79, 80, 81, 82, 83, 84, 85, 86, 87, 88, 89, 90, 91, 92, 93, 94, 95, 96, 97, 98, 99, 100] (by decide +kernel) (by decide +kernel)
set_option maxRecDepth 20000 in
theorem gX6_joinSet_X6_isOneKey : GoodIn wsX6_joinSet (wsV RX6 128 RX6 yX6_isOneKey wsX6_isOneKey) := goodIn_app (goodIn_of _ (by decide +kernel)) ggX6_joinSet_X6_isOneKey
set_option maxRecDepth 20000 in
theorem ggX6_joinSet_X6_divide : GoodIn wsX6_joinSet wsX6_divide := goodIn_r _ [60, 1, 13, 41, 61, 62, 63, 64, 4, 5, 6, 7, 8, 9, 10, 11, 12, 32, 33, 34, 35, 36, 37, 38, 39, 40, 65, 66, 67, 68, 69, 70, 71, 72, 73, 74, 75, 76, 24, 25, 26, 27, 3, 77, 78, 79, 80, 81, 82, 83, 84, 85, 86, 87, 88, 89, 90, 91, 92, 93, 94, 95, 96, 97, 98, 99, 100] (by decide +kernel) (by decide +kernel)
set_option maxRecDepth 20000 in
theorem gX6_joinSet_X6_divide : GoodIn wsX6_joinSet (wsV RX6 132 RX6 yX6_divide wsX6_divide) := goodIn_app (goodIn_of _ (by decide +kernel)) ggX6_joinSet_X6_divide
theorem dX6_joinSet_0 : decode cX6_joinSet 0 = .ok (.aload_n 0, 1) := by decide +kernel
theorem dX6_joinSet_1 : decode cX6_joinSet 1 = .ok (.iconst 0, 1) := by decide +kernel
theorem dX6_joinSet_2 : decode cX6_joinSet 2 = .ok (.iload_n 1, 1) := by decide +kernel
theorem dX6_joinSet_3 : decode cX6_joinSet 3 = .ok (.iload_n 2, 1) := by decide +kernel
theorem dX6_joinSet_4 : decode cX6_joinSet 4 = .ok (.invokevirtual 90, 3) := by decide +kernel
theorem dX6_joinSet_7 : decode cX6_joinSet 7 = .ok (.istore_n 3, 1) := by decide +kernel
theorem dX6_joinSet_8 : decode cX6_joinSet 8 = .ok (.aload_n 0, 1) := by decide +kernel
theorem dX6_joinSet_9 : decode cX6_joinSet 9 = .ok (.iconst 1, 1) := by decide +kernel
theorem dX6_joinSet_10 : decode cX6_joinSet 10 = .ok (.iload_n 1, 1) := by decide +kernel
theorem dX6_joinSet_11 : decode cX6_joinSet 11 = .ok (.iload_n 2, 1) := by decide +kernel
theorem dX6_joinSet_12 : decode cX6_joinSet 12 = .ok (.invokevirtual 90, 3) := by decide +kernel
theorem dX6_joinSet_15 : decode cX6_joinSet 15 = .ok (.istore 4, 2) := by decide +kernel
theorem dX6_joinSet_17 : decode cX6_joinSet 17 = .ok (.iload_n 3, 1) := by decide +kernel
theorem dX6_joinSet_18 : decode cX6_joinSet 18 = .ok (.ifCond .eq 8, 3) := by decide +kernel
theorem dX6_joinSet_21 : decode cX6_joinSet 21 = .ok (.iload 4, 2) := by decide +kernel
theorem dX6_joinSet_23 : decode cX6_joinSet 23 = .ok (.ifCond .ne 14, 3) := by decide +kernel
theorem dX6_joinSet_26 : decode cX6_joinSet 26 = .ok (.aload_n 0, 1) := by decide +kernel
theorem dX6_joinSet_27 : decode cX6_joinSet 27 = .ok (.iconst 0, 1) := by decide +kernel
theorem dX6_joinSet_28 : decode cX6_joinSet 28 = .ok (.iload_n 1, 1) := by decide +kernel
theorem dX6_joinSet_29 : decode cX6_joinSet 29 = .ok (.iload_n 2, 1) := by decide +kernel
theorem dX6_joinSet_30 : decode cX6_joinSet 30 = .ok (.iconst 0, 1) := by decide +kernel
theorem dX6_joinSet_31 : decode cX6_joinSet 31 = .ok (.iconst 0, 1) := by decide +kernel
theorem dX6_joinSet_32 : decode cX6_joinSet 32 = .ok (.invokevirtual 121, 3) := by decide +kernel
theorem dX6_joinSet_35 : decode cX6_joinSet 35 = .ok (.iconst 0, 1) := by decide +kernel
theorem dX6_joinSet_36 : decode cX6_joinSet 36 = .ok (.ireturn, 1) := by decide +kernel
theorem dX6_joinSet_37 : decode cX6_joinSet 37 = .ok (.aload_n 0, 1) := by decide +kernel
theorem dX6_joinSet_38 : decode cX6_joinSet 38 = .ok (.iload_n 3, 1) := by decide +kernel
theorem dX6_joinSet_39 : decode cX6_joinSet 39 = .ok (.invokevirtual 66, 3) := by decide +kernel
theorem dX6_joinSet_42 : decode cX6_joinSet 42 = .ok (.aload_n 0, 1) := by decide +kernel
theorem dX6_joinSet_43 : decode cX6_joinSet 43 = .ok (.iload 4, 2) := by decide +kernel
theorem dX6_joinSet_45 : decode cX6_joinSet 45 = .ok (.invokevirtual 66, 3) := by decide +kernel
theorem dX6_joinSet_48 : decode cX6_joinSet 48 = .ok (.if_icmp .gt 7, 3) := by decide +kernel
theorem dX6_joinSet_51 : decode cX6_joinSet 51 = .ok (.iconst 0, 1) := by decide +kernel
theorem dX6_joinSet_52 : decode cX6_joinSet 52 = .ok (.goto 4, 3) := by decide +kernel
theorem dX6_joinSet_55 : decode cX6_joinSet 55 = .ok (.iconst 1, 1) := by decide +kernel
theorem dX6_joinSet_56 : decode cX6_joinSet 56 = .ok (.istore 5, 2) := by decide +kernel
theorem dX6_joinSet_58 : decode cX6_joinSet 58 = .ok (.iload 5, 2) := by decide +kernel
theorem dX6_joinSet_60 : decode cX6_joinSet 60 = .ok (.ifCond .ne 7, 3) := by decide +kernel
theorem dX6_joinSet_63 : decode cX6_joinSet 63 = .ok (.iload_n 3, 1) := by decide +kernel
theorem dX6_joinSet_64 : decode cX6_joinSet 64 = .ok (.goto 5, 3) := by decide +kernel
theorem dX6_joinSet_67 : decode cX6_joinSet 67 = .ok (.iload 4, 2) := by decide +kernel
theorem dX6_joinSet_69 : decode cX6_joinSet 69 = .ok (.istore 6, 2) := by decide +kernel
theorem dX6_joinSet_71 : decode cX6_joinSet 71 = .ok (.iload 5, 2) := by decide +kernel
theorem dX6_joinSet_73 : decode cX6_joinSet 73 = .ok (.ifCond .ne 8, 3) := by decide +kernel
theorem dX6_joinSet_76 : decode cX6_joinSet 76 = .ok (.iload 4, 2) := by decide +kernel
theorem dX6_joinSet_78 : decode cX6_joinSet 78 = .ok (.goto 4, 3) := by decide +kernel
theorem dX6_joinSet_81 : decode cX6_joinSet 81 = .ok (.iload_n 3, 1) := by decide +kernel
theorem dX6_joinSet_82 : decode cX6_joinSet 82 = .ok (.istore 7, 2) := by decide +kernel
theorem dX6_joinSet_84 : decode cX6_joinSet 84 = .ok (.aload_n 0, 1) := by decide +kernel
theorem dX6_joinSet_85 : decode cX6_joinSet 85 = .ok (.iload 6, 2) := by decide +kernel
theorem dX6_joinSet_87 : decode cX6_joinSet 87 = .ok (.invokevirtual 66, 3) := by decide +kernel
theorem dX6_joinSet_90 : decode cX6_joinSet 90 = .ok (.aload_n 0, 1) := by decide +kernel
theorem dX6_joinSet_91 : decode cX6_joinSet 91 = .ok (.getfield 23, 3) := by decide +kernel
theorem dX6_joinSet_94 : decode cX6_joinSet 94 = .ok (.iconst 2, 1) := by decide +kernel
theorem dX6_joinSet_95 : decode cX6_joinSet 95 = .ok (.isub, 1) := by decide +kernel
theorem dX6_joinSet_96 : decode cX6_joinSet 96 = .ok (.if_icmp .gt 43, 3) := by decide +kernel
theorem dX6_joinSet_99 : decode cX6_joinSet 99 = .ok (.aload_n 0, 1) := by decide +kernel
theorem dX6_joinSet_100 : decode cX6_joinSet 100 = .ok (.iconst 1, 1) := by decide +kernel
theorem dX6_joinSet_101 : decode cX6_joinSet 101 = .ok (.iload_n 1, 1) := by decide +kernel
theorem dX6_joinSet_102 : decode cX6_joinSet 102 = .ok (.iload_n 2, 1) := by decide +kernel
theorem dX6_joinSet_103 : decode cX6_joinSet 103 = .ok (.aload_n 0, 1) := by decide +kernel
theorem dX6_joinSet_104 : decode cX6_joinSet 104 = .ok (.iload_n 3, 1) := by decide +kernel
theorem dX6_joinSet_105 : decode cX6_joinSet 105 = .ok (.invokevirtual 66, 3) := by decide +kernel
theorem dX6_joinSet_108 : decode cX6_joinSet 108 = .ok (.aload_n 0, 1) := by decide +kernel
theorem dX6_joinSet_109 : decode cX6_joinSet 109 = .ok (.iload 4, 2) := by decide +kernel
theorem dX6_joinSet_111 : decode cX6_joinSet 111 = .ok (.invokevirtual 66, 3) := by decide +kernel
theorem dX6_joinSet_114 : decode cX6_joinSet 114 = .ok (.iadd, 1) := by decide +kernel
theorem dX6_joinSet_115 : decode cX6_joinSet 115 = .ok (.aload_n 0, 1) := by decide +kernel
theorem dX6_joinSet_116 : decode cX6_joinSet 116 = .ok (.iload 6, 2) := by decide +kernel
theorem dX6_joinSet_118 : decode cX6_joinSet 118 = .ok (.invokevirtual 66, 3) := by decide +kernel
theorem dX6_joinSet_121 : decode cX6_joinSet 121 = .ok (.iconst 2, 1) := by decide +kernel
theorem dX6_joinSet_122 : decode cX6_joinSet 122 = .ok (.iadd, 1) := by decide +kernel
theorem dX6_joinSet_123 : decode cX6_joinSet 123 = .ok (.invokevirtual 121, 3) := by decide +kernel
theorem dX6_joinSet_126 : decode cX6_joinSet 126 = .ok (.aload_n 0, 1) := by decide +kernel
theorem dX6_joinSet_127 : decode cX6_joinSet 127 = .ok (.iload 5, 2) := by decide +kernel
theorem dX6_joinSet_129 : decode cX6_joinSet 129 = .ok (.iload_n 1, 1) := by decide +kernel
theorem dX6_joinSet_130 : decode cX6_joinSet 130 = .ok (.iload_n 2, 1) := by decide +kernel
theorem dX6_joinSet_131 : decode cX6_joinSet 131 = .ok (.iconst 0, 1) := by decide +kernel
theorem dX6_joinSet_132 : decode cX6_joinSet 132 = .ok (.iload 6, 2) := by decide +kernel
theorem dX6_joinSet_134 : decode cX6_joinSet 134 = .ok (.invokevirtual 125, 3) := by decide +kernel
theorem dX6_joinSet_137 : decode cX6_joinSet 137 = .ok (.iconst 0, 1) := by decide +kernel
theorem dX6_joinSet_138 : decode cX6_joinSet 138 = .ok (.ireturn, 1) := by decide +kernel
theorem dX6_joinSet_139 : decode cX6_joinSet 139 = .ok (.iload_n 1, 1) := by decide +kernel
theorem dX6_joinSet_140 : decode cX6_joinSet 140 = .ok (.aload_n 0, 1) := by decide +kernel
theorem dX6_joinSet_141 : decode cX6_joinSet 141 = .ok (.getfield 26, 3) := by decide +kernel
theorem dX6_joinSet_144 : decode cX6_joinSet 144 = .ok (.if_icmp .eq 12, 3) := by decide +kernel
theorem dX6_joinSet_147 : decode cX6_joinSet 147 = .ok (.aload_n 0, 1) := by decide +kernel
theorem dX6_joinSet_148 : decode cX6_joinSet 148 = .ok (.iload_n 1, 1) := by decide +kernel
theorem dX6_joinSet_149 : decode cX6_joinSet 149 = .ok (.iload_n 2, 1) := by decide +kernel
theorem dX6_joinSet_150 : decode cX6_joinSet 150 = .ok (.invokevirtual 128, 3) := by decide +kernel
theorem dX6_joinSet_153 : decode cX6_joinSet 153 = .ok (.ifCond .eq 110, 3) := by decide +kernel
theorem dX6_joinSet_156 : decode cX6_joinSet 156 = .ok (.aload_n 0, 1) := by decide +kernel
theorem dX6_joinSet_157 : decode cX6_joinSet 157 = .ok (.getfield 23, 3) := by decide +kernel
theorem dX6_joinSet_160 : decode cX6_joinSet 160 = .ok (.iconst 2, 1) := by decide +kernel
theorem dX6_joinSet_161 : decode cX6_joinSet 161 = .ok (.isub, 1) := by decide +kernel
theorem dX6_joinSet_162 : decode cX6_joinSet 162 = .ok (.aload_n 0, 1) := by decide +kernel
theorem dX6_joinSet_163 : decode cX6_joinSet 163 = .ok (.getfield 19, 3) := by decide +kernel
theorem dX6_joinSet_166 : decode cX6_joinSet 166 = .ok (.imul, 1) := by decide +kernel
theorem dX6_joinSet_167 : decode cX6_joinSet 167 = .ok (.istore 8, 2) := by decide +kernel
theorem dX6_joinSet_169 : decode cX6_joinSet 169 = .ok (.iload 6, 2) := by decide +kernel
theorem dX6_joinSet_171 : decode cX6_joinSet 171 = .ok (.iload 8, 2) := by decide +kernel
theorem dX6_joinSet_173 : decode cX6_joinSet 173 = .ok (.iadd, 1) := by decide +kernel
theorem dX6_joinSet_174 : decode cX6_joinSet 174 = .ok (.iconst 1, 1) := by decide +kernel
theorem dX6_joinSet_175 : decode cX6_joinSet 175 = .ok (.isub, 1) := by decide +kernel
theorem dX6_joinSet_176 : decode cX6_joinSet 176 = .ok (.iload 8, 2) := by decide +kernel
theorem dX6_joinSet_178 : decode cX6_joinSet 178 = .ok (.idiv, 1) := by decide +kernel
theorem dX6_joinSet_179 : decode cX6_joinSet 179 = .ok (.istore 9, 2) := by decide +kernel
theorem dX6_joinSet_181 : decode cX6_joinSet 181 = .ok (.aload_n 0, 1) := by decide +kernel
theorem dX6_joinSet_182 : decode cX6_joinSet 182 = .ok (.iconst 2, 1) := by decide +kernel
theorem dX6_joinSet_183 : decode cX6_joinSet 183 = .ok (.iload_n 1, 1) := by decide +kernel
theorem dX6_joinSet_184 : decode cX6_joinSet 184 = .ok (.iload_n 2, 1) := by decide +kernel
theorem dX6_joinSet_185 : decode cX6_joinSet 185 = .ok (.aload_n 0, 1) := by decide +kernel
theorem dX6_joinSet_186 : decode cX6_joinSet 186 = .ok (.iload 6, 2) := by decide +kernel
theorem dX6_joinSet_188 : decode cX6_joinSet 188 = .ok (.invokevirtual 66, 3) := by decide +kernel
theorem dX6_joinSet_191 : decode cX6_joinSet 191 = .ok (.iload 9, 2) := by decide +kernel
theorem dX6_joinSet_193 : decode cX6_joinSet 193 = .ok (.aload_n 0, 1) := by decide +kernel
theorem dX6_joinSet_194 : decode cX6_joinSet 194 = .ok (.iload 7, 2) := by decide +kernel
theorem dX6_joinSet_196 : decode cX6_joinSet 196 = .ok (.invokevirtual 66, 3) := by decide +kernel
theorem dX6_joinSet_199 : decode cX6_joinSet 199 = .ok (.imul, 1) := by decide +kernel
theorem dX6_joinSet_200 : decode cX6_joinSet 200 = .ok (.iadd, 1) := by decide +kernel
theorem dX6_joinSet_201 : decode cX6_joinSet 201 = .ok (.aload_n 0, 1) := by decide +kernel
theorem dX6_joinSet_202 : decode cX6_joinSet 202 = .ok (.getfield 23, 3) := by decide +kernel
theorem dX6_joinSet_205 : decode cX6_joinSet 205 = .ok (.invokevirtual 121, 3) := by decide +kernel
theorem dX6_joinSet_208 : decode cX6_joinSet 208 = .ok (.iconst 0, 1) := by decide +kernel
theorem dX6_joinSet_209 : decode cX6_joinSet 209 = .ok (.istore 10, 2) := by decide +kernel
theorem dX6_joinSet_211 : decode cX6_joinSet 211 = .ok (.iload 10, 2) := by decide +kernel
theorem dX6_joinSet_213 : decode cX6_joinSet 213 = .ok (.iload 9, 2) := by decide +kernel
theorem dX6_joinSet_215 : decode cX6_joinSet 215 = .ok (.if_icmp .ge 46, 3) := by decide +kernel
theorem dX6_joinSet_218 : decode cX6_joinSet 218 = .ok (.aload_n 0, 1) := by decide +kernel
theorem dX6_joinSet_219 : decode cX6_joinSet 219 = .ok (.iload 5, 2) := by decide +kernel
theorem dX6_joinSet_221 : decode cX6_joinSet 221 = .ok (.iload_n 1, 1) := by decide +kernel
theorem dX6_joinSet_222 : decode cX6_joinSet 222 = .ok (.iload_n 2, 1) := by decide +kernel
theorem dX6_joinSet_223 : decode cX6_joinSet 223 = .ok (.iload 10, 2) := by decide +kernel
theorem dX6_joinSet_225 : decode cX6_joinSet 225 = .ok (.iload 8, 2) := by decide +kernel
theorem dX6_joinSet_227 : decode cX6_joinSet 227 = .ok (.imul, 1) := by decide +kernel
theorem dX6_joinSet_228 : decode cX6_joinSet 228 = .ok (.iload 10, 2) := by decide +kernel
theorem dX6_joinSet_230 : decode cX6_joinSet 230 = .ok (.iconst 1, 1) := by decide +kernel
theorem dX6_joinSet_231 : decode cX6_joinSet 231 = .ok (.iadd, 1) := by decide +kernel
theorem dX6_joinSet_232 : decode cX6_joinSet 232 = .ok (.iload 8, 2) := by decide +kernel
theorem dX6_joinSet_234 : decode cX6_joinSet 234 = .ok (.imul, 1) := by decide +kernel
theorem dX6_joinSet_235 : decode cX6_joinSet 235 = .ok (.iload 6, 2) := by decide +kernel
theorem dX6_joinSet_237 : decode cX6_joinSet 237 = .ok (.if_icmp .ge 13, 3) := by decide +kernel
theorem dX6_joinSet_240 : decode cX6_joinSet 240 = .ok (.iload 10, 2) := by decide +kernel
theorem dX6_joinSet_242 : decode cX6_joinSet 242 = .ok (.iconst 1, 1) := by decide +kernel
theorem dX6_joinSet_243 : decode cX6_joinSet 243 = .ok (.iadd, 1) := by decide +kernel
theorem dX6_joinSet_244 : decode cX6_joinSet 244 = .ok (.iload 8, 2) := by decide +kernel
theorem dX6_joinSet_246 : decode cX6_joinSet 246 = .ok (.imul, 1) := by decide +kernel
theorem dX6_joinSet_247 : decode cX6_joinSet 247 = .ok (.goto 5, 3) := by decide +kernel
theorem dX6_joinSet_250 : decode cX6_joinSet 250 = .ok (.iload 6, 2) := by decide +kernel
theorem dX6_joinSet_252 : decode cX6_joinSet 252 = .ok (.invokevirtual 125, 3) := by decide +kernel
theorem dX6_joinSet_255 : decode cX6_joinSet 255 = .ok (.iinc 10 1, 3) := by decide +kernel
theorem dX6_joinSet_258 : decode cX6_joinSet 258 = .ok (.goto (-47), 3) := by decide +kernel
theorem dX6_joinSet_261 : decode cX6_joinSet 261 = .ok (.iconst 0, 1) := by decide +kernel
theorem dX6_joinSet_262 : decode cX6_joinSet 262 = .ok (.ireturn, 1) := by decide +kernel
theorem dX6_joinSet_263 : decode cX6_joinSet 263 = .ok (.aload_n 0, 1) := by decide +kernel
theorem dX6_joinSet_264 : decode cX6_joinSet 264 = .ok (.iconst 3, 1) := by decide +kernel
theorem dX6_joinSet_265 : decode cX6_joinSet 265 = .ok (.iload_n 1, 1) := by decide +kernel
theorem dX6_joinSet_266 : decode cX6_joinSet 266 = .ok (.iload_n 2, 1) := by decide +kernel
theorem dX6_joinSet_267 : decode cX6_joinSet 267 = .ok (.aload_n 0, 1) := by decide +kernel
theorem dX6_joinSet_268 : decode cX6_joinSet 268 = .ok (.iload_n 3, 1) := by decide +kernel
theorem dX6_joinSet_269 : decode cX6_joinSet 269 = .ok (.invokevirtual 66, 3) := by decide +kernel
theorem dX6_joinSet_272 : decode cX6_joinSet 272 = .ok (.aload_n 0, 1) := by decide +kernel
theorem dX6_joinSet_273 : decode cX6_joinSet 273 = .ok (.iload 4, 2) := by decide +kernel
theorem dX6_joinSet_275 : decode cX6_joinSet 275 = .ok (.invokevirtual 66, 3) := by decide +kernel
theorem dX6_joinSet_278 : decode cX6_joinSet 278 = .ok (.iadd, 1) := by decide +kernel
theorem dX6_joinSet_279 : decode cX6_joinSet 279 = .ok (.aload_n 0, 1) := by decide +kernel
theorem dX6_joinSet_280 : decode cX6_joinSet 280 = .ok (.getfield 23, 3) := by decide +kernel
theorem dX6_joinSet_283 : decode cX6_joinSet 283 = .ok (.invokevirtual 121, 3) := by decide +kernel
theorem dX6_joinSet_286 : decode cX6_joinSet 286 = .ok (.aload_n 0, 1) := by decide +kernel
theorem dX6_joinSet_287 : decode cX6_joinSet 287 = .ok (.iload_n 1, 1) := by decide +kernel
theorem dX6_joinSet_288 : decode cX6_joinSet 288 = .ok (.iload_n 2, 1) := by decide +kernel
theorem dX6_joinSet_289 : decode cX6_joinSet 289 = .ok (.invokevirtual 132, 3) := by decide +kernel
theorem dX6_joinSet_292 : decode cX6_joinSet 292 = .ok (.iconst 1, 1) := by decide +kernel
theorem dX6_joinSet_293 : decode cX6_joinSet 293 = .ok (.ireturn, 1) := by decide +kernel
theorem dX6_begin_0 : decode cX6_begin 0 = .ok (.aload_n 0, 1) := by decide +kernel
theorem dX6_begin_1 : decode cX6_begin 1 = .ok (.iconst 0, 1) := by decide +kernel
theorem dX6_begin_2 : decode cX6_begin 2 = .ok (.putfield 93, 3) := by decide +kernel
theorem dX6_begin_5 : decode cX6_begin 5 = .ok (.aload_n 0, 1) := by decide +kernel
theorem dX6_begin_6 : decode cX6_begin 6 = .ok (.iconst 0, 1) := by decide +kernel
theorem dX6_begin_7 : decode cX6_begin 7 = .ok (.putfield 103, 3) := by decide +kernel
theorem dX6_begin_10 : decode cX6_begin 10 = .ok (.aload_n 0, 1) := by decide +kernel
theorem dX6_begin_11 : decode cX6_begin 11 = .ok (.iconst 0, 1) := by decide +kernel
theorem dX6_begin_12 : decode cX6_begin 12 = .ok (.putfield 109, 3) := by decide +kernel
theorem dX6_begin_15 : decode cX6_begin 15 = .ok (.aload_n 0, 1) := by decide +kernel
theorem dX6_begin_16 : decode cX6_begin 16 = .ok (.iconst 0, 1) := by decide +kernel
theorem dX6_begin_17 : decode cX6_begin 17 = .ok (.putfield 106, 3) := by decide +kernel
theorem dX6_begin_20 : decode cX6_begin 20 = .ok (.aload_n 0, 1) := by decide +kernel
theorem dX6_begin_21 : decode cX6_begin 21 = .ok (.iconst 0, 1) := by decide +kernel
theorem dX6_begin_22 : decode cX6_begin 22 = .ok (.putfield 115, 3) := by decide +kernel
theorem dX6_begin_25 : decode cX6_begin 25 = .ok (.aload_n 0, 1) := by decide +kernel
theorem dX6_begin_26 : decode cX6_begin 26 = .ok (.iconst 0, 1) := by decide +kernel
theorem dX6_begin_27 : decode cX6_begin 27 = .ok (.putfield 118, 3) := by decide +kernel
theorem dX6_begin_30 : decode cX6_begin 30 = .ok (.aload_n 0, 1) := by decide +kernel
theorem dX6_begin_31 : decode cX6_begin 31 = .ok (.iconst (-1), 1) := by decide +kernel
theorem dX6_begin_32 : decode cX6_begin 32 = .ok (.putfield 53, 3) := by decide +kernel
theorem dX6_begin_35 : decode cX6_begin 35 = .ok (.aload_n 0, 1) := by decide +kernel
theorem dX6_begin_36 : decode cX6_begin 36 = .ok (.iconst 0, 1) := by decide +kernel
theorem dX6_begin_37 : decode cX6_begin 37 = .ok (.putfield 100, 3) := by decide +kernel
theorem dX6_begin_40 : decode cX6_begin 40 = .ok (.iconst 0, 1) := by decide +kernel
theorem dX6_begin_41 : decode cX6_begin 41 = .ok (.istore_n 1, 1) := by decide +kernel
theorem dX6_begin_42 : decode cX6_begin 42 = .ok (.iload_n 1, 1) := by decide +kernel
theorem dX6_begin_43 : decode cX6_begin 43 = .ok (.iconst 4, 1) := by decide +kernel
theorem dX6_begin_44 : decode cX6_begin 44 = .ok (.if_icmp .ge 16, 3) := by decide +kernel
theorem dX6_begin_47 : decode cX6_begin 47 = .ok (.aload_n 0, 1) := by decide +kernel
theorem dX6_begin_48 : decode cX6_begin 48 = .ok (.getfield 56, 3) := by decide +kernel
theorem dX6_begin_51 : decode cX6_begin 51 = .ok (.iload_n 1, 1) := by decide +kernel
theorem dX6_begin_52 : decode cX6_begin 52 = .ok (.iconst 0, 1) := by decide +kernel
theorem dX6_begin_53 : decode cX6_begin 53 = .ok (.iastore, 1) := by decide +kernel
theorem dX6_begin_54 : decode cX6_begin 54 = .ok (.iinc 1 1, 3) := by decide +kernel
theorem dX6_begin_57 : decode cX6_begin 57 = .ok (.goto (-15), 3) := by decide +kernel
theorem dX6_begin_60 : decode cX6_begin 60 = .ok (.iconst 0, 1) := by decide +kernel
theorem dX6_begin_61 : decode cX6_begin 61 = .ok (.istore_n 1, 1) := by decide +kernel
theorem dX6_begin_62 : decode cX6_begin 62 = .ok (.iload_n 1, 1) := by decide +kernel
theorem dX6_begin_63 : decode cX6_begin 63 = .ok (.iconst 2, 1) := by decide +kernel
theorem dX6_begin_64 : decode cX6_begin 64 = .ok (.if_icmp .ge 67, 3) := by decide +kernel
theorem dX6_begin_67 : decode cX6_begin 67 = .ok (.aload_n 0, 1) := by decide +kernel
theorem dX6_begin_68 : decode cX6_begin 68 = .ok (.getfield 32, 3) := by decide +kernel
theorem dX6_begin_71 : decode cX6_begin 71 = .ok (.bipush 21, 2) := by decide +kernel
theorem dX6_begin_73 : decode cX6_begin 73 = .ok (.iload_n 1, 1) := by decide +kernel
theorem dX6_begin_74 : decode cX6_begin 74 = .ok (.imul, 1) := by decide +kernel
theorem dX6_begin_75 : decode cX6_begin 75 = .ok (.iconst 0, 1) := by decide +kernel
theorem dX6_begin_76 : decode cX6_begin 76 = .ok (.iastore, 1) := by decide +kernel
theorem dX6_begin_77 : decode cX6_begin 77 = .ok (.aload_n 0, 1) := by decide +kernel
theorem dX6_begin_78 : decode cX6_begin 78 = .ok (.getfield 32, 3) := by decide +kernel
theorem dX6_begin_81 : decode cX6_begin 81 = .ok (.bipush 21, 2) := by decide +kernel
theorem dX6_begin_83 : decode cX6_begin 83 = .ok (.iload_n 1, 1) := by decide +kernel
theorem dX6_begin_84 : decode cX6_begin 84 = .ok (.imul, 1) := by decide +kernel
theorem dX6_begin_85 : decode cX6_begin 85 = .ok (.iconst 1, 1) := by decide +kernel
theorem dX6_begin_86 : decode cX6_begin 86 = .ok (.iadd, 1) := by decide +kernel
theorem dX6_begin_87 : decode cX6_begin 87 = .ok (.aload_n 0, 1) := by decide +kernel
theorem dX6_begin_88 : decode cX6_begin 88 = .ok (.getfield 16, 3) := by decide +kernel
theorem dX6_begin_91 : decode cX6_begin 91 = .ok (.iload_n 1, 1) := by decide +kernel
theorem dX6_begin_92 : decode cX6_begin 92 = .ok (.iaload, 1) := by decide +kernel
theorem dX6_begin_93 : decode cX6_begin 93 = .ok (.iastore, 1) := by decide +kernel
theorem dX6_begin_94 : decode cX6_begin 94 = .ok (.iconst 0, 1) := by decide +kernel
theorem dX6_begin_95 : decode cX6_begin 95 = .ok (.istore_n 2, 1) := by decide +kernel
theorem dX6_begin_96 : decode cX6_begin 96 = .ok (.iload_n 2, 1) := by decide +kernel
theorem dX6_begin_97 : decode cX6_begin 97 = .ok (.aload_n 0, 1) := by decide +kernel
theorem dX6_begin_98 : decode cX6_begin 98 = .ok (.getfield 16, 3) := by decide +kernel
theorem dX6_begin_101 : decode cX6_begin 101 = .ok (.iload_n 1, 1) := by decide +kernel
theorem dX6_begin_102 : decode cX6_begin 102 = .ok (.iaload, 1) := by decide +kernel
theorem dX6_begin_103 : decode cX6_begin 103 = .ok (.if_icmp .ge 22, 3) := by decide +kernel
theorem dX6_begin_106 : decode cX6_begin 106 = .ok (.aload_n 0, 1) := by decide +kernel
theorem dX6_begin_107 : decode cX6_begin 107 = .ok (.getfield 29, 3) := by decide +kernel
theorem dX6_begin_110 : decode cX6_begin 110 = .ok (.sipush 500, 3) := by decide +kernel
theorem dX6_begin_113 : decode cX6_begin 113 = .ok (.iload_n 1, 1) := by decide +kernel
theorem dX6_begin_114 : decode cX6_begin 114 = .ok (.imul, 1) := by decide +kernel
theorem dX6_begin_115 : decode cX6_begin 115 = .ok (.iload_n 2, 1) := by decide +kernel
theorem dX6_begin_116 : decode cX6_begin 116 = .ok (.iadd, 1) := by decide +kernel
theorem dX6_begin_117 : decode cX6_begin 117 = .ok (.iload_n 2, 1) := by decide +kernel
theorem dX6_begin_118 : decode cX6_begin 118 = .ok (.iastore, 1) := by decide +kernel
theorem dX6_begin_119 : decode cX6_begin 119 = .ok (.iinc 2 1, 3) := by decide +kernel
theorem dX6_begin_122 : decode cX6_begin 122 = .ok (.goto (-26), 3) := by decide +kernel
theorem dX6_begin_125 : decode cX6_begin 125 = .ok (.iinc 1 1, 3) := by decide +kernel
theorem dX6_begin_128 : decode cX6_begin 128 = .ok (.goto (-66), 3) := by decide +kernel
theorem dX6_begin_131 : decode cX6_begin 131 = .ok (.return_, 1) := by decide +kernel
set_option maxRecDepth 20000 in
theorem ggX6_join_X6_begin : GoodIn wsX6_join wsX6_begin := goodIn_r _ [9, 4, 10, 11, 12, 3, 13, 14, 15, 16, 17, 18, 19, 86, 87, 88, 89, 90, 91, 92, 93, 94, 95, 96, 97, 98, 99, 100, 101, 102, 103, 104, 105, 106, 107, 108, 109] (by decide +kernel) (by decide +kernel)
set_option maxRecDepth 20000 in
theorem gX6_join_X6_begin : GoodIn wsX6_join (wsV RX6 135 RX6 yX6_begin wsX6_begin) := goodIn_app (goodIn_of _ (by decide +kernel)) ggX6_join_X6_begin
set_option maxRecDepth 20000 in
theorem ggX6_join_X6_joinSet : GoodIn wsX6_join wsX6_joinSet := goodIn_r _ [23, 2, 24, 25, 26, 27, 28, 8, 29, 30, 31, 32, 33, 17, 34, 35, 36, 37, 15, 38, 16, 10, 12, 14, 39, 40, 41, 42, 43, 44, 45, 46, 47, 48, 49, 50, 51, 52, 53, 54, 55, 19, 56, 57, 58, 59, 4, 60, 61, 62, 63, 64, 65, 66, 67, 68, 69, 70, 71, 72, 73, 11, 3, 13, 1, 74, 75, 76, 77, 78, 79, 80, 81, 82, 83, 84, 85, 86, 87, 88, 89, 90, 91, 92, 93, 94, 95, 96, 97, 98, 99, 100, 101, 102, 103, 104, 105, 106, 107, 108, 109] (by decide +kernel) (by decide +kernel)
set_option maxRecDepth 20000 in
theorem gX6_join_X6_joinSet : GoodIn wsX6_join (wsV RX6 138 RX6 yX6_joinSet wsX6_joinSet) := goodIn_app (goodIn_of _ (by decide +kernel)) ggX6_join_X6_joinSet
set_option maxRecDepth 20000 in
theorem ggX6_join_X6_pagesAt : GoodIn wsX6_join wsX6_pagesAt := goodIn_r _ [85, 26, 27, 28, 8, 29, 30, 31, 32, 33, 17, 39, 40, 41, 42, 25, 86, 87, 88, 89, 90, 91, 92, 93, 94, 95, 96, 97, 98, 99, 100, 101, 102, 103, 104, 105, 106, 107, 108, 109] (by decide +kernel) (by decide +kernel)
set_option maxRecDepth 20000 in
theorem gX6_join_X6_pagesAt : GoodIn wsX6_join (wsV RX6 112 RX6 yX6_pagesAt wsX6_pagesAt) := goodIn_app (goodIn_of _ (by decide +kernel)) ggX6_join_X6_pagesAt
theorem dX6_join_0 : decode cX6_join 0 = .ok (.aload_n 0, 1) := by decide +kernel
theorem dX6_join_1 : decode cX6_join 1 = .ok (.invokevirtual 135, 3) := by decide +kernel
theorem dX6_join_4 : decode cX6_join 4 = .ok (.aload_n 0, 1) := by decide +kernel
theorem dX6_join_5 : decode cX6_join 5 = .ok (.iconst 0, 1) := by decide +kernel
theorem dX6_join_6 : decode cX6_join 6 = .ok (.iconst 0, 1) := by decide +kernel
theorem dX6_join_7 : decode cX6_join 7 = .ok (.invokevirtual 138, 3) := by decide +kernel
theorem dX6_join_10 : decode cX6_join 10 = .ok (.ifCond .eq 7, 3) := by decide +kernel
theorem dX6_join_13 : decode cX6_join 13 = .ok (.iconst 1, 1) := by decide +kernel
theorem dX6_join_14 : decode cX6_join 14 = .ok (.goto 4, 3) := by decide +kernel
theorem dX6_join_17 : decode cX6_join 17 = .ok (.iconst 0, 1) := by decide +kernel
theorem dX6_join_18 : decode cX6_join 18 = .ok (.istore_n 1, 1) := by decide +kernel
theorem dX6_join_19 : decode cX6_join 19 = .ok (.iload_n 1, 1) := by decide +kernel
theorem dX6_join_20 : decode cX6_join 20 = .ok (.ifCond .le 107, 3) := by decide +kernel
theorem dX6_join_23 : decode cX6_join 23 = .ok (.aload_n 0, 1) := by decide +kernel
theorem dX6_join_24 : decode cX6_join 24 = .ok (.getfield 35, 3) := by decide +kernel
theorem dX6_join_27 : decode cX6_join 27 = .ok (.iload_n 1, 1) := by decide +kernel
theorem dX6_join_28 : decode cX6_join 28 = .ok (.iaload, 1) := by decide +kernel
theorem dX6_join_29 : decode cX6_join 29 = .ok (.aload_n 0, 1) := by decide +kernel
theorem dX6_join_30 : decode cX6_join 30 = .ok (.getfield 23, 3) := by decide +kernel
theorem dX6_join_33 : decode cX6_join 33 = .ok (.iconst 1, 1) := by decide +kernel
theorem dX6_join_34 : decode cX6_join 34 = .ok (.isub, 1) := by decide +kernel
theorem dX6_join_35 : decode cX6_join 35 = .ok (.if_icmp .ne 42, 3) := by decide +kernel
theorem dX6_join_38 : decode cX6_join 38 = .ok (.iinc 1 (-1), 3) := by decide +kernel
theorem dX6_join_41 : decode cX6_join 41 = .ok (.aload_n 0, 1) := by decide +kernel
theorem dX6_join_42 : decode cX6_join 42 = .ok (.iload_n 1, 1) := by decide +kernel
theorem dX6_join_43 : decode cX6_join 43 = .ok (.ifCond .le 24, 3) := by decide +kernel
theorem dX6_join_46 : decode cX6_join 46 = .ok (.aload_n 0, 1) := by decide +kernel
theorem dX6_join_47 : decode cX6_join 47 = .ok (.getfield 115, 3) := by decide +kernel
theorem dX6_join_50 : decode cX6_join 50 = .ok (.aload_n 0, 1) := by decide +kernel
theorem dX6_join_51 : decode cX6_join 51 = .ok (.iload_n 1, 1) := by decide +kernel
theorem dX6_join_52 : decode cX6_join 52 = .ok (.aload_n 0, 1) := by decide +kernel
theorem dX6_join_53 : decode cX6_join 53 = .ok (.getfield 35, 3) := by decide +kernel
theorem dX6_join_56 : decode cX6_join 56 = .ok (.iload_n 1, 1) := by decide +kernel
theorem dX6_join_57 : decode cX6_join 57 = .ok (.iaload, 1) := by decide +kernel
theorem dX6_join_58 : decode cX6_join 58 = .ok (.iconst 1, 1) := by decide +kernel
theorem dX6_join_59 : decode cX6_join 59 = .ok (.isub, 1) := by decide +kernel
theorem dX6_join_60 : decode cX6_join 60 = .ok (.invokevirtual 112, 3) := by decide +kernel
theorem dX6_join_63 : decode cX6_join 63 = .ok (.isub, 1) := by decide +kernel
theorem dX6_join_64 : decode cX6_join 64 = .ok (.goto 7, 3) := by decide +kernel
theorem dX6_join_67 : decode cX6_join 67 = .ok (.aload_n 0, 1) := by decide +kernel
theorem dX6_join_68 : decode cX6_join 68 = .ok (.getfield 115, 3) := by decide +kernel
theorem dX6_join_71 : decode cX6_join 71 = .ok (.putfield 115, 3) := by decide +kernel
theorem dX6_join_74 : decode cX6_join 74 = .ok (.goto (-55), 3) := by decide +kernel
theorem dX6_join_77 : decode cX6_join 77 = .ok (.aload_n 0, 1) := by decide +kernel
theorem dX6_join_78 : decode cX6_join 78 = .ok (.getfield 35, 3) := by decide +kernel
theorem dX6_join_81 : decode cX6_join 81 = .ok (.iload_n 1, 1) := by decide +kernel
theorem dX6_join_82 : decode cX6_join 82 = .ok (.iaload, 1) := by decide +kernel
theorem dX6_join_83 : decode cX6_join 83 = .ok (.istore_n 2, 1) := by decide +kernel
theorem dX6_join_84 : decode cX6_join 84 = .ok (.aload_n 0, 1) := by decide +kernel
theorem dX6_join_85 : decode cX6_join 85 = .ok (.getfield 35, 3) := by decide +kernel
theorem dX6_join_88 : decode cX6_join 88 = .ok (.iload_n 1, 1) := by decide +kernel
theorem dX6_join_89 : decode cX6_join 89 = .ok (.dup2, 1) := by decide +kernel
theorem dX6_join_90 : decode cX6_join 90 = .ok (.iaload, 1) := by decide +kernel
theorem dX6_join_91 : decode cX6_join 91 = .ok (.iconst 1, 1) := by decide +kernel
theorem dX6_join_92 : decode cX6_join 92 = .ok (.iadd, 1) := by decide +kernel
theorem dX6_join_93 : decode cX6_join 93 = .ok (.iastore, 1) := by decide +kernel
theorem dX6_join_94 : decode cX6_join 94 = .ok (.aload_n 0, 1) := by decide +kernel
theorem dX6_join_95 : decode cX6_join 95 = .ok (.iload_n 1, 1) := by decide +kernel
theorem dX6_join_96 : decode cX6_join 96 = .ok (.iload_n 2, 1) := by decide +kernel
theorem dX6_join_97 : decode cX6_join 97 = .ok (.invokevirtual 138, 3) := by decide +kernel
theorem dX6_join_100 : decode cX6_join 100 = .ok (.ifCond .eq 9, 3) := by decide +kernel
theorem dX6_join_103 : decode cX6_join 103 = .ok (.iinc 1 1, 3) := by decide +kernel
theorem dX6_join_106 : decode cX6_join 106 = .ok (.goto 18, 3) := by decide +kernel
theorem dX6_join_109 : decode cX6_join 109 = .ok (.aload_n 0, 1) := by decide +kernel
theorem dX6_join_110 : decode cX6_join 110 = .ok (.aload_n 0, 1) := by decide +kernel
theorem dX6_join_111 : decode cX6_join 111 = .ok (.getfield 115, 3) := by decide +kernel
theorem dX6_join_114 : decode cX6_join 114 = .ok (.aload_n 0, 1) := by decide +kernel
theorem dX6_join_115 : decode cX6_join 115 = .ok (.iload_n 1, 1) := by decide +kernel
theorem dX6_join_116 : decode cX6_join 116 = .ok (.iload_n 2, 1) := by decide +kernel
theorem dX6_join_117 : decode cX6_join 117 = .ok (.invokevirtual 112, 3) := by decide +kernel
theorem dX6_join_120 : decode cX6_join 120 = .ok (.isub, 1) := by decide +kernel
theorem dX6_join_121 : decode cX6_join 121 = .ok (.putfield 115, 3) := by decide +kernel
theorem dX6_join_124 : decode cX6_join 124 = .ok (.goto (-105), 3) := by decide +kernel
theorem dX6_join_127 : decode cX6_join 127 = .ok (.aload_n 0, 1) := by decide +kernel
theorem dX6_join_128 : decode cX6_join 128 = .ok (.getfield 93, 3) := by decide +kernel
theorem dX6_join_131 : decode cX6_join 131 = .ok (.sipush 4000, 3) := by decide +kernel
theorem dX6_join_134 : decode cX6_join 134 = .ok (.if_icmp .le 8, 3) := by decide +kernel
theorem dX6_join_137 : decode cX6_join 137 = .ok (.bipush (-2), 2) := by decide +kernel
theorem dX6_join_139 : decode cX6_join 139 = .ok (.goto 7, 3) := by decide +kernel
theorem dX6_join_142 : decode cX6_join 142 = .ok (.aload_n 0, 1) := by decide +kernel
theorem dX6_join_143 : decode cX6_join 143 = .ok (.getfield 93, 3) := by decide +kernel
theorem dX6_join_146 : decode cX6_join 146 = .ok (.ireturn, 1) := by decide +kernel
theorem dX6_pair_0 : decode cX6_pair 0 = .ok (.iload_n 1, 1) := by decide +kernel
theorem dX6_pair_1 : decode cX6_pair 1 = .ok (.ifCond .lt 21, 3) := by decide +kernel
theorem dX6_pair_4 : decode cX6_pair 4 = .ok (.iload_n 1, 1) := by decide +kernel
theorem dX6_pair_5 : decode cX6_pair 5 = .ok (.aload_n 0, 1) := by decide +kernel
theorem dX6_pair_6 : decode cX6_pair 6 = .ok (.getfield 93, 3) := by decide +kernel
theorem dX6_pair_9 : decode cX6_pair 9 = .ok (.if_icmp .ge 13, 3) := by decide +kernel
theorem dX6_pair_12 : decode cX6_pair 12 = .ok (.aload_n 0, 1) := by decide +kernel
theorem dX6_pair_13 : decode cX6_pair 13 = .ok (.getfield 93, 3) := by decide +kernel
theorem dX6_pair_16 : decode cX6_pair 16 = .ok (.sipush 4000, 3) := by decide +kernel
theorem dX6_pair_19 : decode cX6_pair 19 = .ok (.if_icmp .le 5, 3) := by decide +kernel
theorem dX6_pair_22 : decode cX6_pair 22 = .ok (.iconst (-1), 1) := by decide +kernel
theorem dX6_pair_23 : decode cX6_pair 23 = .ok (.ireturn, 1) := by decide +kernel
theorem dX6_pair_24 : decode cX6_pair 24 = .ok (.iload_n 2, 1) := by decide +kernel
theorem dX6_pair_25 : decode cX6_pair 25 = .ok (.tableswitch 70 0 4 #[35, 42, 49, 56, 63], 35) := by decide +kernel
theorem dX6_pair_60 : decode cX6_pair 60 = .ok (.aload_n 0, 1) := by decide +kernel
theorem dX6_pair_61 : decode cX6_pair 61 = .ok (.getfield 38, 3) := by decide +kernel
theorem dX6_pair_64 : decode cX6_pair 64 = .ok (.iload_n 1, 1) := by decide +kernel
theorem dX6_pair_65 : decode cX6_pair 65 = .ok (.iaload, 1) := by decide +kernel
theorem dX6_pair_66 : decode cX6_pair 66 = .ok (.ireturn, 1) := by decide +kernel
theorem dX6_pair_67 : decode cX6_pair 67 = .ok (.aload_n 0, 1) := by decide +kernel
theorem dX6_pair_68 : decode cX6_pair 68 = .ok (.getfield 41, 3) := by decide +kernel
theorem dX6_pair_71 : decode cX6_pair 71 = .ok (.iload_n 1, 1) := by decide +kernel
theorem dX6_pair_72 : decode cX6_pair 72 = .ok (.iaload, 1) := by decide +kernel
theorem dX6_pair_73 : decode cX6_pair 73 = .ok (.ireturn, 1) := by decide +kernel
theorem dX6_pair_74 : decode cX6_pair 74 = .ok (.aload_n 0, 1) := by decide +kernel
theorem dX6_pair_75 : decode cX6_pair 75 = .ok (.getfield 44, 3) := by decide +kernel
theorem dX6_pair_78 : decode cX6_pair 78 = .ok (.iload_n 1, 1) := by decide +kernel
theorem dX6_pair_79 : decode cX6_pair 79 = .ok (.iaload, 1) := by decide +kernel
theorem dX6_pair_80 : decode cX6_pair 80 = .ok (.ireturn, 1) := by decide +kernel
theorem dX6_pair_81 : decode cX6_pair 81 = .ok (.aload_n 0, 1) := by decide +kernel
theorem dX6_pair_82 : decode cX6_pair 82 = .ok (.getfield 47, 3) := by decide +kernel
theorem dX6_pair_85 : decode cX6_pair 85 = .ok (.iload_n 1, 1) := by decide +kernel
theorem dX6_pair_86 : decode cX6_pair 86 = .ok (.iaload, 1) := by decide +kernel
theorem dX6_pair_87 : decode cX6_pair 87 = .ok (.ireturn, 1) := by decide +kernel
theorem dX6_pair_88 : decode cX6_pair 88 = .ok (.aload_n 0, 1) := by decide +kernel
theorem dX6_pair_89 : decode cX6_pair 89 = .ok (.getfield 50, 3) := by decide +kernel
theorem dX6_pair_92 : decode cX6_pair 92 = .ok (.iload_n 1, 1) := by decide +kernel
theorem dX6_pair_93 : decode cX6_pair 93 = .ok (.iaload, 1) := by decide +kernel
theorem dX6_pair_94 : decode cX6_pair 94 = .ok (.ireturn, 1) := by decide +kernel
theorem dX6_pair_95 : decode cX6_pair 95 = .ok (.iconst (-1), 1) := by decide +kernel
theorem dX6_pair_96 : decode cX6_pair 96 = .ok (.ireturn, 1) := by decide +kernel
theorem dX6_told_0 : decode cX6_told 0 = .ok (.iload_n 1, 1) := by decide +kernel
theorem dX6_told_1 : decode cX6_told 1 = .ok (.tableswitch 104 0 10 #[59, 64, 69, 74, 79, 84, 89, 89, 89, 89, 99], 59) := by decide +kernel
theorem dX6_told_60 : decode cX6_told 60 = .ok (.aload_n 0, 1) := by decide +kernel
theorem dX6_told_61 : decode cX6_told 61 = .ok (.getfield 103, 3) := by decide +kernel
theorem dX6_told_64 : decode cX6_told 64 = .ok (.ireturn, 1) := by decide +kernel
theorem dX6_told_65 : decode cX6_told 65 = .ok (.aload_n 0, 1) := by decide +kernel
theorem dX6_told_66 : decode cX6_told 66 = .ok (.getfield 109, 3) := by decide +kernel
theorem dX6_told_69 : decode cX6_told 69 = .ok (.ireturn, 1) := by decide +kernel
theorem dX6_told_70 : decode cX6_told 70 = .ok (.aload_n 0, 1) := by decide +kernel
theorem dX6_told_71 : decode cX6_told 71 = .ok (.getfield 106, 3) := by decide +kernel
theorem dX6_told_74 : decode cX6_told 74 = .ok (.ireturn, 1) := by decide +kernel
theorem dX6_told_75 : decode cX6_told 75 = .ok (.aload_n 0, 1) := by decide +kernel
theorem dX6_told_76 : decode cX6_told 76 = .ok (.getfield 118, 3) := by decide +kernel
theorem dX6_told_79 : decode cX6_told 79 = .ok (.ireturn, 1) := by decide +kernel
theorem dX6_told_80 : decode cX6_told 80 = .ok (.aload_n 0, 1) := by decide +kernel
theorem dX6_told_81 : decode cX6_told 81 = .ok (.getfield 53, 3) := by decide +kernel
theorem dX6_told_84 : decode cX6_told 84 = .ok (.ireturn, 1) := by decide +kernel
theorem dX6_told_85 : decode cX6_told 85 = .ok (.aload_n 0, 1) := by decide +kernel
theorem dX6_told_86 : decode cX6_told 86 = .ok (.getfield 100, 3) := by decide +kernel
theorem dX6_told_89 : decode cX6_told 89 = .ok (.ireturn, 1) := by decide +kernel
theorem dX6_told_90 : decode cX6_told 90 = .ok (.aload_n 0, 1) := by decide +kernel
theorem dX6_told_91 : decode cX6_told 91 = .ok (.getfield 56, 3) := by decide +kernel
theorem dX6_told_94 : decode cX6_told 94 = .ok (.iload_n 1, 1) := by decide +kernel
theorem dX6_told_95 : decode cX6_told 95 = .ok (.bipush 6, 2) := by decide +kernel
theorem dX6_told_97 : decode cX6_told 97 = .ok (.isub, 1) := by decide +kernel
theorem dX6_told_98 : decode cX6_told 98 = .ok (.iaload, 1) := by decide +kernel
theorem dX6_told_99 : decode cX6_told 99 = .ok (.ireturn, 1) := by decide +kernel
theorem dX6_told_100 : decode cX6_told 100 = .ok (.aload_n 0, 1) := by decide +kernel
theorem dX6_told_101 : decode cX6_told 101 = .ok (.getfield 93, 3) := by decide +kernel
theorem dX6_told_104 : decode cX6_told 104 = .ok (.ireturn, 1) := by decide +kernel
theorem dX6_told_105 : decode cX6_told 105 = .ok (.iconst (-1), 1) := by decide +kernel
theorem dX6_told_106 : decode cX6_told 106 = .ok (.ireturn, 1) := by decide +kernel
theorem dX6_event_0 : decode cX6_event 0 = .ok (.iload_n 1, 1) := by decide +kernel
theorem dX6_event_1 : decode cX6_event 1 = .ok (.ifCond .lt 27, 3) := by decide +kernel
theorem dX6_event_4 : decode cX6_event 4 = .ok (.iload_n 1, 1) := by decide +kernel
theorem dX6_event_5 : decode cX6_event 5 = .ok (.aload_n 0, 1) := by decide +kernel
theorem dX6_event_6 : decode cX6_event 6 = .ok (.getfield 100, 3) := by decide +kernel
theorem dX6_event_9 : decode cX6_event 9 = .ok (.if_icmp .ge 19, 3) := by decide +kernel
theorem dX6_event_12 : decode cX6_event 12 = .ok (.iload_n 1, 1) := by decide +kernel
theorem dX6_event_13 : decode cX6_event 13 = .ok (.sipush 300, 3) := by decide +kernel
theorem dX6_event_16 : decode cX6_event 16 = .ok (.if_icmp .ge 12, 3) := by decide +kernel
theorem dX6_event_19 : decode cX6_event 19 = .ok (.iload_n 2, 1) := by decide +kernel
theorem dX6_event_20 : decode cX6_event 20 = .ok (.ifCond .lt 8, 3) := by decide +kernel
theorem dX6_event_23 : decode cX6_event 23 = .ok (.iload_n 2, 1) := by decide +kernel
theorem dX6_event_24 : decode cX6_event 24 = .ok (.iconst 4, 1) := by decide +kernel
theorem dX6_event_25 : decode cX6_event 25 = .ok (.if_icmp .le 7, 3) := by decide +kernel
theorem dX6_event_28 : decode cX6_event 28 = .ok (.iconst (-1), 1) := by decide +kernel
theorem dX6_event_29 : decode cX6_event 29 = .ok (.goto 13, 3) := by decide +kernel
theorem dX6_event_32 : decode cX6_event 32 = .ok (.aload_n 0, 1) := by decide +kernel
theorem dX6_event_33 : decode cX6_event 33 = .ok (.getfield 59, 3) := by decide +kernel
theorem dX6_event_36 : decode cX6_event 36 = .ok (.iconst 5, 1) := by decide +kernel
theorem dX6_event_37 : decode cX6_event 37 = .ok (.iload_n 1, 1) := by decide +kernel
theorem dX6_event_38 : decode cX6_event 38 = .ok (.imul, 1) := by decide +kernel
theorem dX6_event_39 : decode cX6_event 39 = .ok (.iload_n 2, 1) := by decide +kernel
theorem dX6_event_40 : decode cX6_event 40 = .ok (.iadd, 1) := by decide +kernel
theorem dX6_event_41 : decode cX6_event 41 = .ok (.iaload, 1) := by decide +kernel
theorem dX6_event_42 : decode cX6_event 42 = .ok (.ireturn, 1) := by decide +kernel
