set_option maxRecDepth 20000 in
theorem ggX0_init_X2_init : GoodIn wsX0_init wsX2_init := goodIn_r _ [13, 14, 2, 3, 15, 16, 17, 18, 19, 20, 21, 22, 23, 28, 29, 30, 31, 32, 33, 34, 35] (by decide +kernel) (by decide +kernel)
set_option maxRecDepth 20000 in
theorem gX0_init_X2_init : GoodIn wsX0_init (wsX2_init) := ggX0_init_X2_init
theorem dX0_init_0 : decode cX0_init 0 = .ok (.aload_n 0, 1) := by decide +kernel
theorem dX0_init_1 : decode cX0_init 1 = .ok (.invokespecial 3, 3) := by decide +kernel
theorem dX0_init_4 : decode cX0_init 4 = .ok (.aload_n 0, 1) := by decide +kernel
theorem dX0_init_5 : decode cX0_init 5 = .ok (.aload_n 1, 1) := by decide +kernel
theorem dX0_init_6 : decode cX0_init 6 = .ok (.putfield 9, 3) := by decide +kernel
theorem dX0_init_9 : decode cX0_init 9 = .ok (.aload_n 0, 1) := by decide +kernel
theorem dX0_init_10 : decode cX0_init 10 = .ok (.aload_n 2, 1) := by decide +kernel
theorem dX0_init_11 : decode cX0_init 11 = .ok (.putfield 15, 3) := by decide +kernel
theorem dX0_init_14 : decode cX0_init 14 = .ok (.aload_n 0, 1) := by decide +kernel
theorem dX0_init_15 : decode cX0_init 15 = .ok (.new 19, 3) := by decide +kernel
theorem dX0_init_18 : decode cX0_init 18 = .ok (.dup, 1) := by decide +kernel
theorem dX0_init_19 : decode cX0_init 19 = .ok (.aload_n 1, 1) := by decide +kernel
theorem dX0_init_20 : decode cX0_init 20 = .ok (.iconst 1, 1) := by decide +kernel
theorem dX0_init_21 : decode cX0_init 21 = .ok (.invokespecial 21, 3) := by decide +kernel
theorem dX0_init_24 : decode cX0_init 24 = .ok (.putfield 24, 3) := by decide +kernel
theorem dX0_init_27 : decode cX0_init 27 = .ok (.aload_n 0, 1) := by decide +kernel
theorem dX0_init_28 : decode cX0_init 28 = .ok (.new 19, 3) := by decide +kernel
theorem dX0_init_31 : decode cX0_init 31 = .ok (.dup, 1) := by decide +kernel
theorem dX0_init_32 : decode cX0_init 32 = .ok (.aload_n 1, 1) := by decide +kernel
theorem dX0_init_33 : decode cX0_init 33 = .ok (.iconst 0, 1) := by decide +kernel
theorem dX0_init_34 : decode cX0_init 34 = .ok (.invokespecial 21, 3) := by decide +kernel
theorem dX0_init_37 : decode cX0_init 37 = .ok (.putfield 28, 3) := by decide +kernel
theorem dX0_init_40 : decode cX0_init 40 = .ok (.return_, 1) := by decide +kernel
set_option maxRecDepth 20000 in
theorem ggX0_joinTables_X2_copyOf : GoodIn wsX0_joinTables wsX2_copyOf := goodIn_r _ [8, 9, 10, 11, 12, 13, 14, 15, 16, 161, 162, 163, 153, 154, 155, 156, 157, 158, 159, 160] (by decide +kernel) (by decide +kernel)
set_option maxRecDepth 20000 in
theorem gX0_joinTables_X2_copyOf : GoodIn wsX0_joinTables (wsV RX0 31 RX2 yX2_copyOf wsX2_copyOf) := goodIn_app (goodIn_of _ (by decide +kernel)) ggX0_joinTables_X2_copyOf
set_option maxRecDepth 20000 in
theorem ggX0_joinTables_X1_beginAnew : GoodIn wsX0_joinTables wsX1_beginAnew := goodIn_r _ [21, 22, 23, 24, 25, 26, 27, 164, 165, 166, 167] (by decide +kernel) (by decide +kernel)
set_option maxRecDepth 20000 in
theorem gX0_joinTables_X1_beginAnew : GoodIn wsX0_joinTables (wsV RX0 35 RX1 yX1_beginAnew wsX1_beginAnew) := goodIn_app (goodIn_of _ (by decide +kernel)) ggX0_joinTables_X1_beginAnew
set_option maxRecDepth 20000 in
theorem ggX0_joinTables_X0_joinRows : GoodIn wsX0_joinTables wsX0_joinRows := goodIn_r _ [32, 3, 33, 34, 35, 31, 36, 37, 38, 39, 40, 41, 1, 2, 42, 43, 44, 45, 46, 47, 48, 49, 50, 51, 52, 53, 54, 55, 56, 57, 58, 7, 59, 9, 10, 16, 60, 61, 62, 63, 64, 65, 66, 67, 20, 68, 22, 69, 70, 71, 72, 73, 74, 75, 76, 77, 78, 79, 80, 81, 82, 83, 84, 85, 86, 87, 88, 89, 90, 91, 92, 93, 94, 95, 96, 97, 98, 99, 100, 101, 102, 103, 104, 105, 106, 107, 108, 109, 110, 111, 112, 113, 114, 115, 116, 117, 118, 119, 120, 121, 122, 123, 124, 125, 126, 127, 128, 129, 130, 131, 132, 133, 134, 135, 136, 137, 138, 139, 23, 140, 141, 142, 143, 144, 28, 29, 30, 145, 146, 147, 148, 149, 150, 151, 152, 168, 164, 165, 166, 167, 153, 154, 155, 156, 157, 158, 159, 160] (by decide +kernel) (by decide +kernel)
set_option maxRecDepth 20000 in
theorem gX0_joinTables_X0_joinRows : GoodIn wsX0_joinTables (wsV RX0 44 RX0 yX0_joinRows wsX0_joinRows) := goodIn_app (goodIn_of _ (by decide +kernel)) ggX0_joinTables_X0_joinRows
theorem dX0_joinTables_0 : decode cX0_joinTables 0 = .ok (.aload_n 0, 1) := by decide +kernel
theorem dX0_joinTables_1 : decode cX0_joinTables 1 = .ok (.getfield 24, 3) := by decide +kernel
theorem dX0_joinTables_4 : decode cX0_joinTables 4 = .ok (.aload_n 1, 1) := by decide +kernel
theorem dX0_joinTables_5 : decode cX0_joinTables 5 = .ok (.invokevirtual 31, 3) := by decide +kernel
theorem dX0_joinTables_8 : decode cX0_joinTables 8 = .ok (.aload_n 0, 1) := by decide +kernel
theorem dX0_joinTables_9 : decode cX0_joinTables 9 = .ok (.getfield 28, 3) := by decide +kernel
theorem dX0_joinTables_12 : decode cX0_joinTables 12 = .ok (.aload_n 2, 1) := by decide +kernel
theorem dX0_joinTables_13 : decode cX0_joinTables 13 = .ok (.invokevirtual 31, 3) := by decide +kernel
theorem dX0_joinTables_16 : decode cX0_joinTables 16 = .ok (.aload_n 0, 1) := by decide +kernel
theorem dX0_joinTables_17 : decode cX0_joinTables 17 = .ok (.getfield 15, 3) := by decide +kernel
theorem dX0_joinTables_20 : decode cX0_joinTables 20 = .ok (.invokevirtual 35, 3) := by decide +kernel
theorem dX0_joinTables_23 : decode cX0_joinTables 23 = .ok (.aload_n 0, 1) := by decide +kernel
theorem dX0_joinTables_24 : decode cX0_joinTables 24 = .ok (.iconst 0, 1) := by decide +kernel
theorem dX0_joinTables_25 : decode cX0_joinTables 25 = .ok (.aload_n 0, 1) := by decide +kernel
theorem dX0_joinTables_26 : decode cX0_joinTables 26 = .ok (.getfield 24, 3) := by decide +kernel
theorem dX0_joinTables_29 : decode cX0_joinTables 29 = .ok (.getfield 40, 3) := by decide +kernel
theorem dX0_joinTables_32 : decode cX0_joinTables 32 = .ok (.iconst 0, 1) := by decide +kernel
theorem dX0_joinTables_33 : decode cX0_joinTables 33 = .ok (.aload_n 0, 1) := by decide +kernel
theorem dX0_joinTables_34 : decode cX0_joinTables 34 = .ok (.getfield 28, 3) := by decide +kernel
theorem dX0_joinTables_37 : decode cX0_joinTables 37 = .ok (.getfield 40, 3) := by decide +kernel
theorem dX0_joinTables_40 : decode cX0_joinTables 40 = .ok (.iconst 0, 1) := by decide +kernel
theorem dX0_joinTables_41 : decode cX0_joinTables 41 = .ok (.invokevirtual 44, 3) := by decide +kernel
theorem dX0_joinTables_44 : decode cX0_joinTables 44 = .ok (.return_, 1) := by decide +kernel
set_option maxRecDepth 20000 in
theorem ggX0_joinRows_X0_kindOf : GoodIn wsX0_joinRows wsX0_kindOf := goodIn_r _ [6, 7, 8, 9, 10, 11, 12, 13, 14, 15, 16, 17, 18, 19, 20, 21, 22, 23, 24, 25, 26, 27, 28, 29, 30, 31, 32, 33, 34, 35, 36, 37, 38, 39, 40, 131, 132, 133, 134, 135, 140, 141, 142, 143, 144, 145, 146, 147] (by decide +kernel) (by decide +kernel)
set_option maxRecDepth 20000 in
theorem gX0_joinRows_X0_kindOf : GoodIn wsX0_joinRows (wsV RX0 48 RX0 yX0_kindOf wsX0_kindOf) := goodIn_app (goodIn_of _ (by decide +kernel)) ggX0_joinRows_X0_kindOf
set_option maxRecDepth 20000 in
theorem ggX0_joinRows_X1_addEvent : GoodIn wsX0_joinRows wsX1_addEvent := goodIn_r _ [45, 46, 47, 48, 49, 9, 50, 136, 137, 138, 139] (by decide +kernel) (by decide +kernel)
set_option maxRecDepth 20000 in
theorem gX0_joinRows_X1_addEvent : GoodIn wsX0_joinRows (wsV RX0 52 RX1 yX1_addEvent wsX1_addEvent) := goodIn_app (goodIn_of _ (by decide +kernel)) ggX0_joinRows_X1_addEvent
set_option maxRecDepth 20000 in
theorem ggX0_joinRows_X0_joinParts : GoodIn wsX0_joinRows wsX0_joinParts := goodIn_r _ [85, 11, 1, 12, 13, 14, 15, 16, 17, 18, 19, 41, 42, 43, 44, 45, 46, 47, 48, 49, 9, 50, 86, 87, 88, 89, 58, 59, 60, 61, 90, 91, 92, 31, 93, 33, 94, 95, 35, 96, 40, 29, 30, 32, 34, 97, 98, 99, 100, 101, 102, 103, 104, 105, 106, 107, 108, 109, 110, 111, 112, 113, 114, 115, 116, 117, 118, 119, 120, 121, 122, 123, 124, 125, 126, 5, 127, 128, 129, 130, 0, 2, 3, 4, 6, 7, 8, 10, 20, 21, 22, 23, 24, 25, 26, 27, 28, 36, 37, 38, 39, 51, 52, 53, 54, 55, 56, 57, 62, 63, 64, 65, 66, 67, 68, 69, 70, 71, 72, 73, 74, 75, 76, 77, 78, 79, 80, 81, 82, 83, 84, 131, 132, 133, 134, 135, 136, 137, 138, 139, 140, 141, 142, 143, 144, 145, 146, 147] (by decide +kernel) (by decide +kernel)
set_option maxRecDepth 20000 in
theorem gX0_joinRows_X0_joinParts : GoodIn wsX0_joinRows (wsV RX0 55 RX0 yX0_joinParts wsX0_joinParts) := goodIn_app (goodIn_of _ (by decide +kernel)) ggX0_joinRows_X0_joinParts
set_option maxRecDepth 20000 in
theorem ggX0_joinRows_X0_joinBlocks : GoodIn wsX0_joinRows wsX0_joinBlocks := goodIn_r _ [57, 11, 1, 7, 8, 9, 10, 12, 13, 14, 15, 16, 17, 18, 19, 20, 21, 22, 23, 58, 59, 60, 44, 61, 46, 48, 49, 50, 62, 63, 64, 5, 65, 66, 67, 68, 69, 70, 71, 72, 73, 74, 75, 28, 29, 30, 31, 32, 33, 34, 35, 76, 77, 78, 79, 80, 81, 82, 83, 84, 131, 132, 133, 134, 135, 136, 137, 138, 139, 140, 141, 142, 143, 144, 145, 146, 147] (by decide +kernel) (by decide +kernel)
set_option maxRecDepth 20000 in
theorem gX0_joinRows_X0_joinBlocks : GoodIn wsX0_joinRows (wsV RX0 58 RX0 yX0_joinBlocks wsX0_joinBlocks) := goodIn_app (goodIn_of _ (by decide +kernel)) ggX0_joinRows_X0_joinBlocks
theorem dX0_joinRows_0 : decode cX0_joinRows 0 = .ok (.aload_n 0, 1) := by decide +kernel
theorem dX0_joinRows_1 : decode cX0_joinRows 1 = .ok (.iload_n 1, 1) := by decide +kernel
theorem dX0_joinRows_2 : decode cX0_joinRows 2 = .ok (.iload_n 2, 1) := by decide +kernel
theorem dX0_joinRows_3 : decode cX0_joinRows 3 = .ok (.iload_n 3, 1) := by decide +kernel
theorem dX0_joinRows_4 : decode cX0_joinRows 4 = .ok (.iload 4, 2) := by decide +kernel
theorem dX0_joinRows_6 : decode cX0_joinRows 6 = .ok (.iload 5, 2) := by decide +kernel
theorem dX0_joinRows_8 : decode cX0_joinRows 8 = .ok (.invokevirtual 48, 3) := by decide +kernel
theorem dX0_joinRows_11 : decode cX0_joinRows 11 = .ok (.istore 6, 2) := by decide +kernel
theorem dX0_joinRows_13 : decode cX0_joinRows 13 = .ok (.iload 6, 2) := by decide +kernel
theorem dX0_joinRows_15 : decode cX0_joinRows 15 = .ok (.ifCond .ne 25, 3) := by decide +kernel
theorem dX0_joinRows_18 : decode cX0_joinRows 18 = .ok (.aload_n 0, 1) := by decide +kernel
theorem dX0_joinRows_19 : decode cX0_joinRows 19 = .ok (.getfield 15, 3) := by decide +kernel
theorem dX0_joinRows_22 : decode cX0_joinRows 22 = .ok (.iload 6, 2) := by decide +kernel
theorem dX0_joinRows_24 : decode cX0_joinRows 24 = .ok (.iload 5, 2) := by decide +kernel
theorem dX0_joinRows_26 : decode cX0_joinRows 26 = .ok (.iload_n 2, 1) := by decide +kernel
theorem dX0_joinRows_27 : decode cX0_joinRows 27 = .ok (.iload_n 1, 1) := by decide +kernel
theorem dX0_joinRows_28 : decode cX0_joinRows 28 = .ok (.isub, 1) := by decide +kernel
theorem dX0_joinRows_29 : decode cX0_joinRows 29 = .ok (.iload 4, 2) := by decide +kernel
theorem dX0_joinRows_31 : decode cX0_joinRows 31 = .ok (.iload_n 3, 1) := by decide +kernel
theorem dX0_joinRows_32 : decode cX0_joinRows 32 = .ok (.isub, 1) := by decide +kernel
theorem dX0_joinRows_33 : decode cX0_joinRows 33 = .ok (.iconst 0, 1) := by decide +kernel
theorem dX0_joinRows_34 : decode cX0_joinRows 34 = .ok (.invokevirtual 52, 3) := by decide +kernel
theorem dX0_joinRows_37 : decode cX0_joinRows 37 = .ok (.goto 54, 3) := by decide +kernel
theorem dX0_joinRows_40 : decode cX0_joinRows 40 = .ok (.iload 6, 2) := by decide +kernel
theorem dX0_joinRows_42 : decode cX0_joinRows 42 = .ok (.iconst 3, 1) := by decide +kernel
theorem dX0_joinRows_43 : decode cX0_joinRows 43 = .ok (.if_icmp .ne 17, 3) := by decide +kernel
theorem dX0_joinRows_46 : decode cX0_joinRows 46 = .ok (.aload_n 0, 1) := by decide +kernel
theorem dX0_joinRows_47 : decode cX0_joinRows 47 = .ok (.iload_n 1, 1) := by decide +kernel
theorem dX0_joinRows_48 : decode cX0_joinRows 48 = .ok (.iload_n 2, 1) := by decide +kernel
theorem dX0_joinRows_49 : decode cX0_joinRows 49 = .ok (.iload_n 3, 1) := by decide +kernel
theorem dX0_joinRows_50 : decode cX0_joinRows 50 = .ok (.iload 4, 2) := by decide +kernel
theorem dX0_joinRows_52 : decode cX0_joinRows 52 = .ok (.iload 5, 2) := by decide +kernel
theorem dX0_joinRows_54 : decode cX0_joinRows 54 = .ok (.invokevirtual 55, 3) := by decide +kernel
theorem dX0_joinRows_57 : decode cX0_joinRows 57 = .ok (.goto 34, 3) := by decide +kernel
theorem dX0_joinRows_60 : decode cX0_joinRows 60 = .ok (.aload_n 0, 1) := by decide +kernel
theorem dX0_joinRows_61 : decode cX0_joinRows 61 = .ok (.iload_n 1, 1) := by decide +kernel
theorem dX0_joinRows_62 : decode cX0_joinRows 62 = .ok (.iload_n 2, 1) := by decide +kernel
theorem dX0_joinRows_63 : decode cX0_joinRows 63 = .ok (.iload_n 3, 1) := by decide +kernel
theorem dX0_joinRows_64 : decode cX0_joinRows 64 = .ok (.iload 4, 2) := by decide +kernel
theorem dX0_joinRows_66 : decode cX0_joinRows 66 = .ok (.invokevirtual 58, 3) := by decide +kernel
theorem dX0_joinRows_69 : decode cX0_joinRows 69 = .ok (.istore 7, 2) := by decide +kernel
theorem dX0_joinRows_71 : decode cX0_joinRows 71 = .ok (.aload_n 0, 1) := by decide +kernel
theorem dX0_joinRows_72 : decode cX0_joinRows 72 = .ok (.getfield 15, 3) := by decide +kernel
theorem dX0_joinRows_75 : decode cX0_joinRows 75 = .ok (.iload 6, 2) := by decide +kernel
theorem dX0_joinRows_77 : decode cX0_joinRows 77 = .ok (.iload 5, 2) := by decide +kernel
theorem dX0_joinRows_79 : decode cX0_joinRows 79 = .ok (.iload_n 2, 1) := by decide +kernel
theorem dX0_joinRows_80 : decode cX0_joinRows 80 = .ok (.iload_n 1, 1) := by decide +kernel
theorem dX0_joinRows_81 : decode cX0_joinRows 81 = .ok (.isub, 1) := by decide +kernel
theorem dX0_joinRows_82 : decode cX0_joinRows 82 = .ok (.iload 4, 2) := by decide +kernel
theorem dX0_joinRows_84 : decode cX0_joinRows 84 = .ok (.iload_n 3, 1) := by decide +kernel
theorem dX0_joinRows_85 : decode cX0_joinRows 85 = .ok (.isub, 1) := by decide +kernel
theorem dX0_joinRows_86 : decode cX0_joinRows 86 = .ok (.iload 7, 2) := by decide +kernel
theorem dX0_joinRows_88 : decode cX0_joinRows 88 = .ok (.invokevirtual 52, 3) := by decide +kernel
theorem dX0_joinRows_91 : decode cX0_joinRows 91 = .ok (.return_, 1) := by decide +kernel
set_option maxRecDepth 20000 in
theorem ggX0_kindOf_X3_pagesFor : GoodIn wsX0_kindOf wsX3_pagesFor := goodIn_r _ [12, 13, 39] (by decide +kernel) (by decide +kernel)
set_option maxRecDepth 20000 in
theorem gX0_kindOf_X3_pagesFor : GoodIn wsX0_kindOf (wsV RX0 68 RX3 yX3_pagesFor wsX3_pagesFor) := goodIn_app (goodIn_of _ (by decide +kernel)) ggX0_kindOf_X3_pagesFor
set_option maxRecDepth 20000 in
theorem ggX0_kindOf_X3_blockPages : GoodIn wsX0_kindOf wsX3_blockPages := goodIn_r _ [17, 13, 39] (by decide +kernel) (by decide +kernel)
set_option maxRecDepth 20000 in
theorem gX0_kindOf_X3_blockPages : GoodIn wsX0_kindOf (wsV RX0 74 RX3 yX3_blockPages wsX3_blockPages) := goodIn_app (goodIn_of _ (by decide +kernel)) ggX0_kindOf_X3_blockPages
set_option maxRecDepth 20000 in
theorem ggX0_kindOf_X3_partings : GoodIn wsX0_kindOf wsX3_partings := goodIn_r _ [21, 13, 39] (by decide +kernel) (by decide +kernel)
set_option maxRecDepth 20000 in
theorem gX0_kindOf_X3_partings : GoodIn wsX0_kindOf (wsV RX0 78 RX3 yX3_partings wsX3_partings) := goodIn_app (goodIn_of _ (by decide +kernel)) ggX0_kindOf_X3_partings
set_option maxRecDepth 20000 in
theorem ggX0_kindOf_X2_keyAt : GoodIn wsX0_kindOf wsX2_keyAt := goodIn_r _ [26, 27, 28, 29, 40, 41, 42, 43, 44, 45, 46, 47] (by decide +kernel) (by decide +kernel)
set_option maxRecDepth 20000 in
theorem gX0_kindOf_X2_keyAt : GoodIn wsX0_kindOf (wsV RX0 81 RX2 yX2_keyAt wsX2_keyAt) := goodIn_app (goodIn_of _ (by decide +kernel)) ggX0_kindOf_X2_keyAt
set_option maxRecDepth 20000 in
theorem ggX0_kindOf_X2_hasOnlyKey : GoodIn wsX0_kindOf wsX2_hasOnlyKey := goodIn_r _ [33, 34, 23, 24, 25, 26, 27, 28, 29, 40, 41, 42, 43, 44, 45, 46, 47] (by decide +kernel) (by decide +kernel)
set_option maxRecDepth 20000 in
theorem gX0_kindOf_X2_hasOnlyKey : GoodIn wsX0_kindOf (wsV RX0 84 RX2 yX2_hasOnlyKey wsX2_hasOnlyKey) := goodIn_app (goodIn_of _ (by decide +kernel)) ggX0_kindOf_X2_hasOnlyKey
theorem dX0_kindOf_0 : decode cX0_kindOf 0 = .ok (.iload_n 2, 1) := by decide +kernel
theorem dX0_kindOf_1 : decode cX0_kindOf 1 = .ok (.iload_n 1, 1) := by decide +kernel
theorem dX0_kindOf_2 : decode cX0_kindOf 2 = .ok (.isub, 1) := by decide +kernel
theorem dX0_kindOf_3 : decode cX0_kindOf 3 = .ok (.iload 4, 2) := by decide +kernel
theorem dX0_kindOf_5 : decode cX0_kindOf 5 = .ok (.iload_n 3, 1) := by decide +kernel
theorem dX0_kindOf_6 : decode cX0_kindOf 6 = .ok (.isub, 1) := by decide +kernel
theorem dX0_kindOf_7 : decode cX0_kindOf 7 = .ok (.invokestatic 62, 3) := by decide +kernel
theorem dX0_kindOf_10 : decode cX0_kindOf 10 = .ok (.istore 6, 2) := by decide +kernel
theorem dX0_kindOf_12 : decode cX0_kindOf 12 = .ok (.iload 6, 2) := by decide +kernel
theorem dX0_kindOf_14 : decode cX0_kindOf 14 = .ok (.ifCond .gt 5, 3) := by decide +kernel
theorem dX0_kindOf_17 : decode cX0_kindOf 17 = .ok (.iconst 0, 1) := by decide +kernel
theorem dX0_kindOf_18 : decode cX0_kindOf 18 = .ok (.ireturn, 1) := by decide +kernel
theorem dX0_kindOf_19 : decode cX0_kindOf 19 = .ok (.aload_n 0, 1) := by decide +kernel
theorem dX0_kindOf_20 : decode cX0_kindOf 20 = .ok (.getfield 9, 3) := by decide +kernel
theorem dX0_kindOf_23 : decode cX0_kindOf 23 = .ok (.iload 6, 2) := by decide +kernel
theorem dX0_kindOf_25 : decode cX0_kindOf 25 = .ok (.invokevirtual 68, 3) := by decide +kernel
theorem dX0_kindOf_28 : decode cX0_kindOf 28 = .ok (.aload_n 0, 1) := by decide +kernel
theorem dX0_kindOf_29 : decode cX0_kindOf 29 = .ok (.getfield 9, 3) := by decide +kernel
theorem dX0_kindOf_32 : decode cX0_kindOf 32 = .ok (.invokevirtual 74, 3) := by decide +kernel
theorem dX0_kindOf_35 : decode cX0_kindOf 35 = .ok (.if_icmp .gt 5, 3) := by decide +kernel
theorem dX0_kindOf_38 : decode cX0_kindOf 38 = .ok (.iconst 1, 1) := by decide +kernel
theorem dX0_kindOf_39 : decode cX0_kindOf 39 = .ok (.ireturn, 1) := by decide +kernel
theorem dX0_kindOf_40 : decode cX0_kindOf 40 = .ok (.iload 5, 2) := by decide +kernel
theorem dX0_kindOf_42 : decode cX0_kindOf 42 = .ok (.aload_n 0, 1) := by decide +kernel
theorem dX0_kindOf_43 : decode cX0_kindOf 43 = .ok (.getfield 9, 3) := by decide +kernel
theorem dX0_kindOf_46 : decode cX0_kindOf 46 = .ok (.invokevirtual 78, 3) := by decide +kernel
theorem dX0_kindOf_49 : decode cX0_kindOf 49 = .ok (.if_icmp .lt 5, 3) := by decide +kernel
theorem dX0_kindOf_52 : decode cX0_kindOf 52 = .ok (.iconst 2, 1) := by decide +kernel
theorem dX0_kindOf_53 : decode cX0_kindOf 53 = .ok (.ireturn, 1) := by decide +kernel
theorem dX0_kindOf_54 : decode cX0_kindOf 54 = .ok (.aload_n 0, 1) := by decide +kernel
theorem dX0_kindOf_55 : decode cX0_kindOf 55 = .ok (.getfield 24, 3) := by decide +kernel
theorem dX0_kindOf_58 : decode cX0_kindOf 58 = .ok (.iload_n 1, 1) := by decide +kernel
theorem dX0_kindOf_59 : decode cX0_kindOf 59 = .ok (.invokevirtual 81, 3) := by decide +kernel
theorem dX0_kindOf_62 : decode cX0_kindOf 62 = .ok (.istore 7, 2) := by decide +kernel
theorem dX0_kindOf_64 : decode cX0_kindOf 64 = .ok (.aload_n 0, 1) := by decide +kernel
theorem dX0_kindOf_65 : decode cX0_kindOf 65 = .ok (.getfield 24, 3) := by decide +kernel
theorem dX0_kindOf_68 : decode cX0_kindOf 68 = .ok (.iload 7, 2) := by decide +kernel
theorem dX0_kindOf_70 : decode cX0_kindOf 70 = .ok (.iload_n 1, 1) := by decide +kernel
theorem dX0_kindOf_71 : decode cX0_kindOf 71 = .ok (.iload_n 2, 1) := by decide +kernel
theorem dX0_kindOf_72 : decode cX0_kindOf 72 = .ok (.invokevirtual 84, 3) := by decide +kernel
theorem dX0_kindOf_75 : decode cX0_kindOf 75 = .ok (.ifCond .eq 22, 3) := by decide +kernel
theorem dX0_kindOf_78 : decode cX0_kindOf 78 = .ok (.aload_n 0, 1) := by decide +kernel
theorem dX0_kindOf_79 : decode cX0_kindOf 79 = .ok (.getfield 28, 3) := by decide +kernel
theorem dX0_kindOf_82 : decode cX0_kindOf 82 = .ok (.iload 7, 2) := by decide +kernel
theorem dX0_kindOf_84 : decode cX0_kindOf 84 = .ok (.iload_n 3, 1) := by decide +kernel
theorem dX0_kindOf_85 : decode cX0_kindOf 85 = .ok (.iload 4, 2) := by decide +kernel
theorem dX0_kindOf_87 : decode cX0_kindOf 87 = .ok (.invokevirtual 84, 3) := by decide +kernel
theorem dX0_kindOf_90 : decode cX0_kindOf 90 = .ok (.ifCond .eq 7, 3) := by decide +kernel
theorem dX0_kindOf_93 : decode cX0_kindOf 93 = .ok (.iconst 1, 1) := by decide +kernel
theorem dX0_kindOf_94 : decode cX0_kindOf 94 = .ok (.goto 4, 3) := by decide +kernel
theorem dX0_kindOf_97 : decode cX0_kindOf 97 = .ok (.iconst 0, 1) := by decide +kernel
theorem dX0_kindOf_98 : decode cX0_kindOf 98 = .ok (.istore 8, 2) := by decide +kernel
theorem dX0_kindOf_100 : decode cX0_kindOf 100 = .ok (.iload 8, 2) := by decide +kernel
theorem dX0_kindOf_102 : decode cX0_kindOf 102 = .ok (.ifCond .eq 7, 3) := by decide +kernel
theorem dX0_kindOf_105 : decode cX0_kindOf 105 = .ok (.iconst 2, 1) := by decide +kernel
theorem dX0_kindOf_106 : decode cX0_kindOf 106 = .ok (.goto 4, 3) := by decide +kernel
theorem dX0_kindOf_109 : decode cX0_kindOf 109 = .ok (.iconst 3, 1) := by decide +kernel
theorem dX0_kindOf_110 : decode cX0_kindOf 110 = .ok (.ireturn, 1) := by decide +kernel
set_option maxRecDepth 20000 in
theorem ggX0_joinBlocks_X3_pagesFor : GoodIn wsX0_joinBlocks wsX3_pagesFor := goodIn_r _ [13, 14, 64] (by decide +kernel) (by decide +kernel)
set_option maxRecDepth 20000 in
theorem gX0_joinBlocks_X3_pagesFor : GoodIn wsX0_joinBlocks (wsV RX0 68 RX3 yX3_pagesFor wsX3_pagesFor) := goodIn_app (goodIn_of _ (by decide +kernel)) ggX0_joinBlocks_X3_pagesFor
set_option maxRecDepth 20000 in
theorem ggX0_joinBlocks_X3_blockPages : GoodIn wsX0_joinBlocks wsX3_blockPages := goodIn_r _ [18, 14, 64] (by decide +kernel) (by decide +kernel)
set_option maxRecDepth 20000 in
theorem gX0_joinBlocks_X3_blockPages : GoodIn wsX0_joinBlocks (wsV RX0 74 RX3 yX3_blockPages wsX3_blockPages) := goodIn_app (goodIn_of _ (by decide +kernel)) ggX0_joinBlocks_X3_blockPages
set_option maxRecDepth 20000 in
theorem ggX0_joinBlocks_X1_takeMemory : GoodIn wsX0_joinBlocks wsX1_takeMemory := goodIn_r _ [23, 24, 25, 26, 5, 27, 65, 66, 67, 68] (by decide +kernel) (by decide +kernel)
set_option maxRecDepth 20000 in
theorem gX0_joinBlocks_X1_takeMemory : GoodIn wsX0_joinBlocks (wsV RX0 88 RX1 yX1_takeMemory wsX1_takeMemory) := goodIn_app (goodIn_of _ (by decide +kernel)) ggX0_joinBlocks_X1_takeMemory
set_option maxRecDepth 20000 in
theorem ggX0_joinBlocks_X0_passBlocks : GoodIn wsX0_joinBlocks wsX0_passBlocks := goodIn_r _ [32, 1, 33, 26, 5, 27, 3, 4, 6, 34, 35, 36, 12, 37, 14, 38, 16, 17, 18, 39, 40, 41, 31, 42, 2, 43, 44, 45, 46, 47, 48, 49, 50, 51, 52, 53, 54, 55, 56, 57, 22, 58, 24, 59, 60, 61, 62, 63, 64, 69, 70, 71, 72, 73, 74, 75, 76, 65, 66, 67, 68] (by decide +kernel) (by decide +kernel)
set_option maxRecDepth 20000 in
theorem gX0_joinBlocks_X0_passBlocks : GoodIn wsX0_joinBlocks (wsV RX0 92 RX0 yX0_passBlocks wsX0_passBlocks) := goodIn_app (goodIn_of _ (by decide +kernel)) ggX0_joinBlocks_X0_passBlocks
theorem dX0_joinBlocks_0 : decode cX0_joinBlocks 0 = .ok (.aload_n 0, 1) := by decide +kernel
theorem dX0_joinBlocks_1 : decode cX0_joinBlocks 1 = .ok (.getfield 9, 3) := by decide +kernel
theorem dX0_joinBlocks_4 : decode cX0_joinBlocks 4 = .ok (.iload_n 2, 1) := by decide +kernel
theorem dX0_joinBlocks_5 : decode cX0_joinBlocks 5 = .ok (.iload_n 1, 1) := by decide +kernel
theorem dX0_joinBlocks_6 : decode cX0_joinBlocks 6 = .ok (.isub, 1) := by decide +kernel
theorem dX0_joinBlocks_7 : decode cX0_joinBlocks 7 = .ok (.invokevirtual 68, 3) := by decide +kernel
theorem dX0_joinBlocks_10 : decode cX0_joinBlocks 10 = .ok (.istore 5, 2) := by decide +kernel
theorem dX0_joinBlocks_12 : decode cX0_joinBlocks 12 = .ok (.aload_n 0, 1) := by decide +kernel
theorem dX0_joinBlocks_13 : decode cX0_joinBlocks 13 = .ok (.getfield 9, 3) := by decide +kernel
theorem dX0_joinBlocks_16 : decode cX0_joinBlocks 16 = .ok (.iload 4, 2) := by decide +kernel
theorem dX0_joinBlocks_18 : decode cX0_joinBlocks 18 = .ok (.iload_n 3, 1) := by decide +kernel
theorem dX0_joinBlocks_19 : decode cX0_joinBlocks 19 = .ok (.isub, 1) := by decide +kernel
theorem dX0_joinBlocks_20 : decode cX0_joinBlocks 20 = .ok (.invokevirtual 68, 3) := by decide +kernel
theorem dX0_joinBlocks_23 : decode cX0_joinBlocks 23 = .ok (.istore 6, 2) := by decide +kernel
theorem dX0_joinBlocks_25 : decode cX0_joinBlocks 25 = .ok (.aload_n 0, 1) := by decide +kernel
theorem dX0_joinBlocks_26 : decode cX0_joinBlocks 26 = .ok (.getfield 15, 3) := by decide +kernel
theorem dX0_joinBlocks_29 : decode cX0_joinBlocks 29 = .ok (.aload_n 0, 1) := by decide +kernel
theorem dX0_joinBlocks_30 : decode cX0_joinBlocks 30 = .ok (.getfield 9, 3) := by decide +kernel
theorem dX0_joinBlocks_33 : decode cX0_joinBlocks 33 = .ok (.invokevirtual 74, 3) := by decide +kernel
theorem dX0_joinBlocks_36 : decode cX0_joinBlocks 36 = .ok (.iload 5, 2) := by decide +kernel
theorem dX0_joinBlocks_38 : decode cX0_joinBlocks 38 = .ok (.iload 6, 2) := by decide +kernel
theorem dX0_joinBlocks_40 : decode cX0_joinBlocks 40 = .ok (.invokestatic 62, 3) := by decide +kernel
theorem dX0_joinBlocks_43 : decode cX0_joinBlocks 43 = .ok (.invokestatic 62, 3) := by decide +kernel
theorem dX0_joinBlocks_46 : decode cX0_joinBlocks 46 = .ok (.iconst 2, 1) := by decide +kernel
theorem dX0_joinBlocks_47 : decode cX0_joinBlocks 47 = .ok (.iadd, 1) := by decide +kernel
theorem dX0_joinBlocks_48 : decode cX0_joinBlocks 48 = .ok (.invokevirtual 88, 3) := by decide +kernel
theorem dX0_joinBlocks_51 : decode cX0_joinBlocks 51 = .ok (.iload 5, 2) := by decide +kernel
theorem dX0_joinBlocks_53 : decode cX0_joinBlocks 53 = .ok (.iload 6, 2) := by decide +kernel
theorem dX0_joinBlocks_55 : decode cX0_joinBlocks 55 = .ok (.if_icmp .gt 31, 3) := by decide +kernel
theorem dX0_joinBlocks_58 : decode cX0_joinBlocks 58 = .ok (.aload_n 0, 1) := by decide +kernel
theorem dX0_joinBlocks_59 : decode cX0_joinBlocks 59 = .ok (.aload_n 0, 1) := by decide +kernel
theorem dX0_joinBlocks_60 : decode cX0_joinBlocks 60 = .ok (.getfield 24, 3) := by decide +kernel
theorem dX0_joinBlocks_63 : decode cX0_joinBlocks 63 = .ok (.iload_n 1, 1) := by decide +kernel
theorem dX0_joinBlocks_64 : decode cX0_joinBlocks 64 = .ok (.iload_n 2, 1) := by decide +kernel
theorem dX0_joinBlocks_65 : decode cX0_joinBlocks 65 = .ok (.aload_n 0, 1) := by decide +kernel
theorem dX0_joinBlocks_66 : decode cX0_joinBlocks 66 = .ok (.getfield 28, 3) := by decide +kernel
theorem dX0_joinBlocks_69 : decode cX0_joinBlocks 69 = .ok (.iload_n 3, 1) := by decide +kernel
theorem dX0_joinBlocks_70 : decode cX0_joinBlocks 70 = .ok (.iload 4, 2) := by decide +kernel
theorem dX0_joinBlocks_72 : decode cX0_joinBlocks 72 = .ok (.invokevirtual 92, 3) := by decide +kernel
theorem dX0_joinBlocks_75 : decode cX0_joinBlocks 75 = .ok (.istore 7, 2) := by decide +kernel
theorem dX0_joinBlocks_77 : decode cX0_joinBlocks 77 = .ok (.iload 5, 2) := by decide +kernel
theorem dX0_joinBlocks_79 : decode cX0_joinBlocks 79 = .ok (.iload 7, 2) := by decide +kernel
theorem dX0_joinBlocks_81 : decode cX0_joinBlocks 81 = .ok (.iload 6, 2) := by decide +kernel
theorem dX0_joinBlocks_83 : decode cX0_joinBlocks 83 = .ok (.imul, 1) := by decide +kernel
theorem dX0_joinBlocks_84 : decode cX0_joinBlocks 84 = .ok (.iadd, 1) := by decide +kernel
theorem dX0_joinBlocks_85 : decode cX0_joinBlocks 85 = .ok (.ireturn, 1) := by decide +kernel
theorem dX0_joinBlocks_86 : decode cX0_joinBlocks 86 = .ok (.aload_n 0, 1) := by decide +kernel
theorem dX0_joinBlocks_87 : decode cX0_joinBlocks 87 = .ok (.aload_n 0, 1) := by decide +kernel
theorem dX0_joinBlocks_88 : decode cX0_joinBlocks 88 = .ok (.getfield 28, 3) := by decide +kernel
theorem dX0_joinBlocks_91 : decode cX0_joinBlocks 91 = .ok (.iload_n 3, 1) := by decide +kernel
theorem dX0_joinBlocks_92 : decode cX0_joinBlocks 92 = .ok (.iload 4, 2) := by decide +kernel
theorem dX0_joinBlocks_94 : decode cX0_joinBlocks 94 = .ok (.aload_n 0, 1) := by decide +kernel
theorem dX0_joinBlocks_95 : decode cX0_joinBlocks 95 = .ok (.getfield 24, 3) := by decide +kernel
theorem dX0_joinBlocks_98 : decode cX0_joinBlocks 98 = .ok (.iload_n 1, 1) := by decide +kernel
theorem dX0_joinBlocks_99 : decode cX0_joinBlocks 99 = .ok (.iload_n 2, 1) := by decide +kernel
theorem dX0_joinBlocks_100 : decode cX0_joinBlocks 100 = .ok (.invokevirtual 92, 3) := by decide +kernel
theorem dX0_joinBlocks_103 : decode cX0_joinBlocks 103 = .ok (.istore 7, 2) := by decide +kernel
theorem dX0_joinBlocks_105 : decode cX0_joinBlocks 105 = .ok (.iload 6, 2) := by decide +kernel
theorem dX0_joinBlocks_107 : decode cX0_joinBlocks 107 = .ok (.iload 7, 2) := by decide +kernel
theorem dX0_joinBlocks_109 : decode cX0_joinBlocks 109 = .ok (.iload 5, 2) := by decide +kernel
theorem dX0_joinBlocks_111 : decode cX0_joinBlocks 111 = .ok (.imul, 1) := by decide +kernel
theorem dX0_joinBlocks_112 : decode cX0_joinBlocks 112 = .ok (.iadd, 1) := by decide +kernel
theorem dX0_joinBlocks_113 : decode cX0_joinBlocks 113 = .ok (.ireturn, 1) := by decide +kernel
set_option maxRecDepth 20000 in
theorem ggX0_passBlocks_X3_blockRows : GoodIn wsX0_passBlocks wsX3_blockRows := goodIn_r _ [13, 14, 15, 16, 17, 12, 18, 48] (by decide +kernel) (by decide +kernel)
set_option maxRecDepth 20000 in
theorem gX0_passBlocks_X3_blockRows : GoodIn wsX0_passBlocks (wsV RX0 96 RX3 yX3_blockRows wsX3_blockRows) := goodIn_app (goodIn_of _ (by decide +kernel)) ggX0_passBlocks_X3_blockRows
set_option maxRecDepth 20000 in
theorem ggX0_passBlocks_X0_matchRows : GoodIn wsX0_passBlocks wsX0_matchRows := goodIn_r _ [23, 24, 25, 26, 27, 28, 29, 30, 31, 32, 33, 34, 35, 36, 37, 38, 39, 40, 41, 42, 43, 49, 50, 51, 52, 53, 54, 55, 56, 44, 45, 46, 47, 57, 58, 59, 60] (by decide +kernel) (by decide +kernel)
set_option maxRecDepth 20000 in
theorem gX0_passBlocks_X0_matchRows : GoodIn wsX0_passBlocks (wsV RX0 102 RX0 yX0_matchRows wsX0_matchRows) := goodIn_app (goodIn_of _ (by decide +kernel)) ggX0_passBlocks_X0_matchRows
theorem dX0_passBlocks_0 : decode cX0_passBlocks 0 = .ok (.iconst 1, 1) := by decide +kernel
theorem dX0_passBlocks_1 : decode cX0_passBlocks 1 = .ok (.aload_n 0, 1) := by decide +kernel
theorem dX0_passBlocks_2 : decode cX0_passBlocks 2 = .ok (.getfield 9, 3) := by decide +kernel
theorem dX0_passBlocks_5 : decode cX0_passBlocks 5 = .ok (.invokevirtual 96, 3) := by decide +kernel
theorem dX0_passBlocks_8 : decode cX0_passBlocks 8 = .ok (.invokestatic 99, 3) := by decide +kernel
theorem dX0_passBlocks_11 : decode cX0_passBlocks 11 = .ok (.istore 7, 2) := by decide +kernel
theorem dX0_passBlocks_13 : decode cX0_passBlocks 13 = .ok (.iconst 0, 1) := by decide +kernel
theorem dX0_passBlocks_14 : decode cX0_passBlocks 14 = .ok (.istore 8, 2) := by decide +kernel
theorem dX0_passBlocks_16 : decode cX0_passBlocks 16 = .ok (.iload_n 2, 1) := by decide +kernel
theorem dX0_passBlocks_17 : decode cX0_passBlocks 17 = .ok (.istore 9, 2) := by decide +kernel
theorem dX0_passBlocks_19 : decode cX0_passBlocks 19 = .ok (.iload 9, 2) := by decide +kernel
theorem dX0_passBlocks_21 : decode cX0_passBlocks 21 = .ok (.iload_n 3, 1) := by decide +kernel
theorem dX0_passBlocks_22 : decode cX0_passBlocks 22 = .ok (.if_icmp .ge 38, 3) := by decide +kernel
theorem dX0_passBlocks_25 : decode cX0_passBlocks 25 = .ok (.aload_n 0, 1) := by decide +kernel
theorem dX0_passBlocks_26 : decode cX0_passBlocks 26 = .ok (.aload_n 1, 1) := by decide +kernel
theorem dX0_passBlocks_27 : decode cX0_passBlocks 27 = .ok (.iload 9, 2) := by decide +kernel
theorem dX0_passBlocks_29 : decode cX0_passBlocks 29 = .ok (.iload 9, 2) := by decide +kernel
theorem dX0_passBlocks_31 : decode cX0_passBlocks 31 = .ok (.iload 7, 2) := by decide +kernel
theorem dX0_passBlocks_33 : decode cX0_passBlocks 33 = .ok (.iadd, 1) := by decide +kernel
theorem dX0_passBlocks_34 : decode cX0_passBlocks 34 = .ok (.iload_n 3, 1) := by decide +kernel
theorem dX0_passBlocks_35 : decode cX0_passBlocks 35 = .ok (.invokestatic 62, 3) := by decide +kernel
theorem dX0_passBlocks_38 : decode cX0_passBlocks 38 = .ok (.aload 4, 2) := by decide +kernel
theorem dX0_passBlocks_40 : decode cX0_passBlocks 40 = .ok (.iload 5, 2) := by decide +kernel
theorem dX0_passBlocks_42 : decode cX0_passBlocks 42 = .ok (.iload 6, 2) := by decide +kernel
theorem dX0_passBlocks_44 : decode cX0_passBlocks 44 = .ok (.invokevirtual 102, 3) := by decide +kernel
theorem dX0_passBlocks_47 : decode cX0_passBlocks 47 = .ok (.iinc 8 1, 3) := by decide +kernel
theorem dX0_passBlocks_50 : decode cX0_passBlocks 50 = .ok (.iload 9, 2) := by decide +kernel
theorem dX0_passBlocks_52 : decode cX0_passBlocks 52 = .ok (.iload 7, 2) := by decide +kernel
theorem dX0_passBlocks_54 : decode cX0_passBlocks 54 = .ok (.iadd, 1) := by decide +kernel
theorem dX0_passBlocks_55 : decode cX0_passBlocks 55 = .ok (.istore 9, 2) := by decide +kernel
theorem dX0_passBlocks_57 : decode cX0_passBlocks 57 = .ok (.goto (-38), 3) := by decide +kernel
theorem dX0_passBlocks_60 : decode cX0_passBlocks 60 = .ok (.iload 8, 2) := by decide +kernel
theorem dX0_passBlocks_62 : decode cX0_passBlocks 62 = .ok (.ireturn, 1) := by decide +kernel
set_option maxRecDepth 20000 in
theorem ggX0_matchRows_X2_keyAt : GoodIn wsX0_matchRows wsX2_keyAt := goodIn_r _ [6, 7, 8, 9, 21, 22, 23, 24, 25, 26, 27, 28] (by decide +kernel) (by decide +kernel)
set_option maxRecDepth 20000 in
theorem gX0_matchRows_X2_keyAt : GoodIn wsX0_matchRows (wsV RX0 81 RX2 yX2_keyAt wsX2_keyAt) := goodIn_app (goodIn_of _ (by decide +kernel)) ggX0_matchRows_X2_keyAt
set_option maxRecDepth 20000 in
theorem ggX0_matchRows_X2_rowAt : GoodIn wsX0_matchRows wsX2_rowAt := goodIn_r _ [13, 7, 9, 21, 22, 23, 24, 25, 26, 27, 28] (by decide +kernel) (by decide +kernel)
set_option maxRecDepth 20000 in
theorem gX0_matchRows_X2_rowAt : GoodIn wsX0_matchRows (wsV RX0 106 RX2 yX2_rowAt wsX2_rowAt) := goodIn_app (goodIn_of _ (by decide +kernel)) ggX0_matchRows_X2_rowAt
set_option maxRecDepth 20000 in
theorem ggX0_matchRows_X1_addPair : GoodIn wsX0_matchRows wsX1_addPair := goodIn_r _ [18, 19, 20, 33, 34, 35, 36] (by decide +kernel) (by decide +kernel)
set_option maxRecDepth 20000 in
theorem gX0_matchRows_X1_addPair : GoodIn wsX0_matchRows (wsV RX0 113 RX1 yX1_addPair wsX1_addPair) := goodIn_app (goodIn_of _ (by decide +kernel)) ggX0_matchRows_X1_addPair
theorem dX0_matchRows_0 : decode cX0_matchRows 0 = .ok (.iload 5, 2) := by decide +kernel
theorem dX0_matchRows_2 : decode cX0_matchRows 2 = .ok (.istore 7, 2) := by decide +kernel
theorem dX0_matchRows_4 : decode cX0_matchRows 4 = .ok (.iload 7, 2) := by decide +kernel
theorem dX0_matchRows_6 : decode cX0_matchRows 6 = .ok (.iload 6, 2) := by decide +kernel
theorem dX0_matchRows_8 : decode cX0_matchRows 8 = .ok (.if_icmp .ge 96, 3) := by decide +kernel
theorem dX0_matchRows_11 : decode cX0_matchRows 11 = .ok (.aload 4, 2) := by decide +kernel
theorem dX0_matchRows_13 : decode cX0_matchRows 13 = .ok (.iload 7, 2) := by decide +kernel
theorem dX0_matchRows_15 : decode cX0_matchRows 15 = .ok (.invokevirtual 81, 3) := by decide +kernel
theorem dX0_matchRows_18 : decode cX0_matchRows 18 = .ok (.istore 8, 2) := by decide +kernel
theorem dX0_matchRows_20 : decode cX0_matchRows 20 = .ok (.aload 4, 2) := by decide +kernel
theorem dX0_matchRows_22 : decode cX0_matchRows 22 = .ok (.iload 7, 2) := by decide +kernel
theorem dX0_matchRows_24 : decode cX0_matchRows 24 = .ok (.invokevirtual 106, 3) := by decide +kernel
theorem dX0_matchRows_27 : decode cX0_matchRows 27 = .ok (.istore 9, 2) := by decide +kernel
theorem dX0_matchRows_29 : decode cX0_matchRows 29 = .ok (.iload_n 2, 1) := by decide +kernel
theorem dX0_matchRows_30 : decode cX0_matchRows 30 = .ok (.istore 10, 2) := by decide +kernel
theorem dX0_matchRows_32 : decode cX0_matchRows 32 = .ok (.iload 10, 2) := by decide +kernel
theorem dX0_matchRows_34 : decode cX0_matchRows 34 = .ok (.iload_n 3, 1) := by decide +kernel
theorem dX0_matchRows_35 : decode cX0_matchRows 35 = .ok (.if_icmp .ge 63, 3) := by decide +kernel
theorem dX0_matchRows_38 : decode cX0_matchRows 38 = .ok (.aload_n 1, 1) := by decide +kernel
theorem dX0_matchRows_39 : decode cX0_matchRows 39 = .ok (.iload 10, 2) := by decide +kernel
theorem dX0_matchRows_41 : decode cX0_matchRows 41 = .ok (.invokevirtual 81, 3) := by decide +kernel
theorem dX0_matchRows_44 : decode cX0_matchRows 44 = .ok (.iload 8, 2) := by decide +kernel
theorem dX0_matchRows_46 : decode cX0_matchRows 46 = .ok (.if_icmp .eq 6, 3) := by decide +kernel
theorem dX0_matchRows_49 : decode cX0_matchRows 49 = .ok (.goto 43, 3) := by decide +kernel
theorem dX0_matchRows_52 : decode cX0_matchRows 52 = .ok (.aload_n 1, 1) := by decide +kernel
theorem dX0_matchRows_53 : decode cX0_matchRows 53 = .ok (.getfield 109, 3) := by decide +kernel
theorem dX0_matchRows_56 : decode cX0_matchRows 56 = .ok (.ifCond .eq 21, 3) := by decide +kernel
theorem dX0_matchRows_59 : decode cX0_matchRows 59 = .ok (.aload_n 0, 1) := by decide +kernel
theorem dX0_matchRows_60 : decode cX0_matchRows 60 = .ok (.getfield 15, 3) := by decide +kernel
theorem dX0_matchRows_63 : decode cX0_matchRows 63 = .ok (.aload_n 1, 1) := by decide +kernel
theorem dX0_matchRows_64 : decode cX0_matchRows 64 = .ok (.iload 10, 2) := by decide +kernel
theorem dX0_matchRows_66 : decode cX0_matchRows 66 = .ok (.invokevirtual 106, 3) := by decide +kernel
theorem dX0_matchRows_69 : decode cX0_matchRows 69 = .ok (.iload 9, 2) := by decide +kernel
theorem dX0_matchRows_71 : decode cX0_matchRows 71 = .ok (.invokevirtual 113, 3) := by decide +kernel
theorem dX0_matchRows_74 : decode cX0_matchRows 74 = .ok (.goto 18, 3) := by decide +kernel
theorem dX0_matchRows_77 : decode cX0_matchRows 77 = .ok (.aload_n 0, 1) := by decide +kernel
theorem dX0_matchRows_78 : decode cX0_matchRows 78 = .ok (.getfield 15, 3) := by decide +kernel
theorem dX0_matchRows_81 : decode cX0_matchRows 81 = .ok (.iload 9, 2) := by decide +kernel
theorem dX0_matchRows_83 : decode cX0_matchRows 83 = .ok (.aload_n 1, 1) := by decide +kernel
theorem dX0_matchRows_84 : decode cX0_matchRows 84 = .ok (.iload 10, 2) := by decide +kernel
theorem dX0_matchRows_86 : decode cX0_matchRows 86 = .ok (.invokevirtual 106, 3) := by decide +kernel
theorem dX0_matchRows_89 : decode cX0_matchRows 89 = .ok (.invokevirtual 113, 3) := by decide +kernel
theorem dX0_matchRows_92 : decode cX0_matchRows 92 = .ok (.iinc 10 1, 3) := by decide +kernel
theorem dX0_matchRows_95 : decode cX0_matchRows 95 = .ok (.goto (-63), 3) := by decide +kernel
theorem dX0_matchRows_98 : decode cX0_matchRows 98 = .ok (.iinc 7 1, 3) := by decide +kernel
theorem dX0_matchRows_101 : decode cX0_matchRows 101 = .ok (.goto (-97), 3) := by decide +kernel
theorem dX0_matchRows_104 : decode cX0_matchRows 104 = .ok (.return_, 1) := by decide +kernel
set_option maxRecDepth 20000 in
theorem ggX0_joinParts_X3_pagesFor : GoodIn wsX0_joinParts wsX3_pagesFor := goodIn_r _ [9, 10, 135] (by decide +kernel) (by decide +kernel)
set_option maxRecDepth 20000 in
theorem gX0_joinParts_X3_pagesFor : GoodIn wsX0_joinParts (wsV RX0 68 RX3 yX3_pagesFor wsX3_pagesFor) := goodIn_app (goodIn_of _ (by decide +kernel)) ggX0_joinParts_X3_pagesFor
set_option maxRecDepth 20000 in
theorem ggX0_joinParts_X1_addEvent : GoodIn wsX0_joinParts wsX1_addEvent := goodIn_r _ [15, 16, 17, 18, 19, 20, 21, 136, 137, 138, 139] (by decide +kernel) (by decide +kernel)
set_option maxRecDepth 20000 in
theorem gX0_joinParts_X1_addEvent : GoodIn wsX0_joinParts (wsV RX0 52 RX1 yX1_addEvent wsX1_addEvent) := goodIn_app (goodIn_of _ (by decide +kernel)) ggX0_joinParts_X1_addEvent
set_option maxRecDepth 20000 in
theorem ggX0_joinParts_X3_memory : GoodIn wsX0_joinParts wsX3_memory := goodIn_r _ [25, 10, 135] (by decide +kernel) (by decide +kernel)
set_option maxRecDepth 20000 in
theorem gX0_joinParts_X3_memory : GoodIn wsX0_joinParts (wsV RX0 117 RX3 yX3_memory wsX3_memory) := goodIn_app (goodIn_of _ (by decide +kernel)) ggX0_joinParts_X3_memory
set_option maxRecDepth 20000 in
theorem ggX0_joinParts_X1_takeMemory : GoodIn wsX0_joinParts wsX1_takeMemory := goodIn_r _ [29, 16, 18, 19, 20, 21, 136, 137, 138, 139] (by decide +kernel) (by decide +kernel)
set_option maxRecDepth 20000 in
theorem gX0_joinParts_X1_takeMemory : GoodIn wsX0_joinParts (wsV RX0 88 RX1 yX1_takeMemory wsX1_takeMemory) := goodIn_app (goodIn_of _ (by decide +kernel)) ggX0_joinParts_X1_takeMemory
set_option maxRecDepth 20000 in
theorem ggX0_joinParts_X2_layInParts : GoodIn wsX0_joinParts wsX2_layInParts := goodIn_r _ [34, 35, 36, 37, 38, 39, 40, 41, 42, 33, 43, 44, 45, 46, 47, 8, 48, 49, 50, 51, 52, 53, 54, 55, 56, 57, 58, 59, 10, 60, 61, 6, 7, 9, 140, 141, 142, 143, 144, 145, 146, 147, 135] (by decide +kernel) (by decide +kernel)
set_option maxRecDepth 20000 in
theorem gX0_joinParts_X2_layInParts : GoodIn wsX0_joinParts (wsV RX0 120 RX2 yX2_layInParts wsX2_layInParts) := goodIn_app (goodIn_of _ (by decide +kernel)) ggX0_joinParts_X2_layInParts
set_option maxRecDepth 20000 in
theorem ggX0_joinParts_X1_writeToDisk : GoodIn wsX0_joinParts wsX1_writeToDisk := goodIn_r _ [65, 16, 66, 18, 19, 20, 21, 136, 137, 138, 139] (by decide +kernel) (by decide +kernel)
set_option maxRecDepth 20000 in
theorem gX0_joinParts_X1_writeToDisk : GoodIn wsX0_joinParts (wsV RX0 124 RX1 yX1_writeToDisk wsX1_writeToDisk) := goodIn_app (goodIn_of _ (by decide +kernel)) ggX0_joinParts_X1_writeToDisk
set_option maxRecDepth 20000 in
theorem ggX0_joinParts_X3_parts : GoodIn wsX0_joinParts wsX3_parts := goodIn_r _ [59, 10, 135] (by decide +kernel) (by decide +kernel)
set_option maxRecDepth 20000 in
theorem gX0_joinParts_X3_parts : GoodIn wsX0_joinParts (wsV RX0 127 RX3 yX3_parts wsX3_parts) := goodIn_app (goodIn_of _ (by decide +kernel)) ggX0_joinParts_X3_parts
set_option maxRecDepth 20000 in
theorem ggX0_joinParts_X2_partEnd : GoodIn wsX0_joinParts wsX2_partEnd := goodIn_r _ [71, 39, 140, 141, 142, 143, 144, 145, 146, 147] (by decide +kernel) (by decide +kernel)
set_option maxRecDepth 20000 in
theorem gX0_joinParts_X2_partEnd : GoodIn wsX0_joinParts (wsV RX0 130 RX2 yX2_partEnd wsX2_partEnd) := goodIn_app (goodIn_of _ (by decide +kernel)) ggX0_joinParts_X2_partEnd
set_option maxRecDepth 20000 in
theorem ggX0_joinParts_X0_joinRows : GoodIn wsX0_joinParts wsX0_joinRows := goodIn_r _ [80, 2, 81, 82, 83, 75, 84, 85, 86, 20, 87, 1, 3, 4, 5, 6, 7, 8, 9, 10, 88, 89, 90, 91, 92, 93, 94, 95, 96, 41, 42, 33, 43, 35, 44, 38, 97, 98, 99, 100, 40, 11, 12, 13, 14, 15, 16, 17, 18, 19, 21, 101, 102, 103, 104, 105, 106, 107, 26, 27, 28, 29, 108, 109, 110, 111, 112, 113, 114, 115, 116, 117, 118, 119, 120, 121, 122, 123, 124, 125, 126, 127, 128, 129, 130, 0, 22, 23, 24, 25, 30, 31, 32, 34, 36, 37, 39, 45, 46, 47, 48, 49, 50, 51, 52, 53, 54, 55, 56, 57, 58, 59, 60, 61, 62, 63, 64, 65, 66, 67, 68, 69, 70, 71, 72, 73, 74, 76, 77, 78, 79, 131, 132, 133, 134, 135, 136, 137, 138, 139, 140, 141, 142, 143, 144, 145, 146, 147] (by decide +kernel) (by decide +kernel)
set_option maxRecDepth 20000 in
theorem gX0_joinParts_X0_joinRows : GoodIn wsX0_joinParts (wsV RX0 44 RX0 yX0_joinRows wsX0_joinRows) := goodIn_app (goodIn_of _ (by decide +kernel)) ggX0_joinParts_X0_joinRows
set_option maxRecDepth 20000 in
theorem ggX0_joinParts_X1_freeDisk : GoodIn wsX0_joinParts wsX1_freeDisk := goodIn_r _ [79, 66, 136, 137, 138, 139] (by decide +kernel) (by decide +kernel)
set_option maxRecDepth 20000 in
theorem gX0_joinParts_X1_freeDisk : GoodIn wsX0_joinParts (wsV RX0 133 RX1 yX1_freeDisk wsX1_freeDisk) := goodIn_app (goodIn_of _ (by decide +kernel)) ggX0_joinParts_X1_freeDisk
theorem dX0_joinParts_0 : decode cX0_joinParts 0 = .ok (.iload_n 2, 1) := by decide +kernel
theorem dX0_joinParts_1 : decode cX0_joinParts 1 = .ok (.iload_n 1, 1) := by decide +kernel
theorem dX0_joinParts_2 : decode cX0_joinParts 2 = .ok (.isub, 1) := by decide +kernel
theorem dX0_joinParts_3 : decode cX0_joinParts 3 = .ok (.istore 6, 2) := by decide +kernel
theorem dX0_joinParts_5 : decode cX0_joinParts 5 = .ok (.iload 4, 2) := by decide +kernel
theorem dX0_joinParts_7 : decode cX0_joinParts 7 = .ok (.iload_n 3, 1) := by decide +kernel
theorem dX0_joinParts_8 : decode cX0_joinParts 8 = .ok (.isub, 1) := by decide +kernel
theorem dX0_joinParts_9 : decode cX0_joinParts 9 = .ok (.istore 7, 2) := by decide +kernel
theorem dX0_joinParts_11 : decode cX0_joinParts 11 = .ok (.aload_n 0, 1) := by decide +kernel
theorem dX0_joinParts_12 : decode cX0_joinParts 12 = .ok (.getfield 9, 3) := by decide +kernel
theorem dX0_joinParts_15 : decode cX0_joinParts 15 = .ok (.iload 6, 2) := by decide +kernel
theorem dX0_joinParts_17 : decode cX0_joinParts 17 = .ok (.invokevirtual 68, 3) := by decide +kernel
theorem dX0_joinParts_20 : decode cX0_joinParts 20 = .ok (.aload_n 0, 1) := by decide +kernel
theorem dX0_joinParts_21 : decode cX0_joinParts 21 = .ok (.getfield 9, 3) := by decide +kernel
theorem dX0_joinParts_24 : decode cX0_joinParts 24 = .ok (.iload 7, 2) := by decide +kernel
theorem dX0_joinParts_26 : decode cX0_joinParts 26 = .ok (.invokevirtual 68, 3) := by decide +kernel
theorem dX0_joinParts_29 : decode cX0_joinParts 29 = .ok (.iadd, 1) := by decide +kernel
theorem dX0_joinParts_30 : decode cX0_joinParts 30 = .ok (.istore 8, 2) := by decide +kernel
theorem dX0_joinParts_32 : decode cX0_joinParts 32 = .ok (.aload_n 0, 1) := by decide +kernel
theorem dX0_joinParts_33 : decode cX0_joinParts 33 = .ok (.getfield 15, 3) := by decide +kernel
theorem dX0_joinParts_36 : decode cX0_joinParts 36 = .ok (.iconst 3, 1) := by decide +kernel
theorem dX0_joinParts_37 : decode cX0_joinParts 37 = .ok (.iload 5, 2) := by decide +kernel
theorem dX0_joinParts_39 : decode cX0_joinParts 39 = .ok (.iload 6, 2) := by decide +kernel
theorem dX0_joinParts_41 : decode cX0_joinParts 41 = .ok (.iload 7, 2) := by decide +kernel
theorem dX0_joinParts_43 : decode cX0_joinParts 43 = .ok (.iload 8, 2) := by decide +kernel
theorem dX0_joinParts_45 : decode cX0_joinParts 45 = .ok (.invokevirtual 52, 3) := by decide +kernel
theorem dX0_joinParts_48 : decode cX0_joinParts 48 = .ok (.aload_n 0, 1) := by decide +kernel
theorem dX0_joinParts_49 : decode cX0_joinParts 49 = .ok (.getfield 15, 3) := by decide +kernel
theorem dX0_joinParts_52 : decode cX0_joinParts 52 = .ok (.aload_n 0, 1) := by decide +kernel
theorem dX0_joinParts_53 : decode cX0_joinParts 53 = .ok (.getfield 9, 3) := by decide +kernel
theorem dX0_joinParts_56 : decode cX0_joinParts 56 = .ok (.invokevirtual 117, 3) := by decide +kernel
theorem dX0_joinParts_59 : decode cX0_joinParts 59 = .ok (.invokevirtual 88, 3) := by decide +kernel
theorem dX0_joinParts_62 : decode cX0_joinParts 62 = .ok (.aload_n 0, 1) := by decide +kernel
theorem dX0_joinParts_63 : decode cX0_joinParts 63 = .ok (.getfield 15, 3) := by decide +kernel
theorem dX0_joinParts_66 : decode cX0_joinParts 66 = .ok (.aload_n 0, 1) := by decide +kernel
theorem dX0_joinParts_67 : decode cX0_joinParts 67 = .ok (.getfield 24, 3) := by decide +kernel
theorem dX0_joinParts_70 : decode cX0_joinParts 70 = .ok (.iload_n 1, 1) := by decide +kernel
theorem dX0_joinParts_71 : decode cX0_joinParts 71 = .ok (.iload_n 2, 1) := by decide +kernel
theorem dX0_joinParts_72 : decode cX0_joinParts 72 = .ok (.iload 5, 2) := by decide +kernel
theorem dX0_joinParts_74 : decode cX0_joinParts 74 = .ok (.invokevirtual 120, 3) := by decide +kernel
theorem dX0_joinParts_77 : decode cX0_joinParts 77 = .ok (.aload_n 0, 1) := by decide +kernel
theorem dX0_joinParts_78 : decode cX0_joinParts 78 = .ok (.getfield 28, 3) := by decide +kernel
theorem dX0_joinParts_81 : decode cX0_joinParts 81 = .ok (.iload_n 3, 1) := by decide +kernel
theorem dX0_joinParts_82 : decode cX0_joinParts 82 = .ok (.iload 4, 2) := by decide +kernel
theorem dX0_joinParts_84 : decode cX0_joinParts 84 = .ok (.iload 5, 2) := by decide +kernel
theorem dX0_joinParts_86 : decode cX0_joinParts 86 = .ok (.invokevirtual 120, 3) := by decide +kernel
theorem dX0_joinParts_89 : decode cX0_joinParts 89 = .ok (.iadd, 1) := by decide +kernel
theorem dX0_joinParts_90 : decode cX0_joinParts 90 = .ok (.invokevirtual 124, 3) := by decide +kernel
theorem dX0_joinParts_93 : decode cX0_joinParts 93 = .ok (.iload_n 1, 1) := by decide +kernel
theorem dX0_joinParts_94 : decode cX0_joinParts 94 = .ok (.istore 9, 2) := by decide +kernel
theorem dX0_joinParts_96 : decode cX0_joinParts 96 = .ok (.iload_n 3, 1) := by decide +kernel
theorem dX0_joinParts_97 : decode cX0_joinParts 97 = .ok (.istore 10, 2) := by decide +kernel
theorem dX0_joinParts_99 : decode cX0_joinParts 99 = .ok (.iconst 0, 1) := by decide +kernel
theorem dX0_joinParts_100 : decode cX0_joinParts 100 = .ok (.istore 11, 2) := by decide +kernel
theorem dX0_joinParts_102 : decode cX0_joinParts 102 = .ok (.iload 11, 2) := by decide +kernel
theorem dX0_joinParts_104 : decode cX0_joinParts 104 = .ok (.aload_n 0, 1) := by decide +kernel
theorem dX0_joinParts_105 : decode cX0_joinParts 105 = .ok (.getfield 9, 3) := by decide +kernel
theorem dX0_joinParts_108 : decode cX0_joinParts 108 = .ok (.invokevirtual 127, 3) := by decide +kernel
theorem dX0_joinParts_111 : decode cX0_joinParts 111 = .ok (.if_icmp .ge 91, 3) := by decide +kernel
theorem dX0_joinParts_114 : decode cX0_joinParts 114 = .ok (.aload_n 0, 1) := by decide +kernel
theorem dX0_joinParts_115 : decode cX0_joinParts 115 = .ok (.getfield 24, 3) := by decide +kernel
theorem dX0_joinParts_118 : decode cX0_joinParts 118 = .ok (.iload 5, 2) := by decide +kernel
theorem dX0_joinParts_120 : decode cX0_joinParts 120 = .ok (.iload 11, 2) := by decide +kernel
theorem dX0_joinParts_122 : decode cX0_joinParts 122 = .ok (.invokevirtual 130, 3) := by decide +kernel
theorem dX0_joinParts_125 : decode cX0_joinParts 125 = .ok (.istore 12, 2) := by decide +kernel
theorem dX0_joinParts_127 : decode cX0_joinParts 127 = .ok (.aload_n 0, 1) := by decide +kernel
theorem dX0_joinParts_128 : decode cX0_joinParts 128 = .ok (.getfield 28, 3) := by decide +kernel
theorem dX0_joinParts_131 : decode cX0_joinParts 131 = .ok (.iload 5, 2) := by decide +kernel
theorem dX0_joinParts_133 : decode cX0_joinParts 133 = .ok (.iload 11, 2) := by decide +kernel
theorem dX0_joinParts_135 : decode cX0_joinParts 135 = .ok (.invokevirtual 130, 3) := by decide +kernel
theorem dX0_joinParts_138 : decode cX0_joinParts 138 = .ok (.istore 13, 2) := by decide +kernel
theorem dX0_joinParts_140 : decode cX0_joinParts 140 = .ok (.aload_n 0, 1) := by decide +kernel
theorem dX0_joinParts_141 : decode cX0_joinParts 141 = .ok (.iload 9, 2) := by decide +kernel
theorem dX0_joinParts_143 : decode cX0_joinParts 143 = .ok (.iload 12, 2) := by decide +kernel
theorem dX0_joinParts_145 : decode cX0_joinParts 145 = .ok (.iload 10, 2) := by decide +kernel
theorem dX0_joinParts_147 : decode cX0_joinParts 147 = .ok (.iload 13, 2) := by decide +kernel
theorem dX0_joinParts_149 : decode cX0_joinParts 149 = .ok (.iload 5, 2) := by decide +kernel
theorem dX0_joinParts_151 : decode cX0_joinParts 151 = .ok (.iconst 1, 1) := by decide +kernel
theorem dX0_joinParts_152 : decode cX0_joinParts 152 = .ok (.iadd, 1) := by decide +kernel
theorem dX0_joinParts_153 : decode cX0_joinParts 153 = .ok (.invokevirtual 44, 3) := by decide +kernel
theorem dX0_joinParts_156 : decode cX0_joinParts 156 = .ok (.aload_n 0, 1) := by decide +kernel
theorem dX0_joinParts_157 : decode cX0_joinParts 157 = .ok (.getfield 15, 3) := by decide +kernel
theorem dX0_joinParts_160 : decode cX0_joinParts 160 = .ok (.aload_n 0, 1) := by decide +kernel
theorem dX0_joinParts_161 : decode cX0_joinParts 161 = .ok (.getfield 9, 3) := by decide +kernel
theorem dX0_joinParts_164 : decode cX0_joinParts 164 = .ok (.iload 12, 2) := by decide +kernel
theorem dX0_joinParts_166 : decode cX0_joinParts 166 = .ok (.iload 9, 2) := by decide +kernel
theorem dX0_joinParts_168 : decode cX0_joinParts 168 = .ok (.isub, 1) := by decide +kernel
theorem dX0_joinParts_169 : decode cX0_joinParts 169 = .ok (.invokevirtual 68, 3) := by decide +kernel
theorem dX0_joinParts_172 : decode cX0_joinParts 172 = .ok (.aload_n 0, 1) := by decide +kernel
theorem dX0_joinParts_173 : decode cX0_joinParts 173 = .ok (.getfield 9, 3) := by decide +kernel
theorem dX0_joinParts_176 : decode cX0_joinParts 176 = .ok (.iload 13, 2) := by decide +kernel
theorem dX0_joinParts_178 : decode cX0_joinParts 178 = .ok (.iload 10, 2) := by decide +kernel
theorem dX0_joinParts_180 : decode cX0_joinParts 180 = .ok (.isub, 1) := by decide +kernel
theorem dX0_joinParts_181 : decode cX0_joinParts 181 = .ok (.invokevirtual 68, 3) := by decide +kernel
theorem dX0_joinParts_184 : decode cX0_joinParts 184 = .ok (.iadd, 1) := by decide +kernel
theorem dX0_joinParts_185 : decode cX0_joinParts 185 = .ok (.invokevirtual 133, 3) := by decide +kernel
theorem dX0_joinParts_188 : decode cX0_joinParts 188 = .ok (.iload 12, 2) := by decide +kernel
theorem dX0_joinParts_190 : decode cX0_joinParts 190 = .ok (.istore 9, 2) := by decide +kernel
theorem dX0_joinParts_192 : decode cX0_joinParts 192 = .ok (.iload 13, 2) := by decide +kernel
theorem dX0_joinParts_194 : decode cX0_joinParts 194 = .ok (.istore 10, 2) := by decide +kernel
theorem dX0_joinParts_196 : decode cX0_joinParts 196 = .ok (.iinc 11 1, 3) := by decide +kernel
theorem dX0_joinParts_199 : decode cX0_joinParts 199 = .ok (.goto (-97), 3) := by decide +kernel
theorem dX0_joinParts_202 : decode cX0_joinParts 202 = .ok (.return_, 1) := by decide +kernel
theorem dX1_init_0 : decode cX1_init 0 = .ok (.aload_n 0, 1) := by decide +kernel
theorem dX1_init_1 : decode cX1_init 1 = .ok (.invokespecial 3, 3) := by decide +kernel
theorem dX1_init_4 : decode cX1_init 4 = .ok (.aload_n 0, 1) := by decide +kernel
theorem dX1_init_5 : decode cX1_init 5 = .ok (.bipush 11, 2) := by decide +kernel
theorem dX1_init_7 : decode cX1_init 7 = .ok (.newarray .int, 2) := by decide +kernel
theorem dX1_init_9 : decode cX1_init 9 = .ok (.putfield 11, 3) := by decide +kernel
theorem dX1_init_12 : decode cX1_init 12 = .ok (.aload_n 0, 1) := by decide +kernel
theorem dX1_init_13 : decode cX1_init 13 = .ok (.getfield 11, 3) := by decide +kernel
theorem dX1_init_16 : decode cX1_init 16 = .ok (.iconst 4, 1) := by decide +kernel
theorem dX1_init_17 : decode cX1_init 17 = .ok (.iconst (-1), 1) := by decide +kernel
theorem dX1_init_18 : decode cX1_init 18 = .ok (.iastore, 1) := by decide +kernel
theorem dX1_init_19 : decode cX1_init 19 = .ok (.aload_n 0, 1) := by decide +kernel
theorem dX1_init_20 : decode cX1_init 20 = .ok (.sipush 1500, 3) := by decide +kernel
theorem dX1_init_23 : decode cX1_init 23 = .ok (.newarray .int, 2) := by decide +kernel
theorem dX1_init_25 : decode cX1_init 25 = .ok (.putfield 15, 3) := by decide +kernel
theorem dX1_init_28 : decode cX1_init 28 = .ok (.aload_n 0, 1) := by decide +kernel
theorem dX1_init_29 : decode cX1_init 29 = .ok (.sipush 4000, 3) := by decide +kernel
theorem dX1_init_32 : decode cX1_init 32 = .ok (.newarray .int, 2) := by decide +kernel
theorem dX1_init_34 : decode cX1_init 34 = .ok (.putfield 18, 3) := by decide +kernel
theorem dX1_init_37 : decode cX1_init 37 = .ok (.aload_n 0, 1) := by decide +kernel
theorem dX1_init_38 : decode cX1_init 38 = .ok (.iconst 0, 1) := by decide +kernel
theorem dX1_init_39 : decode cX1_init 39 = .ok (.putfield 21, 3) := by decide +kernel
theorem dX1_init_42 : decode cX1_init 42 = .ok (.return_, 1) := by decide +kernel
set_option maxRecDepth 20000 in
theorem ggX1_beginAnew_J7_fill_53178 : GoodIn wsX1_beginAnew wsJ7_fill_53178 := goodIn_r _ [6] (by decide +kernel) (by decide +kernel)
set_option maxRecDepth 20000 in
theorem gX1_beginAnew_J7_fill_53178 : GoodIn wsX1_beginAnew (va_wsS RX1 25 yJ7_fill_53178 wsJ7_fill_53178) := goodIn_app (goodIn_of _ (by decide +kernel)) ggX1_beginAnew_J7_fill_53178
theorem dX1_beginAnew_0 : decode cX1_beginAnew 0 = .ok (.aload_n 0, 1) := by decide +kernel
theorem dX1_beginAnew_1 : decode cX1_beginAnew 1 = .ok (.getfield 11, 3) := by decide +kernel
theorem dX1_beginAnew_4 : decode cX1_beginAnew 4 = .ok (.iconst 0, 1) := by decide +kernel
theorem dX1_beginAnew_5 : decode cX1_beginAnew 5 = .ok (.invokestatic 25, 3) := by decide +kernel
theorem dX1_beginAnew_8 : decode cX1_beginAnew 8 = .ok (.aload_n 0, 1) := by decide +kernel
theorem dX1_beginAnew_9 : decode cX1_beginAnew 9 = .ok (.iconst 0, 1) := by decide +kernel
theorem dX1_beginAnew_10 : decode cX1_beginAnew 10 = .ok (.putfield 21, 3) := by decide +kernel
theorem dX1_beginAnew_13 : decode cX1_beginAnew 13 = .ok (.return_, 1) := by decide +kernel
theorem dX1_addEvent_0 : decode cX1_addEvent 0 = .ok (.aload_n 0, 1) := by decide +kernel
theorem dX1_addEvent_1 : decode cX1_addEvent 1 = .ok (.getfield 11, 3) := by decide +kernel
theorem dX1_addEvent_4 : decode cX1_addEvent 4 = .ok (.iconst 5, 1) := by decide +kernel
theorem dX1_addEvent_5 : decode cX1_addEvent 5 = .ok (.iaload, 1) := by decide +kernel
theorem dX1_addEvent_6 : decode cX1_addEvent 6 = .ok (.istore 6, 2) := by decide +kernel
theorem dX1_addEvent_8 : decode cX1_addEvent 8 = .ok (.iload 6, 2) := by decide +kernel
theorem dX1_addEvent_10 : decode cX1_addEvent 10 = .ok (.sipush 300, 3) := by decide +kernel
theorem dX1_addEvent_13 : decode cX1_addEvent 13 = .ok (.if_icmp .ge 59, 3) := by decide +kernel
theorem dX1_addEvent_16 : decode cX1_addEvent 16 = .ok (.iload 6, 2) := by decide +kernel
theorem dX1_addEvent_18 : decode cX1_addEvent 18 = .ok (.iconst 5, 1) := by decide +kernel
theorem dX1_addEvent_19 : decode cX1_addEvent 19 = .ok (.imul, 1) := by decide +kernel
theorem dX1_addEvent_20 : decode cX1_addEvent 20 = .ok (.istore 7, 2) := by decide +kernel
theorem dX1_addEvent_22 : decode cX1_addEvent 22 = .ok (.aload_n 0, 1) := by decide +kernel
theorem dX1_addEvent_23 : decode cX1_addEvent 23 = .ok (.getfield 15, 3) := by decide +kernel
theorem dX1_addEvent_26 : decode cX1_addEvent 26 = .ok (.iload 7, 2) := by decide +kernel
theorem dX1_addEvent_28 : decode cX1_addEvent 28 = .ok (.iload_n 1, 1) := by decide +kernel
theorem dX1_addEvent_29 : decode cX1_addEvent 29 = .ok (.iastore, 1) := by decide +kernel
theorem dX1_addEvent_30 : decode cX1_addEvent 30 = .ok (.aload_n 0, 1) := by decide +kernel
theorem dX1_addEvent_31 : decode cX1_addEvent 31 = .ok (.getfield 15, 3) := by decide +kernel
theorem dX1_addEvent_34 : decode cX1_addEvent 34 = .ok (.iload 7, 2) := by decide +kernel
theorem dX1_addEvent_36 : decode cX1_addEvent 36 = .ok (.iconst 1, 1) := by decide +kernel
theorem dX1_addEvent_37 : decode cX1_addEvent 37 = .ok (.iadd, 1) := by decide +kernel
theorem dX1_addEvent_38 : decode cX1_addEvent 38 = .ok (.iload_n 2, 1) := by decide +kernel
theorem dX1_addEvent_39 : decode cX1_addEvent 39 = .ok (.iastore, 1) := by decide +kernel
theorem dX1_addEvent_40 : decode cX1_addEvent 40 = .ok (.aload_n 0, 1) := by decide +kernel
theorem dX1_addEvent_41 : decode cX1_addEvent 41 = .ok (.getfield 15, 3) := by decide +kernel
theorem dX1_addEvent_44 : decode cX1_addEvent 44 = .ok (.iload 7, 2) := by decide +kernel
theorem dX1_addEvent_46 : decode cX1_addEvent 46 = .ok (.iconst 2, 1) := by decide +kernel
theorem dX1_addEvent_47 : decode cX1_addEvent 47 = .ok (.iadd, 1) := by decide +kernel
theorem dX1_addEvent_48 : decode cX1_addEvent 48 = .ok (.iload_n 3, 1) := by decide +kernel
theorem dX1_addEvent_49 : decode cX1_addEvent 49 = .ok (.iastore, 1) := by decide +kernel
theorem dX1_addEvent_50 : decode cX1_addEvent 50 = .ok (.aload_n 0, 1) := by decide +kernel
theorem dX1_addEvent_51 : decode cX1_addEvent 51 = .ok (.getfield 15, 3) := by decide +kernel
theorem dX1_addEvent_54 : decode cX1_addEvent 54 = .ok (.iload 7, 2) := by decide +kernel
theorem dX1_addEvent_56 : decode cX1_addEvent 56 = .ok (.iconst 3, 1) := by decide +kernel
theorem dX1_addEvent_57 : decode cX1_addEvent 57 = .ok (.iadd, 1) := by decide +kernel
theorem dX1_addEvent_58 : decode cX1_addEvent 58 = .ok (.iload 4, 2) := by decide +kernel
theorem dX1_addEvent_60 : decode cX1_addEvent 60 = .ok (.iastore, 1) := by decide +kernel
theorem dX1_addEvent_61 : decode cX1_addEvent 61 = .ok (.aload_n 0, 1) := by decide +kernel
theorem dX1_addEvent_62 : decode cX1_addEvent 62 = .ok (.getfield 15, 3) := by decide +kernel
theorem dX1_addEvent_65 : decode cX1_addEvent 65 = .ok (.iload 7, 2) := by decide +kernel
theorem dX1_addEvent_67 : decode cX1_addEvent 67 = .ok (.iconst 4, 1) := by decide +kernel
theorem dX1_addEvent_68 : decode cX1_addEvent 68 = .ok (.iadd, 1) := by decide +kernel
theorem dX1_addEvent_69 : decode cX1_addEvent 69 = .ok (.iload 5, 2) := by decide +kernel
theorem dX1_addEvent_71 : decode cX1_addEvent 71 = .ok (.iastore, 1) := by decide +kernel
theorem dX1_addEvent_72 : decode cX1_addEvent 72 = .ok (.aload_n 0, 1) := by decide +kernel
theorem dX1_addEvent_73 : decode cX1_addEvent 73 = .ok (.getfield 11, 3) := by decide +kernel
theorem dX1_addEvent_76 : decode cX1_addEvent 76 = .ok (.iconst 5, 1) := by decide +kernel
theorem dX1_addEvent_77 : decode cX1_addEvent 77 = .ok (.dup2, 1) := by decide +kernel
theorem dX1_addEvent_78 : decode cX1_addEvent 78 = .ok (.iaload, 1) := by decide +kernel
theorem dX1_addEvent_79 : decode cX1_addEvent 79 = .ok (.iconst 1, 1) := by decide +kernel
theorem dX1_addEvent_80 : decode cX1_addEvent 80 = .ok (.iadd, 1) := by decide +kernel
theorem dX1_addEvent_81 : decode cX1_addEvent 81 = .ok (.iastore, 1) := by decide +kernel
theorem dX1_addEvent_82 : decode cX1_addEvent 82 = .ok (.aload_n 0, 1) := by decide +kernel
theorem dX1_addEvent_83 : decode cX1_addEvent 83 = .ok (.getfield 11, 3) := by decide +kernel
theorem dX1_addEvent_86 : decode cX1_addEvent 86 = .ok (.bipush 6, 2) := by decide +kernel
theorem dX1_addEvent_88 : decode cX1_addEvent 88 = .ok (.iload_n 1, 1) := by decide +kernel
theorem dX1_addEvent_89 : decode cX1_addEvent 89 = .ok (.iadd, 1) := by decide +kernel
theorem dX1_addEvent_90 : decode cX1_addEvent 90 = .ok (.dup2, 1) := by decide +kernel
theorem dX1_addEvent_91 : decode cX1_addEvent 91 = .ok (.iaload, 1) := by decide +kernel
theorem dX1_addEvent_92 : decode cX1_addEvent 92 = .ok (.iconst 1, 1) := by decide +kernel
theorem dX1_addEvent_93 : decode cX1_addEvent 93 = .ok (.iadd, 1) := by decide +kernel
theorem dX1_addEvent_94 : decode cX1_addEvent 94 = .ok (.iastore, 1) := by decide +kernel
theorem dX1_addEvent_95 : decode cX1_addEvent 95 = .ok (.aload_n 0, 1) := by decide +kernel
theorem dX1_addEvent_96 : decode cX1_addEvent 96 = .ok (.getfield 11, 3) := by decide +kernel
theorem dX1_addEvent_99 : decode cX1_addEvent 99 = .ok (.iconst 0, 1) := by decide +kernel
theorem dX1_addEvent_100 : decode cX1_addEvent 100 = .ok (.dup2, 1) := by decide +kernel
theorem dX1_addEvent_101 : decode cX1_addEvent 101 = .ok (.iaload, 1) := by decide +kernel
theorem dX1_addEvent_102 : decode cX1_addEvent 102 = .ok (.iload 5, 2) := by decide +kernel
theorem dX1_addEvent_104 : decode cX1_addEvent 104 = .ok (.iadd, 1) := by decide +kernel
theorem dX1_addEvent_105 : decode cX1_addEvent 105 = .ok (.iastore, 1) := by decide +kernel
theorem dX1_addEvent_106 : decode cX1_addEvent 106 = .ok (.aload_n 0, 1) := by decide +kernel
theorem dX1_addEvent_107 : decode cX1_addEvent 107 = .ok (.getfield 11, 3) := by decide +kernel
theorem dX1_addEvent_110 : decode cX1_addEvent 110 = .ok (.iconst 4, 1) := by decide +kernel
theorem dX1_addEvent_111 : decode cX1_addEvent 111 = .ok (.aload_n 0, 1) := by decide +kernel
theorem dX1_addEvent_112 : decode cX1_addEvent 112 = .ok (.getfield 11, 3) := by decide +kernel
theorem dX1_addEvent_115 : decode cX1_addEvent 115 = .ok (.iconst 4, 1) := by decide +kernel
theorem dX1_addEvent_116 : decode cX1_addEvent 116 = .ok (.iaload, 1) := by decide +kernel
theorem dX1_addEvent_117 : decode cX1_addEvent 117 = .ok (.iload_n 2, 1) := by decide +kernel
theorem dX1_addEvent_118 : decode cX1_addEvent 118 = .ok (.invokestatic 31, 3) := by decide +kernel
theorem dX1_addEvent_121 : decode cX1_addEvent 121 = .ok (.iastore, 1) := by decide +kernel
theorem dX1_addEvent_122 : decode cX1_addEvent 122 = .ok (.return_, 1) := by decide +kernel
theorem dX1_takeMemory_0 : decode cX1_takeMemory 0 = .ok (.aload_n 0, 1) := by decide +kernel
theorem dX1_takeMemory_1 : decode cX1_takeMemory 1 = .ok (.getfield 11, 3) := by decide +kernel
theorem dX1_takeMemory_4 : decode cX1_takeMemory 4 = .ok (.iconst 2, 1) := by decide +kernel
theorem dX1_takeMemory_5 : decode cX1_takeMemory 5 = .ok (.aload_n 0, 1) := by decide +kernel
theorem dX1_takeMemory_6 : decode cX1_takeMemory 6 = .ok (.getfield 11, 3) := by decide +kernel
theorem dX1_takeMemory_9 : decode cX1_takeMemory 9 = .ok (.iconst 2, 1) := by decide +kernel
theorem dX1_takeMemory_10 : decode cX1_takeMemory 10 = .ok (.iaload, 1) := by decide +kernel
theorem dX1_takeMemory_11 : decode cX1_takeMemory 11 = .ok (.iload_n 1, 1) := by decide +kernel
theorem dX1_takeMemory_12 : decode cX1_takeMemory 12 = .ok (.invokestatic 31, 3) := by decide +kernel
theorem dX1_takeMemory_15 : decode cX1_takeMemory 15 = .ok (.iastore, 1) := by decide +kernel
theorem dX1_takeMemory_16 : decode cX1_takeMemory 16 = .ok (.return_, 1) := by decide +kernel
theorem dX1_writeToDisk_0 : decode cX1_writeToDisk 0 = .ok (.aload_n 0, 1) := by decide +kernel
theorem dX1_writeToDisk_1 : decode cX1_writeToDisk 1 = .ok (.getfield 11, 3) := by decide +kernel
theorem dX1_writeToDisk_4 : decode cX1_writeToDisk 4 = .ok (.iconst 1, 1) := by decide +kernel
theorem dX1_writeToDisk_5 : decode cX1_writeToDisk 5 = .ok (.dup2, 1) := by decide +kernel
theorem dX1_writeToDisk_6 : decode cX1_writeToDisk 6 = .ok (.iaload, 1) := by decide +kernel
theorem dX1_writeToDisk_7 : decode cX1_writeToDisk 7 = .ok (.iload_n 1, 1) := by decide +kernel
theorem dX1_writeToDisk_8 : decode cX1_writeToDisk 8 = .ok (.iadd, 1) := by decide +kernel
theorem dX1_writeToDisk_9 : decode cX1_writeToDisk 9 = .ok (.iastore, 1) := by decide +kernel
theorem dX1_writeToDisk_10 : decode cX1_writeToDisk 10 = .ok (.aload_n 0, 1) := by decide +kernel
theorem dX1_writeToDisk_11 : decode cX1_writeToDisk 11 = .ok (.dup, 1) := by decide +kernel
theorem dX1_writeToDisk_12 : decode cX1_writeToDisk 12 = .ok (.getfield 21, 3) := by decide +kernel
theorem dX1_writeToDisk_15 : decode cX1_writeToDisk 15 = .ok (.iload_n 1, 1) := by decide +kernel
theorem dX1_writeToDisk_16 : decode cX1_writeToDisk 16 = .ok (.iadd, 1) := by decide +kernel
theorem dX1_writeToDisk_17 : decode cX1_writeToDisk 17 = .ok (.putfield 21, 3) := by decide +kernel
theorem dX1_writeToDisk_20 : decode cX1_writeToDisk 20 = .ok (.aload_n 0, 1) := by decide +kernel
theorem dX1_writeToDisk_21 : decode cX1_writeToDisk 21 = .ok (.getfield 11, 3) := by decide +kernel
theorem dX1_writeToDisk_24 : decode cX1_writeToDisk 24 = .ok (.iconst 3, 1) := by decide +kernel
theorem dX1_writeToDisk_25 : decode cX1_writeToDisk 25 = .ok (.aload_n 0, 1) := by decide +kernel
theorem dX1_writeToDisk_26 : decode cX1_writeToDisk 26 = .ok (.getfield 11, 3) := by decide +kernel
theorem dX1_writeToDisk_29 : decode cX1_writeToDisk 29 = .ok (.iconst 3, 1) := by decide +kernel
theorem dX1_writeToDisk_30 : decode cX1_writeToDisk 30 = .ok (.iaload, 1) := by decide +kernel
theorem dX1_writeToDisk_31 : decode cX1_writeToDisk 31 = .ok (.aload_n 0, 1) := by decide +kernel
theorem dX1_writeToDisk_32 : decode cX1_writeToDisk 32 = .ok (.getfield 21, 3) := by decide +kernel
theorem dX1_writeToDisk_35 : decode cX1_writeToDisk 35 = .ok (.invokestatic 31, 3) := by decide +kernel
theorem dX1_writeToDisk_38 : decode cX1_writeToDisk 38 = .ok (.iastore, 1) := by decide +kernel
theorem dX1_writeToDisk_39 : decode cX1_writeToDisk 39 = .ok (.return_, 1) := by decide +kernel
theorem dX1_freeDisk_0 : decode cX1_freeDisk 0 = .ok (.aload_n 0, 1) := by decide +kernel
theorem dX1_freeDisk_1 : decode cX1_freeDisk 1 = .ok (.dup, 1) := by decide +kernel
theorem dX1_freeDisk_2 : decode cX1_freeDisk 2 = .ok (.getfield 21, 3) := by decide +kernel
theorem dX1_freeDisk_5 : decode cX1_freeDisk 5 = .ok (.iload_n 1, 1) := by decide +kernel
theorem dX1_freeDisk_6 : decode cX1_freeDisk 6 = .ok (.isub, 1) := by decide +kernel
theorem dX1_freeDisk_7 : decode cX1_freeDisk 7 = .ok (.putfield 21, 3) := by decide +kernel
theorem dX1_freeDisk_10 : decode cX1_freeDisk 10 = .ok (.return_, 1) := by decide +kernel
theorem dX1_addPair_0 : decode cX1_addPair 0 = .ok (.aload_n 0, 1) := by decide +kernel
theorem dX1_addPair_1 : decode cX1_addPair 1 = .ok (.getfield 11, 3) := by decide +kernel
theorem dX1_addPair_4 : decode cX1_addPair 4 = .ok (.bipush 10, 2) := by decide +kernel
theorem dX1_addPair_6 : decode cX1_addPair 6 = .ok (.iaload, 1) := by decide +kernel
theorem dX1_addPair_7 : decode cX1_addPair 7 = .ok (.istore_n 3, 1) := by decide +kernel
theorem dX1_addPair_8 : decode cX1_addPair 8 = .ok (.iload_n 3, 1) := by decide +kernel
theorem dX1_addPair_9 : decode cX1_addPair 9 = .ok (.sipush 4000, 3) := by decide +kernel
theorem dX1_addPair_12 : decode cX1_addPair 12 = .ok (.if_icmp .ge 15, 3) := by decide +kernel
theorem dX1_addPair_15 : decode cX1_addPair 15 = .ok (.aload_n 0, 1) := by decide +kernel
theorem dX1_addPair_16 : decode cX1_addPair 16 = .ok (.getfield 18, 3) := by decide +kernel
theorem dX1_addPair_19 : decode cX1_addPair 19 = .ok (.iload_n 3, 1) := by decide +kernel
theorem dX1_addPair_20 : decode cX1_addPair 20 = .ok (.iload_n 1, 1) := by decide +kernel
theorem dX1_addPair_21 : decode cX1_addPair 21 = .ok (.bipush 9, 2) := by decide +kernel
theorem dX1_addPair_23 : decode cX1_addPair 23 = .ok (.ishl, 1) := by decide +kernel
theorem dX1_addPair_24 : decode cX1_addPair 24 = .ok (.iload_n 2, 1) := by decide +kernel
theorem dX1_addPair_25 : decode cX1_addPair 25 = .ok (.ior, 1) := by decide +kernel
theorem dX1_addPair_26 : decode cX1_addPair 26 = .ok (.iastore, 1) := by decide +kernel
theorem dX1_addPair_27 : decode cX1_addPair 27 = .ok (.aload_n 0, 1) := by decide +kernel
theorem dX1_addPair_28 : decode cX1_addPair 28 = .ok (.getfield 11, 3) := by decide +kernel
theorem dX1_addPair_31 : decode cX1_addPair 31 = .ok (.bipush 10, 2) := by decide +kernel
theorem dX1_addPair_33 : decode cX1_addPair 33 = .ok (.dup2, 1) := by decide +kernel
theorem dX1_addPair_34 : decode cX1_addPair 34 = .ok (.iaload, 1) := by decide +kernel
theorem dX1_addPair_35 : decode cX1_addPair 35 = .ok (.iconst 1, 1) := by decide +kernel
theorem dX1_addPair_36 : decode cX1_addPair 36 = .ok (.iadd, 1) := by decide +kernel
theorem dX1_addPair_37 : decode cX1_addPair 37 = .ok (.iastore, 1) := by decide +kernel
theorem dX1_addPair_38 : decode cX1_addPair 38 = .ok (.return_, 1) := by decide +kernel
theorem dX1_pairsOrFull_0 : decode cX1_pairsOrFull 0 = .ok (.aload_n 0, 1) := by decide +kernel
theorem dX1_pairsOrFull_1 : decode cX1_pairsOrFull 1 = .ok (.getfield 11, 3) := by decide +kernel
theorem dX1_pairsOrFull_4 : decode cX1_pairsOrFull 4 = .ok (.bipush 10, 2) := by decide +kernel
theorem dX1_pairsOrFull_6 : decode cX1_pairsOrFull 6 = .ok (.iaload, 1) := by decide +kernel
theorem dX1_pairsOrFull_7 : decode cX1_pairsOrFull 7 = .ok (.sipush 4000, 3) := by decide +kernel
theorem dX1_pairsOrFull_10 : decode cX1_pairsOrFull 10 = .ok (.if_icmp .le 8, 3) := by decide +kernel
theorem dX1_pairsOrFull_13 : decode cX1_pairsOrFull 13 = .ok (.bipush (-2), 2) := by decide +kernel
theorem dX1_pairsOrFull_15 : decode cX1_pairsOrFull 15 = .ok (.goto 10, 3) := by decide +kernel
theorem dX1_pairsOrFull_18 : decode cX1_pairsOrFull 18 = .ok (.aload_n 0, 1) := by decide +kernel
theorem dX1_pairsOrFull_19 : decode cX1_pairsOrFull 19 = .ok (.getfield 11, 3) := by decide +kernel
theorem dX1_pairsOrFull_22 : decode cX1_pairsOrFull 22 = .ok (.bipush 10, 2) := by decide +kernel
theorem dX1_pairsOrFull_24 : decode cX1_pairsOrFull 24 = .ok (.iaload, 1) := by decide +kernel
theorem dX1_pairsOrFull_25 : decode cX1_pairsOrFull 25 = .ok (.ireturn, 1) := by decide +kernel
set_option maxRecDepth 20000 in
theorem ggX1_hasPair_X1_pairsOrFull : GoodIn wsX1_hasPair wsX1_pairsOrFull := goodIn_r _ [5, 6, 7, 8, 9, 10] (by decide +kernel) (by decide +kernel)
set_option maxRecDepth 20000 in
theorem gX1_hasPair_X1_pairsOrFull : GoodIn wsX1_hasPair (wsV RX1 37 RX1 yX1_pairsOrFull wsX1_pairsOrFull) := goodIn_app (goodIn_of _ (by decide +kernel)) ggX1_hasPair_X1_pairsOrFull
theorem dX1_hasPair_0 : decode cX1_hasPair 0 = .ok (.iload_n 1, 1) := by decide +kernel
theorem dX1_hasPair_1 : decode cX1_hasPair 1 = .ok (.ifCond .lt 15, 3) := by decide +kernel
theorem dX1_hasPair_4 : decode cX1_hasPair 4 = .ok (.iload_n 1, 1) := by decide +kernel
theorem dX1_hasPair_5 : decode cX1_hasPair 5 = .ok (.aload_n 0, 1) := by decide +kernel
theorem dX1_hasPair_6 : decode cX1_hasPair 6 = .ok (.invokevirtual 37, 3) := by decide +kernel
theorem dX1_hasPair_9 : decode cX1_hasPair 9 = .ok (.if_icmp .ge 7, 3) := by decide +kernel
theorem dX1_hasPair_12 : decode cX1_hasPair 12 = .ok (.iconst 1, 1) := by decide +kernel
theorem dX1_hasPair_13 : decode cX1_hasPair 13 = .ok (.goto 4, 3) := by decide +kernel
theorem dX1_hasPair_16 : decode cX1_hasPair 16 = .ok (.iconst 0, 1) := by decide +kernel
theorem dX1_hasPair_17 : decode cX1_hasPair 17 = .ok (.ireturn, 1) := by decide +kernel
set_option maxRecDepth 20000 in
theorem ggX1_leftRowOf_X1_hasPair : GoodIn wsX1_leftRowOf wsX1_hasPair := goodIn_r _ [6, 7, 8, 9, 5, 10, 11, 12, 13, 14, 15] (by decide +kernel) (by decide +kernel)
set_option maxRecDepth 20000 in
theorem gX1_leftRowOf_X1_hasPair : GoodIn wsX1_leftRowOf (wsV RX1 41 RX1 yX1_hasPair wsX1_hasPair) := goodIn_app (goodIn_of _ (by decide +kernel)) ggX1_leftRowOf_X1_hasPair
theorem dX1_leftRowOf_0 : decode cX1_leftRowOf 0 = .ok (.aload_n 0, 1) := by decide +kernel
theorem dX1_leftRowOf_1 : decode cX1_leftRowOf 1 = .ok (.iload_n 1, 1) := by decide +kernel
theorem dX1_leftRowOf_2 : decode cX1_leftRowOf 2 = .ok (.invokevirtual 41, 3) := by decide +kernel
theorem dX1_leftRowOf_5 : decode cX1_leftRowOf 5 = .ok (.ifCond .eq 15, 3) := by decide +kernel
theorem dX1_leftRowOf_8 : decode cX1_leftRowOf 8 = .ok (.aload_n 0, 1) := by decide +kernel
theorem dX1_leftRowOf_9 : decode cX1_leftRowOf 9 = .ok (.getfield 18, 3) := by decide +kernel
theorem dX1_leftRowOf_12 : decode cX1_leftRowOf 12 = .ok (.iload_n 1, 1) := by decide +kernel
theorem dX1_leftRowOf_13 : decode cX1_leftRowOf 13 = .ok (.iaload, 1) := by decide +kernel
theorem dX1_leftRowOf_14 : decode cX1_leftRowOf 14 = .ok (.bipush 9, 2) := by decide +kernel
theorem dX1_leftRowOf_16 : decode cX1_leftRowOf 16 = .ok (.ishr, 1) := by decide +kernel
theorem dX1_leftRowOf_17 : decode cX1_leftRowOf 17 = .ok (.goto 4, 3) := by decide +kernel
theorem dX1_leftRowOf_20 : decode cX1_leftRowOf 20 = .ok (.iconst (-1), 1) := by decide +kernel
theorem dX1_leftRowOf_21 : decode cX1_leftRowOf 21 = .ok (.ireturn, 1) := by decide +kernel
set_option maxRecDepth 20000 in
theorem ggX1_rightRowOf_X1_hasPair : GoodIn wsX1_rightRowOf wsX1_hasPair := goodIn_r _ [6, 7, 8, 9, 5, 10, 11, 12, 13, 14, 15] (by decide +kernel) (by decide +kernel)
set_option maxRecDepth 20000 in
theorem gX1_rightRowOf_X1_hasPair : GoodIn wsX1_rightRowOf (wsV RX1 41 RX1 yX1_hasPair wsX1_hasPair) := goodIn_app (goodIn_of _ (by decide +kernel)) ggX1_rightRowOf_X1_hasPair
theorem dX1_rightRowOf_0 : decode cX1_rightRowOf 0 = .ok (.aload_n 0, 1) := by decide +kernel
theorem dX1_rightRowOf_1 : decode cX1_rightRowOf 1 = .ok (.iload_n 1, 1) := by decide +kernel
theorem dX1_rightRowOf_2 : decode cX1_rightRowOf 2 = .ok (.invokevirtual 41, 3) := by decide +kernel
theorem dX1_rightRowOf_5 : decode cX1_rightRowOf 5 = .ok (.ifCond .eq 16, 3) := by decide +kernel
theorem dX1_rightRowOf_8 : decode cX1_rightRowOf 8 = .ok (.aload_n 0, 1) := by decide +kernel
theorem dX1_rightRowOf_9 : decode cX1_rightRowOf 9 = .ok (.getfield 18, 3) := by decide +kernel
theorem dX1_rightRowOf_12 : decode cX1_rightRowOf 12 = .ok (.iload_n 1, 1) := by decide +kernel
theorem dX1_rightRowOf_13 : decode cX1_rightRowOf 13 = .ok (.iaload, 1) := by decide +kernel
theorem dX1_rightRowOf_14 : decode cX1_rightRowOf 14 = .ok (.sipush 511, 3) := by decide +kernel
theorem dX1_rightRowOf_17 : decode cX1_rightRowOf 17 = .ok (.iand, 1) := by decide +kernel
theorem dX1_rightRowOf_18 : decode cX1_rightRowOf 18 = .ok (.goto 4, 3) := by decide +kernel
theorem dX1_rightRowOf_21 : decode cX1_rightRowOf 21 = .ok (.iconst (-1), 1) := by decide +kernel
theorem dX1_rightRowOf_22 : decode cX1_rightRowOf 22 = .ok (.ireturn, 1) := by decide +kernel
theorem dX1_figure_0 : decode cX1_figure 0 = .ok (.iload_n 1, 1) := by decide +kernel
theorem dX1_figure_1 : decode cX1_figure 1 = .ok (.ifCond .lt 9, 3) := by decide +kernel
theorem dX1_figure_4 : decode cX1_figure 4 = .ok (.iload_n 1, 1) := by decide +kernel
theorem dX1_figure_5 : decode cX1_figure 5 = .ok (.bipush 11, 2) := by decide +kernel
theorem dX1_figure_7 : decode cX1_figure 7 = .ok (.if_icmp .lt 7, 3) := by decide +kernel
theorem dX1_figure_10 : decode cX1_figure 10 = .ok (.iconst (-1), 1) := by decide +kernel
theorem dX1_figure_11 : decode cX1_figure 11 = .ok (.goto 9, 3) := by decide +kernel
theorem dX1_figure_14 : decode cX1_figure 14 = .ok (.aload_n 0, 1) := by decide +kernel
theorem dX1_figure_15 : decode cX1_figure 15 = .ok (.getfield 11, 3) := by decide +kernel
theorem dX1_figure_18 : decode cX1_figure 18 = .ok (.iload_n 1, 1) := by decide +kernel
theorem dX1_figure_19 : decode cX1_figure 19 = .ok (.iaload, 1) := by decide +kernel
theorem dX1_figure_20 : decode cX1_figure 20 = .ok (.ireturn, 1) := by decide +kernel
theorem dX1_ofEvent_0 : decode cX1_ofEvent 0 = .ok (.iload_n 1, 1) := by decide +kernel
theorem dX1_ofEvent_1 : decode cX1_ofEvent 1 = .ok (.ifCond .lt 19, 3) := by decide +kernel
theorem dX1_ofEvent_4 : decode cX1_ofEvent 4 = .ok (.iload_n 1, 1) := by decide +kernel
theorem dX1_ofEvent_5 : decode cX1_ofEvent 5 = .ok (.aload_n 0, 1) := by decide +kernel
theorem dX1_ofEvent_6 : decode cX1_ofEvent 6 = .ok (.getfield 11, 3) := by decide +kernel
theorem dX1_ofEvent_9 : decode cX1_ofEvent 9 = .ok (.iconst 5, 1) := by decide +kernel
theorem dX1_ofEvent_10 : decode cX1_ofEvent 10 = .ok (.iaload, 1) := by decide +kernel
theorem dX1_ofEvent_11 : decode cX1_ofEvent 11 = .ok (.sipush 300, 3) := by decide +kernel
theorem dX1_ofEvent_14 : decode cX1_ofEvent 14 = .ok (.invokestatic 45, 3) := by decide +kernel
theorem dX1_ofEvent_17 : decode cX1_ofEvent 17 = .ok (.if_icmp .lt 5, 3) := by decide +kernel
theorem dX1_ofEvent_20 : decode cX1_ofEvent 20 = .ok (.iconst (-1), 1) := by decide +kernel
theorem dX1_ofEvent_21 : decode cX1_ofEvent 21 = .ok (.ireturn, 1) := by decide +kernel
theorem dX1_ofEvent_22 : decode cX1_ofEvent 22 = .ok (.iload_n 2, 1) := by decide +kernel
theorem dX1_ofEvent_23 : decode cX1_ofEvent 23 = .ok (.ifCond .lt 8, 3) := by decide +kernel
theorem dX1_ofEvent_26 : decode cX1_ofEvent 26 = .ok (.iload_n 2, 1) := by decide +kernel
theorem dX1_ofEvent_27 : decode cX1_ofEvent 27 = .ok (.iconst 5, 1) := by decide +kernel
theorem dX1_ofEvent_28 : decode cX1_ofEvent 28 = .ok (.if_icmp .lt 5, 3) := by decide +kernel
theorem dX1_ofEvent_31 : decode cX1_ofEvent 31 = .ok (.iconst (-1), 1) := by decide +kernel
theorem dX1_ofEvent_32 : decode cX1_ofEvent 32 = .ok (.ireturn, 1) := by decide +kernel
theorem dX1_ofEvent_33 : decode cX1_ofEvent 33 = .ok (.aload_n 0, 1) := by decide +kernel
theorem dX1_ofEvent_34 : decode cX1_ofEvent 34 = .ok (.getfield 15, 3) := by decide +kernel
theorem dX1_ofEvent_37 : decode cX1_ofEvent 37 = .ok (.iload_n 1, 1) := by decide +kernel
theorem dX1_ofEvent_38 : decode cX1_ofEvent 38 = .ok (.iconst 5, 1) := by decide +kernel
theorem dX1_ofEvent_39 : decode cX1_ofEvent 39 = .ok (.imul, 1) := by decide +kernel
theorem dX1_ofEvent_40 : decode cX1_ofEvent 40 = .ok (.iload_n 2, 1) := by decide +kernel
theorem dX1_ofEvent_41 : decode cX1_ofEvent 41 = .ok (.iadd, 1) := by decide +kernel
theorem dX1_ofEvent_42 : decode cX1_ofEvent 42 = .ok (.iaload, 1) := by decide +kernel
theorem dX1_ofEvent_43 : decode cX1_ofEvent 43 = .ok (.ireturn, 1) := by decide +kernel
theorem dX2_init_0 : decode cX2_init 0 = .ok (.aload_n 0, 1) := by decide +kernel
theorem dX2_init_1 : decode cX2_init 1 = .ok (.invokespecial 3, 3) := by decide +kernel
theorem dX2_init_4 : decode cX2_init 4 = .ok (.aload_n 0, 1) := by decide +kernel
theorem dX2_init_5 : decode cX2_init 5 = .ok (.aload_n 1, 1) := by decide +kernel
theorem dX2_init_6 : decode cX2_init 6 = .ok (.putfield 9, 3) := by decide +kernel
theorem dX2_init_9 : decode cX2_init 9 = .ok (.aload_n 0, 1) := by decide +kernel
theorem dX2_init_10 : decode cX2_init 10 = .ok (.iload_n 2, 1) := by decide +kernel
theorem dX2_init_11 : decode cX2_init 11 = .ok (.putfield 15, 3) := by decide +kernel
theorem dX2_init_14 : decode cX2_init 14 = .ok (.aload_n 0, 1) := by decide +kernel
theorem dX2_init_15 : decode cX2_init 15 = .ok (.sipush 500, 3) := by decide +kernel
theorem dX2_init_18 : decode cX2_init 18 = .ok (.newarray .int, 2) := by decide +kernel
theorem dX2_init_20 : decode cX2_init 20 = .ok (.putfield 19, 3) := by decide +kernel
theorem dX2_init_23 : decode cX2_init 23 = .ok (.aload_n 0, 1) := by decide +kernel
theorem dX2_init_24 : decode cX2_init 24 = .ok (.sipush 500, 3) := by decide +kernel
theorem dX2_init_27 : decode cX2_init 27 = .ok (.newarray .int, 2) := by decide +kernel
theorem dX2_init_29 : decode cX2_init 29 = .ok (.putfield 23, 3) := by decide +kernel
theorem dX2_init_32 : decode cX2_init 32 = .ok (.aload_n 0, 1) := by decide +kernel
theorem dX2_init_33 : decode cX2_init 33 = .ok (.sipush 500, 3) := by decide +kernel
theorem dX2_init_36 : decode cX2_init 36 = .ok (.newarray .int, 2) := by decide +kernel
theorem dX2_init_38 : decode cX2_init 38 = .ok (.putfield 26, 3) := by decide +kernel
theorem dX2_init_41 : decode cX2_init 41 = .ok (.aload_n 0, 1) := by decide +kernel
theorem dX2_init_42 : decode cX2_init 42 = .ok (.sipush 500, 3) := by decide +kernel
theorem dX2_init_45 : decode cX2_init 45 = .ok (.newarray .int, 2) := by decide +kernel
theorem dX2_init_47 : decode cX2_init 47 = .ok (.putfield 29, 3) := by decide +kernel
theorem dX2_init_50 : decode cX2_init 50 = .ok (.aload_n 0, 1) := by decide +kernel
theorem dX2_init_51 : decode cX2_init 51 = .ok (.sipush 152, 3) := by decide +kernel
theorem dX2_init_54 : decode cX2_init 54 = .ok (.newarray .int, 2) := by decide +kernel
theorem dX2_init_56 : decode cX2_init 56 = .ok (.putfield 32, 3) := by decide +kernel
theorem dX2_init_59 : decode cX2_init 59 = .ok (.aload_n 0, 1) := by decide +kernel
theorem dX2_init_60 : decode cX2_init 60 = .ok (.iconst 0, 1) := by decide +kernel
theorem dX2_init_61 : decode cX2_init 61 = .ok (.putfield 35, 3) := by decide +kernel
theorem dX2_init_64 : decode cX2_init 64 = .ok (.return_, 1) := by decide +kernel
theorem dX2_copyOf_0 : decode cX2_copyOf 0 = .ok (.aload_n 0, 1) := by decide +kernel
theorem dX2_copyOf_1 : decode cX2_copyOf 1 = .ok (.aload_n 1, 1) := by decide +kernel
theorem dX2_copyOf_2 : decode cX2_copyOf 2 = .ok (.getfield 39, 3) := by decide +kernel
theorem dX2_copyOf_5 : decode cX2_copyOf 5 = .ok (.putfield 35, 3) := by decide +kernel
theorem dX2_copyOf_8 : decode cX2_copyOf 8 = .ok (.aload_n 1, 1) := by decide +kernel
theorem dX2_copyOf_9 : decode cX2_copyOf 9 = .ok (.getfield 42, 3) := by decide +kernel
theorem dX2_copyOf_12 : decode cX2_copyOf 12 = .ok (.iconst 0, 1) := by decide +kernel
theorem dX2_copyOf_13 : decode cX2_copyOf 13 = .ok (.aload_n 0, 1) := by decide +kernel
theorem dX2_copyOf_14 : decode cX2_copyOf 14 = .ok (.getfield 19, 3) := by decide +kernel
theorem dX2_copyOf_17 : decode cX2_copyOf 17 = .ok (.iconst 0, 1) := by decide +kernel
theorem dX2_copyOf_18 : decode cX2_copyOf 18 = .ok (.aload_n 0, 1) := by decide +kernel
theorem dX2_copyOf_19 : decode cX2_copyOf 19 = .ok (.getfield 35, 3) := by decide +kernel
theorem dX2_copyOf_22 : decode cX2_copyOf 22 = .ok (.invokestatic 43, 3) := by decide +kernel
theorem dX2_copyOf_25 : decode cX2_copyOf 25 = .ok (.aload_n 1, 1) := by decide +kernel
theorem dX2_copyOf_26 : decode cX2_copyOf 26 = .ok (.getfield 49, 3) := by decide +kernel
theorem dX2_copyOf_29 : decode cX2_copyOf 29 = .ok (.iconst 0, 1) := by decide +kernel
theorem dX2_copyOf_30 : decode cX2_copyOf 30 = .ok (.aload_n 0, 1) := by decide +kernel
theorem dX2_copyOf_31 : decode cX2_copyOf 31 = .ok (.getfield 23, 3) := by decide +kernel
theorem dX2_copyOf_34 : decode cX2_copyOf 34 = .ok (.iconst 0, 1) := by decide +kernel
theorem dX2_copyOf_35 : decode cX2_copyOf 35 = .ok (.aload_n 0, 1) := by decide +kernel
theorem dX2_copyOf_36 : decode cX2_copyOf 36 = .ok (.getfield 35, 3) := by decide +kernel
theorem dX2_copyOf_39 : decode cX2_copyOf 39 = .ok (.invokestatic 43, 3) := by decide +kernel
theorem dX2_copyOf_42 : decode cX2_copyOf 42 = .ok (.iconst 0, 1) := by decide +kernel
theorem dX2_copyOf_43 : decode cX2_copyOf 43 = .ok (.istore_n 2, 1) := by decide +kernel
theorem dX2_copyOf_44 : decode cX2_copyOf 44 = .ok (.iload_n 2, 1) := by decide +kernel
theorem dX2_copyOf_45 : decode cX2_copyOf 45 = .ok (.aload_n 0, 1) := by decide +kernel
theorem dX2_copyOf_46 : decode cX2_copyOf 46 = .ok (.getfield 35, 3) := by decide +kernel
theorem dX2_copyOf_49 : decode cX2_copyOf 49 = .ok (.if_icmp .ge 16, 3) := by decide +kernel
theorem dX2_copyOf_52 : decode cX2_copyOf 52 = .ok (.aload_n 0, 1) := by decide +kernel
theorem dX2_copyOf_53 : decode cX2_copyOf 53 = .ok (.getfield 26, 3) := by decide +kernel
theorem dX2_copyOf_56 : decode cX2_copyOf 56 = .ok (.iload_n 2, 1) := by decide +kernel
theorem dX2_copyOf_57 : decode cX2_copyOf 57 = .ok (.iload_n 2, 1) := by decide +kernel
theorem dX2_copyOf_58 : decode cX2_copyOf 58 = .ok (.iastore, 1) := by decide +kernel
theorem dX2_copyOf_59 : decode cX2_copyOf 59 = .ok (.iinc 2 1, 3) := by decide +kernel
theorem dX2_copyOf_62 : decode cX2_copyOf 62 = .ok (.goto (-18), 3) := by decide +kernel
theorem dX2_copyOf_65 : decode cX2_copyOf 65 = .ok (.return_, 1) := by decide +kernel
theorem dX2_keyOf_0 : decode cX2_keyOf 0 = .ok (.iload_n 1, 1) := by decide +kernel
theorem dX2_keyOf_1 : decode cX2_keyOf 1 = .ok (.ifCond .lt 11, 3) := by decide +kernel
theorem dX2_keyOf_4 : decode cX2_keyOf 4 = .ok (.iload_n 1, 1) := by decide +kernel
theorem dX2_keyOf_5 : decode cX2_keyOf 5 = .ok (.aload_n 0, 1) := by decide +kernel
theorem dX2_keyOf_6 : decode cX2_keyOf 6 = .ok (.getfield 35, 3) := by decide +kernel
theorem dX2_keyOf_9 : decode cX2_keyOf 9 = .ok (.if_icmp .lt 7, 3) := by decide +kernel
theorem dX2_keyOf_12 : decode cX2_keyOf 12 = .ok (.iconst (-1), 1) := by decide +kernel
theorem dX2_keyOf_13 : decode cX2_keyOf 13 = .ok (.goto 9, 3) := by decide +kernel
theorem dX2_keyOf_16 : decode cX2_keyOf 16 = .ok (.aload_n 0, 1) := by decide +kernel
theorem dX2_keyOf_17 : decode cX2_keyOf 17 = .ok (.getfield 19, 3) := by decide +kernel
theorem dX2_keyOf_20 : decode cX2_keyOf 20 = .ok (.iload_n 1, 1) := by decide +kernel
theorem dX2_keyOf_21 : decode cX2_keyOf 21 = .ok (.iaload, 1) := by decide +kernel
theorem dX2_keyOf_22 : decode cX2_keyOf 22 = .ok (.ireturn, 1) := by decide +kernel
theorem dX2_valueOf_0 : decode cX2_valueOf 0 = .ok (.iload_n 1, 1) := by decide +kernel
theorem dX2_valueOf_1 : decode cX2_valueOf 1 = .ok (.ifCond .lt 11, 3) := by decide +kernel
theorem dX2_valueOf_4 : decode cX2_valueOf 4 = .ok (.iload_n 1, 1) := by decide +kernel
theorem dX2_valueOf_5 : decode cX2_valueOf 5 = .ok (.aload_n 0, 1) := by decide +kernel
theorem dX2_valueOf_6 : decode cX2_valueOf 6 = .ok (.getfield 35, 3) := by decide +kernel
theorem dX2_valueOf_9 : decode cX2_valueOf 9 = .ok (.if_icmp .lt 7, 3) := by decide +kernel
theorem dX2_valueOf_12 : decode cX2_valueOf 12 = .ok (.iconst (-1), 1) := by decide +kernel
theorem dX2_valueOf_13 : decode cX2_valueOf 13 = .ok (.goto 9, 3) := by decide +kernel
theorem dX2_valueOf_16 : decode cX2_valueOf 16 = .ok (.aload_n 0, 1) := by decide +kernel
theorem dX2_valueOf_17 : decode cX2_valueOf 17 = .ok (.getfield 23, 3) := by decide +kernel
theorem dX2_valueOf_20 : decode cX2_valueOf 20 = .ok (.iload_n 1, 1) := by decide +kernel
theorem dX2_valueOf_21 : decode cX2_valueOf 21 = .ok (.iaload, 1) := by decide +kernel
theorem dX2_valueOf_22 : decode cX2_valueOf 22 = .ok (.ireturn, 1) := by decide +kernel
theorem dX2_rowAt_0 : decode cX2_rowAt 0 = .ok (.iload_n 1, 1) := by decide +kernel
theorem dX2_rowAt_1 : decode cX2_rowAt 1 = .ok (.ifCond .lt 11, 3) := by decide +kernel
theorem dX2_rowAt_4 : decode cX2_rowAt 4 = .ok (.iload_n 1, 1) := by decide +kernel
theorem dX2_rowAt_5 : decode cX2_rowAt 5 = .ok (.aload_n 0, 1) := by decide +kernel
theorem dX2_rowAt_6 : decode cX2_rowAt 6 = .ok (.getfield 35, 3) := by decide +kernel
theorem dX2_rowAt_9 : decode cX2_rowAt 9 = .ok (.if_icmp .lt 7, 3) := by decide +kernel
theorem dX2_rowAt_12 : decode cX2_rowAt 12 = .ok (.iconst (-1), 1) := by decide +kernel
theorem dX2_rowAt_13 : decode cX2_rowAt 13 = .ok (.goto 9, 3) := by decide +kernel
theorem dX2_rowAt_16 : decode cX2_rowAt 16 = .ok (.aload_n 0, 1) := by decide +kernel
theorem dX2_rowAt_17 : decode cX2_rowAt 17 = .ok (.getfield 26, 3) := by decide +kernel
theorem dX2_rowAt_20 : decode cX2_rowAt 20 = .ok (.iload_n 1, 1) := by decide +kernel
theorem dX2_rowAt_21 : decode cX2_rowAt 21 = .ok (.iaload, 1) := by decide +kernel
theorem dX2_rowAt_22 : decode cX2_rowAt 22 = .ok (.ireturn, 1) := by decide +kernel
theorem dX2_keyAt_0 : decode cX2_keyAt 0 = .ok (.iload_n 1, 1) := by decide +kernel
theorem dX2_keyAt_1 : decode cX2_keyAt 1 = .ok (.ifCond .lt 11, 3) := by decide +kernel
theorem dX2_keyAt_4 : decode cX2_keyAt 4 = .ok (.iload_n 1, 1) := by decide +kernel
theorem dX2_keyAt_5 : decode cX2_keyAt 5 = .ok (.aload_n 0, 1) := by decide +kernel
theorem dX2_keyAt_6 : decode cX2_keyAt 6 = .ok (.getfield 35, 3) := by decide +kernel
theorem dX2_keyAt_9 : decode cX2_keyAt 9 = .ok (.if_icmp .lt 7, 3) := by decide +kernel
theorem dX2_keyAt_12 : decode cX2_keyAt 12 = .ok (.iconst (-1), 1) := by decide +kernel
theorem dX2_keyAt_13 : decode cX2_keyAt 13 = .ok (.goto 14, 3) := by decide +kernel
theorem dX2_keyAt_16 : decode cX2_keyAt 16 = .ok (.aload_n 0, 1) := by decide +kernel
theorem dX2_keyAt_17 : decode cX2_keyAt 17 = .ok (.getfield 19, 3) := by decide +kernel
theorem dX2_keyAt_20 : decode cX2_keyAt 20 = .ok (.aload_n 0, 1) := by decide +kernel
theorem dX2_keyAt_21 : decode cX2_keyAt 21 = .ok (.getfield 26, 3) := by decide +kernel
theorem dX2_keyAt_24 : decode cX2_keyAt 24 = .ok (.iload_n 1, 1) := by decide +kernel
theorem dX2_keyAt_25 : decode cX2_keyAt 25 = .ok (.iaload, 1) := by decide +kernel
theorem dX2_keyAt_26 : decode cX2_keyAt 26 = .ok (.iaload, 1) := by decide +kernel
theorem dX2_keyAt_27 : decode cX2_keyAt 27 = .ok (.ireturn, 1) := by decide +kernel
set_option maxRecDepth 20000 in
theorem ggX2_hasOnlyKey_X2_keyAt : GoodIn wsX2_hasOnlyKey wsX2_keyAt := goodIn_r _ [5, 6, 7, 8, 9, 10, 11, 12, 13, 14, 15, 16] (by decide +kernel) (by decide +kernel)
set_option maxRecDepth 20000 in
theorem gX2_hasOnlyKey_X2_keyAt : GoodIn wsX2_hasOnlyKey (wsV RX2 50 RX2 yX2_keyAt wsX2_keyAt) := goodIn_app (goodIn_of _ (by decide +kernel)) ggX2_hasOnlyKey_X2_keyAt
theorem dX2_hasOnlyKey_0 : decode cX2_hasOnlyKey 0 = .ok (.iload_n 2, 1) := by decide +kernel
theorem dX2_hasOnlyKey_1 : decode cX2_hasOnlyKey 1 = .ok (.istore 4, 2) := by decide +kernel
theorem dX2_hasOnlyKey_3 : decode cX2_hasOnlyKey 3 = .ok (.iload 4, 2) := by decide +kernel
theorem dX2_hasOnlyKey_5 : decode cX2_hasOnlyKey 5 = .ok (.iload_n 3, 1) := by decide +kernel
theorem dX2_hasOnlyKey_6 : decode cX2_hasOnlyKey 6 = .ok (.if_icmp .ge 21, 3) := by decide +kernel
theorem dX2_hasOnlyKey_9 : decode cX2_hasOnlyKey 9 = .ok (.aload_n 0, 1) := by decide +kernel
theorem dX2_hasOnlyKey_10 : decode cX2_hasOnlyKey 10 = .ok (.iload 4, 2) := by decide +kernel
theorem dX2_hasOnlyKey_12 : decode cX2_hasOnlyKey 12 = .ok (.invokevirtual 50, 3) := by decide +kernel
theorem dX2_hasOnlyKey_15 : decode cX2_hasOnlyKey 15 = .ok (.iload_n 1, 1) := by decide +kernel
theorem dX2_hasOnlyKey_16 : decode cX2_hasOnlyKey 16 = .ok (.if_icmp .eq 5, 3) := by decide +kernel
theorem dX2_hasOnlyKey_19 : decode cX2_hasOnlyKey 19 = .ok (.iconst 0, 1) := by decide +kernel
theorem dX2_hasOnlyKey_20 : decode cX2_hasOnlyKey 20 = .ok (.ireturn, 1) := by decide +kernel
theorem dX2_hasOnlyKey_21 : decode cX2_hasOnlyKey 21 = .ok (.iinc 4 1, 3) := by decide +kernel
theorem dX2_hasOnlyKey_24 : decode cX2_hasOnlyKey 24 = .ok (.goto (-21), 3) := by decide +kernel
theorem dX2_hasOnlyKey_27 : decode cX2_hasOnlyKey 27 = .ok (.iconst 1, 1) := by decide +kernel
theorem dX2_hasOnlyKey_28 : decode cX2_hasOnlyKey 28 = .ok (.ireturn, 1) := by decide +kernel
set_option maxRecDepth 20000 in
theorem ggX2_layInParts_X2_keyAt : GoodIn wsX2_layInParts wsX2_keyAt := goodIn_r _ [10, 1, 11, 4, 34, 35, 36, 37, 38, 39, 40, 41] (by decide +kernel) (by decide +kernel)
set_option maxRecDepth 20000 in
theorem gX2_layInParts_X2_keyAt : GoodIn wsX2_layInParts (wsV RX2 50 RX2 yX2_keyAt wsX2_keyAt) := goodIn_app (goodIn_of _ (by decide +kernel)) ggX2_layInParts_X2_keyAt
set_option maxRecDepth 20000 in
theorem ggX2_layInParts_X3_partOf : GoodIn wsX2_layInParts wsX3_partOf := goodIn_r _ [16, 17, 18, 19, 15, 20, 21, 22, 23, 24, 25, 26, 27, 28, 42] (by decide +kernel) (by decide +kernel)
set_option maxRecDepth 20000 in
theorem gX2_layInParts_X3_partOf : GoodIn wsX2_layInParts (wsV RX2 54 RX3 yX3_partOf wsX3_partOf) := goodIn_app (goodIn_of _ (by decide +kernel)) ggX2_layInParts_X3_partOf
set_option maxRecDepth 20000 in
theorem ggX2_layInParts_X3_parts : GoodIn wsX2_layInParts wsX3_parts := goodIn_r _ [27, 28, 42] (by decide +kernel) (by decide +kernel)
set_option maxRecDepth 20000 in
theorem gX2_layInParts_X3_parts : GoodIn wsX2_layInParts (wsV RX2 60 RX3 yX3_parts wsX3_parts) := goodIn_app (goodIn_of _ (by decide +kernel)) ggX2_layInParts_X3_parts
set_option maxRecDepth 20000 in
theorem ggX2_layInParts_X3_pagesFor : GoodIn wsX2_layInParts wsX3_pagesFor := goodIn_r _ [33, 28, 42] (by decide +kernel) (by decide +kernel)
set_option maxRecDepth 20000 in
theorem gX2_layInParts_X3_pagesFor : GoodIn wsX2_layInParts (wsV RX2 64 RX3 yX3_pagesFor wsX3_pagesFor) := goodIn_app (goodIn_of _ (by decide +kernel)) ggX2_layInParts_X3_pagesFor
theorem dX2_layInParts_0 : decode cX2_layInParts 0 = .ok (.iload_n 1, 1) := by decide +kernel
theorem dX2_layInParts_1 : decode cX2_layInParts 1 = .ok (.ifCond .lt 21, 3) := by decide +kernel
theorem dX2_layInParts_4 : decode cX2_layInParts 4 = .ok (.iload_n 2, 1) := by decide +kernel
theorem dX2_layInParts_5 : decode cX2_layInParts 5 = .ok (.aload_n 0, 1) := by decide +kernel
theorem dX2_layInParts_6 : decode cX2_layInParts 6 = .ok (.getfield 35, 3) := by decide +kernel
theorem dX2_layInParts_9 : decode cX2_layInParts 9 = .ok (.if_icmp .gt 13, 3) := by decide +kernel
theorem dX2_layInParts_12 : decode cX2_layInParts 12 = .ok (.iload_n 3, 1) := by decide +kernel
theorem dX2_layInParts_13 : decode cX2_layInParts 13 = .ok (.ifCond .lt 9, 3) := by decide +kernel
theorem dX2_layInParts_16 : decode cX2_layInParts 16 = .ok (.iload_n 3, 1) := by decide +kernel
theorem dX2_layInParts_17 : decode cX2_layInParts 17 = .ok (.bipush 8, 2) := by decide +kernel
theorem dX2_layInParts_19 : decode cX2_layInParts 19 = .ok (.if_icmp .lt 5, 3) := by decide +kernel
theorem dX2_layInParts_22 : decode cX2_layInParts 22 = .ok (.iconst 0, 1) := by decide +kernel
theorem dX2_layInParts_23 : decode cX2_layInParts 23 = .ok (.ireturn, 1) := by decide +kernel
theorem dX2_layInParts_24 : decode cX2_layInParts 24 = .ok (.iload_n 1, 1) := by decide +kernel
theorem dX2_layInParts_25 : decode cX2_layInParts 25 = .ok (.istore 4, 2) := by decide +kernel
theorem dX2_layInParts_27 : decode cX2_layInParts 27 = .ok (.iload 4, 2) := by decide +kernel
theorem dX2_layInParts_29 : decode cX2_layInParts 29 = .ok (.iload_n 2, 1) := by decide +kernel
theorem dX2_layInParts_30 : decode cX2_layInParts 30 = .ok (.if_icmp .ge 41, 3) := by decide +kernel
theorem dX2_layInParts_33 : decode cX2_layInParts 33 = .ok (.aload_n 0, 1) := by decide +kernel
theorem dX2_layInParts_34 : decode cX2_layInParts 34 = .ok (.getfield 29, 3) := by decide +kernel
theorem dX2_layInParts_37 : decode cX2_layInParts 37 = .ok (.iload 4, 2) := by decide +kernel
theorem dX2_layInParts_39 : decode cX2_layInParts 39 = .ok (.aload_n 0, 1) := by decide +kernel
theorem dX2_layInParts_40 : decode cX2_layInParts 40 = .ok (.getfield 9, 3) := by decide +kernel
theorem dX2_layInParts_43 : decode cX2_layInParts 43 = .ok (.aload_n 0, 1) := by decide +kernel
theorem dX2_layInParts_44 : decode cX2_layInParts 44 = .ok (.iload 4, 2) := by decide +kernel
theorem dX2_layInParts_46 : decode cX2_layInParts 46 = .ok (.invokevirtual 50, 3) := by decide +kernel
theorem dX2_layInParts_49 : decode cX2_layInParts 49 = .ok (.iload_n 3, 1) := by decide +kernel
theorem dX2_layInParts_50 : decode cX2_layInParts 50 = .ok (.invokevirtual 54, 3) := by decide +kernel
theorem dX2_layInParts_53 : decode cX2_layInParts 53 = .ok (.bipush 9, 2) := by decide +kernel
theorem dX2_layInParts_55 : decode cX2_layInParts 55 = .ok (.ishl, 1) := by decide +kernel
theorem dX2_layInParts_56 : decode cX2_layInParts 56 = .ok (.aload_n 0, 1) := by decide +kernel
theorem dX2_layInParts_57 : decode cX2_layInParts 57 = .ok (.getfield 26, 3) := by decide +kernel
theorem dX2_layInParts_60 : decode cX2_layInParts 60 = .ok (.iload 4, 2) := by decide +kernel
theorem dX2_layInParts_62 : decode cX2_layInParts 62 = .ok (.iaload, 1) := by decide +kernel
theorem dX2_layInParts_63 : decode cX2_layInParts 63 = .ok (.ior, 1) := by decide +kernel
theorem dX2_layInParts_64 : decode cX2_layInParts 64 = .ok (.iastore, 1) := by decide +kernel
theorem dX2_layInParts_65 : decode cX2_layInParts 65 = .ok (.iinc 4 1, 3) := by decide +kernel
theorem dX2_layInParts_68 : decode cX2_layInParts 68 = .ok (.goto (-41), 3) := by decide +kernel
theorem dX2_layInParts_71 : decode cX2_layInParts 71 = .ok (.iconst 0, 1) := by decide +kernel
theorem dX2_layInParts_72 : decode cX2_layInParts 72 = .ok (.istore 4, 2) := by decide +kernel
theorem dX2_layInParts_74 : decode cX2_layInParts 74 = .ok (.iload_n 1, 1) := by decide +kernel
theorem dX2_layInParts_75 : decode cX2_layInParts 75 = .ok (.istore 5, 2) := by decide +kernel
theorem dX2_layInParts_77 : decode cX2_layInParts 77 = .ok (.iconst 0, 1) := by decide +kernel
theorem dX2_layInParts_78 : decode cX2_layInParts 78 = .ok (.istore 6, 2) := by decide +kernel
theorem dX2_layInParts_80 : decode cX2_layInParts 80 = .ok (.iload 6, 2) := by decide +kernel
theorem dX2_layInParts_82 : decode cX2_layInParts 82 = .ok (.aload_n 0, 1) := by decide +kernel
theorem dX2_layInParts_83 : decode cX2_layInParts 83 = .ok (.getfield 9, 3) := by decide +kernel
theorem dX2_layInParts_86 : decode cX2_layInParts 86 = .ok (.invokevirtual 60, 3) := by decide +kernel
theorem dX2_layInParts_89 : decode cX2_layInParts 89 = .ok (.if_icmp .ge 101, 3) := by decide +kernel
theorem dX2_layInParts_92 : decode cX2_layInParts 92 = .ok (.iload 5, 2) := by decide +kernel
theorem dX2_layInParts_94 : decode cX2_layInParts 94 = .ok (.istore 7, 2) := by decide +kernel
theorem dX2_layInParts_96 : decode cX2_layInParts 96 = .ok (.iload_n 1, 1) := by decide +kernel
theorem dX2_layInParts_97 : decode cX2_layInParts 97 = .ok (.istore 8, 2) := by decide +kernel
theorem dX2_layInParts_99 : decode cX2_layInParts 99 = .ok (.iload 8, 2) := by decide +kernel
theorem dX2_layInParts_101 : decode cX2_layInParts 101 = .ok (.iload_n 2, 1) := by decide +kernel
theorem dX2_layInParts_102 : decode cX2_layInParts 102 = .ok (.if_icmp .ge 51, 3) := by decide +kernel
theorem dX2_layInParts_105 : decode cX2_layInParts 105 = .ok (.aload_n 0, 1) := by decide +kernel
theorem dX2_layInParts_106 : decode cX2_layInParts 106 = .ok (.getfield 29, 3) := by decide +kernel
theorem dX2_layInParts_109 : decode cX2_layInParts 109 = .ok (.iload 8, 2) := by decide +kernel
theorem dX2_layInParts_111 : decode cX2_layInParts 111 = .ok (.iaload, 1) := by decide +kernel
theorem dX2_layInParts_112 : decode cX2_layInParts 112 = .ok (.bipush 9, 2) := by decide +kernel
theorem dX2_layInParts_114 : decode cX2_layInParts 114 = .ok (.ishr, 1) := by decide +kernel
theorem dX2_layInParts_115 : decode cX2_layInParts 115 = .ok (.iload 6, 2) := by decide +kernel
theorem dX2_layInParts_117 : decode cX2_layInParts 117 = .ok (.if_icmp .ne 30, 3) := by decide +kernel
theorem dX2_layInParts_120 : decode cX2_layInParts 120 = .ok (.iload 5, 2) := by decide +kernel
theorem dX2_layInParts_122 : decode cX2_layInParts 122 = .ok (.iload_n 2, 1) := by decide +kernel
theorem dX2_layInParts_123 : decode cX2_layInParts 123 = .ok (.if_icmp .ge 24, 3) := by decide +kernel
theorem dX2_layInParts_126 : decode cX2_layInParts 126 = .ok (.aload_n 0, 1) := by decide +kernel
theorem dX2_layInParts_127 : decode cX2_layInParts 127 = .ok (.getfield 26, 3) := by decide +kernel
theorem dX2_layInParts_130 : decode cX2_layInParts 130 = .ok (.iload 5, 2) := by decide +kernel
theorem dX2_layInParts_132 : decode cX2_layInParts 132 = .ok (.aload_n 0, 1) := by decide +kernel
theorem dX2_layInParts_133 : decode cX2_layInParts 133 = .ok (.getfield 29, 3) := by decide +kernel
theorem dX2_layInParts_136 : decode cX2_layInParts 136 = .ok (.iload 8, 2) := by decide +kernel
theorem dX2_layInParts_138 : decode cX2_layInParts 138 = .ok (.iaload, 1) := by decide +kernel
theorem dX2_layInParts_139 : decode cX2_layInParts 139 = .ok (.sipush 511, 3) := by decide +kernel
theorem dX2_layInParts_142 : decode cX2_layInParts 142 = .ok (.iand, 1) := by decide +kernel
theorem dX2_layInParts_143 : decode cX2_layInParts 143 = .ok (.iastore, 1) := by decide +kernel
theorem dX2_layInParts_144 : decode cX2_layInParts 144 = .ok (.iinc 5 1, 3) := by decide +kernel
theorem dX2_layInParts_147 : decode cX2_layInParts 147 = .ok (.iinc 8 1, 3) := by decide +kernel
theorem dX2_layInParts_150 : decode cX2_layInParts 150 = .ok (.goto (-51), 3) := by decide +kernel
theorem dX2_layInParts_153 : decode cX2_layInParts 153 = .ok (.aload_n 0, 1) := by decide +kernel
theorem dX2_layInParts_154 : decode cX2_layInParts 154 = .ok (.getfield 32, 3) := by decide +kernel
theorem dX2_layInParts_157 : decode cX2_layInParts 157 = .ok (.iload_n 3, 1) := by decide +kernel
theorem dX2_layInParts_158 : decode cX2_layInParts 158 = .ok (.bipush 19, 2) := by decide +kernel
theorem dX2_layInParts_160 : decode cX2_layInParts 160 = .ok (.imul, 1) := by decide +kernel
theorem dX2_layInParts_161 : decode cX2_layInParts 161 = .ok (.iload 6, 2) := by decide +kernel
theorem dX2_layInParts_163 : decode cX2_layInParts 163 = .ok (.iadd, 1) := by decide +kernel
theorem dX2_layInParts_164 : decode cX2_layInParts 164 = .ok (.iload 5, 2) := by decide +kernel
theorem dX2_layInParts_166 : decode cX2_layInParts 166 = .ok (.iastore, 1) := by decide +kernel
theorem dX2_layInParts_167 : decode cX2_layInParts 167 = .ok (.iload 4, 2) := by decide +kernel
theorem dX2_layInParts_169 : decode cX2_layInParts 169 = .ok (.aload_n 0, 1) := by decide +kernel
theorem dX2_layInParts_170 : decode cX2_layInParts 170 = .ok (.getfield 9, 3) := by decide +kernel
theorem dX2_layInParts_173 : decode cX2_layInParts 173 = .ok (.iload 5, 2) := by decide +kernel
theorem dX2_layInParts_175 : decode cX2_layInParts 175 = .ok (.iload 7, 2) := by decide +kernel
theorem dX2_layInParts_177 : decode cX2_layInParts 177 = .ok (.isub, 1) := by decide +kernel
theorem dX2_layInParts_178 : decode cX2_layInParts 178 = .ok (.invokevirtual 64, 3) := by decide +kernel
theorem dX2_layInParts_181 : decode cX2_layInParts 181 = .ok (.iadd, 1) := by decide +kernel
theorem dX2_layInParts_182 : decode cX2_layInParts 182 = .ok (.istore 4, 2) := by decide +kernel
theorem dX2_layInParts_184 : decode cX2_layInParts 184 = .ok (.iinc 6 1, 3) := by decide +kernel
theorem dX2_layInParts_187 : decode cX2_layInParts 187 = .ok (.goto (-107), 3) := by decide +kernel
theorem dX2_layInParts_190 : decode cX2_layInParts 190 = .ok (.iload 4, 2) := by decide +kernel
theorem dX2_layInParts_192 : decode cX2_layInParts 192 = .ok (.ireturn, 1) := by decide +kernel
theorem dX2_partEnd_0 : decode cX2_partEnd 0 = .ok (.iload_n 1, 1) := by decide +kernel
theorem dX2_partEnd_1 : decode cX2_partEnd 1 = .ok (.ifCond .lt 19, 3) := by decide +kernel
theorem dX2_partEnd_4 : decode cX2_partEnd 4 = .ok (.iload_n 1, 1) := by decide +kernel
theorem dX2_partEnd_5 : decode cX2_partEnd 5 = .ok (.bipush 8, 2) := by decide +kernel
theorem dX2_partEnd_7 : decode cX2_partEnd 7 = .ok (.if_icmp .ge 13, 3) := by decide +kernel
theorem dX2_partEnd_10 : decode cX2_partEnd 10 = .ok (.iload_n 2, 1) := by decide +kernel
theorem dX2_partEnd_11 : decode cX2_partEnd 11 = .ok (.ifCond .lt 9, 3) := by decide +kernel
theorem dX2_partEnd_14 : decode cX2_partEnd 14 = .ok (.iload_n 2, 1) := by decide +kernel
theorem dX2_partEnd_15 : decode cX2_partEnd 15 = .ok (.bipush 19, 2) := by decide +kernel
theorem dX2_partEnd_17 : decode cX2_partEnd 17 = .ok (.if_icmp .lt 5, 3) := by decide +kernel
theorem dX2_partEnd_20 : decode cX2_partEnd 20 = .ok (.iconst 0, 1) := by decide +kernel
theorem dX2_partEnd_21 : decode cX2_partEnd 21 = .ok (.ireturn, 1) := by decide +kernel
theorem dX2_partEnd_22 : decode cX2_partEnd 22 = .ok (.aload_n 0, 1) := by decide +kernel
theorem dX2_partEnd_23 : decode cX2_partEnd 23 = .ok (.getfield 32, 3) := by decide +kernel
theorem dX2_partEnd_26 : decode cX2_partEnd 26 = .ok (.iload_n 1, 1) := by decide +kernel
theorem dX2_partEnd_27 : decode cX2_partEnd 27 = .ok (.bipush 19, 2) := by decide +kernel
theorem dX2_partEnd_29 : decode cX2_partEnd 29 = .ok (.imul, 1) := by decide +kernel
theorem dX2_partEnd_30 : decode cX2_partEnd 30 = .ok (.iload_n 2, 1) := by decide +kernel
theorem dX2_partEnd_31 : decode cX2_partEnd 31 = .ok (.iadd, 1) := by decide +kernel
theorem dX2_partEnd_32 : decode cX2_partEnd 32 = .ok (.iaload, 1) := by decide +kernel
theorem dX2_partEnd_33 : decode cX2_partEnd 33 = .ok (.ireturn, 1) := by decide +kernel
theorem dX3_init_0 : decode cX3_init 0 = .ok (.aload_n 0, 1) := by decide +kernel
theorem dX3_init_1 : decode cX3_init 1 = .ok (.invokespecial 3, 3) := by decide +kernel
theorem dX3_init_4 : decode cX3_init 4 = .ok (.aload_n 0, 1) := by decide +kernel
theorem dX3_init_5 : decode cX3_init 5 = .ok (.getstatic 9, 3) := by decide +kernel
theorem dX3_init_8 : decode cX3_init 8 = .ok (.invokevirtual 15, 3) := by decide +kernel
theorem dX3_init_11 : decode cX3_init 11 = .ok (.checkcast 16, 3) := by decide +kernel
theorem dX3_init_14 : decode cX3_init 14 = .ok (.putfield 20, 3) := by decide +kernel
theorem dX3_init_17 : decode cX3_init 17 = .ok (.return_, 1) := by decide +kernel
theorem dX3_change_0 : decode cX3_change 0 = .ok (.iload_n 1, 1) := by decide +kernel
theorem dX3_change_1 : decode cX3_change 1 = .ok (.ifCond .lt 30, 3) := by decide +kernel
theorem dX3_change_4 : decode cX3_change 4 = .ok (.iload_n 1, 1) := by decide +kernel
theorem dX3_change_5 : decode cX3_change 5 = .ok (.aload_n 0, 1) := by decide +kernel
theorem dX3_change_6 : decode cX3_change 6 = .ok (.getfield 20, 3) := by decide +kernel
theorem dX3_change_9 : decode cX3_change 9 = .ok (.arraylength, 1) := by decide +kernel
theorem dX3_change_10 : decode cX3_change 10 = .ok (.if_icmp .ge 21, 3) := by decide +kernel
theorem dX3_change_13 : decode cX3_change 13 = .ok (.iload_n 2, 1) := by decide +kernel
theorem dX3_change_14 : decode cX3_change 14 = .ok (.getstatic 23, 3) := by decide +kernel
theorem dX3_change_17 : decode cX3_change 17 = .ok (.iload_n 1, 1) := by decide +kernel
theorem dX3_change_18 : decode cX3_change 18 = .ok (.iaload, 1) := by decide +kernel
theorem dX3_change_19 : decode cX3_change 19 = .ok (.if_icmp .lt 12, 3) := by decide +kernel
theorem dX3_change_22 : decode cX3_change 22 = .ok (.iload_n 2, 1) := by decide +kernel
theorem dX3_change_23 : decode cX3_change 23 = .ok (.getstatic 26, 3) := by decide +kernel
theorem dX3_change_26 : decode cX3_change 26 = .ok (.iload_n 1, 1) := by decide +kernel
theorem dX3_change_27 : decode cX3_change 27 = .ok (.iaload, 1) := by decide +kernel
theorem dX3_change_28 : decode cX3_change 28 = .ok (.if_icmp .le 5, 3) := by decide +kernel
theorem dX3_change_31 : decode cX3_change 31 = .ok (.iconst (-1), 1) := by decide +kernel
theorem dX3_change_32 : decode cX3_change 32 = .ok (.ireturn, 1) := by decide +kernel
theorem dX3_change_33 : decode cX3_change 33 = .ok (.aload_n 0, 1) := by decide +kernel
theorem dX3_change_34 : decode cX3_change 34 = .ok (.getfield 20, 3) := by decide +kernel
theorem dX3_change_37 : decode cX3_change 37 = .ok (.iload_n 1, 1) := by decide +kernel
theorem dX3_change_38 : decode cX3_change 38 = .ok (.iaload, 1) := by decide +kernel
theorem dX3_change_39 : decode cX3_change 39 = .ok (.istore_n 3, 1) := by decide +kernel
theorem dX3_change_40 : decode cX3_change 40 = .ok (.aload_n 0, 1) := by decide +kernel
theorem dX3_change_41 : decode cX3_change 41 = .ok (.getfield 20, 3) := by decide +kernel
theorem dX3_change_44 : decode cX3_change 44 = .ok (.iload_n 1, 1) := by decide +kernel
theorem dX3_change_45 : decode cX3_change 45 = .ok (.iload_n 2, 1) := by decide +kernel
theorem dX3_change_46 : decode cX3_change 46 = .ok (.iastore, 1) := by decide +kernel
theorem dX3_change_47 : decode cX3_change 47 = .ok (.iload_n 3, 1) := by decide +kernel
theorem dX3_change_48 : decode cX3_change 48 = .ok (.ireturn, 1) := by decide +kernel
theorem dX3_memory_0 : decode cX3_memory 0 = .ok (.aload_n 0, 1) := by decide +kernel
theorem dX3_memory_1 : decode cX3_memory 1 = .ok (.getfield 20, 3) := by decide +kernel
theorem dX3_memory_4 : decode cX3_memory 4 = .ok (.iconst 1, 1) := by decide +kernel
theorem dX3_memory_5 : decode cX3_memory 5 = .ok (.iaload, 1) := by decide +kernel
theorem dX3_memory_6 : decode cX3_memory 6 = .ok (.ireturn, 1) := by decide +kernel
theorem dX3_partings_0 : decode cX3_partings 0 = .ok (.aload_n 0, 1) := by decide +kernel
theorem dX3_partings_1 : decode cX3_partings 1 = .ok (.getfield 20, 3) := by decide +kernel
theorem dX3_partings_4 : decode cX3_partings 4 = .ok (.iconst 2, 1) := by decide +kernel
theorem dX3_partings_5 : decode cX3_partings 5 = .ok (.iaload, 1) := by decide +kernel
theorem dX3_partings_6 : decode cX3_partings 6 = .ok (.ireturn, 1) := by decide +kernel
theorem dX3_parts_0 : decode cX3_parts 0 = .ok (.aload_n 0, 1) := by decide +kernel
theorem dX3_parts_1 : decode cX3_parts 1 = .ok (.getfield 20, 3) := by decide +kernel
theorem dX3_parts_4 : decode cX3_parts 4 = .ok (.iconst 1, 1) := by decide +kernel
theorem dX3_parts_5 : decode cX3_parts 5 = .ok (.iaload, 1) := by decide +kernel
theorem dX3_parts_6 : decode cX3_parts 6 = .ok (.iconst 1, 1) := by decide +kernel
theorem dX3_parts_7 : decode cX3_parts 7 = .ok (.isub, 1) := by decide +kernel
theorem dX3_parts_8 : decode cX3_parts 8 = .ok (.ireturn, 1) := by decide +kernel
theorem dX3_blockPages_0 : decode cX3_blockPages 0 = .ok (.aload_n 0, 1) := by decide +kernel
theorem dX3_blockPages_1 : decode cX3_blockPages 1 = .ok (.getfield 20, 3) := by decide +kernel
theorem dX3_blockPages_4 : decode cX3_blockPages 4 = .ok (.iconst 1, 1) := by decide +kernel
theorem dX3_blockPages_5 : decode cX3_blockPages 5 = .ok (.iaload, 1) := by decide +kernel
theorem dX3_blockPages_6 : decode cX3_blockPages 6 = .ok (.iconst 2, 1) := by decide +kernel
theorem dX3_blockPages_7 : decode cX3_blockPages 7 = .ok (.isub, 1) := by decide +kernel
theorem dX3_blockPages_8 : decode cX3_blockPages 8 = .ok (.ireturn, 1) := by decide +kernel
set_option maxRecDepth 20000 in
theorem ggX3_blockRows_X3_blockPages : GoodIn wsX3_blockRows wsX3_blockPages := goodIn_r _ [6, 1, 7] (by decide +kernel) (by decide +kernel)
set_option maxRecDepth 20000 in
theorem gX3_blockRows_X3_blockPages : GoodIn wsX3_blockRows (wsV RX3 29 RX3 yX3_blockPages wsX3_blockPages) := goodIn_app (goodIn_of _ (by decide +kernel)) ggX3_blockRows_X3_blockPages
theorem dX3_blockRows_0 : decode cX3_blockRows 0 = .ok (.aload_n 0, 1) := by decide +kernel
theorem dX3_blockRows_1 : decode cX3_blockRows 1 = .ok (.invokevirtual 29, 3) := by decide +kernel
theorem dX3_blockRows_4 : decode cX3_blockRows 4 = .ok (.aload_n 0, 1) := by decide +kernel
theorem dX3_blockRows_5 : decode cX3_blockRows 5 = .ok (.getfield 20, 3) := by decide +kernel
theorem dX3_blockRows_8 : decode cX3_blockRows 8 = .ok (.iconst 0, 1) := by decide +kernel
theorem dX3_blockRows_9 : decode cX3_blockRows 9 = .ok (.iaload, 1) := by decide +kernel
theorem dX3_blockRows_10 : decode cX3_blockRows 10 = .ok (.imul, 1) := by decide +kernel
theorem dX3_blockRows_11 : decode cX3_blockRows 11 = .ok (.ireturn, 1) := by decide +kernel
theorem dX3_pagesFor_0 : decode cX3_pagesFor 0 = .ok (.aload_n 0, 1) := by decide +kernel
theorem dX3_pagesFor_1 : decode cX3_pagesFor 1 = .ok (.getfield 20, 3) := by decide +kernel
theorem dX3_pagesFor_4 : decode cX3_pagesFor 4 = .ok (.iconst 0, 1) := by decide +kernel
theorem dX3_pagesFor_5 : decode cX3_pagesFor 5 = .ok (.iaload, 1) := by decide +kernel
theorem dX3_pagesFor_6 : decode cX3_pagesFor 6 = .ok (.istore_n 2, 1) := by decide +kernel
theorem dX3_pagesFor_7 : decode cX3_pagesFor 7 = .ok (.iload_n 2, 1) := by decide +kernel
theorem dX3_pagesFor_8 : decode cX3_pagesFor 8 = .ok (.iconst 1, 1) := by decide +kernel
theorem dX3_pagesFor_9 : decode cX3_pagesFor 9 = .ok (.if_icmp .ge 7, 3) := by decide +kernel
theorem dX3_pagesFor_12 : decode cX3_pagesFor 12 = .ok (.iconst 0, 1) := by decide +kernel
theorem dX3_pagesFor_13 : decode cX3_pagesFor 13 = .ok (.goto 10, 3) := by decide +kernel
theorem dX3_pagesFor_16 : decode cX3_pagesFor 16 = .ok (.iload_n 1, 1) := by decide +kernel
theorem dX3_pagesFor_17 : decode cX3_pagesFor 17 = .ok (.iload_n 2, 1) := by decide +kernel
theorem dX3_pagesFor_18 : decode cX3_pagesFor 18 = .ok (.iadd, 1) := by decide +kernel
theorem dX3_pagesFor_19 : decode cX3_pagesFor 19 = .ok (.iconst 1, 1) := by decide +kernel
theorem dX3_pagesFor_20 : decode cX3_pagesFor 20 = .ok (.isub, 1) := by decide +kernel
theorem dX3_pagesFor_21 : decode cX3_pagesFor 21 = .ok (.iload_n 2, 1) := by decide +kernel
theorem dX3_pagesFor_22 : decode cX3_pagesFor 22 = .ok (.idiv, 1) := by decide +kernel
theorem dX3_pagesFor_23 : decode cX3_pagesFor 23 = .ok (.ireturn, 1) := by decide +kernel
set_option maxRecDepth 20000 in
theorem ggX3_partOf_X3_hashOf : GoodIn wsX3_partOf wsX3_hashOf := goodIn_r _ [5, 6, 7, 8] (by decide +kernel) (by decide +kernel)
set_option maxRecDepth 20000 in
theorem gX3_partOf_X3_hashOf : GoodIn wsX3_partOf (va_wsS RX3 33 yX3_hashOf wsX3_hashOf) := goodIn_app (goodIn_of _ (by decide +kernel)) ggX3_partOf_X3_hashOf
set_option maxRecDepth 20000 in
theorem ggX3_partOf_X3_parts : GoodIn wsX3_partOf wsX3_parts := goodIn_r _ [12, 13, 14] (by decide +kernel) (by decide +kernel)
set_option maxRecDepth 20000 in
theorem gX3_partOf_X3_parts : GoodIn wsX3_partOf (wsV RX3 39 RX3 yX3_parts wsX3_parts) := goodIn_app (goodIn_of _ (by decide +kernel)) ggX3_partOf_X3_parts
theorem dX3_partOf_0 : decode cX3_partOf 0 = .ok (.iload_n 1, 1) := by decide +kernel
theorem dX3_partOf_1 : decode cX3_partOf 1 = .ok (.iload_n 2, 1) := by decide +kernel
theorem dX3_partOf_2 : decode cX3_partOf 2 = .ok (.invokestatic 33, 3) := by decide +kernel
theorem dX3_partOf_5 : decode cX3_partOf 5 = .ok (.i2l, 1) := by decide +kernel
theorem dX3_partOf_6 : decode cX3_partOf 6 = .ok (.ldc2_w 37, 3) := by decide +kernel
theorem dX3_partOf_9 : decode cX3_partOf 9 = .ok (.land, 1) := by decide +kernel
theorem dX3_partOf_10 : decode cX3_partOf 10 = .ok (.lstore_n 3, 1) := by decide +kernel
theorem dX3_partOf_11 : decode cX3_partOf 11 = .ok (.aload_n 0, 1) := by decide +kernel
theorem dX3_partOf_12 : decode cX3_partOf 12 = .ok (.invokevirtual 39, 3) := by decide +kernel
theorem dX3_partOf_15 : decode cX3_partOf 15 = .ok (.istore 5, 2) := by decide +kernel
theorem dX3_partOf_17 : decode cX3_partOf 17 = .ok (.iload 5, 2) := by decide +kernel
theorem dX3_partOf_19 : decode cX3_partOf 19 = .ok (.iconst 1, 1) := by decide +kernel
theorem dX3_partOf_20 : decode cX3_partOf 20 = .ok (.if_icmp .ge 7, 3) := by decide +kernel
theorem dX3_partOf_23 : decode cX3_partOf 23 = .ok (.iconst 0, 1) := by decide +kernel
theorem dX3_partOf_24 : decode cX3_partOf 24 = .ok (.goto 9, 3) := by decide +kernel
theorem dX3_partOf_27 : decode cX3_partOf 27 = .ok (.lload_n 3, 1) := by decide +kernel
theorem dX3_partOf_28 : decode cX3_partOf 28 = .ok (.iload 5, 2) := by decide +kernel
theorem dX3_partOf_30 : decode cX3_partOf 30 = .ok (.i2l, 1) := by decide +kernel
theorem dX3_partOf_31 : decode cX3_partOf 31 = .ok (.lrem, 1) := by decide +kernel
theorem dX3_partOf_32 : decode cX3_partOf 32 = .ok (.l2i, 1) := by decide +kernel
theorem dX3_partOf_33 : decode cX3_partOf 33 = .ok (.ireturn, 1) := by decide +kernel
theorem dX3_hashOf_0 : decode cX3_hashOf 0 = .ok (.iload_n 0, 1) := by decide +kernel
theorem dX3_hashOf_1 : decode cX3_hashOf 1 = .ok (.ldc 42, 2) := by decide +kernel
theorem dX3_hashOf_3 : decode cX3_hashOf 3 = .ok (.imul, 1) := by decide +kernel
theorem dX3_hashOf_4 : decode cX3_hashOf 4 = .ok (.iload_n 1, 1) := by decide +kernel
theorem dX3_hashOf_5 : decode cX3_hashOf 5 = .ok (.ldc 43, 2) := by decide +kernel
theorem dX3_hashOf_7 : decode cX3_hashOf 7 = .ok (.imul, 1) := by decide +kernel
theorem dX3_hashOf_8 : decode cX3_hashOf 8 = .ok (.iadd, 1) := by decide +kernel
theorem dX3_hashOf_9 : decode cX3_hashOf 9 = .ok (.istore_n 2, 1) := by decide +kernel
theorem dX3_hashOf_10 : decode cX3_hashOf 10 = .ok (.iload_n 2, 1) := by decide +kernel
theorem dX3_hashOf_11 : decode cX3_hashOf 11 = .ok (.iload_n 2, 1) := by decide +kernel
theorem dX3_hashOf_12 : decode cX3_hashOf 12 = .ok (.bipush 15, 2) := by decide +kernel
theorem dX3_hashOf_14 : decode cX3_hashOf 14 = .ok (.iushr, 1) := by decide +kernel
theorem dX3_hashOf_15 : decode cX3_hashOf 15 = .ok (.ixor, 1) := by decide +kernel
theorem dX3_hashOf_16 : decode cX3_hashOf 16 = .ok (.istore_n 2, 1) := by decide +kernel
theorem dX3_hashOf_17 : decode cX3_hashOf 17 = .ok (.iload_n 2, 1) := by decide +kernel
theorem dX3_hashOf_18 : decode cX3_hashOf 18 = .ok (.ldc 44, 2) := by decide +kernel
theorem dX3_hashOf_20 : decode cX3_hashOf 20 = .ok (.imul, 1) := by decide +kernel
theorem dX3_hashOf_21 : decode cX3_hashOf 21 = .ok (.istore_n 2, 1) := by decide +kernel
theorem dX3_hashOf_22 : decode cX3_hashOf 22 = .ok (.iload_n 2, 1) := by decide +kernel
theorem dX3_hashOf_23 : decode cX3_hashOf 23 = .ok (.iload_n 2, 1) := by decide +kernel
theorem dX3_hashOf_24 : decode cX3_hashOf 24 = .ok (.bipush 13, 2) := by decide +kernel
theorem dX3_hashOf_26 : decode cX3_hashOf 26 = .ok (.iushr, 1) := by decide +kernel
theorem dX3_hashOf_27 : decode cX3_hashOf 27 = .ok (.ixor, 1) := by decide +kernel
theorem dX3_hashOf_28 : decode cX3_hashOf 28 = .ok (.ireturn, 1) := by decide +kernel
theorem dX4_init_0 : decode cX4_init 0 = .ok (.aload_n 0, 1) := by decide +kernel
theorem dX4_init_1 : decode cX4_init 1 = .ok (.invokespecial 3, 3) := by decide +kernel
theorem dX4_init_4 : decode cX4_init 4 = .ok (.aload_n 0, 1) := by decide +kernel
theorem dX4_init_5 : decode cX4_init 5 = .ok (.sipush 500, 3) := by decide +kernel
theorem dX4_init_8 : decode cX4_init 8 = .ok (.newarray .int, 2) := by decide +kernel
theorem dX4_init_10 : decode cX4_init 10 = .ok (.putfield 9, 3) := by decide +kernel
theorem dX4_init_13 : decode cX4_init 13 = .ok (.aload_n 0, 1) := by decide +kernel
theorem dX4_init_14 : decode cX4_init 14 = .ok (.sipush 500, 3) := by decide +kernel
theorem dX4_init_17 : decode cX4_init 17 = .ok (.newarray .int, 2) := by decide +kernel
theorem dX4_init_19 : decode cX4_init 19 = .ok (.putfield 15, 3) := by decide +kernel
theorem dX4_init_22 : decode cX4_init 22 = .ok (.aload_n 0, 1) := by decide +kernel
theorem dX4_init_23 : decode cX4_init 23 = .ok (.iconst 0, 1) := by decide +kernel
theorem dX4_init_24 : decode cX4_init 24 = .ok (.putfield 18, 3) := by decide +kernel
theorem dX4_init_27 : decode cX4_init 27 = .ok (.return_, 1) := by decide +kernel
theorem dX4_add_0 : decode cX4_add 0 = .ok (.aload_n 0, 1) := by decide +kernel
theorem dX4_add_1 : decode cX4_add 1 = .ok (.getfield 18, 3) := by decide +kernel
theorem dX4_add_4 : decode cX4_add 4 = .ok (.sipush 500, 3) := by decide +kernel
theorem dX4_add_7 : decode cX4_add 7 = .ok (.if_icmp .lt 6, 3) := by decide +kernel
theorem dX4_add_10 : decode cX4_add 10 = .ok (.bipush (-2), 2) := by decide +kernel
theorem dX4_add_12 : decode cX4_add 12 = .ok (.ireturn, 1) := by decide +kernel
theorem dX4_add_13 : decode cX4_add 13 = .ok (.aload_n 0, 1) := by decide +kernel
theorem dX4_add_14 : decode cX4_add 14 = .ok (.getfield 9, 3) := by decide +kernel
theorem dX4_add_17 : decode cX4_add 17 = .ok (.aload_n 0, 1) := by decide +kernel
theorem dX4_add_18 : decode cX4_add 18 = .ok (.getfield 18, 3) := by decide +kernel
theorem dX4_add_21 : decode cX4_add 21 = .ok (.iload_n 1, 1) := by decide +kernel
theorem dX4_add_22 : decode cX4_add 22 = .ok (.iastore, 1) := by decide +kernel
theorem dX4_add_23 : decode cX4_add 23 = .ok (.aload_n 0, 1) := by decide +kernel
theorem dX4_add_24 : decode cX4_add 24 = .ok (.getfield 15, 3) := by decide +kernel
theorem dX4_add_27 : decode cX4_add 27 = .ok (.aload_n 0, 1) := by decide +kernel
theorem dX4_add_28 : decode cX4_add 28 = .ok (.getfield 18, 3) := by decide +kernel
theorem dX4_add_31 : decode cX4_add 31 = .ok (.iload_n 2, 1) := by decide +kernel
theorem dX4_add_32 : decode cX4_add 32 = .ok (.iastore, 1) := by decide +kernel
theorem dX4_add_33 : decode cX4_add 33 = .ok (.aload_n 0, 1) := by decide +kernel
theorem dX4_add_34 : decode cX4_add 34 = .ok (.dup, 1) := by decide +kernel
theorem dX4_add_35 : decode cX4_add 35 = .ok (.getfield 18, 3) := by decide +kernel
theorem dX4_add_38 : decode cX4_add 38 = .ok (.iconst 1, 1) := by decide +kernel
theorem dX4_add_39 : decode cX4_add 39 = .ok (.iadd, 1) := by decide +kernel
theorem dX4_add_40 : decode cX4_add 40 = .ok (.putfield 18, 3) := by decide +kernel
theorem dX4_add_43 : decode cX4_add 43 = .ok (.aload_n 0, 1) := by decide +kernel
theorem dX4_add_44 : decode cX4_add 44 = .ok (.getfield 18, 3) := by decide +kernel
theorem dX4_add_47 : decode cX4_add 47 = .ok (.ireturn, 1) := by decide +kernel
theorem dX4_drop_0 : decode cX4_drop 0 = .ok (.iload_n 1, 1) := by decide +kernel
theorem dX4_drop_1 : decode cX4_drop 1 = .ok (.ifCond .lt 11, 3) := by decide +kernel
theorem dX4_drop_4 : decode cX4_drop 4 = .ok (.iload_n 1, 1) := by decide +kernel
theorem dX4_drop_5 : decode cX4_drop 5 = .ok (.aload_n 0, 1) := by decide +kernel
theorem dX4_drop_6 : decode cX4_drop 6 = .ok (.getfield 18, 3) := by decide +kernel
theorem dX4_drop_9 : decode cX4_drop 9 = .ok (.if_icmp .le 5, 3) := by decide +kernel
theorem dX4_drop_12 : decode cX4_drop 12 = .ok (.iconst (-1), 1) := by decide +kernel
theorem dX4_drop_13 : decode cX4_drop 13 = .ok (.ireturn, 1) := by decide +kernel
theorem dX4_drop_14 : decode cX4_drop 14 = .ok (.aload_n 0, 1) := by decide +kernel
theorem dX4_drop_15 : decode cX4_drop 15 = .ok (.dup, 1) := by decide +kernel
theorem dX4_drop_16 : decode cX4_drop 16 = .ok (.getfield 18, 3) := by decide +kernel
theorem dX4_drop_19 : decode cX4_drop 19 = .ok (.iload_n 1, 1) := by decide +kernel
theorem dX4_drop_20 : decode cX4_drop 20 = .ok (.isub, 1) := by decide +kernel
theorem dX4_drop_21 : decode cX4_drop 21 = .ok (.putfield 18, 3) := by decide +kernel
theorem dX4_drop_24 : decode cX4_drop 24 = .ok (.aload_n 0, 1) := by decide +kernel
theorem dX4_drop_25 : decode cX4_drop 25 = .ok (.getfield 18, 3) := by decide +kernel
theorem dX4_drop_28 : decode cX4_drop 28 = .ok (.ireturn, 1) := by decide +kernel
set_option maxRecDepth 20000 in
theorem ggX5_init_X3_init : GoodIn wsX5_init wsX3_init := goodIn_r _ [23, 24, 2, 3, 25, 26, 27, 28, 29, 30, 31, 32, 72] (by decide +kernel) (by decide +kernel)
set_option maxRecDepth 20000 in
theorem gX5_init_X3_init : GoodIn wsX5_init (wsX3_init) := ggX5_init_X3_init
set_option maxRecDepth 20000 in
theorem ggX5_init_X4_init : GoodIn wsX5_init wsX4_init := goodIn_r _ [35, 36, 2, 3, 37, 38, 39, 40, 78, 79, 80] (by decide +kernel) (by decide +kernel)
set_option maxRecDepth 20000 in
theorem gX5_init_X4_init : GoodIn wsX5_init (wsX4_init) := ggX5_init_X4_init
set_option maxRecDepth 20000 in
theorem ggX5_init_X1_init : GoodIn wsX5_init wsX1_init := goodIn_r _ [43, 44, 2, 3, 37, 45, 46, 47, 48, 81, 82, 83, 84] (by decide +kernel) (by decide +kernel)
set_option maxRecDepth 20000 in
theorem gX5_init_X1_init : GoodIn wsX5_init (wsX1_init) := ggX5_init_X1_init
set_option maxRecDepth 20000 in
theorem ggX5_init_X0_init : GoodIn wsX5_init wsX0_init := goodIn_r _ [51, 52, 2, 3, 53, 54, 55, 56, 57, 58, 59, 60, 61, 62, 63, 64, 65, 37, 66, 67, 68, 69, 70, 71, 85, 86, 87, 88, 89, 90, 91, 92, 93, 94, 95, 96] (by decide +kernel) (by decide +kernel)
set_option maxRecDepth 20000 in
theorem gX5_init_X0_init : GoodIn wsX5_init (wsX0_init) := ggX5_init_X0_init
theorem dX5_init_0 : decode cX5_init 0 = .ok (.aload_n 0, 1) := by decide +kernel
theorem dX5_init_1 : decode cX5_init 1 = .ok (.invokespecial 3, 3) := by decide +kernel
theorem dX5_init_4 : decode cX5_init 4 = .ok (.aload_n 0, 1) := by decide +kernel
theorem dX5_init_5 : decode cX5_init 5 = .ok (.new 9, 3) := by decide +kernel
theorem dX5_init_8 : decode cX5_init 8 = .ok (.dup, 1) := by decide +kernel
theorem dX5_init_9 : decode cX5_init 9 = .ok (.invokespecial 11, 3) := by decide +kernel
theorem dX5_init_12 : decode cX5_init 12 = .ok (.putfield 12, 3) := by decide +kernel
theorem dX5_init_15 : decode cX5_init 15 = .ok (.aload_n 0, 1) := by decide +kernel
theorem dX5_init_16 : decode cX5_init 16 = .ok (.new 16, 3) := by decide +kernel
theorem dX5_init_19 : decode cX5_init 19 = .ok (.dup, 1) := by decide +kernel
theorem dX5_init_20 : decode cX5_init 20 = .ok (.invokespecial 18, 3) := by decide +kernel
theorem dX5_init_23 : decode cX5_init 23 = .ok (.putfield 19, 3) := by decide +kernel
theorem dX5_init_26 : decode cX5_init 26 = .ok (.aload_n 0, 1) := by decide +kernel
theorem dX5_init_27 : decode cX5_init 27 = .ok (.new 16, 3) := by decide +kernel
theorem dX5_init_30 : decode cX5_init 30 = .ok (.dup, 1) := by decide +kernel
theorem dX5_init_31 : decode cX5_init 31 = .ok (.invokespecial 18, 3) := by decide +kernel
theorem dX5_init_34 : decode cX5_init 34 = .ok (.putfield 23, 3) := by decide +kernel
theorem dX5_init_37 : decode cX5_init 37 = .ok (.aload_n 0, 1) := by decide +kernel
theorem dX5_init_38 : decode cX5_init 38 = .ok (.new 26, 3) := by decide +kernel
theorem dX5_init_41 : decode cX5_init 41 = .ok (.dup, 1) := by decide +kernel
theorem dX5_init_42 : decode cX5_init 42 = .ok (.invokespecial 28, 3) := by decide +kernel
theorem dX5_init_45 : decode cX5_init 45 = .ok (.putfield 29, 3) := by decide +kernel
theorem dX5_init_48 : decode cX5_init 48 = .ok (.aload_n 0, 1) := by decide +kernel
theorem dX5_init_49 : decode cX5_init 49 = .ok (.new 33, 3) := by decide +kernel
theorem dX5_init_52 : decode cX5_init 52 = .ok (.dup, 1) := by decide +kernel
theorem dX5_init_53 : decode cX5_init 53 = .ok (.aload_n 0, 1) := by decide +kernel
theorem dX5_init_54 : decode cX5_init 54 = .ok (.getfield 12, 3) := by decide +kernel
theorem dX5_init_57 : decode cX5_init 57 = .ok (.aload_n 0, 1) := by decide +kernel
theorem dX5_init_58 : decode cX5_init 58 = .ok (.getfield 29, 3) := by decide +kernel
theorem dX5_init_61 : decode cX5_init 61 = .ok (.invokespecial 35, 3) := by decide +kernel
theorem dX5_init_64 : decode cX5_init 64 = .ok (.putfield 38, 3) := by decide +kernel
theorem dX5_init_67 : decode cX5_init 67 = .ok (.return_, 1) := by decide +kernel
set_option maxRecDepth 20000 in
theorem ggX5_row_X5_tableOf : GoodIn wsX5_row wsX5_tableOf := goodIn_r _ [5, 6, 7, 16, 17, 18, 19, 20] (by decide +kernel) (by decide +kernel)
set_option maxRecDepth 20000 in
theorem gX5_row_X5_tableOf : GoodIn wsX5_row (wsV RX5 42 RX5 yX5_tableOf wsX5_tableOf) := goodIn_app (goodIn_of _ (by decide +kernel)) ggX5_row_X5_tableOf
set_option maxRecDepth 20000 in
theorem ggX5_row_X4_add : GoodIn wsX5_row wsX4_add := goodIn_r _ [12, 13, 14, 15, 21, 22, 23] (by decide +kernel) (by decide +kernel)
set_option maxRecDepth 20000 in
theorem gX5_row_X4_add : GoodIn wsX5_row (wsV RX5 46 RX4 yX4_add wsX4_add) := goodIn_app (goodIn_of _ (by decide +kernel)) ggX5_row_X4_add
theorem dX5_row_0 : decode cX5_row 0 = .ok (.aload_n 0, 1) := by decide +kernel
theorem dX5_row_1 : decode cX5_row 1 = .ok (.iload_n 1, 1) := by decide +kernel
theorem dX5_row_2 : decode cX5_row 2 = .ok (.invokevirtual 42, 3) := by decide +kernel
theorem dX5_row_5 : decode cX5_row 5 = .ok (.astore 4, 2) := by decide +kernel
theorem dX5_row_7 : decode cX5_row 7 = .ok (.aload 4, 2) := by decide +kernel
theorem dX5_row_9 : decode cX5_row 9 = .ok (.ifnonnull 7, 3) := by decide +kernel
theorem dX5_row_12 : decode cX5_row 12 = .ok (.iconst (-1), 1) := by decide +kernel
theorem dX5_row_13 : decode cX5_row 13 = .ok (.goto 10, 3) := by decide +kernel
theorem dX5_row_16 : decode cX5_row 16 = .ok (.aload 4, 2) := by decide +kernel
theorem dX5_row_18 : decode cX5_row 18 = .ok (.iload_n 2, 1) := by decide +kernel
theorem dX5_row_19 : decode cX5_row 19 = .ok (.iload_n 3, 1) := by decide +kernel
theorem dX5_row_20 : decode cX5_row 20 = .ok (.invokevirtual 46, 3) := by decide +kernel
theorem dX5_row_23 : decode cX5_row 23 = .ok (.ireturn, 1) := by decide +kernel
set_option maxRecDepth 20000 in
theorem ggX5_cut_X5_tableOf : GoodIn wsX5_cut wsX5_tableOf := goodIn_r _ [5, 6, 7, 14, 15, 16, 17, 18] (by decide +kernel) (by decide +kernel)
set_option maxRecDepth 20000 in
theorem gX5_cut_X5_tableOf : GoodIn wsX5_cut (wsV RX5 42 RX5 yX5_tableOf wsX5_tableOf) := goodIn_app (goodIn_of _ (by decide +kernel)) ggX5_cut_X5_tableOf
set_option maxRecDepth 20000 in
theorem ggX5_cut_X4_drop : GoodIn wsX5_cut wsX4_drop := goodIn_r _ [12, 13, 19, 20, 21] (by decide +kernel) (by decide +kernel)
set_option maxRecDepth 20000 in
theorem gX5_cut_X4_drop : GoodIn wsX5_cut (wsV RX5 50 RX4 yX4_drop wsX4_drop) := goodIn_app (goodIn_of _ (by decide +kernel)) ggX5_cut_X4_drop
theorem dX5_cut_0 : decode cX5_cut 0 = .ok (.aload_n 0, 1) := by decide +kernel
theorem dX5_cut_1 : decode cX5_cut 1 = .ok (.iload_n 1, 1) := by decide +kernel
theorem dX5_cut_2 : decode cX5_cut 2 = .ok (.invokevirtual 42, 3) := by decide +kernel
theorem dX5_cut_5 : decode cX5_cut 5 = .ok (.astore_n 3, 1) := by decide +kernel
theorem dX5_cut_6 : decode cX5_cut 6 = .ok (.aload_n 3, 1) := by decide +kernel
theorem dX5_cut_7 : decode cX5_cut 7 = .ok (.ifnonnull 7, 3) := by decide +kernel
theorem dX5_cut_10 : decode cX5_cut 10 = .ok (.iconst (-1), 1) := by decide +kernel
theorem dX5_cut_11 : decode cX5_cut 11 = .ok (.goto 8, 3) := by decide +kernel
theorem dX5_cut_14 : decode cX5_cut 14 = .ok (.aload_n 3, 1) := by decide +kernel
theorem dX5_cut_15 : decode cX5_cut 15 = .ok (.iload_n 2, 1) := by decide +kernel
theorem dX5_cut_16 : decode cX5_cut 16 = .ok (.invokevirtual 50, 3) := by decide +kernel
theorem dX5_cut_19 : decode cX5_cut 19 = .ok (.ireturn, 1) := by decide +kernel
set_option maxRecDepth 20000 in
theorem ggX5_size_X3_change : GoodIn wsX5_size wsX3_change := goodIn_r _ [6, 7, 8, 9, 15] (by decide +kernel) (by decide +kernel)
set_option maxRecDepth 20000 in
theorem gX5_size_X3_change : GoodIn wsX5_size (wsV RX5 54 RX3 yX3_change wsX3_change) := goodIn_app (goodIn_of _ (by decide +kernel)) ggX5_size_X3_change
theorem dX5_size_0 : decode cX5_size 0 = .ok (.aload_n 0, 1) := by decide +kernel
theorem dX5_size_1 : decode cX5_size 1 = .ok (.getfield 12, 3) := by decide +kernel
theorem dX5_size_4 : decode cX5_size 4 = .ok (.iload_n 1, 1) := by decide +kernel
theorem dX5_size_5 : decode cX5_size 5 = .ok (.iload_n 2, 1) := by decide +kernel
theorem dX5_size_6 : decode cX5_size 6 = .ok (.invokevirtual 54, 3) := by decide +kernel
theorem dX5_size_9 : decode cX5_size 9 = .ok (.ireturn, 1) := by decide +kernel
set_option maxRecDepth 20000 in
theorem ggX5_pages_X5_tableOf : GoodIn wsX5_pages wsX5_tableOf := goodIn_r _ [6, 7, 8, 15, 16, 17, 18, 19] (by decide +kernel) (by decide +kernel)
set_option maxRecDepth 20000 in
theorem gX5_pages_X5_tableOf : GoodIn wsX5_pages (wsV RX5 42 RX5 yX5_tableOf wsX5_tableOf) := goodIn_app (goodIn_of _ (by decide +kernel)) ggX5_pages_X5_tableOf
set_option maxRecDepth 20000 in
theorem ggX5_pages_X3_pagesFor : GoodIn wsX5_pages wsX3_pagesFor := goodIn_r _ [13, 14, 23] (by decide +kernel) (by decide +kernel)
set_option maxRecDepth 20000 in
theorem gX5_pages_X3_pagesFor : GoodIn wsX5_pages (wsV RX5 61 RX3 yX3_pagesFor wsX3_pagesFor) := goodIn_app (goodIn_of _ (by decide +kernel)) ggX5_pages_X3_pagesFor
theorem dX5_pages_0 : decode cX5_pages 0 = .ok (.aload_n 0, 1) := by decide +kernel
theorem dX5_pages_1 : decode cX5_pages 1 = .ok (.iload_n 1, 1) := by decide +kernel
theorem dX5_pages_2 : decode cX5_pages 2 = .ok (.invokevirtual 42, 3) := by decide +kernel
theorem dX5_pages_5 : decode cX5_pages 5 = .ok (.astore_n 2, 1) := by decide +kernel
theorem dX5_pages_6 : decode cX5_pages 6 = .ok (.aload_n 2, 1) := by decide +kernel
theorem dX5_pages_7 : decode cX5_pages 7 = .ok (.ifnonnull 7, 3) := by decide +kernel
theorem dX5_pages_10 : decode cX5_pages 10 = .ok (.iconst (-1), 1) := by decide +kernel
theorem dX5_pages_11 : decode cX5_pages 11 = .ok (.goto 14, 3) := by decide +kernel
theorem dX5_pages_14 : decode cX5_pages 14 = .ok (.aload_n 0, 1) := by decide +kernel
theorem dX5_pages_15 : decode cX5_pages 15 = .ok (.getfield 12, 3) := by decide +kernel
theorem dX5_pages_18 : decode cX5_pages 18 = .ok (.aload_n 2, 1) := by decide +kernel
theorem dX5_pages_19 : decode cX5_pages 19 = .ok (.getfield 57, 3) := by decide +kernel
theorem dX5_pages_22 : decode cX5_pages 22 = .ok (.invokevirtual 61, 3) := by decide +kernel
theorem dX5_pages_25 : decode cX5_pages 25 = .ok (.ireturn, 1) := by decide +kernel
set_option maxRecDepth 20000 in
theorem ggX5_part_X3_partOf : GoodIn wsX5_part wsX3_partOf := goodIn_r _ [6, 7, 8, 9, 5, 10, 11, 12, 13, 14, 15, 16, 17, 18, 24] (by decide +kernel) (by decide +kernel)
set_option maxRecDepth 20000 in
theorem gX5_part_X3_partOf : GoodIn wsX5_part (wsV RX5 64 RX3 yX3_partOf wsX3_partOf) := goodIn_app (goodIn_of _ (by decide +kernel)) ggX5_part_X3_partOf
theorem dX5_part_0 : decode cX5_part 0 = .ok (.iload_n 2, 1) := by decide +kernel
theorem dX5_part_1 : decode cX5_part 1 = .ok (.ifCond .lt 9, 3) := by decide +kernel
theorem dX5_part_4 : decode cX5_part 4 = .ok (.iload_n 2, 1) := by decide +kernel
theorem dX5_part_5 : decode cX5_part 5 = .ok (.bipush 8, 2) := by decide +kernel
theorem dX5_part_7 : decode cX5_part 7 = .ok (.if_icmp .le 5, 3) := by decide +kernel
theorem dX5_part_10 : decode cX5_part 10 = .ok (.iconst (-1), 1) := by decide +kernel
theorem dX5_part_11 : decode cX5_part 11 = .ok (.ireturn, 1) := by decide +kernel
theorem dX5_part_12 : decode cX5_part 12 = .ok (.aload_n 0, 1) := by decide +kernel
theorem dX5_part_13 : decode cX5_part 13 = .ok (.getfield 12, 3) := by decide +kernel
theorem dX5_part_16 : decode cX5_part 16 = .ok (.iload_n 1, 1) := by decide +kernel
theorem dX5_part_17 : decode cX5_part 17 = .ok (.iload_n 2, 1) := by decide +kernel
theorem dX5_part_18 : decode cX5_part 18 = .ok (.invokevirtual 64, 3) := by decide +kernel
theorem dX5_part_21 : decode cX5_part 21 = .ok (.ireturn, 1) := by decide +kernel
set_option maxRecDepth 20000 in
theorem ggX5_join_X0_joinTables : GoodIn wsX5_join wsX0_joinTables := goodIn_r _ [9, 10, 11, 12, 13, 14, 15, 16, 17, 18, 19, 20, 21, 22, 23, 24, 25, 26, 27, 28, 29, 30, 31, 32, 33, 34, 35, 36, 37, 38, 39, 8, 40, 41, 42, 43, 44, 45, 46, 47, 48, 49, 50, 51, 52, 53, 54, 55, 56, 57, 58, 59, 60, 61, 62, 63, 64, 65, 66, 67, 68, 69, 70, 71, 72, 73, 74, 75, 76, 77, 78, 79, 80, 81, 82, 83, 84, 85, 86, 87, 88, 89, 90, 91, 92, 93, 94, 95, 96, 97, 98, 99, 100, 101, 102, 103, 104, 105, 106, 107, 108, 109, 110, 111, 112, 113, 114, 115, 116, 117, 118, 119, 120, 121, 122, 123, 124, 125, 126, 127, 128, 129, 130, 131, 132, 133, 134, 135, 136, 137, 138, 139, 140, 141, 142, 143, 144, 145, 146, 147, 148, 149, 150, 151, 152, 153, 154, 155, 156, 166, 167, 168, 169, 170, 171, 172, 173, 174, 175, 176, 177, 178, 179, 180, 181, 182, 183, 184, 185] (by decide +kernel) (by decide +kernel)
set_option maxRecDepth 20000 in
theorem gX5_join_X0_joinTables : GoodIn wsX5_join (wsV RX5 67 RX0 yX0_joinTables wsX0_joinTables) := goodIn_app (goodIn_of _ (by decide +kernel)) ggX5_join_X0_joinTables
set_option maxRecDepth 20000 in
theorem ggX5_join_X1_pairsOrFull : GoodIn wsX5_join wsX1_pairsOrFull := goodIn_r _ [160, 31, 181, 182, 183, 184] (by decide +kernel) (by decide +kernel)
set_option maxRecDepth 20000 in
theorem gX5_join_X1_pairsOrFull : GoodIn wsX5_join (wsV RX5 71 RX1 yX1_pairsOrFull wsX1_pairsOrFull) := goodIn_app (goodIn_of _ (by decide +kernel)) ggX5_join_X1_pairsOrFull
theorem dX5_join_0 : decode cX5_join 0 = .ok (.aload_n 0, 1) := by decide +kernel
theorem dX5_join_1 : decode cX5_join 1 = .ok (.getfield 38, 3) := by decide +kernel
theorem dX5_join_4 : decode cX5_join 4 = .ok (.aload_n 0, 1) := by decide +kernel
theorem dX5_join_5 : decode cX5_join 5 = .ok (.getfield 19, 3) := by decide +kernel
theorem dX5_join_8 : decode cX5_join 8 = .ok (.aload_n 0, 1) := by decide +kernel
theorem dX5_join_9 : decode cX5_join 9 = .ok (.getfield 23, 3) := by decide +kernel
theorem dX5_join_12 : decode cX5_join 12 = .ok (.invokevirtual 67, 3) := by decide +kernel
theorem dX5_join_15 : decode cX5_join 15 = .ok (.aload_n 0, 1) := by decide +kernel
theorem dX5_join_16 : decode cX5_join 16 = .ok (.getfield 29, 3) := by decide +kernel
theorem dX5_join_19 : decode cX5_join 19 = .ok (.invokevirtual 71, 3) := by decide +kernel
theorem dX5_join_22 : decode cX5_join 22 = .ok (.ireturn, 1) := by decide +kernel
set_option maxRecDepth 20000 in
theorem ggX5_pair_X1_hasPair : GoodIn wsX5_pair wsX1_hasPair := goodIn_r _ [7, 8, 9, 10, 6, 11, 12, 44, 45, 46, 47] (by decide +kernel) (by decide +kernel)
set_option maxRecDepth 20000 in
theorem gX5_pair_X1_hasPair : GoodIn wsX5_pair (wsV RX5 75 RX1 yX1_hasPair wsX1_hasPair) := goodIn_app (goodIn_of _ (by decide +kernel)) ggX5_pair_X1_hasPair
set_option maxRecDepth 20000 in
theorem ggX5_pair_X1_leftRowOf : GoodIn wsX5_pair wsX1_leftRowOf := goodIn_r _ [16, 17, 18, 4, 5, 6, 7, 8, 9, 10, 11, 12, 44, 45, 46, 47] (by decide +kernel) (by decide +kernel)
set_option maxRecDepth 20000 in
theorem gX5_pair_X1_leftRowOf : GoodIn wsX5_pair (wsV RX5 79 RX1 yX1_leftRowOf wsX1_leftRowOf) := goodIn_app (goodIn_of _ (by decide +kernel)) ggX5_pair_X1_leftRowOf
set_option maxRecDepth 20000 in
theorem ggX5_pair_X1_rightRowOf : GoodIn wsX5_pair wsX1_rightRowOf := goodIn_r _ [22, 17, 18, 4, 5, 6, 7, 8, 9, 10, 11, 12, 44, 45, 46, 47] (by decide +kernel) (by decide +kernel)
set_option maxRecDepth 20000 in
theorem gX5_pair_X1_rightRowOf : GoodIn wsX5_pair (wsV RX5 82 RX1 yX1_rightRowOf wsX1_rightRowOf) := goodIn_app (goodIn_of _ (by decide +kernel)) ggX5_pair_X1_rightRowOf
set_option maxRecDepth 20000 in
theorem ggX5_pair_X2_keyOf : GoodIn wsX5_pair wsX2_keyOf := goodIn_r _ [27, 28, 29, 48, 49, 50, 51, 52, 53, 54, 55] (by decide +kernel) (by decide +kernel)
set_option maxRecDepth 20000 in
theorem gX5_pair_X2_keyOf : GoodIn wsX5_pair (wsV RX5 89 RX2 yX2_keyOf wsX2_keyOf) := goodIn_app (goodIn_of _ (by decide +kernel)) ggX5_pair_X2_keyOf
set_option maxRecDepth 20000 in
theorem ggX5_pair_X2_valueOf : GoodIn wsX5_pair wsX2_valueOf := goodIn_r _ [33, 28, 34, 48, 49, 50, 51, 52, 53, 54, 55] (by decide +kernel) (by decide +kernel)
set_option maxRecDepth 20000 in
theorem gX5_pair_X2_valueOf : GoodIn wsX5_pair (wsV RX5 94 RX2 yX2_valueOf wsX2_valueOf) := goodIn_app (goodIn_of _ (by decide +kernel)) ggX5_pair_X2_valueOf
theorem dX5_pair_0 : decode cX5_pair 0 = .ok (.aload_n 0, 1) := by decide +kernel
theorem dX5_pair_1 : decode cX5_pair 1 = .ok (.getfield 29, 3) := by decide +kernel
theorem dX5_pair_4 : decode cX5_pair 4 = .ok (.iload_n 1, 1) := by decide +kernel
theorem dX5_pair_5 : decode cX5_pair 5 = .ok (.invokevirtual 75, 3) := by decide +kernel
theorem dX5_pair_8 : decode cX5_pair 8 = .ok (.ifCond .ne 5, 3) := by decide +kernel
theorem dX5_pair_11 : decode cX5_pair 11 = .ok (.iconst (-1), 1) := by decide +kernel
theorem dX5_pair_12 : decode cX5_pair 12 = .ok (.ireturn, 1) := by decide +kernel
theorem dX5_pair_13 : decode cX5_pair 13 = .ok (.aload_n 0, 1) := by decide +kernel
theorem dX5_pair_14 : decode cX5_pair 14 = .ok (.getfield 29, 3) := by decide +kernel
theorem dX5_pair_17 : decode cX5_pair 17 = .ok (.iload_n 1, 1) := by decide +kernel
theorem dX5_pair_18 : decode cX5_pair 18 = .ok (.invokevirtual 79, 3) := by decide +kernel
theorem dX5_pair_21 : decode cX5_pair 21 = .ok (.istore_n 3, 1) := by decide +kernel
theorem dX5_pair_22 : decode cX5_pair 22 = .ok (.aload_n 0, 1) := by decide +kernel
theorem dX5_pair_23 : decode cX5_pair 23 = .ok (.getfield 29, 3) := by decide +kernel
theorem dX5_pair_26 : decode cX5_pair 26 = .ok (.iload_n 1, 1) := by decide +kernel
theorem dX5_pair_27 : decode cX5_pair 27 = .ok (.invokevirtual 82, 3) := by decide +kernel
theorem dX5_pair_30 : decode cX5_pair 30 = .ok (.istore 4, 2) := by decide +kernel
theorem dX5_pair_32 : decode cX5_pair 32 = .ok (.iload_n 2, 1) := by decide +kernel
theorem dX5_pair_33 : decode cX5_pair 33 = .ok (.tableswitch 77 0 4 #[35, 37, 40, 52, 64], 35) := by decide +kernel
theorem dX5_pair_68 : decode cX5_pair 68 = .ok (.iload_n 3, 1) := by decide +kernel
theorem dX5_pair_69 : decode cX5_pair 69 = .ok (.ireturn, 1) := by decide +kernel
theorem dX5_pair_70 : decode cX5_pair 70 = .ok (.iload 4, 2) := by decide +kernel
theorem dX5_pair_72 : decode cX5_pair 72 = .ok (.ireturn, 1) := by decide +kernel
theorem dX5_pair_73 : decode cX5_pair 73 = .ok (.aload_n 0, 1) := by decide +kernel
theorem dX5_pair_74 : decode cX5_pair 74 = .ok (.getfield 38, 3) := by decide +kernel
theorem dX5_pair_77 : decode cX5_pair 77 = .ok (.getfield 85, 3) := by decide +kernel
theorem dX5_pair_80 : decode cX5_pair 80 = .ok (.iload_n 3, 1) := by decide +kernel
theorem dX5_pair_81 : decode cX5_pair 81 = .ok (.invokevirtual 89, 3) := by decide +kernel
theorem dX5_pair_84 : decode cX5_pair 84 = .ok (.ireturn, 1) := by decide +kernel
theorem dX5_pair_85 : decode cX5_pair 85 = .ok (.aload_n 0, 1) := by decide +kernel
theorem dX5_pair_86 : decode cX5_pair 86 = .ok (.getfield 38, 3) := by decide +kernel
theorem dX5_pair_89 : decode cX5_pair 89 = .ok (.getfield 85, 3) := by decide +kernel
theorem dX5_pair_92 : decode cX5_pair 92 = .ok (.iload_n 3, 1) := by decide +kernel
theorem dX5_pair_93 : decode cX5_pair 93 = .ok (.invokevirtual 94, 3) := by decide +kernel
theorem dX5_pair_96 : decode cX5_pair 96 = .ok (.ireturn, 1) := by decide +kernel
theorem dX5_pair_97 : decode cX5_pair 97 = .ok (.aload_n 0, 1) := by decide +kernel
theorem dX5_pair_98 : decode cX5_pair 98 = .ok (.getfield 38, 3) := by decide +kernel
theorem dX5_pair_101 : decode cX5_pair 101 = .ok (.getfield 97, 3) := by decide +kernel
theorem dX5_pair_104 : decode cX5_pair 104 = .ok (.iload 4, 2) := by decide +kernel
theorem dX5_pair_106 : decode cX5_pair 106 = .ok (.invokevirtual 94, 3) := by decide +kernel
theorem dX5_pair_109 : decode cX5_pair 109 = .ok (.ireturn, 1) := by decide +kernel
theorem dX5_pair_110 : decode cX5_pair 110 = .ok (.iconst (-1), 1) := by decide +kernel
theorem dX5_pair_111 : decode cX5_pair 111 = .ok (.ireturn, 1) := by decide +kernel
set_option maxRecDepth 20000 in
theorem ggX5_told_X1_figure : GoodIn wsX5_told wsX1_figure := goodIn_r _ [6, 7, 13, 14, 15, 16] (by decide +kernel) (by decide +kernel)
set_option maxRecDepth 20000 in
theorem gX5_told_X1_figure : GoodIn wsX5_told (wsV RX5 100 RX1 yX1_figure wsX1_figure) := goodIn_app (goodIn_of _ (by decide +kernel)) ggX5_told_X1_figure
theorem dX5_told_0 : decode cX5_told 0 = .ok (.aload_n 0, 1) := by decide +kernel
theorem dX5_told_1 : decode cX5_told 1 = .ok (.getfield 29, 3) := by decide +kernel
theorem dX5_told_4 : decode cX5_told 4 = .ok (.iload_n 1, 1) := by decide +kernel
theorem dX5_told_5 : decode cX5_told 5 = .ok (.invokevirtual 100, 3) := by decide +kernel
theorem dX5_told_8 : decode cX5_told 8 = .ok (.ireturn, 1) := by decide +kernel
set_option maxRecDepth 20000 in
theorem ggX5_event_X1_ofEvent : GoodIn wsX5_event wsX1_ofEvent := goodIn_r _ [6, 7, 8, 9, 10, 11, 12, 18, 19, 20, 21] (by decide +kernel) (by decide +kernel)
set_option maxRecDepth 20000 in
theorem gX5_event_X1_ofEvent : GoodIn wsX5_event (wsV RX5 103 RX1 yX1_ofEvent wsX1_ofEvent) := goodIn_app (goodIn_of _ (by decide +kernel)) ggX5_event_X1_ofEvent
theorem dX5_event_0 : decode cX5_event 0 = .ok (.aload_n 0, 1) := by decide +kernel
theorem dX5_event_1 : decode cX5_event 1 = .ok (.getfield 29, 3) := by decide +kernel
theorem dX5_event_4 : decode cX5_event 4 = .ok (.iload_n 1, 1) := by decide +kernel
theorem dX5_event_5 : decode cX5_event 5 = .ok (.iload_n 2, 1) := by decide +kernel
theorem dX5_event_6 : decode cX5_event 6 = .ok (.invokevirtual 103, 3) := by decide +kernel
theorem dX5_event_9 : decode cX5_event 9 = .ok (.ireturn, 1) := by decide +kernel
theorem dX5_tableOf_0 : decode cX5_tableOf 0 = .ok (.iload_n 1, 1) := by decide +kernel
theorem dX5_tableOf_1 : decode cX5_tableOf 1 = .ok (.ifCond .ne 8, 3) := by decide +kernel
theorem dX5_tableOf_4 : decode cX5_tableOf 4 = .ok (.aload_n 0, 1) := by decide +kernel
theorem dX5_tableOf_5 : decode cX5_tableOf 5 = .ok (.getfield 19, 3) := by decide +kernel
theorem dX5_tableOf_8 : decode cX5_tableOf 8 = .ok (.areturn, 1) := by decide +kernel
theorem dX5_tableOf_9 : decode cX5_tableOf 9 = .ok (.iload_n 1, 1) := by decide +kernel
theorem dX5_tableOf_10 : decode cX5_tableOf 10 = .ok (.iconst 1, 1) := by decide +kernel
theorem dX5_tableOf_11 : decode cX5_tableOf 11 = .ok (.if_icmp .ne 10, 3) := by decide +kernel
theorem dX5_tableOf_14 : decode cX5_tableOf 14 = .ok (.aload_n 0, 1) := by decide +kernel
theorem dX5_tableOf_15 : decode cX5_tableOf 15 = .ok (.getfield 23, 3) := by decide +kernel
theorem dX5_tableOf_18 : decode cX5_tableOf 18 = .ok (.goto 4, 3) := by decide +kernel
theorem dX5_tableOf_21 : decode cX5_tableOf 21 = .ok (.aconst_null, 1) := by decide +kernel
theorem dX5_tableOf_22 : decode cX5_tableOf 22 = .ok (.areturn, 1) := by decide +kernel
