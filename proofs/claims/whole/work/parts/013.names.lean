set_option maxRecDepth 20000 in
theorem gX9_tables_X9_isTable : GoodIn wsX9_tables (wsV RX9 58 RX9 yX9_isTable wsX9_isTable) := goodIn_app (goodIn_of _ (by decide +kernel)) ggX9_tables_X9_isTable
theorem dX9_tables_0 : decode cX9_tables 0 = .ok (.iconst 0, 1) := by decide +kernel
theorem dX9_tables_1 : decode cX9_tables 1 = .ok (.istore_n 1, 1) := by decide +kernel
theorem dX9_tables_2 : decode cX9_tables 2 = .ok (.iconst 0, 1) := by decide +kernel
theorem dX9_tables_3 : decode cX9_tables 3 = .ok (.istore_n 2, 1) := by decide +kernel
theorem dX9_tables_4 : decode cX9_tables 4 = .ok (.iload_n 2, 1) := by decide +kernel
theorem dX9_tables_5 : decode cX9_tables 5 = .ok (.aload_n 0, 1) := by decide +kernel
theorem dX9_tables_6 : decode cX9_tables 6 = .ok (.getfield 54, 3) := by decide +kernel
theorem dX9_tables_9 : decode cX9_tables 9 = .ok (.if_icmp .ge 25, 3) := by decide +kernel
theorem dX9_tables_12 : decode cX9_tables 12 = .ok (.iload_n 1, 1) := by decide +kernel
theorem dX9_tables_13 : decode cX9_tables 13 = .ok (.aload_n 0, 1) := by decide +kernel
theorem dX9_tables_14 : decode cX9_tables 14 = .ok (.iload_n 2, 1) := by decide +kernel
theorem dX9_tables_15 : decode cX9_tables 15 = .ok (.invokevirtual 58, 3) := by decide +kernel
theorem dX9_tables_18 : decode cX9_tables 18 = .ok (.ifCond .eq 7, 3) := by decide +kernel
theorem dX9_tables_21 : decode cX9_tables 21 = .ok (.iconst 1, 1) := by decide +kernel
theorem dX9_tables_22 : decode cX9_tables 22 = .ok (.goto 4, 3) := by decide +kernel
theorem dX9_tables_25 : decode cX9_tables 25 = .ok (.iconst 0, 1) := by decide +kernel
theorem dX9_tables_26 : decode cX9_tables 26 = .ok (.iadd, 1) := by decide +kernel
theorem dX9_tables_27 : decode cX9_tables 27 = .ok (.istore_n 1, 1) := by decide +kernel
theorem dX9_tables_28 : decode cX9_tables 28 = .ok (.iinc 2 1, 3) := by decide +kernel
theorem dX9_tables_31 : decode cX9_tables 31 = .ok (.goto (-27), 3) := by decide +kernel
theorem dX9_tables_34 : decode cX9_tables 34 = .ok (.iload_n 1, 1) := by decide +kernel
theorem dX9_tables_35 : decode cX9_tables 35 = .ok (.ireturn, 1) := by decide +kernel
set_option maxRecDepth 20000 in
theorem ggX9_tableOf_X9_isTable : GoodIn wsX9_tableOf wsX9_isTable := goodIn_r _ [5, 6, 7, 8, 4, 9, 10, 11, 12, 13, 14, 15, 16, 17, 18, 19, 20, 21, 22, 23, 24, 25, 26, 27, 28, 29, 30, 31, 32] (by decide +kernel) (by decide +kernel)
set_option maxRecDepth 20000 in
theorem gX9_tableOf_X9_isTable : GoodIn wsX9_tableOf (wsV RX9 58 RX9 yX9_isTable wsX9_isTable) := goodIn_app (goodIn_of _ (by decide +kernel)) ggX9_tableOf_X9_isTable
theorem dX9_tableOf_0 : decode cX9_tableOf 0 = .ok (.iconst 0, 1) := by decide +kernel
theorem dX9_tableOf_1 : decode cX9_tableOf 1 = .ok (.istore_n 2, 1) := by decide +kernel
theorem dX9_tableOf_2 : decode cX9_tableOf 2 = .ok (.iconst 0, 1) := by decide +kernel
theorem dX9_tableOf_3 : decode cX9_tableOf 3 = .ok (.istore_n 3, 1) := by decide +kernel
theorem dX9_tableOf_4 : decode cX9_tableOf 4 = .ok (.iload_n 3, 1) := by decide +kernel
theorem dX9_tableOf_5 : decode cX9_tableOf 5 = .ok (.iload_n 1, 1) := by decide +kernel
theorem dX9_tableOf_6 : decode cX9_tableOf 6 = .ok (.if_icmp .ge 25, 3) := by decide +kernel
theorem dX9_tableOf_9 : decode cX9_tableOf 9 = .ok (.iload_n 2, 1) := by decide +kernel
theorem dX9_tableOf_10 : decode cX9_tableOf 10 = .ok (.aload_n 0, 1) := by decide +kernel
theorem dX9_tableOf_11 : decode cX9_tableOf 11 = .ok (.iload_n 3, 1) := by decide +kernel
theorem dX9_tableOf_12 : decode cX9_tableOf 12 = .ok (.invokevirtual 58, 3) := by decide +kernel
theorem dX9_tableOf_15 : decode cX9_tableOf 15 = .ok (.ifCond .eq 7, 3) := by decide +kernel
theorem dX9_tableOf_18 : decode cX9_tableOf 18 = .ok (.iconst 1, 1) := by decide +kernel
theorem dX9_tableOf_19 : decode cX9_tableOf 19 = .ok (.goto 4, 3) := by decide +kernel
theorem dX9_tableOf_22 : decode cX9_tableOf 22 = .ok (.iconst 0, 1) := by decide +kernel
theorem dX9_tableOf_23 : decode cX9_tableOf 23 = .ok (.iadd, 1) := by decide +kernel
theorem dX9_tableOf_24 : decode cX9_tableOf 24 = .ok (.istore_n 2, 1) := by decide +kernel
theorem dX9_tableOf_25 : decode cX9_tableOf 25 = .ok (.iinc 3 1, 3) := by decide +kernel
theorem dX9_tableOf_28 : decode cX9_tableOf 28 = .ok (.goto (-24), 3) := by decide +kernel
theorem dX9_tableOf_31 : decode cX9_tableOf 31 = .ok (.iload_n 2, 1) := by decide +kernel
theorem dX9_tableOf_32 : decode cX9_tableOf 32 = .ok (.ireturn, 1) := by decide +kernel
set_option maxRecDepth 20000 in
theorem ggX9_branchOfTable_X9_isTable : GoodIn wsX9_branchOfTable wsX9_isTable := goodIn_r _ [6, 7, 8, 9, 5, 10, 11, 16, 17, 18, 19, 20, 21, 22, 23, 24, 25, 26, 27, 28, 29, 30, 31, 32, 33, 34, 35, 36, 37] (by decide +kernel) (by decide +kernel)
set_option maxRecDepth 20000 in
theorem gX9_branchOfTable_X9_isTable : GoodIn wsX9_branchOfTable (wsV RX9 58 RX9 yX9_isTable wsX9_isTable) := goodIn_app (goodIn_of _ (by decide +kernel)) ggX9_branchOfTable_X9_isTable
set_option maxRecDepth 20000 in
theorem ggX9_branchOfTable_X9_tableOf : GoodIn wsX9_branchOfTable wsX9_tableOf := goodIn_r _ [15, 2, 3, 4, 5, 6, 7, 8, 9, 10, 11, 16, 17, 18, 19, 20, 21, 22, 23, 24, 25, 26, 27, 28, 29, 30, 31, 32, 33, 34, 35, 36, 37] (by decide +kernel) (by decide +kernel)
set_option maxRecDepth 20000 in
theorem gX9_branchOfTable_X9_tableOf : GoodIn wsX9_branchOfTable (wsV RX9 62 RX9 yX9_tableOf wsX9_tableOf) := goodIn_app (goodIn_of _ (by decide +kernel)) ggX9_branchOfTable_X9_tableOf
theorem dX9_branchOfTable_0 : decode cX9_branchOfTable 0 = .ok (.bipush (-9), 2) := by decide +kernel
theorem dX9_branchOfTable_2 : decode cX9_branchOfTable 2 = .ok (.istore_n 2, 1) := by decide +kernel
theorem dX9_branchOfTable_3 : decode cX9_branchOfTable 3 = .ok (.iconst 0, 1) := by decide +kernel
theorem dX9_branchOfTable_4 : decode cX9_branchOfTable 4 = .ok (.istore_n 3, 1) := by decide +kernel
theorem dX9_branchOfTable_5 : decode cX9_branchOfTable 5 = .ok (.iload_n 3, 1) := by decide +kernel
theorem dX9_branchOfTable_6 : decode cX9_branchOfTable 6 = .ok (.aload_n 0, 1) := by decide +kernel
theorem dX9_branchOfTable_7 : decode cX9_branchOfTable 7 = .ok (.getfield 54, 3) := by decide +kernel
theorem dX9_branchOfTable_10 : decode cX9_branchOfTable 10 = .ok (.if_icmp .ge 32, 3) := by decide +kernel
theorem dX9_branchOfTable_13 : decode cX9_branchOfTable 13 = .ok (.aload_n 0, 1) := by decide +kernel
theorem dX9_branchOfTable_14 : decode cX9_branchOfTable 14 = .ok (.iload_n 3, 1) := by decide +kernel
theorem dX9_branchOfTable_15 : decode cX9_branchOfTable 15 = .ok (.invokevirtual 58, 3) := by decide +kernel
theorem dX9_branchOfTable_18 : decode cX9_branchOfTable 18 = .ok (.ifCond .eq 16, 3) := by decide +kernel
theorem dX9_branchOfTable_21 : decode cX9_branchOfTable 21 = .ok (.aload_n 0, 1) := by decide +kernel
theorem dX9_branchOfTable_22 : decode cX9_branchOfTable 22 = .ok (.iload_n 3, 1) := by decide +kernel
theorem dX9_branchOfTable_23 : decode cX9_branchOfTable 23 = .ok (.invokevirtual 62, 3) := by decide +kernel
theorem dX9_branchOfTable_26 : decode cX9_branchOfTable 26 = .ok (.iload_n 1, 1) := by decide +kernel
theorem dX9_branchOfTable_27 : decode cX9_branchOfTable 27 = .ok (.if_icmp .ne 7, 3) := by decide +kernel
theorem dX9_branchOfTable_30 : decode cX9_branchOfTable 30 = .ok (.iload_n 3, 1) := by decide +kernel
theorem dX9_branchOfTable_31 : decode cX9_branchOfTable 31 = .ok (.goto 4, 3) := by decide +kernel
theorem dX9_branchOfTable_34 : decode cX9_branchOfTable 34 = .ok (.iload_n 2, 1) := by decide +kernel
theorem dX9_branchOfTable_35 : decode cX9_branchOfTable 35 = .ok (.istore_n 2, 1) := by decide +kernel
theorem dX9_branchOfTable_36 : decode cX9_branchOfTable 36 = .ok (.iinc 3 1, 3) := by decide +kernel
theorem dX9_branchOfTable_39 : decode cX9_branchOfTable 39 = .ok (.goto (-34), 3) := by decide +kernel
theorem dX9_branchOfTable_42 : decode cX9_branchOfTable 42 = .ok (.iload_n 2, 1) := by decide +kernel
theorem dX9_branchOfTable_43 : decode cX9_branchOfTable 43 = .ok (.ireturn, 1) := by decide +kernel
set_option maxRecDepth 20000 in
theorem ggX9_columns_X9_branchOfTable : GoodIn wsX9_columns wsX9_branchOfTable := goodIn_r _ [5, 6, 7, 8, 9, 4, 10, 11, 12, 13, 14, 15, 16, 17, 18, 19, 20, 21, 22, 23, 24, 25, 26, 27, 28, 29, 30, 31, 32, 33, 34, 35, 36, 37, 38, 39, 40, 41] (by decide +kernel) (by decide +kernel)
set_option maxRecDepth 20000 in
theorem gX9_columns_X9_branchOfTable : GoodIn wsX9_columns (wsV RX9 66 RX9 yX9_branchOfTable wsX9_branchOfTable) := goodIn_app (goodIn_of _ (by decide +kernel)) ggX9_columns_X9_branchOfTable
set_option maxRecDepth 20000 in
theorem ggX9_columns_X9_part : GoodIn wsX9_columns wsX9_part := goodIn_r _ [14, 15, 20, 21, 22, 23, 24, 25, 26, 27, 28, 29, 30, 31, 32, 33, 34, 35, 36, 37, 38, 39, 40, 41] (by decide +kernel) (by decide +kernel)
set_option maxRecDepth 20000 in
theorem gX9_columns_X9_part : GoodIn wsX9_columns (wsV RX9 50 RX9 yX9_part wsX9_part) := goodIn_app (goodIn_of _ (by decide +kernel)) ggX9_columns_X9_part
theorem dX9_columns_0 : decode cX9_columns 0 = .ok (.aload_n 0, 1) := by decide +kernel
theorem dX9_columns_1 : decode cX9_columns 1 = .ok (.aload_n 0, 1) := by decide +kernel
theorem dX9_columns_2 : decode cX9_columns 2 = .ok (.iload_n 1, 1) := by decide +kernel
theorem dX9_columns_3 : decode cX9_columns 3 = .ok (.invokevirtual 66, 3) := by decide +kernel
theorem dX9_columns_6 : decode cX9_columns 6 = .ok (.iconst 3, 1) := by decide +kernel
theorem dX9_columns_7 : decode cX9_columns 7 = .ok (.invokevirtual 50, 3) := by decide +kernel
theorem dX9_columns_10 : decode cX9_columns 10 = .ok (.ireturn, 1) := by decide +kernel
theorem dX9_rowAt_0 : decode cX9_rowAt 0 = .ok (.bipush 8, 2) := by decide +kernel
theorem dX9_rowAt_2 : decode cX9_rowAt 2 = .ok (.bipush 36, 2) := by decide +kernel
theorem dX9_rowAt_4 : decode cX9_rowAt 4 = .ok (.iload_n 0, 1) := by decide +kernel
theorem dX9_rowAt_5 : decode cX9_rowAt 5 = .ok (.imul, 1) := by decide +kernel
theorem dX9_rowAt_6 : decode cX9_rowAt 6 = .ok (.iadd, 1) := by decide +kernel
theorem dX9_rowAt_7 : decode cX9_rowAt 7 = .ok (.iconst 4, 1) := by decide +kernel
theorem dX9_rowAt_8 : decode cX9_rowAt 8 = .ok (.iload_n 1, 1) := by decide +kernel
theorem dX9_rowAt_9 : decode cX9_rowAt 9 = .ok (.iconst 1, 1) := by decide +kernel
theorem dX9_rowAt_10 : decode cX9_rowAt 10 = .ok (.isub, 1) := by decide +kernel
theorem dX9_rowAt_11 : decode cX9_rowAt 11 = .ok (.imul, 1) := by decide +kernel
theorem dX9_rowAt_12 : decode cX9_rowAt 12 = .ok (.iadd, 1) := by decide +kernel
theorem dX9_rowAt_13 : decode cX9_rowAt 13 = .ok (.ireturn, 1) := by decide +kernel
set_option maxRecDepth 20000 in
theorem ggX9_statusOf_X9_rowAt : GoodIn wsX9_statusOf wsX9_rowAt := goodIn_r _ [5] (by decide +kernel) (by decide +kernel)
set_option maxRecDepth 20000 in
theorem gX9_statusOf_X9_rowAt : GoodIn wsX9_statusOf (va_wsS RX9 69 yX9_rowAt wsX9_rowAt) := goodIn_app (goodIn_of _ (by decide +kernel)) ggX9_statusOf_X9_rowAt
theorem dX9_statusOf_0 : decode cX9_statusOf 0 = .ok (.aload_n 0, 1) := by decide +kernel
theorem dX9_statusOf_1 : decode cX9_statusOf 1 = .ok (.getfield 13, 3) := by decide +kernel
theorem dX9_statusOf_4 : decode cX9_statusOf 4 = .ok (.iload_n 1, 1) := by decide +kernel
theorem dX9_statusOf_5 : decode cX9_statusOf 5 = .ok (.iload_n 2, 1) := by decide +kernel
theorem dX9_statusOf_6 : decode cX9_statusOf 6 = .ok (.invokestatic 69, 3) := by decide +kernel
theorem dX9_statusOf_9 : decode cX9_statusOf 9 = .ok (.iaload, 1) := by decide +kernel
theorem dX9_statusOf_10 : decode cX9_statusOf 10 = .ok (.ireturn, 1) := by decide +kernel
set_option maxRecDepth 20000 in
theorem ggX9_missing_X9_columns : GoodIn wsX9_missing wsX9_columns := goodIn_r _ [6, 7, 8, 9, 5, 10, 11, 12, 13, 14, 15, 16, 17, 18, 19, 20, 21, 22, 23, 24, 28, 29, 30, 31, 32, 33, 34, 35, 36, 37, 38, 39, 40, 41, 42, 43, 44, 45, 46, 47, 48, 49] (by decide +kernel) (by decide +kernel)
set_option maxRecDepth 20000 in
theorem gX9_missing_X9_columns : GoodIn wsX9_missing (wsV RX9 72 RX9 yX9_columns wsX9_columns) := goodIn_app (goodIn_of _ (by decide +kernel)) ggX9_missing_X9_columns
set_option maxRecDepth 20000 in
theorem ggX9_missing_X9_rowAt : GoodIn wsX9_missing wsX9_rowAt := goodIn_r _ [27] (by decide +kernel) (by decide +kernel)
set_option maxRecDepth 20000 in
theorem gX9_missing_X9_rowAt : GoodIn wsX9_missing (va_wsS RX9 69 yX9_rowAt wsX9_rowAt) := goodIn_app (goodIn_of _ (by decide +kernel)) ggX9_missing_X9_rowAt
theorem dX9_missing_0 : decode cX9_missing 0 = .ok (.iconst 0, 1) := by decide +kernel
theorem dX9_missing_1 : decode cX9_missing 1 = .ok (.istore_n 3, 1) := by decide +kernel
theorem dX9_missing_2 : decode cX9_missing 2 = .ok (.iconst 1, 1) := by decide +kernel
theorem dX9_missing_3 : decode cX9_missing 3 = .ok (.istore 4, 2) := by decide +kernel
theorem dX9_missing_5 : decode cX9_missing 5 = .ok (.iload 4, 2) := by decide +kernel
theorem dX9_missing_7 : decode cX9_missing 7 = .ok (.aload_n 0, 1) := by decide +kernel
theorem dX9_missing_8 : decode cX9_missing 8 = .ok (.iload_n 1, 1) := by decide +kernel
theorem dX9_missing_9 : decode cX9_missing 9 = .ok (.invokevirtual 72, 3) := by decide +kernel
theorem dX9_missing_12 : decode cX9_missing 12 = .ok (.if_icmp .gt 33, 3) := by decide +kernel
theorem dX9_missing_15 : decode cX9_missing 15 = .ok (.iload_n 3, 1) := by decide +kernel
theorem dX9_missing_16 : decode cX9_missing 16 = .ok (.aload_n 0, 1) := by decide +kernel
theorem dX9_missing_17 : decode cX9_missing 17 = .ok (.getfield 13, 3) := by decide +kernel
theorem dX9_missing_20 : decode cX9_missing 20 = .ok (.iload_n 1, 1) := by decide +kernel
theorem dX9_missing_21 : decode cX9_missing 21 = .ok (.iload_n 2, 1) := by decide +kernel
theorem dX9_missing_22 : decode cX9_missing 22 = .ok (.invokestatic 69, 3) := by decide +kernel
theorem dX9_missing_25 : decode cX9_missing 25 = .ok (.iload 4, 2) := by decide +kernel
theorem dX9_missing_27 : decode cX9_missing 27 = .ok (.iadd, 1) := by decide +kernel
theorem dX9_missing_28 : decode cX9_missing 28 = .ok (.iaload, 1) := by decide +kernel
theorem dX9_missing_29 : decode cX9_missing 29 = .ok (.ifCond .ge 7, 3) := by decide +kernel
theorem dX9_missing_32 : decode cX9_missing 32 = .ok (.iconst 1, 1) := by decide +kernel
theorem dX9_missing_33 : decode cX9_missing 33 = .ok (.goto 4, 3) := by decide +kernel
theorem dX9_missing_36 : decode cX9_missing 36 = .ok (.iconst 0, 1) := by decide +kernel
theorem dX9_missing_37 : decode cX9_missing 37 = .ok (.iadd, 1) := by decide +kernel
theorem dX9_missing_38 : decode cX9_missing 38 = .ok (.istore_n 3, 1) := by decide +kernel
theorem dX9_missing_39 : decode cX9_missing 39 = .ok (.iinc 4 1, 3) := by decide +kernel
theorem dX9_missing_42 : decode cX9_missing 42 = .ok (.goto (-37), 3) := by decide +kernel
theorem dX9_missing_45 : decode cX9_missing 45 = .ok (.iload_n 3, 1) := by decide +kernel
theorem dX9_missing_46 : decode cX9_missing 46 = .ok (.ireturn, 1) := by decide +kernel
set_option maxRecDepth 20000 in
theorem ggX9_makes_X9_rowAt : GoodIn wsX9_makes wsX9_rowAt := goodIn_r _ [5] (by decide +kernel) (by decide +kernel)
set_option maxRecDepth 20000 in
theorem gX9_makes_X9_rowAt : GoodIn wsX9_makes (va_wsS RX9 69 yX9_rowAt wsX9_rowAt) := goodIn_app (goodIn_of _ (by decide +kernel)) ggX9_makes_X9_rowAt
theorem dX9_makes_0 : decode cX9_makes 0 = .ok (.iload_n 1, 1) := by decide +kernel
theorem dX9_makes_1 : decode cX9_makes 1 = .ok (.iload_n 2, 1) := by decide +kernel
theorem dX9_makes_2 : decode cX9_makes 2 = .ok (.invokestatic 69, 3) := by decide +kernel
theorem dX9_makes_5 : decode cX9_makes 5 = .ok (.istore 4, 2) := by decide +kernel
theorem dX9_makes_7 : decode cX9_makes 7 = .ok (.aload_n 0, 1) := by decide +kernel
theorem dX9_makes_8 : decode cX9_makes 8 = .ok (.getfield 13, 3) := by decide +kernel
theorem dX9_makes_11 : decode cX9_makes 11 = .ok (.iload 4, 2) := by decide +kernel
theorem dX9_makes_13 : decode cX9_makes 13 = .ok (.iload_n 3, 1) := by decide +kernel
theorem dX9_makes_14 : decode cX9_makes 14 = .ok (.iastore, 1) := by decide +kernel
theorem dX9_makes_15 : decode cX9_makes 15 = .ok (.iconst 1, 1) := by decide +kernel
theorem dX9_makes_16 : decode cX9_makes 16 = .ok (.istore 5, 2) := by decide +kernel
theorem dX9_makes_18 : decode cX9_makes 18 = .ok (.iload 5, 2) := by decide +kernel
theorem dX9_makes_20 : decode cX9_makes 20 = .ok (.iconst 4, 1) := by decide +kernel
theorem dX9_makes_21 : decode cX9_makes 21 = .ok (.if_icmp .ge 21, 3) := by decide +kernel
theorem dX9_makes_24 : decode cX9_makes 24 = .ok (.aload_n 0, 1) := by decide +kernel
theorem dX9_makes_25 : decode cX9_makes 25 = .ok (.getfield 13, 3) := by decide +kernel
theorem dX9_makes_28 : decode cX9_makes 28 = .ok (.iload 4, 2) := by decide +kernel
theorem dX9_makes_30 : decode cX9_makes 30 = .ok (.iload 5, 2) := by decide +kernel
theorem dX9_makes_32 : decode cX9_makes 32 = .ok (.iadd, 1) := by decide +kernel
theorem dX9_makes_33 : decode cX9_makes 33 = .ok (.bipush (-9), 2) := by decide +kernel
theorem dX9_makes_35 : decode cX9_makes 35 = .ok (.iastore, 1) := by decide +kernel
theorem dX9_makes_36 : decode cX9_makes 36 = .ok (.iinc 5 1, 3) := by decide +kernel
theorem dX9_makes_39 : decode cX9_makes 39 = .ok (.goto (-21), 3) := by decide +kernel
theorem dX9_makes_42 : decode cX9_makes 42 = .ok (.return_, 1) := by decide +kernel
set_option maxRecDepth 20000 in
theorem ggX9_laysLeaf_X9_part : GoodIn wsX9_laysLeaf wsX9_part := goodIn_r _ [9, 10, 11, 12, 13, 14, 15, 16, 17, 18, 19, 20, 21, 22, 23, 24, 25, 26, 27, 28, 29, 30, 31, 32] (by decide +kernel) (by decide +kernel)
set_option maxRecDepth 20000 in
theorem gX9_laysLeaf_X9_part : GoodIn wsX9_laysLeaf (wsV RX9 50 RX9 yX9_part wsX9_part) := goodIn_app (goodIn_of _ (by decide +kernel)) ggX9_laysLeaf_X9_part
theorem dX9_laysLeaf_0 : decode cX9_laysLeaf 0 = .ok (.aload_n 0, 1) := by decide +kernel
theorem dX9_laysLeaf_1 : decode cX9_laysLeaf 1 = .ok (.getfield 32, 3) := by decide +kernel
theorem dX9_laysLeaf_4 : decode cX9_laysLeaf 4 = .ok (.iconst 4, 1) := by decide +kernel
theorem dX9_laysLeaf_5 : decode cX9_laysLeaf 5 = .ok (.aload_n 0, 1) := by decide +kernel
theorem dX9_laysLeaf_6 : decode cX9_laysLeaf 6 = .ok (.getfield 75, 3) := by decide +kernel
theorem dX9_laysLeaf_9 : decode cX9_laysLeaf 9 = .ok (.imul, 1) := by decide +kernel
theorem dX9_laysLeaf_10 : decode cX9_laysLeaf 10 = .ok (.aload_n 0, 1) := by decide +kernel
theorem dX9_laysLeaf_11 : decode cX9_laysLeaf 11 = .ok (.iload_n 1, 1) := by decide +kernel
theorem dX9_laysLeaf_12 : decode cX9_laysLeaf 12 = .ok (.iconst 0, 1) := by decide +kernel
theorem dX9_laysLeaf_13 : decode cX9_laysLeaf 13 = .ok (.invokevirtual 50, 3) := by decide +kernel
theorem dX9_laysLeaf_16 : decode cX9_laysLeaf 16 = .ok (.iastore, 1) := by decide +kernel
theorem dX9_laysLeaf_17 : decode cX9_laysLeaf 17 = .ok (.aload_n 0, 1) := by decide +kernel
theorem dX9_laysLeaf_18 : decode cX9_laysLeaf 18 = .ok (.getfield 32, 3) := by decide +kernel
theorem dX9_laysLeaf_21 : decode cX9_laysLeaf 21 = .ok (.iconst 4, 1) := by decide +kernel
theorem dX9_laysLeaf_22 : decode cX9_laysLeaf 22 = .ok (.aload_n 0, 1) := by decide +kernel
theorem dX9_laysLeaf_23 : decode cX9_laysLeaf 23 = .ok (.getfield 75, 3) := by decide +kernel
theorem dX9_laysLeaf_26 : decode cX9_laysLeaf 26 = .ok (.imul, 1) := by decide +kernel
theorem dX9_laysLeaf_27 : decode cX9_laysLeaf 27 = .ok (.iconst 1, 1) := by decide +kernel
theorem dX9_laysLeaf_28 : decode cX9_laysLeaf 28 = .ok (.iadd, 1) := by decide +kernel
theorem dX9_laysLeaf_29 : decode cX9_laysLeaf 29 = .ok (.aload_n 0, 1) := by decide +kernel
theorem dX9_laysLeaf_30 : decode cX9_laysLeaf 30 = .ok (.iload_n 1, 1) := by decide +kernel
theorem dX9_laysLeaf_31 : decode cX9_laysLeaf 31 = .ok (.iconst 1, 1) := by decide +kernel
theorem dX9_laysLeaf_32 : decode cX9_laysLeaf 32 = .ok (.invokevirtual 50, 3) := by decide +kernel
theorem dX9_laysLeaf_35 : decode cX9_laysLeaf 35 = .ok (.iastore, 1) := by decide +kernel
theorem dX9_laysLeaf_36 : decode cX9_laysLeaf 36 = .ok (.aload_n 0, 1) := by decide +kernel
theorem dX9_laysLeaf_37 : decode cX9_laysLeaf 37 = .ok (.getfield 32, 3) := by decide +kernel
theorem dX9_laysLeaf_40 : decode cX9_laysLeaf 40 = .ok (.iconst 4, 1) := by decide +kernel
theorem dX9_laysLeaf_41 : decode cX9_laysLeaf 41 = .ok (.aload_n 0, 1) := by decide +kernel
theorem dX9_laysLeaf_42 : decode cX9_laysLeaf 42 = .ok (.getfield 75, 3) := by decide +kernel
theorem dX9_laysLeaf_45 : decode cX9_laysLeaf 45 = .ok (.imul, 1) := by decide +kernel
theorem dX9_laysLeaf_46 : decode cX9_laysLeaf 46 = .ok (.iconst 2, 1) := by decide +kernel
theorem dX9_laysLeaf_47 : decode cX9_laysLeaf 47 = .ok (.iadd, 1) := by decide +kernel
theorem dX9_laysLeaf_48 : decode cX9_laysLeaf 48 = .ok (.iload_n 2, 1) := by decide +kernel
theorem dX9_laysLeaf_49 : decode cX9_laysLeaf 49 = .ok (.iastore, 1) := by decide +kernel
theorem dX9_laysLeaf_50 : decode cX9_laysLeaf 50 = .ok (.aload_n 0, 1) := by decide +kernel
theorem dX9_laysLeaf_51 : decode cX9_laysLeaf 51 = .ok (.getfield 32, 3) := by decide +kernel
theorem dX9_laysLeaf_54 : decode cX9_laysLeaf 54 = .ok (.iconst 4, 1) := by decide +kernel
theorem dX9_laysLeaf_55 : decode cX9_laysLeaf 55 = .ok (.aload_n 0, 1) := by decide +kernel
theorem dX9_laysLeaf_56 : decode cX9_laysLeaf 56 = .ok (.getfield 75, 3) := by decide +kernel
theorem dX9_laysLeaf_59 : decode cX9_laysLeaf 59 = .ok (.imul, 1) := by decide +kernel
theorem dX9_laysLeaf_60 : decode cX9_laysLeaf 60 = .ok (.iconst 3, 1) := by decide +kernel
theorem dX9_laysLeaf_61 : decode cX9_laysLeaf 61 = .ok (.iadd, 1) := by decide +kernel
theorem dX9_laysLeaf_62 : decode cX9_laysLeaf 62 = .ok (.iload_n 3, 1) := by decide +kernel
theorem dX9_laysLeaf_63 : decode cX9_laysLeaf 63 = .ok (.iastore, 1) := by decide +kernel
theorem dX9_laysLeaf_64 : decode cX9_laysLeaf 64 = .ok (.aload_n 0, 1) := by decide +kernel
theorem dX9_laysLeaf_65 : decode cX9_laysLeaf 65 = .ok (.getfield 35, 3) := by decide +kernel
theorem dX9_laysLeaf_68 : decode cX9_laysLeaf 68 = .ok (.aload_n 0, 1) := by decide +kernel
theorem dX9_laysLeaf_69 : decode cX9_laysLeaf 69 = .ok (.getfield 75, 3) := by decide +kernel
theorem dX9_laysLeaf_72 : decode cX9_laysLeaf 72 = .ok (.iload 4, 2) := by decide +kernel
theorem dX9_laysLeaf_74 : decode cX9_laysLeaf 74 = .ok (.iastore, 1) := by decide +kernel
theorem dX9_laysLeaf_75 : decode cX9_laysLeaf 75 = .ok (.aload_n 0, 1) := by decide +kernel
theorem dX9_laysLeaf_76 : decode cX9_laysLeaf 76 = .ok (.getfield 38, 3) := by decide +kernel
theorem dX9_laysLeaf_79 : decode cX9_laysLeaf 79 = .ok (.aload_n 0, 1) := by decide +kernel
theorem dX9_laysLeaf_80 : decode cX9_laysLeaf 80 = .ok (.getfield 75, 3) := by decide +kernel
theorem dX9_laysLeaf_83 : decode cX9_laysLeaf 83 = .ok (.iload 5, 2) := by decide +kernel
theorem dX9_laysLeaf_85 : decode cX9_laysLeaf 85 = .ok (.iastore, 1) := by decide +kernel
theorem dX9_laysLeaf_86 : decode cX9_laysLeaf 86 = .ok (.aload_n 0, 1) := by decide +kernel
theorem dX9_laysLeaf_87 : decode cX9_laysLeaf 87 = .ok (.dup, 1) := by decide +kernel
theorem dX9_laysLeaf_88 : decode cX9_laysLeaf 88 = .ok (.getfield 75, 3) := by decide +kernel
theorem dX9_laysLeaf_91 : decode cX9_laysLeaf 91 = .ok (.iconst 1, 1) := by decide +kernel
theorem dX9_laysLeaf_92 : decode cX9_laysLeaf 92 = .ok (.iadd, 1) := by decide +kernel
theorem dX9_laysLeaf_93 : decode cX9_laysLeaf 93 = .ok (.putfield 75, 3) := by decide +kernel
theorem dX9_laysLeaf_96 : decode cX9_laysLeaf 96 = .ok (.return_, 1) := by decide +kernel
set_option maxRecDepth 20000 in
theorem ggX9_laysTable_X9_tableOf : GoodIn wsX9_laysTable wsX9_tableOf := goodIn_r _ [6, 7, 8, 9, 5, 10, 11, 12, 13, 14, 15, 31, 32, 33, 34, 35, 36, 37, 38, 39, 40, 41, 42, 43, 44, 45, 46, 47, 48, 49, 50, 51, 52] (by decide +kernel) (by decide +kernel)
set_option maxRecDepth 20000 in
theorem gX9_laysTable_X9_tableOf : GoodIn wsX9_laysTable (wsV RX9 62 RX9 yX9_tableOf wsX9_tableOf) := goodIn_app (goodIn_of _ (by decide +kernel)) ggX9_laysTable_X9_tableOf
set_option maxRecDepth 20000 in
theorem ggX9_laysTable_X9_part : GoodIn wsX9_laysTable wsX9_part := goodIn_r _ [14, 15, 31, 32, 33, 34, 35, 36, 37, 38, 39, 40, 41, 42, 43, 44, 45, 46, 47, 48, 49, 50, 51, 52] (by decide +kernel) (by decide +kernel)
set_option maxRecDepth 20000 in
theorem gX9_laysTable_X9_part : GoodIn wsX9_laysTable (wsV RX9 50 RX9 yX9_part wsX9_part) := goodIn_app (goodIn_of _ (by decide +kernel)) ggX9_laysTable_X9_part
set_option maxRecDepth 20000 in
theorem ggX9_laysTable_X9_rowAt : GoodIn wsX9_laysTable wsX9_rowAt := goodIn_r _ [18] (by decide +kernel) (by decide +kernel)
set_option maxRecDepth 20000 in
theorem gX9_laysTable_X9_rowAt : GoodIn wsX9_laysTable (va_wsS RX9 69 yX9_rowAt wsX9_rowAt) := goodIn_app (goodIn_of _ (by decide +kernel)) ggX9_laysTable_X9_rowAt
set_option maxRecDepth 20000 in
theorem ggX9_laysTable_X9_statusOf : GoodIn wsX9_laysTable wsX9_statusOf := goodIn_r _ [22, 1, 16, 17, 5, 18, 31, 32, 33, 34, 35, 36, 37, 38, 39, 40, 41, 42, 43, 44, 45, 46, 47, 48, 49, 50, 51, 52] (by decide +kernel) (by decide +kernel)
set_option maxRecDepth 20000 in
theorem gX9_laysTable_X9_statusOf : GoodIn wsX9_laysTable (wsV RX9 78 RX9 yX9_statusOf wsX9_statusOf) := goodIn_app (goodIn_of _ (by decide +kernel)) ggX9_laysTable_X9_statusOf
set_option maxRecDepth 20000 in
theorem ggX9_laysTable_X9_laysLeaf : GoodIn wsX9_laysTable wsX9_laysLeaf := goodIn_r _ [26, 27, 28, 29, 30, 11, 12, 13, 5, 14, 15, 31, 32, 33, 34, 35, 36, 37, 38, 39, 40, 41, 42, 43, 44, 45, 46, 47, 48, 49, 50, 51, 52] (by decide +kernel) (by decide +kernel)
set_option maxRecDepth 20000 in
theorem gX9_laysTable_X9_laysLeaf : GoodIn wsX9_laysTable (wsV RX9 81 RX9 yX9_laysLeaf wsX9_laysLeaf) := goodIn_app (goodIn_of _ (by decide +kernel)) ggX9_laysTable_X9_laysLeaf
theorem dX9_laysTable_0 : decode cX9_laysTable 0 = .ok (.aload_n 0, 1) := by decide +kernel
theorem dX9_laysTable_1 : decode cX9_laysTable 1 = .ok (.iload_n 1, 1) := by decide +kernel
theorem dX9_laysTable_2 : decode cX9_laysTable 2 = .ok (.invokevirtual 62, 3) := by decide +kernel
theorem dX9_laysTable_5 : decode cX9_laysTable 5 = .ok (.istore_n 2, 1) := by decide +kernel
theorem dX9_laysTable_6 : decode cX9_laysTable 6 = .ok (.iconst 0, 1) := by decide +kernel
theorem dX9_laysTable_7 : decode cX9_laysTable 7 = .ok (.istore_n 3, 1) := by decide +kernel
theorem dX9_laysTable_8 : decode cX9_laysTable 8 = .ok (.iload_n 3, 1) := by decide +kernel
theorem dX9_laysTable_9 : decode cX9_laysTable 9 = .ok (.aload_n 0, 1) := by decide +kernel
theorem dX9_laysTable_10 : decode cX9_laysTable 10 = .ok (.iload_n 1, 1) := by decide +kernel
theorem dX9_laysTable_11 : decode cX9_laysTable 11 = .ok (.iconst 3, 1) := by decide +kernel
theorem dX9_laysTable_12 : decode cX9_laysTable 12 = .ok (.invokevirtual 50, 3) := by decide +kernel
theorem dX9_laysTable_15 : decode cX9_laysTable 15 = .ok (.if_icmp .gt 86, 3) := by decide +kernel
theorem dX9_laysTable_18 : decode cX9_laysTable 18 = .ok (.iconst 1, 1) := by decide +kernel
theorem dX9_laysTable_19 : decode cX9_laysTable 19 = .ok (.istore 4, 2) := by decide +kernel
theorem dX9_laysTable_21 : decode cX9_laysTable 21 = .ok (.iload 4, 2) := by decide +kernel
theorem dX9_laysTable_23 : decode cX9_laysTable 23 = .ok (.bipush 9, 2) := by decide +kernel
theorem dX9_laysTable_25 : decode cX9_laysTable 25 = .ok (.if_icmp .gt 70, 3) := by decide +kernel
theorem dX9_laysTable_28 : decode cX9_laysTable 28 = .ok (.aload_n 0, 1) := by decide +kernel
theorem dX9_laysTable_29 : decode cX9_laysTable 29 = .ok (.getfield 13, 3) := by decide +kernel
theorem dX9_laysTable_32 : decode cX9_laysTable 32 = .ok (.iload_n 2, 1) := by decide +kernel
theorem dX9_laysTable_33 : decode cX9_laysTable 33 = .ok (.iload 4, 2) := by decide +kernel
theorem dX9_laysTable_35 : decode cX9_laysTable 35 = .ok (.invokestatic 69, 3) := by decide +kernel
theorem dX9_laysTable_38 : decode cX9_laysTable 38 = .ok (.iload_n 3, 1) := by decide +kernel
theorem dX9_laysTable_39 : decode cX9_laysTable 39 = .ok (.iadd, 1) := by decide +kernel
theorem dX9_laysTable_40 : decode cX9_laysTable 40 = .ok (.iaload, 1) := by decide +kernel
theorem dX9_laysTable_41 : decode cX9_laysTable 41 = .ok (.istore 5, 2) := by decide +kernel
theorem dX9_laysTable_43 : decode cX9_laysTable 43 = .ok (.aload_n 0, 1) := by decide +kernel
theorem dX9_laysTable_44 : decode cX9_laysTable 44 = .ok (.iload_n 2, 1) := by decide +kernel
theorem dX9_laysTable_45 : decode cX9_laysTable 45 = .ok (.iload 4, 2) := by decide +kernel
theorem dX9_laysTable_47 : decode cX9_laysTable 47 = .ok (.invokevirtual 78, 3) := by decide +kernel
theorem dX9_laysTable_50 : decode cX9_laysTable 50 = .ok (.ifCond .eq 12, 3) := by decide +kernel
theorem dX9_laysTable_53 : decode cX9_laysTable 53 = .ok (.iload 5, 2) := by decide +kernel
theorem dX9_laysTable_55 : decode cX9_laysTable 55 = .ok (.ifCond .lt 7, 3) := by decide +kernel
theorem dX9_laysTable_58 : decode cX9_laysTable 58 = .ok (.iconst 1, 1) := by decide +kernel
theorem dX9_laysTable_59 : decode cX9_laysTable 59 = .ok (.goto 4, 3) := by decide +kernel
theorem dX9_laysTable_62 : decode cX9_laysTable 62 = .ok (.iconst 0, 1) := by decide +kernel
theorem dX9_laysTable_63 : decode cX9_laysTable 63 = .ok (.istore 6, 2) := by decide +kernel
theorem dX9_laysTable_65 : decode cX9_laysTable 65 = .ok (.iload 6, 2) := by decide +kernel
theorem dX9_laysTable_67 : decode cX9_laysTable 67 = .ok (.ifCond .eq 22, 3) := by decide +kernel
theorem dX9_laysTable_70 : decode cX9_laysTable 70 = .ok (.aload_n 0, 1) := by decide +kernel
theorem dX9_laysTable_71 : decode cX9_laysTable 71 = .ok (.iload_n 1, 1) := by decide +kernel
theorem dX9_laysTable_72 : decode cX9_laysTable 72 = .ok (.iload_n 3, 1) := by decide +kernel
theorem dX9_laysTable_73 : decode cX9_laysTable 73 = .ok (.iload 4, 2) := by decide +kernel
theorem dX9_laysTable_75 : decode cX9_laysTable 75 = .ok (.iload 5, 2) := by decide +kernel
theorem dX9_laysTable_77 : decode cX9_laysTable 77 = .ok (.iload_n 3, 1) := by decide +kernel
theorem dX9_laysTable_78 : decode cX9_laysTable 78 = .ok (.ifCond .ne 7, 3) := by decide +kernel
theorem dX9_laysTable_81 : decode cX9_laysTable 81 = .ok (.iconst 2, 1) := by decide +kernel
theorem dX9_laysTable_82 : decode cX9_laysTable 82 = .ok (.goto 4, 3) := by decide +kernel
theorem dX9_laysTable_85 : decode cX9_laysTable 85 = .ok (.iconst 3, 1) := by decide +kernel
theorem dX9_laysTable_86 : decode cX9_laysTable 86 = .ok (.invokevirtual 81, 3) := by decide +kernel
theorem dX9_laysTable_89 : decode cX9_laysTable 89 = .ok (.iinc 4 1, 3) := by decide +kernel
theorem dX9_laysTable_92 : decode cX9_laysTable 92 = .ok (.goto (-71), 3) := by decide +kernel
theorem dX9_laysTable_95 : decode cX9_laysTable 95 = .ok (.iinc 3 1, 3) := by decide +kernel
theorem dX9_laysTable_98 : decode cX9_laysTable 98 = .ok (.goto (-90), 3) := by decide +kernel
theorem dX9_laysTable_101 : decode cX9_laysTable 101 = .ok (.return_, 1) := by decide +kernel
set_option maxRecDepth 20000 in
theorem ggX9_laysLeaves_X9_isTable : GoodIn wsX9_laysLeaves wsX9_isTable := goodIn_r _ [8, 9, 10, 11, 7, 12, 13, 36, 37, 38, 39, 40, 41, 42, 43, 44, 45, 46, 47, 48, 49, 50, 51, 52, 53, 54, 55, 56, 57] (by decide +kernel) (by decide +kernel)
set_option maxRecDepth 20000 in
theorem gX9_laysLeaves_X9_isTable : GoodIn wsX9_laysLeaves (wsV RX9 58 RX9 yX9_isTable wsX9_isTable) := goodIn_app (goodIn_of _ (by decide +kernel)) ggX9_laysLeaves_X9_isTable
set_option maxRecDepth 20000 in
theorem ggX9_laysLeaves_X9_laysTable : GoodIn wsX9_laysLeaves wsX9_laysTable := goodIn_r _ [17, 3, 18, 19, 20, 7, 21, 4, 5, 6, 8, 9, 10, 11, 12, 13, 22, 23, 24, 25, 26, 27, 28, 29, 30, 31, 32, 33, 1, 34, 35, 36, 37, 38, 39, 40, 41, 42, 43, 44, 45, 46, 47, 48, 49, 50, 51, 52, 53, 54, 55, 56, 57] (by decide +kernel) (by decide +kernel)
set_option maxRecDepth 20000 in
theorem gX9_laysLeaves_X9_laysTable : GoodIn wsX9_laysLeaves (wsV RX9 85 RX9 yX9_laysTable wsX9_laysTable) := goodIn_app (goodIn_of _ (by decide +kernel)) ggX9_laysLeaves_X9_laysTable
set_option maxRecDepth 20000 in
theorem ggX9_laysLeaves_X9_part : GoodIn wsX9_laysLeaves wsX9_part := goodIn_r _ [12, 13, 36, 37, 38, 39, 40, 41, 42, 43, 44, 45, 46, 47, 48, 49, 50, 51, 52, 53, 54, 55, 56, 57] (by decide +kernel) (by decide +kernel)
set_option maxRecDepth 20000 in
theorem gX9_laysLeaves_X9_part : GoodIn wsX9_laysLeaves (wsV RX9 50 RX9 yX9_part wsX9_part) := goodIn_app (goodIn_of _ (by decide +kernel)) ggX9_laysLeaves_X9_part
set_option maxRecDepth 20000 in
theorem ggX9_laysLeaves_X9_laysLeaf : GoodIn wsX9_laysLeaves wsX9_laysLeaf := goodIn_r _ [32, 33, 1, 34, 35, 9, 10, 11, 7, 12, 13, 36, 37, 38, 39, 40, 41, 42, 43, 44, 45, 46, 47, 48, 49, 50, 51, 52, 53, 54, 55, 56, 57] (by decide +kernel) (by decide +kernel)
set_option maxRecDepth 20000 in
theorem gX9_laysLeaves_X9_laysLeaf : GoodIn wsX9_laysLeaves (wsV RX9 81 RX9 yX9_laysLeaf wsX9_laysLeaf) := goodIn_app (goodIn_of _ (by decide +kernel)) ggX9_laysLeaves_X9_laysLeaf
theorem dX9_laysLeaves_0 : decode cX9_laysLeaves 0 = .ok (.aload_n 0, 1) := by decide +kernel
theorem dX9_laysLeaves_1 : decode cX9_laysLeaves 1 = .ok (.iconst 0, 1) := by decide +kernel
theorem dX9_laysLeaves_2 : decode cX9_laysLeaves 2 = .ok (.putfield 75, 3) := by decide +kernel
theorem dX9_laysLeaves_5 : decode cX9_laysLeaves 5 = .ok (.iconst 0, 1) := by decide +kernel
theorem dX9_laysLeaves_6 : decode cX9_laysLeaves 6 = .ok (.istore_n 1, 1) := by decide +kernel
theorem dX9_laysLeaves_7 : decode cX9_laysLeaves 7 = .ok (.iload_n 1, 1) := by decide +kernel
theorem dX9_laysLeaves_8 : decode cX9_laysLeaves 8 = .ok (.aload_n 0, 1) := by decide +kernel
theorem dX9_laysLeaves_9 : decode cX9_laysLeaves 9 = .ok (.getfield 54, 3) := by decide +kernel
theorem dX9_laysLeaves_12 : decode cX9_laysLeaves 12 = .ok (.if_icmp .ge 44, 3) := by decide +kernel
theorem dX9_laysLeaves_15 : decode cX9_laysLeaves 15 = .ok (.aload_n 0, 1) := by decide +kernel
theorem dX9_laysLeaves_16 : decode cX9_laysLeaves 16 = .ok (.iload_n 1, 1) := by decide +kernel
theorem dX9_laysLeaves_17 : decode cX9_laysLeaves 17 = .ok (.invokevirtual 58, 3) := by decide +kernel
theorem dX9_laysLeaves_20 : decode cX9_laysLeaves 20 = .ok (.ifCond .eq 11, 3) := by decide +kernel
theorem dX9_laysLeaves_23 : decode cX9_laysLeaves 23 = .ok (.aload_n 0, 1) := by decide +kernel
theorem dX9_laysLeaves_24 : decode cX9_laysLeaves 24 = .ok (.iload_n 1, 1) := by decide +kernel
theorem dX9_laysLeaves_25 : decode cX9_laysLeaves 25 = .ok (.invokevirtual 85, 3) := by decide +kernel
theorem dX9_laysLeaves_28 : decode cX9_laysLeaves 28 = .ok (.goto 22, 3) := by decide +kernel
theorem dX9_laysLeaves_31 : decode cX9_laysLeaves 31 = .ok (.aload_n 0, 1) := by decide +kernel
theorem dX9_laysLeaves_32 : decode cX9_laysLeaves 32 = .ok (.iload_n 1, 1) := by decide +kernel
theorem dX9_laysLeaves_33 : decode cX9_laysLeaves 33 = .ok (.iconst 0, 1) := by decide +kernel
theorem dX9_laysLeaves_34 : decode cX9_laysLeaves 34 = .ok (.iconst (-1), 1) := by decide +kernel
theorem dX9_laysLeaves_35 : decode cX9_laysLeaves 35 = .ok (.aload_n 0, 1) := by decide +kernel
theorem dX9_laysLeaves_36 : decode cX9_laysLeaves 36 = .ok (.getfield 13, 3) := by decide +kernel
theorem dX9_laysLeaves_39 : decode cX9_laysLeaves 39 = .ok (.iload_n 1, 1) := by decide +kernel
theorem dX9_laysLeaves_40 : decode cX9_laysLeaves 40 = .ok (.iaload, 1) := by decide +kernel
theorem dX9_laysLeaves_41 : decode cX9_laysLeaves 41 = .ok (.aload_n 0, 1) := by decide +kernel
theorem dX9_laysLeaves_42 : decode cX9_laysLeaves 42 = .ok (.iload_n 1, 1) := by decide +kernel
theorem dX9_laysLeaves_43 : decode cX9_laysLeaves 43 = .ok (.iconst 2, 1) := by decide +kernel
theorem dX9_laysLeaves_44 : decode cX9_laysLeaves 44 = .ok (.invokevirtual 50, 3) := by decide +kernel
theorem dX9_laysLeaves_47 : decode cX9_laysLeaves 47 = .ok (.invokevirtual 81, 3) := by decide +kernel
theorem dX9_laysLeaves_50 : decode cX9_laysLeaves 50 = .ok (.iinc 1 1, 3) := by decide +kernel
theorem dX9_laysLeaves_53 : decode cX9_laysLeaves 53 = .ok (.goto (-46), 3) := by decide +kernel
theorem dX9_laysLeaves_56 : decode cX9_laysLeaves 56 = .ok (.return_, 1) := by decide +kernel
theorem dX9_skips_0 : decode cX9_skips 0 = .ok (.aload_n 0, 1) := by decide +kernel
theorem dX9_skips_1 : decode cX9_skips 1 = .ok (.getfield 89, 3) := by decide +kernel
theorem dX9_skips_4 : decode cX9_skips 4 = .ok (.aload_n 0, 1) := by decide +kernel
theorem dX9_skips_5 : decode cX9_skips 5 = .ok (.getfield 92, 3) := by decide +kernel
theorem dX9_skips_8 : decode cX9_skips 8 = .ok (.if_icmp .ge 30, 3) := by decide +kernel
theorem dX9_skips_11 : decode cX9_skips 11 = .ok (.aload_n 0, 1) := by decide +kernel
theorem dX9_skips_12 : decode cX9_skips 12 = .ok (.getfield 29, 3) := by decide +kernel
theorem dX9_skips_15 : decode cX9_skips 15 = .ok (.aload_n 0, 1) := by decide +kernel
theorem dX9_skips_16 : decode cX9_skips 16 = .ok (.getfield 89, 3) := by decide +kernel
theorem dX9_skips_19 : decode cX9_skips 19 = .ok (.iaload, 1) := by decide +kernel
theorem dX9_skips_20 : decode cX9_skips 20 = .ok (.bipush 32, 2) := by decide +kernel
theorem dX9_skips_22 : decode cX9_skips 22 = .ok (.if_icmp .ne 16, 3) := by decide +kernel
theorem dX9_skips_25 : decode cX9_skips 25 = .ok (.aload_n 0, 1) := by decide +kernel
theorem dX9_skips_26 : decode cX9_skips 26 = .ok (.dup, 1) := by decide +kernel
theorem dX9_skips_27 : decode cX9_skips 27 = .ok (.getfield 89, 3) := by decide +kernel
theorem dX9_skips_30 : decode cX9_skips 30 = .ok (.iconst 1, 1) := by decide +kernel
theorem dX9_skips_31 : decode cX9_skips 31 = .ok (.iadd, 1) := by decide +kernel
theorem dX9_skips_32 : decode cX9_skips 32 = .ok (.putfield 89, 3) := by decide +kernel
theorem dX9_skips_35 : decode cX9_skips 35 = .ok (.goto (-35), 3) := by decide +kernel
theorem dX9_skips_38 : decode cX9_skips 38 = .ok (.aload_n 0, 1) := by decide +kernel
theorem dX9_skips_39 : decode cX9_skips 39 = .ok (.aload_n 0, 1) := by decide +kernel
theorem dX9_skips_40 : decode cX9_skips 40 = .ok (.getfield 89, 3) := by decide +kernel
theorem dX9_skips_43 : decode cX9_skips 43 = .ok (.putfield 95, 3) := by decide +kernel
theorem dX9_skips_46 : decode cX9_skips 46 = .ok (.return_, 1) := by decide +kernel
set_option maxRecDepth 20000 in
theorem ggX9_isFigure_X9_within : GoodIn wsX9_isFigure wsX9_within := goodIn_r _ [7] (by decide +kernel) (by decide +kernel)
set_option maxRecDepth 20000 in
theorem gX9_isFigure_X9_within : GoodIn wsX9_isFigure (va_wsS RX9 98 yX9_within wsX9_within) := goodIn_app (goodIn_of _ (by decide +kernel)) ggX9_isFigure_X9_within
theorem dX9_isFigure_0 : decode cX9_isFigure 0 = .ok (.aload_n 0, 1) := by decide +kernel
theorem dX9_isFigure_1 : decode cX9_isFigure 1 = .ok (.getfield 89, 3) := by decide +kernel
theorem dX9_isFigure_4 : decode cX9_isFigure 4 = .ok (.aload_n 0, 1) := by decide +kernel
theorem dX9_isFigure_5 : decode cX9_isFigure 5 = .ok (.getfield 92, 3) := by decide +kernel
theorem dX9_isFigure_8 : decode cX9_isFigure 8 = .ok (.if_icmp .ge 26, 3) := by decide +kernel
theorem dX9_isFigure_11 : decode cX9_isFigure 11 = .ok (.aload_n 0, 1) := by decide +kernel
theorem dX9_isFigure_12 : decode cX9_isFigure 12 = .ok (.getfield 29, 3) := by decide +kernel
theorem dX9_isFigure_15 : decode cX9_isFigure 15 = .ok (.aload_n 0, 1) := by decide +kernel
theorem dX9_isFigure_16 : decode cX9_isFigure 16 = .ok (.getfield 89, 3) := by decide +kernel
theorem dX9_isFigure_19 : decode cX9_isFigure 19 = .ok (.iaload, 1) := by decide +kernel
theorem dX9_isFigure_20 : decode cX9_isFigure 20 = .ok (.bipush 48, 2) := by decide +kernel
theorem dX9_isFigure_22 : decode cX9_isFigure 22 = .ok (.bipush 57, 2) := by decide +kernel
theorem dX9_isFigure_24 : decode cX9_isFigure 24 = .ok (.invokestatic 98, 3) := by decide +kernel
theorem dX9_isFigure_27 : decode cX9_isFigure 27 = .ok (.ifCond .eq 7, 3) := by decide +kernel
theorem dX9_isFigure_30 : decode cX9_isFigure 30 = .ok (.iconst 1, 1) := by decide +kernel
theorem dX9_isFigure_31 : decode cX9_isFigure 31 = .ok (.goto 4, 3) := by decide +kernel
theorem dX9_isFigure_34 : decode cX9_isFigure 34 = .ok (.iconst 0, 1) := by decide +kernel
theorem dX9_isFigure_35 : decode cX9_isFigure 35 = .ok (.ireturn, 1) := by decide +kernel
set_option maxRecDepth 20000 in
theorem ggX9_passes_X9_skips : GoodIn wsX9_passes wsX9_skips := goodIn_r _ [8, 1, 2, 3, 9, 10, 11, 12, 13, 14, 15, 16, 17, 18, 19, 20, 21, 22, 23, 24, 25, 26, 27, 28, 29, 30, 31] (by decide +kernel) (by decide +kernel)
set_option maxRecDepth 20000 in
theorem gX9_passes_X9_skips : GoodIn wsX9_passes (wsV RX9 102 RX9 yX9_skips wsX9_skips) := goodIn_app (goodIn_of _ (by decide +kernel)) ggX9_passes_X9_skips
theorem dX9_passes_0 : decode cX9_passes 0 = .ok (.aload_n 0, 1) := by decide +kernel
theorem dX9_passes_1 : decode cX9_passes 1 = .ok (.invokevirtual 102, 3) := by decide +kernel
theorem dX9_passes_4 : decode cX9_passes 4 = .ok (.aload_n 0, 1) := by decide +kernel
theorem dX9_passes_5 : decode cX9_passes 5 = .ok (.getfield 89, 3) := by decide +kernel
theorem dX9_passes_8 : decode cX9_passes 8 = .ok (.aload_n 0, 1) := by decide +kernel
theorem dX9_passes_9 : decode cX9_passes 9 = .ok (.getfield 92, 3) := by decide +kernel
theorem dX9_passes_12 : decode cX9_passes 12 = .ok (.if_icmp .ge 20, 3) := by decide +kernel
theorem dX9_passes_15 : decode cX9_passes 15 = .ok (.aload_n 0, 1) := by decide +kernel
theorem dX9_passes_16 : decode cX9_passes 16 = .ok (.getfield 29, 3) := by decide +kernel
theorem dX9_passes_19 : decode cX9_passes 19 = .ok (.aload_n 0, 1) := by decide +kernel
theorem dX9_passes_20 : decode cX9_passes 20 = .ok (.getfield 89, 3) := by decide +kernel
theorem dX9_passes_23 : decode cX9_passes 23 = .ok (.iaload, 1) := by decide +kernel
theorem dX9_passes_24 : decode cX9_passes 24 = .ok (.iload_n 1, 1) := by decide +kernel
theorem dX9_passes_25 : decode cX9_passes 25 = .ok (.if_icmp .ne 7, 3) := by decide +kernel
theorem dX9_passes_28 : decode cX9_passes 28 = .ok (.iconst 1, 1) := by decide +kernel
theorem dX9_passes_29 : decode cX9_passes 29 = .ok (.goto 4, 3) := by decide +kernel
theorem dX9_passes_32 : decode cX9_passes 32 = .ok (.iconst 0, 1) := by decide +kernel
theorem dX9_passes_33 : decode cX9_passes 33 = .ok (.istore_n 2, 1) := by decide +kernel
theorem dX9_passes_34 : decode cX9_passes 34 = .ok (.aload_n 0, 1) := by decide +kernel
theorem dX9_passes_35 : decode cX9_passes 35 = .ok (.dup, 1) := by decide +kernel
theorem dX9_passes_36 : decode cX9_passes 36 = .ok (.getfield 89, 3) := by decide +kernel
theorem dX9_passes_39 : decode cX9_passes 39 = .ok (.iload_n 2, 1) := by decide +kernel
theorem dX9_passes_40 : decode cX9_passes 40 = .ok (.ifCond .eq 7, 3) := by decide +kernel
theorem dX9_passes_43 : decode cX9_passes 43 = .ok (.iconst 1, 1) := by decide +kernel
theorem dX9_passes_44 : decode cX9_passes 44 = .ok (.goto 4, 3) := by decide +kernel
theorem dX9_passes_47 : decode cX9_passes 47 = .ok (.iconst 0, 1) := by decide +kernel
theorem dX9_passes_48 : decode cX9_passes 48 = .ok (.iadd, 1) := by decide +kernel
theorem dX9_passes_49 : decode cX9_passes 49 = .ok (.putfield 89, 3) := by decide +kernel
theorem dX9_passes_52 : decode cX9_passes 52 = .ok (.iload_n 2, 1) := by decide +kernel
theorem dX9_passes_53 : decode cX9_passes 53 = .ok (.ireturn, 1) := by decide +kernel
set_option maxRecDepth 20000 in
theorem ggX9_number_X9_skips : GoodIn wsX9_number wsX9_skips := goodIn_r _ [8, 2, 9, 1, 3, 17, 18, 19, 20, 21, 22, 23, 24, 25, 26, 27, 28, 29, 30, 31, 32, 33, 34, 35, 36, 37, 38] (by decide +kernel) (by decide +kernel)
set_option maxRecDepth 20000 in
theorem gX9_number_X9_skips : GoodIn wsX9_number (wsV RX9 102 RX9 yX9_skips wsX9_skips) := goodIn_app (goodIn_of _ (by decide +kernel)) ggX9_number_X9_skips
set_option maxRecDepth 20000 in
theorem ggX9_number_X9_isFigure : GoodIn wsX9_number wsX9_isFigure := goodIn_r _ [13, 2, 9, 1, 14, 15, 7, 16, 17, 18, 19, 20, 21, 22, 23, 24, 25, 26, 27, 28, 29, 30, 31, 32, 33, 34, 35, 36, 37, 38] (by decide +kernel) (by decide +kernel)
set_option maxRecDepth 20000 in
theorem gX9_number_X9_isFigure : GoodIn wsX9_number (wsV RX9 105 RX9 yX9_isFigure wsX9_isFigure) := goodIn_app (goodIn_of _ (by decide +kernel)) ggX9_number_X9_isFigure
set_option maxRecDepth 20000 in
theorem ggX9_number_X9_within : GoodIn wsX9_number wsX9_within := goodIn_r _ [16] (by decide +kernel) (by decide +kernel)
set_option maxRecDepth 20000 in
theorem gX9_number_X9_within : GoodIn wsX9_number (va_wsS RX9 98 yX9_within wsX9_within) := goodIn_app (goodIn_of _ (by decide +kernel)) ggX9_number_X9_within
theorem dX9_number_0 : decode cX9_number 0 = .ok (.aload_n 0, 1) := by decide +kernel
theorem dX9_number_1 : decode cX9_number 1 = .ok (.invokevirtual 102, 3) := by decide +kernel
theorem dX9_number_4 : decode cX9_number 4 = .ok (.iconst 0, 1) := by decide +kernel
theorem dX9_number_5 : decode cX9_number 5 = .ok (.istore_n 3, 1) := by decide +kernel
theorem dX9_number_6 : decode cX9_number 6 = .ok (.iconst 0, 1) := by decide +kernel
theorem dX9_number_7 : decode cX9_number 7 = .ok (.istore 4, 2) := by decide +kernel
theorem dX9_number_9 : decode cX9_number 9 = .ok (.aload_n 0, 1) := by decide +kernel
theorem dX9_number_10 : decode cX9_number 10 = .ok (.invokevirtual 105, 3) := by decide +kernel
theorem dX9_number_13 : decode cX9_number 13 = .ok (.ifCond .eq 48, 3) := by decide +kernel
theorem dX9_number_16 : decode cX9_number 16 = .ok (.iload_n 3, 1) := by decide +kernel
theorem dX9_number_17 : decode cX9_number 17 = .ok (.bipush 99, 2) := by decide +kernel
theorem dX9_number_19 : decode cX9_number 19 = .ok (.if_icmp .le 8, 3) := by decide +kernel
theorem dX9_number_22 : decode cX9_number 22 = .ok (.bipush 100, 2) := by decide +kernel
theorem dX9_number_24 : decode cX9_number 24 = .ok (.goto 20, 3) := by decide +kernel
theorem dX9_number_27 : decode cX9_number 27 = .ok (.bipush 10, 2) := by decide +kernel
theorem dX9_number_29 : decode cX9_number 29 = .ok (.iload_n 3, 1) := by decide +kernel
theorem dX9_number_30 : decode cX9_number 30 = .ok (.imul, 1) := by decide +kernel
theorem dX9_number_31 : decode cX9_number 31 = .ok (.aload_n 0, 1) := by decide +kernel
theorem dX9_number_32 : decode cX9_number 32 = .ok (.getfield 29, 3) := by decide +kernel
theorem dX9_number_35 : decode cX9_number 35 = .ok (.aload_n 0, 1) := by decide +kernel
theorem dX9_number_36 : decode cX9_number 36 = .ok (.getfield 89, 3) := by decide +kernel
theorem dX9_number_39 : decode cX9_number 39 = .ok (.iaload, 1) := by decide +kernel
theorem dX9_number_40 : decode cX9_number 40 = .ok (.iadd, 1) := by decide +kernel
theorem dX9_number_41 : decode cX9_number 41 = .ok (.bipush 48, 2) := by decide +kernel
theorem dX9_number_43 : decode cX9_number 43 = .ok (.isub, 1) := by decide +kernel
theorem dX9_number_44 : decode cX9_number 44 = .ok (.istore_n 3, 1) := by decide +kernel
theorem dX9_number_45 : decode cX9_number 45 = .ok (.aload_n 0, 1) := by decide +kernel
theorem dX9_number_46 : decode cX9_number 46 = .ok (.dup, 1) := by decide +kernel
theorem dX9_number_47 : decode cX9_number 47 = .ok (.getfield 89, 3) := by decide +kernel
theorem dX9_number_50 : decode cX9_number 50 = .ok (.iconst 1, 1) := by decide +kernel
theorem dX9_number_51 : decode cX9_number 51 = .ok (.iadd, 1) := by decide +kernel
theorem dX9_number_52 : decode cX9_number 52 = .ok (.putfield 89, 3) := by decide +kernel
theorem dX9_number_55 : decode cX9_number 55 = .ok (.iinc 4 1, 3) := by decide +kernel
theorem dX9_number_58 : decode cX9_number 58 = .ok (.goto (-49), 3) := by decide +kernel
theorem dX9_number_61 : decode cX9_number 61 = .ok (.iload 4, 2) := by decide +kernel
theorem dX9_number_63 : decode cX9_number 63 = .ok (.ifCond .le 42, 3) := by decide +kernel
theorem dX9_number_66 : decode cX9_number 66 = .ok (.iload_n 3, 1) := by decide +kernel
theorem dX9_number_67 : decode cX9_number 67 = .ok (.bipush 99, 2) := by decide +kernel
theorem dX9_number_69 : decode cX9_number 69 = .ok (.if_icmp .gt 36, 3) := by decide +kernel
theorem dX9_number_72 : decode cX9_number 72 = .ok (.iload 4, 2) := by decide +kernel
theorem dX9_number_74 : decode cX9_number 74 = .ok (.iconst 1, 1) := by decide +kernel
theorem dX9_number_75 : decode cX9_number 75 = .ok (.if_icmp .eq 17, 3) := by decide +kernel
theorem dX9_number_78 : decode cX9_number 78 = .ok (.aload_n 0, 1) := by decide +kernel
theorem dX9_number_79 : decode cX9_number 79 = .ok (.getfield 29, 3) := by decide +kernel
theorem dX9_number_82 : decode cX9_number 82 = .ok (.aload_n 0, 1) := by decide +kernel
theorem dX9_number_83 : decode cX9_number 83 = .ok (.getfield 95, 3) := by decide +kernel
theorem dX9_number_86 : decode cX9_number 86 = .ok (.iaload, 1) := by decide +kernel
theorem dX9_number_87 : decode cX9_number 87 = .ok (.bipush 48, 2) := by decide +kernel
theorem dX9_number_89 : decode cX9_number 89 = .ok (.if_icmp .eq 16, 3) := by decide +kernel
theorem dX9_number_92 : decode cX9_number 92 = .ok (.iload_n 3, 1) := by decide +kernel
theorem dX9_number_93 : decode cX9_number 93 = .ok (.iload_n 1, 1) := by decide +kernel
theorem dX9_number_94 : decode cX9_number 94 = .ok (.iload_n 2, 1) := by decide +kernel
theorem dX9_number_95 : decode cX9_number 95 = .ok (.invokestatic 98, 3) := by decide +kernel
theorem dX9_number_98 : decode cX9_number 98 = .ok (.ifCond .eq 7, 3) := by decide +kernel
theorem dX9_number_101 : decode cX9_number 101 = .ok (.iconst 1, 1) := by decide +kernel
theorem dX9_number_102 : decode cX9_number 102 = .ok (.goto 4, 3) := by decide +kernel
theorem dX9_number_105 : decode cX9_number 105 = .ok (.iconst 0, 1) := by decide +kernel
theorem dX9_number_106 : decode cX9_number 106 = .ok (.istore 5, 2) := by decide +kernel
theorem dX9_number_108 : decode cX9_number 108 = .ok (.iload 5, 2) := by decide +kernel
theorem dX9_number_110 : decode cX9_number 110 = .ok (.ifCond .eq 7, 3) := by decide +kernel
theorem dX9_number_113 : decode cX9_number 113 = .ok (.iload_n 3, 1) := by decide +kernel
theorem dX9_number_114 : decode cX9_number 114 = .ok (.goto 4, 3) := by decide +kernel
theorem dX9_number_117 : decode cX9_number 117 = .ok (.iconst (-1), 1) := by decide +kernel
theorem dX9_number_118 : decode cX9_number 118 = .ok (.ireturn, 1) := by decide +kernel
set_option maxRecDepth 20000 in
theorem ggX9_type_X9_within : GoodIn wsX9_type wsX9_within := goodIn_r _ [6] (by decide +kernel) (by decide +kernel)
set_option maxRecDepth 20000 in
theorem gX9_type_X9_within : GoodIn wsX9_type (va_wsS RX9 98 yX9_within wsX9_within) := goodIn_app (goodIn_of _ (by decide +kernel)) ggX9_type_X9_within
theorem dX9_type_0 : decode cX9_type 0 = .ok (.iload_n 1, 1) := by decide +kernel
theorem dX9_type_1 : decode cX9_type 1 = .ok (.iconst 0, 1) := by decide +kernel
theorem dX9_type_2 : decode cX9_type 2 = .ok (.sipush 255, 3) := by decide +kernel
theorem dX9_type_5 : decode cX9_type 5 = .ok (.invokestatic 98, 3) := by decide +kernel
theorem dX9_type_8 : decode cX9_type 8 = .ok (.ifCond .ne 5, 3) := by decide +kernel
theorem dX9_type_11 : decode cX9_type 11 = .ok (.iconst (-1), 1) := by decide +kernel
theorem dX9_type_12 : decode cX9_type 12 = .ok (.ireturn, 1) := by decide +kernel
theorem dX9_type_13 : decode cX9_type 13 = .ok (.aload_n 0, 1) := by decide +kernel
theorem dX9_type_14 : decode cX9_type 14 = .ok (.getfield 92, 3) := by decide +kernel
theorem dX9_type_17 : decode cX9_type 17 = .ok (.sipush 160, 3) := by decide +kernel
theorem dX9_type_20 : decode cX9_type 20 = .ok (.if_icmp .ne 6, 3) := by decide +kernel
theorem dX9_type_23 : decode cX9_type 23 = .ok (.bipush (-3), 2) := by decide +kernel
theorem dX9_type_25 : decode cX9_type 25 = .ok (.ireturn, 1) := by decide +kernel
theorem dX9_type_26 : decode cX9_type 26 = .ok (.aload_n 0, 1) := by decide +kernel
theorem dX9_type_27 : decode cX9_type 27 = .ok (.getfield 29, 3) := by decide +kernel
theorem dX9_type_30 : decode cX9_type 30 = .ok (.aload_n 0, 1) := by decide +kernel
theorem dX9_type_31 : decode cX9_type 31 = .ok (.getfield 92, 3) := by decide +kernel
theorem dX9_type_34 : decode cX9_type 34 = .ok (.iload_n 1, 1) := by decide +kernel
theorem dX9_type_35 : decode cX9_type 35 = .ok (.iastore, 1) := by decide +kernel
theorem dX9_type_36 : decode cX9_type 36 = .ok (.aload_n 0, 1) := by decide +kernel
theorem dX9_type_37 : decode cX9_type 37 = .ok (.dup, 1) := by decide +kernel
theorem dX9_type_38 : decode cX9_type 38 = .ok (.getfield 92, 3) := by decide +kernel
theorem dX9_type_41 : decode cX9_type 41 = .ok (.iconst 1, 1) := by decide +kernel
theorem dX9_type_42 : decode cX9_type 42 = .ok (.iadd, 1) := by decide +kernel
theorem dX9_type_43 : decode cX9_type 43 = .ok (.putfield 92, 3) := by decide +kernel
theorem dX9_type_46 : decode cX9_type 46 = .ok (.aload_n 0, 1) := by decide +kernel
theorem dX9_type_47 : decode cX9_type 47 = .ok (.getfield 92, 3) := by decide +kernel
theorem dX9_type_50 : decode cX9_type 50 = .ok (.ireturn, 1) := by decide +kernel
theorem dX9_clear_0 : decode cX9_clear 0 = .ok (.aload_n 0, 1) := by decide +kernel
theorem dX9_clear_1 : decode cX9_clear 1 = .ok (.getfield 92, 3) := by decide +kernel
theorem dX9_clear_4 : decode cX9_clear 4 = .ok (.istore_n 1, 1) := by decide +kernel
theorem dX9_clear_5 : decode cX9_clear 5 = .ok (.aload_n 0, 1) := by decide +kernel
theorem dX9_clear_6 : decode cX9_clear 6 = .ok (.iconst 0, 1) := by decide +kernel
theorem dX9_clear_7 : decode cX9_clear 7 = .ok (.putfield 92, 3) := by decide +kernel
theorem dX9_clear_10 : decode cX9_clear 10 = .ok (.iload_n 1, 1) := by decide +kernel
theorem dX9_clear_11 : decode cX9_clear 11 = .ok (.ireturn, 1) := by decide +kernel
theorem dX9_isFresh_0 : decode cX9_isFresh 0 = .ok (.iconst 1, 1) := by decide +kernel
theorem dX9_isFresh_1 : decode cX9_isFresh 1 = .ok (.istore_n 3, 1) := by decide +kernel
theorem dX9_isFresh_2 : decode cX9_isFresh 2 = .ok (.iconst 0, 1) := by decide +kernel
theorem dX9_isFresh_3 : decode cX9_isFresh 3 = .ok (.istore 4, 2) := by decide +kernel
theorem dX9_isFresh_5 : decode cX9_isFresh 5 = .ok (.iload 4, 2) := by decide +kernel
theorem dX9_isFresh_7 : decode cX9_isFresh 7 = .ok (.aload_n 0, 1) := by decide +kernel
theorem dX9_isFresh_8 : decode cX9_isFresh 8 = .ok (.getfield 109, 3) := by decide +kernel
theorem dX9_isFresh_11 : decode cX9_isFresh 11 = .ok (.if_icmp .ge 49, 3) := by decide +kernel
theorem dX9_isFresh_14 : decode cX9_isFresh 14 = .ok (.iload_n 3, 1) := by decide +kernel
theorem dX9_isFresh_15 : decode cX9_isFresh 15 = .ok (.ifCond .eq 37, 3) := by decide +kernel
theorem dX9_isFresh_18 : decode cX9_isFresh 18 = .ok (.aload_n 0, 1) := by decide +kernel
theorem dX9_isFresh_19 : decode cX9_isFresh 19 = .ok (.getfield 41, 3) := by decide +kernel
theorem dX9_isFresh_22 : decode cX9_isFresh 22 = .ok (.bipush 6, 2) := by decide +kernel
theorem dX9_isFresh_24 : decode cX9_isFresh 24 = .ok (.iload 4, 2) := by decide +kernel
theorem dX9_isFresh_26 : decode cX9_isFresh 26 = .ok (.imul, 1) := by decide +kernel
theorem dX9_isFresh_27 : decode cX9_isFresh 27 = .ok (.iaload, 1) := by decide +kernel
theorem dX9_isFresh_28 : decode cX9_isFresh 28 = .ok (.iload_n 1, 1) := by decide +kernel
theorem dX9_isFresh_29 : decode cX9_isFresh 29 = .ok (.if_icmp .ne 19, 3) := by decide +kernel
theorem dX9_isFresh_32 : decode cX9_isFresh 32 = .ok (.aload_n 0, 1) := by decide +kernel
theorem dX9_isFresh_33 : decode cX9_isFresh 33 = .ok (.getfield 41, 3) := by decide +kernel
theorem dX9_isFresh_36 : decode cX9_isFresh 36 = .ok (.bipush 6, 2) := by decide +kernel
theorem dX9_isFresh_38 : decode cX9_isFresh 38 = .ok (.iload 4, 2) := by decide +kernel
theorem dX9_isFresh_40 : decode cX9_isFresh 40 = .ok (.imul, 1) := by decide +kernel
theorem dX9_isFresh_41 : decode cX9_isFresh 41 = .ok (.iconst 1, 1) := by decide +kernel
theorem dX9_isFresh_42 : decode cX9_isFresh 42 = .ok (.iadd, 1) := by decide +kernel
theorem dX9_isFresh_43 : decode cX9_isFresh 43 = .ok (.iaload, 1) := by decide +kernel
theorem dX9_isFresh_44 : decode cX9_isFresh 44 = .ok (.iload_n 2, 1) := by decide +kernel
theorem dX9_isFresh_45 : decode cX9_isFresh 45 = .ok (.if_icmp .eq 7, 3) := by decide +kernel
theorem dX9_isFresh_48 : decode cX9_isFresh 48 = .ok (.iconst 1, 1) := by decide +kernel
theorem dX9_isFresh_49 : decode cX9_isFresh 49 = .ok (.goto 4, 3) := by decide +kernel
theorem dX9_isFresh_52 : decode cX9_isFresh 52 = .ok (.iconst 0, 1) := by decide +kernel
theorem dX9_isFresh_53 : decode cX9_isFresh 53 = .ok (.istore_n 3, 1) := by decide +kernel
theorem dX9_isFresh_54 : decode cX9_isFresh 54 = .ok (.iinc 4 1, 3) := by decide +kernel
theorem dX9_isFresh_57 : decode cX9_isFresh 57 = .ok (.goto (-52), 3) := by decide +kernel
theorem dX9_isFresh_60 : decode cX9_isFresh 60 = .ok (.iload_n 3, 1) := by decide +kernel
theorem dX9_isFresh_61 : decode cX9_isFresh 61 = .ok (.ireturn, 1) := by decide +kernel
set_option maxRecDepth 20000 in
theorem ggX9_kindPassed_X9_passes : GoodIn wsX9_kindPassed wsX9_passes := goodIn_r _ [7, 8, 9, 10, 11, 12, 13, 6, 14, 15, 16, 17, 18, 19, 20, 21, 22, 23, 24, 25, 26, 27, 28, 29, 30, 31, 32, 33, 34, 35, 36, 37] (by decide +kernel) (by decide +kernel)
set_option maxRecDepth 20000 in
theorem gX9_kindPassed_X9_passes : GoodIn wsX9_kindPassed (wsV RX9 112 RX9 yX9_passes wsX9_passes) := goodIn_app (goodIn_of _ (by decide +kernel)) ggX9_kindPassed_X9_passes
theorem dX9_kindPassed_0 : decode cX9_kindPassed 0 = .ok (.aload_n 0, 1) := by decide +kernel
theorem dX9_kindPassed_1 : decode cX9_kindPassed 1 = .ok (.getfield 109, 3) := by decide +kernel
theorem dX9_kindPassed_4 : decode cX9_kindPassed 4 = .ok (.bipush 8, 2) := by decide +kernel
theorem dX9_kindPassed_6 : decode cX9_kindPassed 6 = .ok (.if_icmp .ne 6, 3) := by decide +kernel
theorem dX9_kindPassed_9 : decode cX9_kindPassed 9 = .ok (.bipush (-9), 2) := by decide +kernel
theorem dX9_kindPassed_11 : decode cX9_kindPassed 11 = .ok (.ireturn, 1) := by decide +kernel
theorem dX9_kindPassed_12 : decode cX9_kindPassed 12 = .ok (.aload_n 0, 1) := by decide +kernel
theorem dX9_kindPassed_13 : decode cX9_kindPassed 13 = .ok (.bipush 110, 2) := by decide +kernel
theorem dX9_kindPassed_15 : decode cX9_kindPassed 15 = .ok (.invokevirtual 112, 3) := by decide +kernel
theorem dX9_kindPassed_18 : decode cX9_kindPassed 18 = .ok (.ifCond .eq 5, 3) := by decide +kernel
theorem dX9_kindPassed_21 : decode cX9_kindPassed 21 = .ok (.iconst 0, 1) := by decide +kernel
theorem dX9_kindPassed_22 : decode cX9_kindPassed 22 = .ok (.ireturn, 1) := by decide +kernel
theorem dX9_kindPassed_23 : decode cX9_kindPassed 23 = .ok (.aload_n 0, 1) := by decide +kernel
theorem dX9_kindPassed_24 : decode cX9_kindPassed 24 = .ok (.bipush 99, 2) := by decide +kernel
theorem dX9_kindPassed_26 : decode cX9_kindPassed 26 = .ok (.invokevirtual 112, 3) := by decide +kernel
theorem dX9_kindPassed_29 : decode cX9_kindPassed 29 = .ok (.ifCond .eq 5, 3) := by decide +kernel
theorem dX9_kindPassed_32 : decode cX9_kindPassed 32 = .ok (.iconst 1, 1) := by decide +kernel
theorem dX9_kindPassed_33 : decode cX9_kindPassed 33 = .ok (.ireturn, 1) := by decide +kernel
theorem dX9_kindPassed_34 : decode cX9_kindPassed 34 = .ok (.aload_n 0, 1) := by decide +kernel
theorem dX9_kindPassed_35 : decode cX9_kindPassed 35 = .ok (.getfield 115, 3) := by decide +kernel
theorem dX9_kindPassed_38 : decode cX9_kindPassed 38 = .ok (.iconst 2, 1) := by decide +kernel
theorem dX9_kindPassed_39 : decode cX9_kindPassed 39 = .ok (.if_icmp .ge 16, 3) := by decide +kernel
theorem dX9_kindPassed_42 : decode cX9_kindPassed 42 = .ok (.aload_n 0, 1) := by decide +kernel
theorem dX9_kindPassed_43 : decode cX9_kindPassed 43 = .ok (.bipush 116, 2) := by decide +kernel
theorem dX9_kindPassed_45 : decode cX9_kindPassed 45 = .ok (.invokevirtual 112, 3) := by decide +kernel
theorem dX9_kindPassed_48 : decode cX9_kindPassed 48 = .ok (.ifCond .eq 7, 3) := by decide +kernel
theorem dX9_kindPassed_51 : decode cX9_kindPassed 51 = .ok (.iconst 2, 1) := by decide +kernel
theorem dX9_kindPassed_52 : decode cX9_kindPassed 52 = .ok (.goto 5, 3) := by decide +kernel
theorem dX9_kindPassed_55 : decode cX9_kindPassed 55 = .ok (.bipush (-9), 2) := by decide +kernel
theorem dX9_kindPassed_57 : decode cX9_kindPassed 57 = .ok (.ireturn, 1) := by decide +kernel
set_option maxRecDepth 20000 in
theorem ggX9_readsBounds_X9_number : GoodIn wsX9_readsBounds wsX9_number := goodIn_r _ [6, 7, 8, 9, 10, 11, 12, 5, 13, 14, 15, 16, 17, 18, 19, 20, 21, 22, 23, 24, 25, 26, 27, 28, 29, 30, 31, 32, 33, 34, 35, 36, 37, 38, 39, 40, 41, 42, 43] (by decide +kernel) (by decide +kernel)
set_option maxRecDepth 20000 in
theorem gX9_readsBounds_X9_number : GoodIn wsX9_readsBounds (wsV RX9 118 RX9 yX9_number wsX9_number) := goodIn_app (goodIn_of _ (by decide +kernel)) ggX9_readsBounds_X9_number
theorem dX9_readsBounds_0 : decode cX9_readsBounds 0 = .ok (.aload_n 0, 1) := by decide +kernel
theorem dX9_readsBounds_1 : decode cX9_readsBounds 1 = .ok (.iconst 0, 1) := by decide +kernel
theorem dX9_readsBounds_2 : decode cX9_readsBounds 2 = .ok (.bipush 99, 2) := by decide +kernel
theorem dX9_readsBounds_4 : decode cX9_readsBounds 4 = .ok (.invokevirtual 118, 3) := by decide +kernel
theorem dX9_readsBounds_7 : decode cX9_readsBounds 7 = .ok (.istore_n 2, 1) := by decide +kernel
theorem dX9_readsBounds_8 : decode cX9_readsBounds 8 = .ok (.iload_n 2, 1) := by decide +kernel
theorem dX9_readsBounds_9 : decode cX9_readsBounds 9 = .ok (.ifCond .ge 7, 3) := by decide +kernel
theorem dX9_readsBounds_12 : decode cX9_readsBounds 12 = .ok (.iconst (-1), 1) := by decide +kernel
theorem dX9_readsBounds_13 : decode cX9_readsBounds 13 = .ok (.goto 10, 3) := by decide +kernel
theorem dX9_readsBounds_16 : decode cX9_readsBounds 16 = .ok (.aload_n 0, 1) := by decide +kernel
theorem dX9_readsBounds_17 : decode cX9_readsBounds 17 = .ok (.iload_n 2, 1) := by decide +kernel
theorem dX9_readsBounds_18 : decode cX9_readsBounds 18 = .ok (.bipush 99, 2) := by decide +kernel
theorem dX9_readsBounds_20 : decode cX9_readsBounds 20 = .ok (.invokevirtual 118, 3) := by decide +kernel
theorem dX9_readsBounds_23 : decode cX9_readsBounds 23 = .ok (.istore_n 3, 1) := by decide +kernel
theorem dX9_readsBounds_24 : decode cX9_readsBounds 24 = .ok (.iload_n 3, 1) := by decide +kernel
theorem dX9_readsBounds_25 : decode cX9_readsBounds 25 = .ok (.ifCond .ge 7, 3) := by decide +kernel
theorem dX9_readsBounds_28 : decode cX9_readsBounds 28 = .ok (.iconst (-1), 1) := by decide +kernel
theorem dX9_readsBounds_29 : decode cX9_readsBounds 29 = .ok (.goto 9, 3) := by decide +kernel
theorem dX9_readsBounds_32 : decode cX9_readsBounds 32 = .ok (.aload_n 0, 1) := by decide +kernel
theorem dX9_readsBounds_33 : decode cX9_readsBounds 33 = .ok (.iload_n 2, 1) := by decide +kernel
theorem dX9_readsBounds_34 : decode cX9_readsBounds 34 = .ok (.iload_n 3, 1) := by decide +kernel
theorem dX9_readsBounds_35 : decode cX9_readsBounds 35 = .ok (.invokevirtual 118, 3) := by decide +kernel
theorem dX9_readsBounds_38 : decode cX9_readsBounds 38 = .ok (.istore 4, 2) := by decide +kernel
theorem dX9_readsBounds_40 : decode cX9_readsBounds 40 = .ok (.aload_n 0, 1) := by decide +kernel
theorem dX9_readsBounds_41 : decode cX9_readsBounds 41 = .ok (.getfield 41, 3) := by decide +kernel
theorem dX9_readsBounds_44 : decode cX9_readsBounds 44 = .ok (.iload_n 1, 1) := by decide +kernel
theorem dX9_readsBounds_45 : decode cX9_readsBounds 45 = .ok (.iload_n 2, 1) := by decide +kernel
theorem dX9_readsBounds_46 : decode cX9_readsBounds 46 = .ok (.iastore, 1) := by decide +kernel
theorem dX9_readsBounds_47 : decode cX9_readsBounds 47 = .ok (.aload_n 0, 1) := by decide +kernel
theorem dX9_readsBounds_48 : decode cX9_readsBounds 48 = .ok (.getfield 41, 3) := by decide +kernel
theorem dX9_readsBounds_51 : decode cX9_readsBounds 51 = .ok (.iload_n 1, 1) := by decide +kernel
theorem dX9_readsBounds_52 : decode cX9_readsBounds 52 = .ok (.iconst 1, 1) := by decide +kernel
theorem dX9_readsBounds_53 : decode cX9_readsBounds 53 = .ok (.iadd, 1) := by decide +kernel
theorem dX9_readsBounds_54 : decode cX9_readsBounds 54 = .ok (.iload_n 3, 1) := by decide +kernel
theorem dX9_readsBounds_55 : decode cX9_readsBounds 55 = .ok (.iastore, 1) := by decide +kernel
theorem dX9_readsBounds_56 : decode cX9_readsBounds 56 = .ok (.aload_n 0, 1) := by decide +kernel
theorem dX9_readsBounds_57 : decode cX9_readsBounds 57 = .ok (.getfield 41, 3) := by decide +kernel
theorem dX9_readsBounds_60 : decode cX9_readsBounds 60 = .ok (.iload_n 1, 1) := by decide +kernel
theorem dX9_readsBounds_61 : decode cX9_readsBounds 61 = .ok (.iconst 2, 1) := by decide +kernel
theorem dX9_readsBounds_62 : decode cX9_readsBounds 62 = .ok (.iadd, 1) := by decide +kernel
theorem dX9_readsBounds_63 : decode cX9_readsBounds 63 = .ok (.iload 4, 2) := by decide +kernel
theorem dX9_readsBounds_65 : decode cX9_readsBounds 65 = .ok (.iastore, 1) := by decide +kernel
theorem dX9_readsBounds_66 : decode cX9_readsBounds 66 = .ok (.iload 4, 2) := by decide +kernel
theorem dX9_readsBounds_68 : decode cX9_readsBounds 68 = .ok (.ifCond .lt 7, 3) := by decide +kernel
theorem dX9_readsBounds_71 : decode cX9_readsBounds 71 = .ok (.iconst 1, 1) := by decide +kernel
theorem dX9_readsBounds_72 : decode cX9_readsBounds 72 = .ok (.goto 4, 3) := by decide +kernel
theorem dX9_readsBounds_75 : decode cX9_readsBounds 75 = .ok (.iconst 0, 1) := by decide +kernel
theorem dX9_readsBounds_76 : decode cX9_readsBounds 76 = .ok (.ireturn, 1) := by decide +kernel
set_option maxRecDepth 20000 in
theorem ggX9_readsStep_X9_number : GoodIn wsX9_readsStep wsX9_number := goodIn_r _ [6, 7, 8, 9, 10, 11, 12, 5, 13, 14, 15, 16, 17, 18, 19, 20, 21, 22, 23, 24, 25, 26, 27, 28, 29, 30, 31, 32, 33, 34, 35, 36, 37, 38, 39, 40, 41, 42, 43] (by decide +kernel) (by decide +kernel)
set_option maxRecDepth 20000 in
theorem gX9_readsStep_X9_number : GoodIn wsX9_readsStep (wsV RX9 118 RX9 yX9_number wsX9_number) := goodIn_app (goodIn_of _ (by decide +kernel)) ggX9_readsStep_X9_number
theorem dX9_readsStep_0 : decode cX9_readsStep 0 = .ok (.aload_n 0, 1) := by decide +kernel
theorem dX9_readsStep_1 : decode cX9_readsStep 1 = .ok (.getfield 41, 3) := by decide +kernel
theorem dX9_readsStep_4 : decode cX9_readsStep 4 = .ok (.iload_n 1, 1) := by decide +kernel
theorem dX9_readsStep_5 : decode cX9_readsStep 5 = .ok (.aload_n 0, 1) := by decide +kernel
theorem dX9_readsStep_6 : decode cX9_readsStep 6 = .ok (.iconst 1, 1) := by decide +kernel
theorem dX9_readsStep_7 : decode cX9_readsStep 7 = .ok (.iload_n 2, 1) := by decide +kernel
theorem dX9_readsStep_8 : decode cX9_readsStep 8 = .ok (.invokevirtual 118, 3) := by decide +kernel
theorem dX9_readsStep_11 : decode cX9_readsStep 11 = .ok (.iastore, 1) := by decide +kernel
theorem dX9_readsStep_12 : decode cX9_readsStep 12 = .ok (.aload_n 0, 1) := by decide +kernel
theorem dX9_readsStep_13 : decode cX9_readsStep 13 = .ok (.getfield 41, 3) := by decide +kernel
theorem dX9_readsStep_16 : decode cX9_readsStep 16 = .ok (.iload_n 1, 1) := by decide +kernel
theorem dX9_readsStep_17 : decode cX9_readsStep 17 = .ok (.iconst 1, 1) := by decide +kernel
theorem dX9_readsStep_18 : decode cX9_readsStep 18 = .ok (.iadd, 1) := by decide +kernel
theorem dX9_readsStep_19 : decode cX9_readsStep 19 = .ok (.iconst 0, 1) := by decide +kernel
theorem dX9_readsStep_20 : decode cX9_readsStep 20 = .ok (.iastore, 1) := by decide +kernel
theorem dX9_readsStep_21 : decode cX9_readsStep 21 = .ok (.aload_n 0, 1) := by decide +kernel
theorem dX9_readsStep_22 : decode cX9_readsStep 22 = .ok (.getfield 41, 3) := by decide +kernel
theorem dX9_readsStep_25 : decode cX9_readsStep 25 = .ok (.iload_n 1, 1) := by decide +kernel
theorem dX9_readsStep_26 : decode cX9_readsStep 26 = .ok (.iconst 2, 1) := by decide +kernel
theorem dX9_readsStep_27 : decode cX9_readsStep 27 = .ok (.iadd, 1) := by decide +kernel
theorem dX9_readsStep_28 : decode cX9_readsStep 28 = .ok (.iconst 0, 1) := by decide +kernel
theorem dX9_readsStep_29 : decode cX9_readsStep 29 = .ok (.iastore, 1) := by decide +kernel
theorem dX9_readsStep_30 : decode cX9_readsStep 30 = .ok (.aload_n 0, 1) := by decide +kernel
theorem dX9_readsStep_31 : decode cX9_readsStep 31 = .ok (.getfield 41, 3) := by decide +kernel
theorem dX9_readsStep_34 : decode cX9_readsStep 34 = .ok (.iload_n 1, 1) := by decide +kernel
theorem dX9_readsStep_35 : decode cX9_readsStep 35 = .ok (.iaload, 1) := by decide +kernel
theorem dX9_readsStep_36 : decode cX9_readsStep 36 = .ok (.ifCond .le 7, 3) := by decide +kernel
theorem dX9_readsStep_39 : decode cX9_readsStep 39 = .ok (.iconst 1, 1) := by decide +kernel
theorem dX9_readsStep_40 : decode cX9_readsStep 40 = .ok (.goto 4, 3) := by decide +kernel
theorem dX9_readsStep_43 : decode cX9_readsStep 43 = .ok (.iconst 0, 1) := by decide +kernel
theorem dX9_readsStep_44 : decode cX9_readsStep 44 = .ok (.ireturn, 1) := by decide +kernel
set_option maxRecDepth 20000 in
theorem ggX9_readsBranch_X9_kindPassed : GoodIn wsX9_readsBranch wsX9_kindPassed := goodIn_r _ [8, 1, 3, 9, 10, 11, 7, 12, 13, 14, 15, 16, 17, 18, 19, 20, 44, 45, 46, 47, 48, 49, 50, 51, 52, 53, 54, 55, 56, 57, 58, 59, 60, 61, 62, 63, 64, 65] (by decide +kernel) (by decide +kernel)
set_option maxRecDepth 20000 in
theorem gX9_readsBranch_X9_kindPassed : GoodIn wsX9_readsBranch (wsV RX9 121 RX9 yX9_kindPassed wsX9_kindPassed) := goodIn_app (goodIn_of _ (by decide +kernel)) ggX9_readsBranch_X9_kindPassed
set_option maxRecDepth 20000 in
theorem ggX9_readsBranch_X9_number : GoodIn wsX9_readsBranch wsX9_number := goodIn_r _ [24, 15, 13, 20, 16, 17, 18, 7, 19, 14, 25, 26, 27, 28, 29, 30, 31, 44, 45, 46, 47, 48, 49, 50, 51, 52, 53, 54, 55, 56, 57, 58, 59, 60, 61, 62, 63, 64, 65] (by decide +kernel) (by decide +kernel)
set_option maxRecDepth 20000 in
theorem gX9_readsBranch_X9_number : GoodIn wsX9_readsBranch (wsV RX9 118 RX9 yX9_number wsX9_number) := goodIn_app (goodIn_of _ (by decide +kernel)) ggX9_readsBranch_X9_number
set_option maxRecDepth 20000 in
theorem ggX9_readsBranch_X9_isFresh : GoodIn wsX9_readsBranch wsX9_isFresh := goodIn_r _ [35, 1, 2, 44, 45, 46, 47, 48, 49, 50, 51, 52, 53, 54, 55, 56, 57, 58, 59, 60, 61, 62, 63, 64, 65] (by decide +kernel) (by decide +kernel)
set_option maxRecDepth 20000 in
theorem gX9_readsBranch_X9_isFresh : GoodIn wsX9_readsBranch (wsV RX9 125 RX9 yX9_isFresh wsX9_isFresh) := goodIn_app (goodIn_of _ (by decide +kernel)) ggX9_readsBranch_X9_isFresh
set_option maxRecDepth 20000 in
theorem ggX9_readsBranch_X9_readsBounds : GoodIn wsX9_readsBranch wsX9_readsBounds := goodIn_r _ [39, 2, 21, 22, 23, 7, 24, 15, 13, 20, 16, 17, 18, 19, 14, 25, 26, 27, 28, 29, 30, 31, 44, 45, 46, 47, 48, 49, 50, 51, 52, 53, 54, 55, 56, 57, 58, 59, 60, 61, 62, 63, 64, 65] (by decide +kernel) (by decide +kernel)
set_option maxRecDepth 20000 in
theorem gX9_readsBranch_X9_readsBounds : GoodIn wsX9_readsBranch (wsV RX9 129 RX9 yX9_readsBounds wsX9_readsBounds) := goodIn_app (goodIn_of _ (by decide +kernel)) ggX9_readsBranch_X9_readsBounds
set_option maxRecDepth 20000 in
theorem ggX9_readsBranch_X9_readsStep : GoodIn wsX9_readsBranch wsX9_readsStep := goodIn_r _ [43, 2, 21, 22, 23, 7, 24, 15, 13, 20, 16, 17, 18, 19, 14, 25, 26, 27, 28, 29, 30, 31, 44, 45, 46, 47, 48, 49, 50, 51, 52, 53, 54, 55, 56, 57, 58, 59, 60, 61, 62, 63, 64, 65] (by decide +kernel) (by decide +kernel)
set_option maxRecDepth 20000 in
theorem gX9_readsBranch_X9_readsStep : GoodIn wsX9_readsBranch (wsV RX9 132 RX9 yX9_readsStep wsX9_readsStep) := goodIn_app (goodIn_of _ (by decide +kernel)) ggX9_readsBranch_X9_readsStep
set_option maxRecDepth 20000 in
theorem ggX9_readsBranch_X9_passes : GoodIn wsX9_readsBranch wsX9_passes := goodIn_r _ [12, 13, 14, 15, 16, 17, 18, 7, 19, 20, 44, 45, 46, 47, 48, 49, 50, 51, 52, 53, 54, 55, 56, 57, 58, 59, 60, 61, 62, 63, 64, 65] (by decide +kernel) (by decide +kernel)
set_option maxRecDepth 20000 in
theorem gX9_readsBranch_X9_passes : GoodIn wsX9_readsBranch (wsV RX9 112 RX9 yX9_passes wsX9_passes) := goodIn_app (goodIn_of _ (by decide +kernel)) ggX9_readsBranch_X9_passes
theorem dX9_readsBranch_0 : decode cX9_readsBranch 0 = .ok (.aload_n 0, 1) := by decide +kernel
theorem dX9_readsBranch_1 : decode cX9_readsBranch 1 = .ok (.invokevirtual 121, 3) := by decide +kernel
theorem dX9_readsBranch_4 : decode cX9_readsBranch 4 = .ok (.istore_n 1, 1) := by decide +kernel
theorem dX9_readsBranch_5 : decode cX9_readsBranch 5 = .ok (.iload_n 1, 1) := by decide +kernel
theorem dX9_readsBranch_6 : decode cX9_readsBranch 6 = .ok (.bipush (-9), 2) := by decide +kernel
theorem dX9_readsBranch_8 : decode cX9_readsBranch 8 = .ok (.if_icmp .ne 7, 3) := by decide +kernel
theorem dX9_readsBranch_11 : decode cX9_readsBranch 11 = .ok (.iconst (-1), 1) := by decide +kernel
theorem dX9_readsBranch_12 : decode cX9_readsBranch 12 = .ok (.goto 10, 3) := by decide +kernel
theorem dX9_readsBranch_15 : decode cX9_readsBranch 15 = .ok (.aload_n 0, 1) := by decide +kernel
theorem dX9_readsBranch_16 : decode cX9_readsBranch 16 = .ok (.iconst 1, 1) := by decide +kernel
theorem dX9_readsBranch_17 : decode cX9_readsBranch 17 = .ok (.bipush 9, 2) := by decide +kernel
theorem dX9_readsBranch_19 : decode cX9_readsBranch 19 = .ok (.invokevirtual 118, 3) := by decide +kernel
theorem dX9_readsBranch_22 : decode cX9_readsBranch 22 = .ok (.istore_n 2, 1) := by decide +kernel
theorem dX9_readsBranch_23 : decode cX9_readsBranch 23 = .ok (.iload_n 2, 1) := by decide +kernel
theorem dX9_readsBranch_24 : decode cX9_readsBranch 24 = .ok (.ifCond .ge 7, 3) := by decide +kernel
theorem dX9_readsBranch_27 : decode cX9_readsBranch 27 = .ok (.iconst (-1), 1) := by decide +kernel
theorem dX9_readsBranch_28 : decode cX9_readsBranch 28 = .ok (.goto 10, 3) := by decide +kernel
theorem dX9_readsBranch_31 : decode cX9_readsBranch 31 = .ok (.aload_n 0, 1) := by decide +kernel
theorem dX9_readsBranch_32 : decode cX9_readsBranch 32 = .ok (.iconst 1, 1) := by decide +kernel
theorem dX9_readsBranch_33 : decode cX9_readsBranch 33 = .ok (.bipush 9, 2) := by decide +kernel
theorem dX9_readsBranch_35 : decode cX9_readsBranch 35 = .ok (.invokevirtual 118, 3) := by decide +kernel
theorem dX9_readsBranch_38 : decode cX9_readsBranch 38 = .ok (.istore_n 3, 1) := by decide +kernel
theorem dX9_readsBranch_39 : decode cX9_readsBranch 39 = .ok (.iload_n 3, 1) := by decide +kernel
theorem dX9_readsBranch_40 : decode cX9_readsBranch 40 = .ok (.ifCond .lt 12, 3) := by decide +kernel
theorem dX9_readsBranch_43 : decode cX9_readsBranch 43 = .ok (.aload_n 0, 1) := by decide +kernel
theorem dX9_readsBranch_44 : decode cX9_readsBranch 44 = .ok (.iload_n 2, 1) := by decide +kernel
theorem dX9_readsBranch_45 : decode cX9_readsBranch 45 = .ok (.iload_n 3, 1) := by decide +kernel
theorem dX9_readsBranch_46 : decode cX9_readsBranch 46 = .ok (.invokevirtual 125, 3) := by decide +kernel
theorem dX9_readsBranch_49 : decode cX9_readsBranch 49 = .ok (.ifCond .ne 5, 3) := by decide +kernel
theorem dX9_readsBranch_52 : decode cX9_readsBranch 52 = .ok (.iconst 0, 1) := by decide +kernel
theorem dX9_readsBranch_53 : decode cX9_readsBranch 53 = .ok (.ireturn, 1) := by decide +kernel
theorem dX9_readsBranch_54 : decode cX9_readsBranch 54 = .ok (.bipush 6, 2) := by decide +kernel
theorem dX9_readsBranch_56 : decode cX9_readsBranch 56 = .ok (.aload_n 0, 1) := by decide +kernel
theorem dX9_readsBranch_57 : decode cX9_readsBranch 57 = .ok (.getfield 109, 3) := by decide +kernel
theorem dX9_readsBranch_60 : decode cX9_readsBranch 60 = .ok (.imul, 1) := by decide +kernel
theorem dX9_readsBranch_61 : decode cX9_readsBranch 61 = .ok (.istore 4, 2) := by decide +kernel
theorem dX9_readsBranch_63 : decode cX9_readsBranch 63 = .ok (.aload_n 0, 1) := by decide +kernel
theorem dX9_readsBranch_64 : decode cX9_readsBranch 64 = .ok (.getfield 41, 3) := by decide +kernel
theorem dX9_readsBranch_67 : decode cX9_readsBranch 67 = .ok (.iload 4, 2) := by decide +kernel
theorem dX9_readsBranch_69 : decode cX9_readsBranch 69 = .ok (.iload_n 2, 1) := by decide +kernel
theorem dX9_readsBranch_70 : decode cX9_readsBranch 70 = .ok (.iastore, 1) := by decide +kernel
theorem dX9_readsBranch_71 : decode cX9_readsBranch 71 = .ok (.aload_n 0, 1) := by decide +kernel
theorem dX9_readsBranch_72 : decode cX9_readsBranch 72 = .ok (.getfield 41, 3) := by decide +kernel
theorem dX9_readsBranch_75 : decode cX9_readsBranch 75 = .ok (.iload 4, 2) := by decide +kernel
theorem dX9_readsBranch_77 : decode cX9_readsBranch 77 = .ok (.iconst 1, 1) := by decide +kernel
theorem dX9_readsBranch_78 : decode cX9_readsBranch 78 = .ok (.iadd, 1) := by decide +kernel
theorem dX9_readsBranch_79 : decode cX9_readsBranch 79 = .ok (.iload_n 3, 1) := by decide +kernel
theorem dX9_readsBranch_80 : decode cX9_readsBranch 80 = .ok (.iastore, 1) := by decide +kernel
theorem dX9_readsBranch_81 : decode cX9_readsBranch 81 = .ok (.aload_n 0, 1) := by decide +kernel
theorem dX9_readsBranch_82 : decode cX9_readsBranch 82 = .ok (.getfield 41, 3) := by decide +kernel
theorem dX9_readsBranch_85 : decode cX9_readsBranch 85 = .ok (.iload 4, 2) := by decide +kernel
theorem dX9_readsBranch_87 : decode cX9_readsBranch 87 = .ok (.iconst 2, 1) := by decide +kernel
theorem dX9_readsBranch_88 : decode cX9_readsBranch 88 = .ok (.iadd, 1) := by decide +kernel
theorem dX9_readsBranch_89 : decode cX9_readsBranch 89 = .ok (.iload_n 1, 1) := by decide +kernel
theorem dX9_readsBranch_90 : decode cX9_readsBranch 90 = .ok (.iastore, 1) := by decide +kernel
theorem dX9_readsBranch_91 : decode cX9_readsBranch 91 = .ok (.iload_n 1, 1) := by decide +kernel
theorem dX9_readsBranch_92 : decode cX9_readsBranch 92 = .ok (.ifCond .ne 14, 3) := by decide +kernel
theorem dX9_readsBranch_95 : decode cX9_readsBranch 95 = .ok (.aload_n 0, 1) := by decide +kernel
theorem dX9_readsBranch_96 : decode cX9_readsBranch 96 = .ok (.iload 4, 2) := by decide +kernel
theorem dX9_readsBranch_98 : decode cX9_readsBranch 98 = .ok (.iconst 3, 1) := by decide +kernel
theorem dX9_readsBranch_99 : decode cX9_readsBranch 99 = .ok (.iadd, 1) := by decide +kernel
theorem dX9_readsBranch_100 : decode cX9_readsBranch 100 = .ok (.invokevirtual 129, 3) := by decide +kernel
theorem dX9_readsBranch_103 : decode cX9_readsBranch 103 = .ok (.goto 22, 3) := by decide +kernel
theorem dX9_readsBranch_106 : decode cX9_readsBranch 106 = .ok (.aload_n 0, 1) := by decide +kernel
theorem dX9_readsBranch_107 : decode cX9_readsBranch 107 = .ok (.iload 4, 2) := by decide +kernel
theorem dX9_readsBranch_109 : decode cX9_readsBranch 109 = .ok (.iconst 3, 1) := by decide +kernel
theorem dX9_readsBranch_110 : decode cX9_readsBranch 110 = .ok (.iadd, 1) := by decide +kernel
theorem dX9_readsBranch_111 : decode cX9_readsBranch 111 = .ok (.iload_n 1, 1) := by decide +kernel
theorem dX9_readsBranch_112 : decode cX9_readsBranch 112 = .ok (.iconst 1, 1) := by decide +kernel
theorem dX9_readsBranch_113 : decode cX9_readsBranch 113 = .ok (.if_icmp .ne 8, 3) := by decide +kernel
theorem dX9_readsBranch_116 : decode cX9_readsBranch 116 = .ok (.bipush 9, 2) := by decide +kernel
theorem dX9_readsBranch_118 : decode cX9_readsBranch 118 = .ok (.goto 4, 3) := by decide +kernel
theorem dX9_readsBranch_121 : decode cX9_readsBranch 121 = .ok (.iconst 3, 1) := by decide +kernel
theorem dX9_readsBranch_122 : decode cX9_readsBranch 122 = .ok (.invokevirtual 132, 3) := by decide +kernel
theorem dX9_readsBranch_125 : decode cX9_readsBranch 125 = .ok (.istore 5, 2) := by decide +kernel
theorem dX9_readsBranch_127 : decode cX9_readsBranch 127 = .ok (.iload 5, 2) := by decide +kernel
theorem dX9_readsBranch_129 : decode cX9_readsBranch 129 = .ok (.ifCond .eq 12, 3) := by decide +kernel
theorem dX9_readsBranch_132 : decode cX9_readsBranch 132 = .ok (.aload_n 0, 1) := by decide +kernel
theorem dX9_readsBranch_133 : decode cX9_readsBranch 133 = .ok (.bipush 59, 2) := by decide +kernel
theorem dX9_readsBranch_135 : decode cX9_readsBranch 135 = .ok (.invokevirtual 112, 3) := by decide +kernel
theorem dX9_readsBranch_138 : decode cX9_readsBranch 138 = .ok (.ifCond .ne 5, 3) := by decide +kernel
theorem dX9_readsBranch_141 : decode cX9_readsBranch 141 = .ok (.iconst 0, 1) := by decide +kernel
theorem dX9_readsBranch_142 : decode cX9_readsBranch 142 = .ok (.ireturn, 1) := by decide +kernel
theorem dX9_readsBranch_143 : decode cX9_readsBranch 143 = .ok (.aload_n 0, 1) := by decide +kernel
theorem dX9_readsBranch_144 : decode cX9_readsBranch 144 = .ok (.dup, 1) := by decide +kernel
theorem dX9_readsBranch_145 : decode cX9_readsBranch 145 = .ok (.getfield 109, 3) := by decide +kernel
theorem dX9_readsBranch_148 : decode cX9_readsBranch 148 = .ok (.iconst 1, 1) := by decide +kernel
theorem dX9_readsBranch_149 : decode cX9_readsBranch 149 = .ok (.iadd, 1) := by decide +kernel
theorem dX9_readsBranch_150 : decode cX9_readsBranch 150 = .ok (.putfield 109, 3) := by decide +kernel
theorem dX9_readsBranch_153 : decode cX9_readsBranch 153 = .ok (.aload_n 0, 1) := by decide +kernel
theorem dX9_readsBranch_154 : decode cX9_readsBranch 154 = .ok (.dup, 1) := by decide +kernel
theorem dX9_readsBranch_155 : decode cX9_readsBranch 155 = .ok (.getfield 115, 3) := by decide +kernel
theorem dX9_readsBranch_158 : decode cX9_readsBranch 158 = .ok (.iload_n 1, 1) := by decide +kernel
theorem dX9_readsBranch_159 : decode cX9_readsBranch 159 = .ok (.iconst 2, 1) := by decide +kernel
theorem dX9_readsBranch_160 : decode cX9_readsBranch 160 = .ok (.if_icmp .ne 7, 3) := by decide +kernel
theorem dX9_readsBranch_163 : decode cX9_readsBranch 163 = .ok (.iconst 1, 1) := by decide +kernel
theorem dX9_readsBranch_164 : decode cX9_readsBranch 164 = .ok (.goto 4, 3) := by decide +kernel
theorem dX9_readsBranch_167 : decode cX9_readsBranch 167 = .ok (.iconst 0, 1) := by decide +kernel
theorem dX9_readsBranch_168 : decode cX9_readsBranch 168 = .ok (.iadd, 1) := by decide +kernel
theorem dX9_readsBranch_169 : decode cX9_readsBranch 169 = .ok (.putfield 115, 3) := by decide +kernel
theorem dX9_readsBranch_172 : decode cX9_readsBranch 172 = .ok (.iconst 1, 1) := by decide +kernel
theorem dX9_readsBranch_173 : decode cX9_readsBranch 173 = .ok (.ireturn, 1) := by decide +kernel
set_option maxRecDepth 20000 in
theorem ggX9_readsBranches_X9_skips : GoodIn wsX9_readsBranches wsX9_skips := goodIn_r _ [9, 1, 4, 10, 11, 48, 49, 50, 51, 52, 53, 54, 55, 56, 57, 58, 59, 60, 61, 62, 63, 64, 65, 66, 67, 68, 69] (by decide +kernel) (by decide +kernel)
set_option maxRecDepth 20000 in
theorem gX9_readsBranches_X9_skips : GoodIn wsX9_readsBranches (wsV RX9 102 RX9 yX9_skips wsX9_skips) := goodIn_app (goodIn_of _ (by decide +kernel)) ggX9_readsBranches_X9_skips
set_option maxRecDepth 20000 in
theorem ggX9_readsBranches_X9_readsBranch : GoodIn wsX9_readsBranches wsX9_readsBranch := goodIn_r _ [15, 2, 16, 3, 17, 18, 19, 8, 20, 21, 22, 23, 24, 1, 4, 10, 5, 6, 7, 9, 11, 25, 26, 27, 28, 29, 30, 31, 32, 33, 34, 35, 36, 37, 38, 39, 40, 41, 42, 43, 44, 45, 46, 47, 48, 49, 50, 51, 52, 53, 54, 55, 56, 57, 58, 59, 60, 61, 62, 63, 64, 65, 66, 67, 68, 69] (by decide +kernel) (by decide +kernel)
set_option maxRecDepth 20000 in
theorem gX9_readsBranches_X9_readsBranch : GoodIn wsX9_readsBranches (wsV RX9 135 RX9 yX9_readsBranch wsX9_readsBranch) := goodIn_app (goodIn_of _ (by decide +kernel)) ggX9_readsBranches_X9_readsBranch
theorem dX9_readsBranches_0 : decode cX9_readsBranches 0 = .ok (.aload_n 0, 1) := by decide +kernel
theorem dX9_readsBranches_1 : decode cX9_readsBranches 1 = .ok (.iconst 0, 1) := by decide +kernel
theorem dX9_readsBranches_2 : decode cX9_readsBranches 2 = .ok (.putfield 89, 3) := by decide +kernel
theorem dX9_readsBranches_5 : decode cX9_readsBranches 5 = .ok (.aload_n 0, 1) := by decide +kernel
theorem dX9_readsBranches_6 : decode cX9_readsBranches 6 = .ok (.iconst 0, 1) := by decide +kernel
theorem dX9_readsBranches_7 : decode cX9_readsBranches 7 = .ok (.putfield 109, 3) := by decide +kernel
theorem dX9_readsBranches_10 : decode cX9_readsBranches 10 = .ok (.aload_n 0, 1) := by decide +kernel
theorem dX9_readsBranches_11 : decode cX9_readsBranches 11 = .ok (.iconst 0, 1) := by decide +kernel
theorem dX9_readsBranches_12 : decode cX9_readsBranches 12 = .ok (.putfield 115, 3) := by decide +kernel
theorem dX9_readsBranches_15 : decode cX9_readsBranches 15 = .ok (.aload_n 0, 1) := by decide +kernel
theorem dX9_readsBranches_16 : decode cX9_readsBranches 16 = .ok (.invokevirtual 102, 3) := by decide +kernel
theorem dX9_readsBranches_19 : decode cX9_readsBranches 19 = .ok (.aload_n 0, 1) := by decide +kernel
theorem dX9_readsBranches_20 : decode cX9_readsBranches 20 = .ok (.getfield 89, 3) := by decide +kernel
theorem dX9_readsBranches_23 : decode cX9_readsBranches 23 = .ok (.aload_n 0, 1) := by decide +kernel
theorem dX9_readsBranches_24 : decode cX9_readsBranches 24 = .ok (.getfield 92, 3) := by decide +kernel
theorem dX9_readsBranches_27 : decode cX9_readsBranches 27 = .ok (.if_icmp .ge 19, 3) := by decide +kernel
theorem dX9_readsBranches_30 : decode cX9_readsBranches 30 = .ok (.aload_n 0, 1) := by decide +kernel
theorem dX9_readsBranches_31 : decode cX9_readsBranches 31 = .ok (.invokevirtual 135, 3) := by decide +kernel
theorem dX9_readsBranches_34 : decode cX9_readsBranches 34 = .ok (.ifCond .ne 5, 3) := by decide +kernel
theorem dX9_readsBranches_37 : decode cX9_readsBranches 37 = .ok (.iconst 0, 1) := by decide +kernel
theorem dX9_readsBranches_38 : decode cX9_readsBranches 38 = .ok (.ireturn, 1) := by decide +kernel
theorem dX9_readsBranches_39 : decode cX9_readsBranches 39 = .ok (.aload_n 0, 1) := by decide +kernel
theorem dX9_readsBranches_40 : decode cX9_readsBranches 40 = .ok (.invokevirtual 102, 3) := by decide +kernel
theorem dX9_readsBranches_43 : decode cX9_readsBranches 43 = .ok (.goto (-24), 3) := by decide +kernel
theorem dX9_readsBranches_46 : decode cX9_readsBranches 46 = .ok (.iconst 1, 1) := by decide +kernel
theorem dX9_readsBranches_47 : decode cX9_readsBranches 47 = .ok (.ireturn, 1) := by decide +kernel
theorem dX9_freshAt_0 : decode cX9_freshAt 0 = .ok (.bipush (-9), 2) := by decide +kernel
theorem dX9_freshAt_2 : decode cX9_freshAt 2 = .ok (.istore_n 2, 1) := by decide +kernel
theorem dX9_freshAt_3 : decode cX9_freshAt 3 = .ok (.iconst 0, 1) := by decide +kernel
theorem dX9_freshAt_4 : decode cX9_freshAt 4 = .ok (.istore_n 3, 1) := by decide +kernel
theorem dX9_freshAt_5 : decode cX9_freshAt 5 = .ok (.iload_n 3, 1) := by decide +kernel
theorem dX9_freshAt_6 : decode cX9_freshAt 6 = .ok (.aload_n 0, 1) := by decide +kernel
theorem dX9_freshAt_7 : decode cX9_freshAt 7 = .ok (.getfield 109, 3) := by decide +kernel
theorem dX9_freshAt_10 : decode cX9_freshAt 10 = .ok (.if_icmp .ge 105, 3) := by decide +kernel
theorem dX9_freshAt_13 : decode cX9_freshAt 13 = .ok (.iconst 0, 1) := by decide +kernel
theorem dX9_freshAt_14 : decode cX9_freshAt 14 = .ok (.istore 4, 2) := by decide +kernel
theorem dX9_freshAt_16 : decode cX9_freshAt 16 = .ok (.iconst 0, 1) := by decide +kernel
theorem dX9_freshAt_17 : decode cX9_freshAt 17 = .ok (.istore 5, 2) := by decide +kernel
theorem dX9_freshAt_19 : decode cX9_freshAt 19 = .ok (.iload 5, 2) := by decide +kernel
theorem dX9_freshAt_21 : decode cX9_freshAt 21 = .ok (.aload_n 0, 1) := by decide +kernel
theorem dX9_freshAt_22 : decode cX9_freshAt 22 = .ok (.getfield 109, 3) := by decide +kernel
theorem dX9_freshAt_25 : decode cX9_freshAt 25 = .ok (.if_icmp .ge 72, 3) := by decide +kernel
theorem dX9_freshAt_28 : decode cX9_freshAt 28 = .ok (.iload 4, 2) := by decide +kernel
theorem dX9_freshAt_30 : decode cX9_freshAt 30 = .ok (.bipush 10, 2) := by decide +kernel
theorem dX9_freshAt_32 : decode cX9_freshAt 32 = .ok (.aload_n 0, 1) := by decide +kernel
theorem dX9_freshAt_33 : decode cX9_freshAt 33 = .ok (.getfield 41, 3) := by decide +kernel
theorem dX9_freshAt_36 : decode cX9_freshAt 36 = .ok (.bipush 6, 2) := by decide +kernel
theorem dX9_freshAt_38 : decode cX9_freshAt 38 = .ok (.iload 5, 2) := by decide +kernel
theorem dX9_freshAt_40 : decode cX9_freshAt 40 = .ok (.imul, 1) := by decide +kernel
theorem dX9_freshAt_41 : decode cX9_freshAt 41 = .ok (.iaload, 1) := by decide +kernel
theorem dX9_freshAt_42 : decode cX9_freshAt 42 = .ok (.imul, 1) := by decide +kernel
theorem dX9_freshAt_43 : decode cX9_freshAt 43 = .ok (.aload_n 0, 1) := by decide +kernel
theorem dX9_freshAt_44 : decode cX9_freshAt 44 = .ok (.getfield 41, 3) := by decide +kernel
theorem dX9_freshAt_47 : decode cX9_freshAt 47 = .ok (.bipush 6, 2) := by decide +kernel
theorem dX9_freshAt_49 : decode cX9_freshAt 49 = .ok (.iload 5, 2) := by decide +kernel
theorem dX9_freshAt_51 : decode cX9_freshAt 51 = .ok (.imul, 1) := by decide +kernel
theorem dX9_freshAt_52 : decode cX9_freshAt 52 = .ok (.iconst 1, 1) := by decide +kernel
theorem dX9_freshAt_53 : decode cX9_freshAt 53 = .ok (.iadd, 1) := by decide +kernel
theorem dX9_freshAt_54 : decode cX9_freshAt 54 = .ok (.iaload, 1) := by decide +kernel
theorem dX9_freshAt_55 : decode cX9_freshAt 55 = .ok (.iadd, 1) := by decide +kernel
theorem dX9_freshAt_56 : decode cX9_freshAt 56 = .ok (.bipush 10, 2) := by decide +kernel
theorem dX9_freshAt_58 : decode cX9_freshAt 58 = .ok (.aload_n 0, 1) := by decide +kernel
theorem dX9_freshAt_59 : decode cX9_freshAt 59 = .ok (.getfield 41, 3) := by decide +kernel
theorem dX9_freshAt_62 : decode cX9_freshAt 62 = .ok (.bipush 6, 2) := by decide +kernel
theorem dX9_freshAt_64 : decode cX9_freshAt 64 = .ok (.iload_n 3, 1) := by decide +kernel
theorem dX9_freshAt_65 : decode cX9_freshAt 65 = .ok (.imul, 1) := by decide +kernel
theorem dX9_freshAt_66 : decode cX9_freshAt 66 = .ok (.iaload, 1) := by decide +kernel
theorem dX9_freshAt_67 : decode cX9_freshAt 67 = .ok (.imul, 1) := by decide +kernel
theorem dX9_freshAt_68 : decode cX9_freshAt 68 = .ok (.aload_n 0, 1) := by decide +kernel
theorem dX9_freshAt_69 : decode cX9_freshAt 69 = .ok (.getfield 41, 3) := by decide +kernel
theorem dX9_freshAt_72 : decode cX9_freshAt 72 = .ok (.bipush 6, 2) := by decide +kernel
theorem dX9_freshAt_74 : decode cX9_freshAt 74 = .ok (.iload_n 3, 1) := by decide +kernel
theorem dX9_freshAt_75 : decode cX9_freshAt 75 = .ok (.imul, 1) := by decide +kernel
theorem dX9_freshAt_76 : decode cX9_freshAt 76 = .ok (.iconst 1, 1) := by decide +kernel
theorem dX9_freshAt_77 : decode cX9_freshAt 77 = .ok (.iadd, 1) := by decide +kernel
theorem dX9_freshAt_78 : decode cX9_freshAt 78 = .ok (.iaload, 1) := by decide +kernel
theorem dX9_freshAt_79 : decode cX9_freshAt 79 = .ok (.iadd, 1) := by decide +kernel
theorem dX9_freshAt_80 : decode cX9_freshAt 80 = .ok (.if_icmp .ge 7, 3) := by decide +kernel
theorem dX9_freshAt_83 : decode cX9_freshAt 83 = .ok (.iconst 1, 1) := by decide +kernel
theorem dX9_freshAt_84 : decode cX9_freshAt 84 = .ok (.goto 4, 3) := by decide +kernel
theorem dX9_freshAt_87 : decode cX9_freshAt 87 = .ok (.iconst 0, 1) := by decide +kernel
theorem dX9_freshAt_88 : decode cX9_freshAt 88 = .ok (.iadd, 1) := by decide +kernel
theorem dX9_freshAt_89 : decode cX9_freshAt 89 = .ok (.istore 4, 2) := by decide +kernel
theorem dX9_freshAt_91 : decode cX9_freshAt 91 = .ok (.iinc 5 1, 3) := by decide +kernel
theorem dX9_freshAt_94 : decode cX9_freshAt 94 = .ok (.goto (-75), 3) := by decide +kernel
theorem dX9_freshAt_97 : decode cX9_freshAt 97 = .ok (.iload 4, 2) := by decide +kernel
theorem dX9_freshAt_99 : decode cX9_freshAt 99 = .ok (.iload_n 1, 1) := by decide +kernel
theorem dX9_freshAt_100 : decode cX9_freshAt 100 = .ok (.if_icmp .ne 7, 3) := by decide +kernel
theorem dX9_freshAt_103 : decode cX9_freshAt 103 = .ok (.iload_n 3, 1) := by decide +kernel
theorem dX9_freshAt_104 : decode cX9_freshAt 104 = .ok (.goto 4, 3) := by decide +kernel
theorem dX9_freshAt_107 : decode cX9_freshAt 107 = .ok (.iload_n 2, 1) := by decide +kernel
theorem dX9_freshAt_108 : decode cX9_freshAt 108 = .ok (.istore_n 2, 1) := by decide +kernel
theorem dX9_freshAt_109 : decode cX9_freshAt 109 = .ok (.iinc 3 1, 3) := by decide +kernel
theorem dX9_freshAt_112 : decode cX9_freshAt 112 = .ok (.goto (-107), 3) := by decide +kernel
theorem dX9_freshAt_115 : decode cX9_freshAt 115 = .ok (.iload_n 2, 1) := by decide +kernel
theorem dX9_freshAt_116 : decode cX9_freshAt 116 = .ok (.ireturn, 1) := by decide +kernel
set_option maxRecDepth 20000 in
theorem ggX9_branches_X9_readsBranches : GoodIn wsX9_branches wsX9_readsBranches := goodIn_r _ [14, 15, 3, 16, 9, 17, 18, 19, 13, 20, 21, 1, 22, 23, 24, 25, 5, 26, 27, 28, 29, 30, 31, 32, 33, 34, 35, 36, 37, 38, 39, 40, 41, 42, 43, 44, 45, 46, 47, 48, 49, 50, 51, 52, 53, 54, 55, 56, 61, 62, 63, 64, 65, 66, 67, 68, 69, 70, 71, 72, 73, 74, 75, 76, 77, 78, 79, 80, 81, 82] (by decide +kernel) (by decide +kernel)
set_option maxRecDepth 20000 in
theorem gX9_branches_X9_readsBranches : GoodIn wsX9_branches (wsV RX9 138 RX9 yX9_readsBranches wsX9_readsBranches) := goodIn_app (goodIn_of _ (by decide +kernel)) ggX9_branches_X9_readsBranches
set_option maxRecDepth 20000 in
theorem ggX9_branches_X9_freshAt : GoodIn wsX9_branches wsX9_freshAt := goodIn_r _ [60, 3, 5, 61, 62, 63, 64, 65, 66, 67, 68, 69, 70, 71, 72, 73, 74, 75, 76, 77, 78, 79, 80, 81, 82] (by decide +kernel) (by decide +kernel)
set_option maxRecDepth 20000 in
theorem gX9_branches_X9_freshAt : GoodIn wsX9_branches (wsV RX9 141 RX9 yX9_freshAt wsX9_freshAt) := goodIn_app (goodIn_of _ (by decide +kernel)) ggX9_branches_X9_freshAt
theorem dX9_branches_0 : decode cX9_branches 0 = .ok (.aload_n 0, 1) := by decide +kernel
theorem dX9_branches_1 : decode cX9_branches 1 = .ok (.invokevirtual 138, 3) := by decide +kernel
theorem dX9_branches_4 : decode cX9_branches 4 = .ok (.ifCond .ne 11, 3) := by decide +kernel
theorem dX9_branches_7 : decode cX9_branches 7 = .ok (.bipush (-10), 2) := by decide +kernel
theorem dX9_branches_9 : decode cX9_branches 9 = .ok (.aload_n 0, 1) := by decide +kernel
theorem dX9_branches_10 : decode cX9_branches 10 = .ok (.getfield 95, 3) := by decide +kernel
theorem dX9_branches_13 : decode cX9_branches 13 = .ok (.isub, 1) := by decide +kernel
theorem dX9_branches_14 : decode cX9_branches 14 = .ok (.ireturn, 1) := by decide +kernel
theorem dX9_branches_15 : decode cX9_branches 15 = .ok (.iconst 0, 1) := by decide +kernel
theorem dX9_branches_16 : decode cX9_branches 16 = .ok (.istore_n 1, 1) := by decide +kernel
theorem dX9_branches_17 : decode cX9_branches 17 = .ok (.iload_n 1, 1) := by decide +kernel
theorem dX9_branches_18 : decode cX9_branches 18 = .ok (.bipush 124, 2) := by decide +kernel
theorem dX9_branches_20 : decode cX9_branches 20 = .ok (.if_icmp .ge 16, 3) := by decide +kernel
theorem dX9_branches_23 : decode cX9_branches 23 = .ok (.aload_n 0, 1) := by decide +kernel
theorem dX9_branches_24 : decode cX9_branches 24 = .ok (.getfield 13, 3) := by decide +kernel
theorem dX9_branches_27 : decode cX9_branches 27 = .ok (.iload_n 1, 1) := by decide +kernel
theorem dX9_branches_28 : decode cX9_branches 28 = .ok (.iconst 0, 1) := by decide +kernel
theorem dX9_branches_29 : decode cX9_branches 29 = .ok (.iastore, 1) := by decide +kernel
theorem dX9_branches_30 : decode cX9_branches 30 = .ok (.iinc 1 1, 3) := by decide +kernel
theorem dX9_branches_33 : decode cX9_branches 33 = .ok (.goto (-16), 3) := by decide +kernel
theorem dX9_branches_36 : decode cX9_branches 36 = .ok (.iconst 0, 1) := by decide +kernel
theorem dX9_branches_37 : decode cX9_branches 37 = .ok (.istore_n 1, 1) := by decide +kernel
theorem dX9_branches_38 : decode cX9_branches 38 = .ok (.iload_n 1, 1) := by decide +kernel
theorem dX9_branches_39 : decode cX9_branches 39 = .ok (.aload_n 0, 1) := by decide +kernel
theorem dX9_branches_40 : decode cX9_branches 40 = .ok (.getfield 109, 3) := by decide +kernel
theorem dX9_branches_43 : decode cX9_branches 43 = .ok (.if_icmp .ge 84, 3) := by decide +kernel
theorem dX9_branches_46 : decode cX9_branches 46 = .ok (.aload_n 0, 1) := by decide +kernel
theorem dX9_branches_47 : decode cX9_branches 47 = .ok (.iload_n 1, 1) := by decide +kernel
theorem dX9_branches_48 : decode cX9_branches 48 = .ok (.invokevirtual 141, 3) := by decide +kernel
theorem dX9_branches_51 : decode cX9_branches 51 = .ok (.istore_n 2, 1) := by decide +kernel
theorem dX9_branches_52 : decode cX9_branches 52 = .ok (.iconst 0, 1) := by decide +kernel
theorem dX9_branches_53 : decode cX9_branches 53 = .ok (.istore_n 3, 1) := by decide +kernel
theorem dX9_branches_54 : decode cX9_branches 54 = .ok (.iload_n 3, 1) := by decide +kernel
theorem dX9_branches_55 : decode cX9_branches 55 = .ok (.iconst 5, 1) := by decide +kernel
theorem dX9_branches_56 : decode cX9_branches 56 = .ok (.if_icmp .ge 30, 3) := by decide +kernel
theorem dX9_branches_59 : decode cX9_branches 59 = .ok (.aload_n 0, 1) := by decide +kernel
theorem dX9_branches_60 : decode cX9_branches 60 = .ok (.getfield 7, 3) := by decide +kernel
theorem dX9_branches_63 : decode cX9_branches 63 = .ok (.iconst 5, 1) := by decide +kernel
theorem dX9_branches_64 : decode cX9_branches 64 = .ok (.iload_n 1, 1) := by decide +kernel
theorem dX9_branches_65 : decode cX9_branches 65 = .ok (.imul, 1) := by decide +kernel
theorem dX9_branches_66 : decode cX9_branches 66 = .ok (.iload_n 3, 1) := by decide +kernel
theorem dX9_branches_67 : decode cX9_branches 67 = .ok (.iadd, 1) := by decide +kernel
theorem dX9_branches_68 : decode cX9_branches 68 = .ok (.aload_n 0, 1) := by decide +kernel
theorem dX9_branches_69 : decode cX9_branches 69 = .ok (.getfield 41, 3) := by decide +kernel
theorem dX9_branches_72 : decode cX9_branches 72 = .ok (.bipush 6, 2) := by decide +kernel
theorem dX9_branches_74 : decode cX9_branches 74 = .ok (.iload_n 2, 1) := by decide +kernel
theorem dX9_branches_75 : decode cX9_branches 75 = .ok (.imul, 1) := by decide +kernel
theorem dX9_branches_76 : decode cX9_branches 76 = .ok (.iload_n 3, 1) := by decide +kernel
theorem dX9_branches_77 : decode cX9_branches 77 = .ok (.iadd, 1) := by decide +kernel
theorem dX9_branches_78 : decode cX9_branches 78 = .ok (.iaload, 1) := by decide +kernel
theorem dX9_branches_79 : decode cX9_branches 79 = .ok (.iastore, 1) := by decide +kernel
theorem dX9_branches_80 : decode cX9_branches 80 = .ok (.iinc 3 1, 3) := by decide +kernel
theorem dX9_branches_83 : decode cX9_branches 83 = .ok (.goto (-29), 3) := by decide +kernel
theorem dX9_branches_86 : decode cX9_branches 86 = .ok (.aload_n 0, 1) := by decide +kernel
theorem dX9_branches_87 : decode cX9_branches 87 = .ok (.getfield 13, 3) := by decide +kernel
theorem dX9_branches_90 : decode cX9_branches 90 = .ok (.iload_n 1, 1) := by decide +kernel
theorem dX9_branches_91 : decode cX9_branches 91 = .ok (.aload_n 0, 1) := by decide +kernel
theorem dX9_branches_92 : decode cX9_branches 92 = .ok (.getfield 41, 3) := by decide +kernel
theorem dX9_branches_95 : decode cX9_branches 95 = .ok (.bipush 6, 2) := by decide +kernel
theorem dX9_branches_97 : decode cX9_branches 97 = .ok (.iload_n 2, 1) := by decide +kernel
theorem dX9_branches_98 : decode cX9_branches 98 = .ok (.imul, 1) := by decide +kernel
theorem dX9_branches_99 : decode cX9_branches 99 = .ok (.iconst 2, 1) := by decide +kernel
theorem dX9_branches_100 : decode cX9_branches 100 = .ok (.iadd, 1) := by decide +kernel
theorem dX9_branches_101 : decode cX9_branches 101 = .ok (.iaload, 1) := by decide +kernel
theorem dX9_branches_102 : decode cX9_branches 102 = .ok (.ifCond .ne 17, 3) := by decide +kernel
theorem dX9_branches_105 : decode cX9_branches 105 = .ok (.aload_n 0, 1) := by decide +kernel
theorem dX9_branches_106 : decode cX9_branches 106 = .ok (.getfield 41, 3) := by decide +kernel
theorem dX9_branches_109 : decode cX9_branches 109 = .ok (.bipush 6, 2) := by decide +kernel
theorem dX9_branches_111 : decode cX9_branches 111 = .ok (.iload_n 2, 1) := by decide +kernel
theorem dX9_branches_112 : decode cX9_branches 112 = .ok (.imul, 1) := by decide +kernel
theorem dX9_branches_113 : decode cX9_branches 113 = .ok (.iconst 5, 1) := by decide +kernel
theorem dX9_branches_114 : decode cX9_branches 114 = .ok (.iadd, 1) := by decide +kernel
theorem dX9_branches_115 : decode cX9_branches 115 = .ok (.iaload, 1) := by decide +kernel
theorem dX9_branches_116 : decode cX9_branches 116 = .ok (.goto 4, 3) := by decide +kernel
theorem dX9_branches_119 : decode cX9_branches 119 = .ok (.iconst 0, 1) := by decide +kernel
theorem dX9_branches_120 : decode cX9_branches 120 = .ok (.iastore, 1) := by decide +kernel
theorem dX9_branches_121 : decode cX9_branches 121 = .ok (.iinc 1 1, 3) := by decide +kernel
theorem dX9_branches_124 : decode cX9_branches 124 = .ok (.goto (-86), 3) := by decide +kernel
theorem dX9_branches_127 : decode cX9_branches 127 = .ok (.aload_n 0, 1) := by decide +kernel
theorem dX9_branches_128 : decode cX9_branches 128 = .ok (.aload_n 0, 1) := by decide +kernel
theorem dX9_branches_129 : decode cX9_branches 129 = .ok (.getfield 109, 3) := by decide +kernel
theorem dX9_branches_132 : decode cX9_branches 132 = .ok (.putfield 54, 3) := by decide +kernel
theorem dX9_branches_135 : decode cX9_branches 135 = .ok (.aload_n 0, 1) := by decide +kernel
theorem dX9_branches_136 : decode cX9_branches 136 = .ok (.iconst 0, 1) := by decide +kernel
theorem dX9_branches_137 : decode cX9_branches 137 = .ok (.putfield 144, 3) := by decide +kernel
theorem dX9_branches_140 : decode cX9_branches 140 = .ok (.aload_n 0, 1) := by decide +kernel
theorem dX9_branches_141 : decode cX9_branches 141 = .ok (.getfield 25, 3) := by decide +kernel
theorem dX9_branches_144 : decode cX9_branches 144 = .ok (.iconst 0, 1) := by decide +kernel
theorem dX9_branches_145 : decode cX9_branches 145 = .ok (.iconst 0, 1) := by decide +kernel
theorem dX9_branches_146 : decode cX9_branches 146 = .ok (.bastore, 1) := by decide +kernel
theorem dX9_branches_147 : decode cX9_branches 147 = .ok (.aload_n 0, 1) := by decide +kernel
theorem dX9_branches_148 : decode cX9_branches 148 = .ok (.getfield 25, 3) := by decide +kernel
theorem dX9_branches_151 : decode cX9_branches 151 = .ok (.iconst 1, 1) := by decide +kernel
theorem dX9_branches_152 : decode cX9_branches 152 = .ok (.iconst 0, 1) := by decide +kernel
theorem dX9_branches_153 : decode cX9_branches 153 = .ok (.bastore, 1) := by decide +kernel
theorem dX9_branches_154 : decode cX9_branches 154 = .ok (.aload_n 0, 1) := by decide +kernel
theorem dX9_branches_155 : decode cX9_branches 155 = .ok (.iconst 0, 1) := by decide +kernel
theorem dX9_branches_156 : decode cX9_branches 156 = .ok (.putfield 92, 3) := by decide +kernel
theorem dX9_branches_159 : decode cX9_branches 159 = .ok (.aload_n 0, 1) := by decide +kernel
theorem dX9_branches_160 : decode cX9_branches 160 = .ok (.getfield 54, 3) := by decide +kernel
theorem dX9_branches_163 : decode cX9_branches 163 = .ok (.ireturn, 1) := by decide +kernel
set_option maxRecDepth 20000 in
theorem ggX9_readsOrder_X9_number : GoodIn wsX9_readsOrder wsX9_number := goodIn_r _ [7, 8, 9, 10, 11, 12, 13, 6, 14, 15, 16, 17, 18, 19, 20, 21, 22, 27, 28, 29, 30, 31, 32, 33, 34, 35, 36, 37, 38, 39, 40, 41, 42, 43, 44, 45, 46, 47, 48] (by decide +kernel) (by decide +kernel)
set_option maxRecDepth 20000 in
theorem gX9_readsOrder_X9_number : GoodIn wsX9_readsOrder (wsV RX9 118 RX9 yX9_number wsX9_number) := goodIn_app (goodIn_of _ (by decide +kernel)) ggX9_readsOrder_X9_number
set_option maxRecDepth 20000 in
theorem ggX9_readsOrder_X9_passes : GoodIn wsX9_readsOrder wsX9_passes := goodIn_r _ [26, 9, 15, 8, 11, 12, 13, 6, 14, 10, 27, 28, 29, 30, 31, 32, 33, 34, 35, 36, 37, 38, 39, 40, 41, 42, 43, 44, 45, 46, 47, 48] (by decide +kernel) (by decide +kernel)
set_option maxRecDepth 20000 in
theorem gX9_readsOrder_X9_passes : GoodIn wsX9_readsOrder (wsV RX9 112 RX9 yX9_passes wsX9_passes) := goodIn_app (goodIn_of _ (by decide +kernel)) ggX9_readsOrder_X9_passes
theorem dX9_readsOrder_0 : decode cX9_readsOrder 0 = .ok (.iconst 5, 1) := by decide +kernel
theorem dX9_readsOrder_1 : decode cX9_readsOrder 1 = .ok (.aload_n 0, 1) := by decide +kernel
theorem dX9_readsOrder_2 : decode cX9_readsOrder 2 = .ok (.getfield 147, 3) := by decide +kernel
theorem dX9_readsOrder_5 : decode cX9_readsOrder 5 = .ok (.imul, 1) := by decide +kernel
theorem dX9_readsOrder_6 : decode cX9_readsOrder 6 = .ok (.istore_n 1, 1) := by decide +kernel
theorem dX9_readsOrder_7 : decode cX9_readsOrder 7 = .ok (.iconst 0, 1) := by decide +kernel
theorem dX9_readsOrder_8 : decode cX9_readsOrder 8 = .ok (.istore_n 2, 1) := by decide +kernel
theorem dX9_readsOrder_9 : decode cX9_readsOrder 9 = .ok (.aload_n 0, 1) := by decide +kernel
theorem dX9_readsOrder_10 : decode cX9_readsOrder 10 = .ok (.getfield 147, 3) := by decide +kernel
theorem dX9_readsOrder_13 : decode cX9_readsOrder 13 = .ok (.bipush 8, 2) := by decide +kernel
theorem dX9_readsOrder_15 : decode cX9_readsOrder 15 = .ok (.if_icmp .ge 7, 3) := by decide +kernel
theorem dX9_readsOrder_18 : decode cX9_readsOrder 18 = .ok (.iconst 1, 1) := by decide +kernel
theorem dX9_readsOrder_19 : decode cX9_readsOrder 19 = .ok (.goto 4, 3) := by decide +kernel
theorem dX9_readsOrder_22 : decode cX9_readsOrder 22 = .ok (.iconst 0, 1) := by decide +kernel
theorem dX9_readsOrder_23 : decode cX9_readsOrder 23 = .ok (.istore_n 3, 1) := by decide +kernel
theorem dX9_readsOrder_24 : decode cX9_readsOrder 24 = .ok (.iload_n 3, 1) := by decide +kernel
theorem dX9_readsOrder_25 : decode cX9_readsOrder 25 = .ok (.ifCond .ne 5, 3) := by decide +kernel
theorem dX9_readsOrder_28 : decode cX9_readsOrder 28 = .ok (.iconst 0, 1) := by decide +kernel
theorem dX9_readsOrder_29 : decode cX9_readsOrder 29 = .ok (.ireturn, 1) := by decide +kernel
theorem dX9_readsOrder_30 : decode cX9_readsOrder 30 = .ok (.iload_n 3, 1) := by decide +kernel
theorem dX9_readsOrder_31 : decode cX9_readsOrder 31 = .ok (.ifCond .eq 57, 3) := by decide +kernel
theorem dX9_readsOrder_34 : decode cX9_readsOrder 34 = .ok (.aload_n 0, 1) := by decide +kernel
theorem dX9_readsOrder_35 : decode cX9_readsOrder 35 = .ok (.getfield 44, 3) := by decide +kernel
theorem dX9_readsOrder_38 : decode cX9_readsOrder 38 = .ok (.iload_n 1, 1) := by decide +kernel
theorem dX9_readsOrder_39 : decode cX9_readsOrder 39 = .ok (.iload_n 2, 1) := by decide +kernel
theorem dX9_readsOrder_40 : decode cX9_readsOrder 40 = .ok (.iadd, 1) := by decide +kernel
theorem dX9_readsOrder_41 : decode cX9_readsOrder 41 = .ok (.aload_n 0, 1) := by decide +kernel
theorem dX9_readsOrder_42 : decode cX9_readsOrder 42 = .ok (.iconst 0, 1) := by decide +kernel
theorem dX9_readsOrder_43 : decode cX9_readsOrder 43 = .ok (.bipush 9, 2) := by decide +kernel
theorem dX9_readsOrder_45 : decode cX9_readsOrder 45 = .ok (.invokevirtual 118, 3) := by decide +kernel
theorem dX9_readsOrder_48 : decode cX9_readsOrder 48 = .ok (.iastore, 1) := by decide +kernel
theorem dX9_readsOrder_49 : decode cX9_readsOrder 49 = .ok (.aload_n 0, 1) := by decide +kernel
theorem dX9_readsOrder_50 : decode cX9_readsOrder 50 = .ok (.getfield 44, 3) := by decide +kernel
theorem dX9_readsOrder_53 : decode cX9_readsOrder 53 = .ok (.iload_n 1, 1) := by decide +kernel
theorem dX9_readsOrder_54 : decode cX9_readsOrder 54 = .ok (.iload_n 2, 1) := by decide +kernel
theorem dX9_readsOrder_55 : decode cX9_readsOrder 55 = .ok (.iadd, 1) := by decide +kernel
theorem dX9_readsOrder_56 : decode cX9_readsOrder 56 = .ok (.iaload, 1) := by decide +kernel
theorem dX9_readsOrder_57 : decode cX9_readsOrder 57 = .ok (.ifCond .ge 5, 3) := by decide +kernel
theorem dX9_readsOrder_60 : decode cX9_readsOrder 60 = .ok (.iconst 0, 1) := by decide +kernel
theorem dX9_readsOrder_61 : decode cX9_readsOrder 61 = .ok (.ireturn, 1) := by decide +kernel
theorem dX9_readsOrder_62 : decode cX9_readsOrder 62 = .ok (.iinc 2 1, 3) := by decide +kernel
theorem dX9_readsOrder_65 : decode cX9_readsOrder 65 = .ok (.iload_n 2, 1) := by decide +kernel
theorem dX9_readsOrder_66 : decode cX9_readsOrder 66 = .ok (.iconst 4, 1) := by decide +kernel
theorem dX9_readsOrder_67 : decode cX9_readsOrder 67 = .ok (.if_icmp .ge 16, 3) := by decide +kernel
theorem dX9_readsOrder_70 : decode cX9_readsOrder 70 = .ok (.aload_n 0, 1) := by decide +kernel
theorem dX9_readsOrder_71 : decode cX9_readsOrder 71 = .ok (.bipush 46, 2) := by decide +kernel
theorem dX9_readsOrder_73 : decode cX9_readsOrder 73 = .ok (.invokevirtual 112, 3) := by decide +kernel
theorem dX9_readsOrder_76 : decode cX9_readsOrder 76 = .ok (.ifCond .eq 7, 3) := by decide +kernel
theorem dX9_readsOrder_79 : decode cX9_readsOrder 79 = .ok (.iconst 1, 1) := by decide +kernel
theorem dX9_readsOrder_80 : decode cX9_readsOrder 80 = .ok (.goto 4, 3) := by decide +kernel
theorem dX9_readsOrder_83 : decode cX9_readsOrder 83 = .ok (.iconst 0, 1) := by decide +kernel
theorem dX9_readsOrder_84 : decode cX9_readsOrder 84 = .ok (.istore_n 3, 1) := by decide +kernel
theorem dX9_readsOrder_85 : decode cX9_readsOrder 85 = .ok (.goto (-55), 3) := by decide +kernel
theorem dX9_readsOrder_88 : decode cX9_readsOrder 88 = .ok (.iload_n 2, 1) := by decide +kernel
theorem dX9_readsOrder_89 : decode cX9_readsOrder 89 = .ok (.istore 4, 2) := by decide +kernel
theorem dX9_readsOrder_91 : decode cX9_readsOrder 91 = .ok (.iload 4, 2) := by decide +kernel
theorem dX9_readsOrder_93 : decode cX9_readsOrder 93 = .ok (.iconst 4, 1) := by decide +kernel
theorem dX9_readsOrder_94 : decode cX9_readsOrder 94 = .ok (.if_icmp .ge 19, 3) := by decide +kernel
theorem dX9_readsOrder_97 : decode cX9_readsOrder 97 = .ok (.aload_n 0, 1) := by decide +kernel
theorem dX9_readsOrder_98 : decode cX9_readsOrder 98 = .ok (.getfield 44, 3) := by decide +kernel
theorem dX9_readsOrder_101 : decode cX9_readsOrder 101 = .ok (.iload_n 1, 1) := by decide +kernel
theorem dX9_readsOrder_102 : decode cX9_readsOrder 102 = .ok (.iload 4, 2) := by decide +kernel
theorem dX9_readsOrder_104 : decode cX9_readsOrder 104 = .ok (.iadd, 1) := by decide +kernel
theorem dX9_readsOrder_105 : decode cX9_readsOrder 105 = .ok (.iconst (-1), 1) := by decide +kernel
theorem dX9_readsOrder_106 : decode cX9_readsOrder 106 = .ok (.iastore, 1) := by decide +kernel
theorem dX9_readsOrder_107 : decode cX9_readsOrder 107 = .ok (.iinc 4 1, 3) := by decide +kernel
theorem dX9_readsOrder_110 : decode cX9_readsOrder 110 = .ok (.goto (-19), 3) := by decide +kernel
theorem dX9_readsOrder_113 : decode cX9_readsOrder 113 = .ok (.aload_n 0, 1) := by decide +kernel
theorem dX9_readsOrder_114 : decode cX9_readsOrder 114 = .ok (.bipush 61, 2) := by decide +kernel
theorem dX9_readsOrder_116 : decode cX9_readsOrder 116 = .ok (.invokevirtual 112, 3) := by decide +kernel
theorem dX9_readsOrder_119 : decode cX9_readsOrder 119 = .ok (.ifCond .ne 5, 3) := by decide +kernel
theorem dX9_readsOrder_122 : decode cX9_readsOrder 122 = .ok (.iconst 0, 1) := by decide +kernel
theorem dX9_readsOrder_123 : decode cX9_readsOrder 123 = .ok (.ireturn, 1) := by decide +kernel
theorem dX9_readsOrder_124 : decode cX9_readsOrder 124 = .ok (.aload_n 0, 1) := by decide +kernel
theorem dX9_readsOrder_125 : decode cX9_readsOrder 125 = .ok (.getfield 44, 3) := by decide +kernel
theorem dX9_readsOrder_128 : decode cX9_readsOrder 128 = .ok (.iload_n 1, 1) := by decide +kernel
theorem dX9_readsOrder_129 : decode cX9_readsOrder 129 = .ok (.iconst 4, 1) := by decide +kernel
theorem dX9_readsOrder_130 : decode cX9_readsOrder 130 = .ok (.iadd, 1) := by decide +kernel
theorem dX9_readsOrder_131 : decode cX9_readsOrder 131 = .ok (.aload_n 0, 1) := by decide +kernel
theorem dX9_readsOrder_132 : decode cX9_readsOrder 132 = .ok (.iconst 0, 1) := by decide +kernel
theorem dX9_readsOrder_133 : decode cX9_readsOrder 133 = .ok (.bipush 99, 2) := by decide +kernel
theorem dX9_readsOrder_135 : decode cX9_readsOrder 135 = .ok (.invokevirtual 118, 3) := by decide +kernel
theorem dX9_readsOrder_138 : decode cX9_readsOrder 138 = .ok (.iastore, 1) := by decide +kernel
theorem dX9_readsOrder_139 : decode cX9_readsOrder 139 = .ok (.aload_n 0, 1) := by decide +kernel
theorem dX9_readsOrder_140 : decode cX9_readsOrder 140 = .ok (.getfield 44, 3) := by decide +kernel
theorem dX9_readsOrder_143 : decode cX9_readsOrder 143 = .ok (.iload_n 1, 1) := by decide +kernel
theorem dX9_readsOrder_144 : decode cX9_readsOrder 144 = .ok (.iconst 4, 1) := by decide +kernel
theorem dX9_readsOrder_145 : decode cX9_readsOrder 145 = .ok (.iadd, 1) := by decide +kernel
theorem dX9_readsOrder_146 : decode cX9_readsOrder 146 = .ok (.iaload, 1) := by decide +kernel
theorem dX9_readsOrder_147 : decode cX9_readsOrder 147 = .ok (.ifCond .lt 12, 3) := by decide +kernel
theorem dX9_readsOrder_150 : decode cX9_readsOrder 150 = .ok (.aload_n 0, 1) := by decide +kernel
theorem dX9_readsOrder_151 : decode cX9_readsOrder 151 = .ok (.bipush 59, 2) := by decide +kernel
theorem dX9_readsOrder_153 : decode cX9_readsOrder 153 = .ok (.invokevirtual 112, 3) := by decide +kernel
theorem dX9_readsOrder_156 : decode cX9_readsOrder 156 = .ok (.ifCond .ne 5, 3) := by decide +kernel
theorem dX9_readsOrder_159 : decode cX9_readsOrder 159 = .ok (.iconst 0, 1) := by decide +kernel
theorem dX9_readsOrder_160 : decode cX9_readsOrder 160 = .ok (.ireturn, 1) := by decide +kernel
theorem dX9_readsOrder_161 : decode cX9_readsOrder 161 = .ok (.aload_n 0, 1) := by decide +kernel
theorem dX9_readsOrder_162 : decode cX9_readsOrder 162 = .ok (.dup, 1) := by decide +kernel
theorem dX9_readsOrder_163 : decode cX9_readsOrder 163 = .ok (.getfield 147, 3) := by decide +kernel
theorem dX9_readsOrder_166 : decode cX9_readsOrder 166 = .ok (.iconst 1, 1) := by decide +kernel
theorem dX9_readsOrder_167 : decode cX9_readsOrder 167 = .ok (.iadd, 1) := by decide +kernel
theorem dX9_readsOrder_168 : decode cX9_readsOrder 168 = .ok (.putfield 147, 3) := by decide +kernel
theorem dX9_readsOrder_171 : decode cX9_readsOrder 171 = .ok (.iconst 1, 1) := by decide +kernel
theorem dX9_readsOrder_172 : decode cX9_readsOrder 172 = .ok (.ireturn, 1) := by decide +kernel
set_option maxRecDepth 20000 in
theorem ggX9_readsOrders_X9_skips : GoodIn wsX9_readsOrders wsX9_skips := goodIn_r _ [8, 1, 3, 9, 10, 31, 32, 33, 34, 35, 36, 37, 38, 39, 40, 41, 42, 43, 44, 45, 46, 47, 48, 49, 50, 51, 52] (by decide +kernel) (by decide +kernel)
set_option maxRecDepth 20000 in
theorem gX9_readsOrders_X9_skips : GoodIn wsX9_readsOrders (wsV RX9 102 RX9 yX9_skips wsX9_skips) := goodIn_app (goodIn_of _ (by decide +kernel)) ggX9_readsOrders_X9_skips
set_option maxRecDepth 20000 in
theorem ggX9_readsOrders_X9_readsOrder : GoodIn wsX9_readsOrders wsX9_readsOrder := goodIn_r _ [14, 2, 15, 16, 17, 18, 7, 19, 9, 1, 10, 4, 5, 6, 8, 3, 20, 21, 22, 23, 24, 25, 26, 27, 28, 29, 30, 31, 32, 33, 34, 35, 36, 37, 38, 39, 40, 41, 42, 43, 44, 45, 46, 47, 48, 49, 50, 51, 52] (by decide +kernel) (by decide +kernel)
set_option maxRecDepth 20000 in
theorem gX9_readsOrders_X9_readsOrder : GoodIn wsX9_readsOrders (wsV RX9 150 RX9 yX9_readsOrder wsX9_readsOrder) := goodIn_app (goodIn_of _ (by decide +kernel)) ggX9_readsOrders_X9_readsOrder
theorem dX9_readsOrders_0 : decode cX9_readsOrders 0 = .ok (.aload_n 0, 1) := by decide +kernel
theorem dX9_readsOrders_1 : decode cX9_readsOrders 1 = .ok (.iconst 0, 1) := by decide +kernel
theorem dX9_readsOrders_2 : decode cX9_readsOrders 2 = .ok (.putfield 89, 3) := by decide +kernel
theorem dX9_readsOrders_5 : decode cX9_readsOrders 5 = .ok (.aload_n 0, 1) := by decide +kernel
theorem dX9_readsOrders_6 : decode cX9_readsOrders 6 = .ok (.iconst 0, 1) := by decide +kernel
theorem dX9_readsOrders_7 : decode cX9_readsOrders 7 = .ok (.putfield 147, 3) := by decide +kernel
theorem dX9_readsOrders_10 : decode cX9_readsOrders 10 = .ok (.aload_n 0, 1) := by decide +kernel
theorem dX9_readsOrders_11 : decode cX9_readsOrders 11 = .ok (.invokevirtual 102, 3) := by decide +kernel
theorem dX9_readsOrders_14 : decode cX9_readsOrders 14 = .ok (.aload_n 0, 1) := by decide +kernel
theorem dX9_readsOrders_15 : decode cX9_readsOrders 15 = .ok (.getfield 89, 3) := by decide +kernel
theorem dX9_readsOrders_18 : decode cX9_readsOrders 18 = .ok (.aload_n 0, 1) := by decide +kernel
theorem dX9_readsOrders_19 : decode cX9_readsOrders 19 = .ok (.getfield 92, 3) := by decide +kernel
theorem dX9_readsOrders_22 : decode cX9_readsOrders 22 = .ok (.if_icmp .ge 7, 3) := by decide +kernel
theorem dX9_readsOrders_25 : decode cX9_readsOrders 25 = .ok (.iconst 1, 1) := by decide +kernel
theorem dX9_readsOrders_26 : decode cX9_readsOrders 26 = .ok (.goto 4, 3) := by decide +kernel
theorem dX9_readsOrders_29 : decode cX9_readsOrders 29 = .ok (.iconst 0, 1) := by decide +kernel
theorem dX9_readsOrders_30 : decode cX9_readsOrders 30 = .ok (.istore_n 1, 1) := by decide +kernel
theorem dX9_readsOrders_31 : decode cX9_readsOrders 31 = .ok (.iload_n 1, 1) := by decide +kernel
theorem dX9_readsOrders_32 : decode cX9_readsOrders 32 = .ok (.ifCond .eq 30, 3) := by decide +kernel
theorem dX9_readsOrders_35 : decode cX9_readsOrders 35 = .ok (.aload_n 0, 1) := by decide +kernel
theorem dX9_readsOrders_36 : decode cX9_readsOrders 36 = .ok (.getfield 89, 3) := by decide +kernel
theorem dX9_readsOrders_39 : decode cX9_readsOrders 39 = .ok (.aload_n 0, 1) := by decide +kernel
theorem dX9_readsOrders_40 : decode cX9_readsOrders 40 = .ok (.getfield 92, 3) := by decide +kernel
theorem dX9_readsOrders_43 : decode cX9_readsOrders 43 = .ok (.if_icmp .ge 19, 3) := by decide +kernel
theorem dX9_readsOrders_46 : decode cX9_readsOrders 46 = .ok (.aload_n 0, 1) := by decide +kernel
theorem dX9_readsOrders_47 : decode cX9_readsOrders 47 = .ok (.invokevirtual 150, 3) := by decide +kernel
theorem dX9_readsOrders_50 : decode cX9_readsOrders 50 = .ok (.istore_n 1, 1) := by decide +kernel
theorem dX9_readsOrders_51 : decode cX9_readsOrders 51 = .ok (.iload_n 1, 1) := by decide +kernel
theorem dX9_readsOrders_52 : decode cX9_readsOrders 52 = .ok (.ifCond .eq (-21), 3) := by decide +kernel
theorem dX9_readsOrders_55 : decode cX9_readsOrders 55 = .ok (.aload_n 0, 1) := by decide +kernel
theorem dX9_readsOrders_56 : decode cX9_readsOrders 56 = .ok (.invokevirtual 102, 3) := by decide +kernel
theorem dX9_readsOrders_59 : decode cX9_readsOrders 59 = .ok (.goto (-28), 3) := by decide +kernel
theorem dX9_readsOrders_62 : decode cX9_readsOrders 62 = .ok (.iload_n 1, 1) := by decide +kernel
theorem dX9_readsOrders_63 : decode cX9_readsOrders 63 = .ok (.ireturn, 1) := by decide +kernel
theorem dX9_isStatus_0 : decode cX9_isStatus 0 = .ok (.iload_n 0, 1) := by decide +kernel
theorem dX9_isStatus_1 : decode cX9_isStatus 1 = .ok (.iconst 1, 1) := by decide +kernel
theorem dX9_isStatus_2 : decode cX9_isStatus 2 = .ok (.if_icmp .eq 19, 3) := by decide +kernel
theorem dX9_isStatus_5 : decode cX9_isStatus 5 = .ok (.iload_n 0, 1) := by decide +kernel
theorem dX9_isStatus_6 : decode cX9_isStatus 6 = .ok (.iconst 2, 1) := by decide +kernel
theorem dX9_isStatus_7 : decode cX9_isStatus 7 = .ok (.if_icmp .eq 14, 3) := by decide +kernel
theorem dX9_isStatus_10 : decode cX9_isStatus 10 = .ok (.iload_n 0, 1) := by decide +kernel
theorem dX9_isStatus_11 : decode cX9_isStatus 11 = .ok (.iconst 4, 1) := by decide +kernel
theorem dX9_isStatus_12 : decode cX9_isStatus 12 = .ok (.if_icmp .lt 13, 3) := by decide +kernel
theorem dX9_isStatus_15 : decode cX9_isStatus 15 = .ok (.iload_n 0, 1) := by decide +kernel
theorem dX9_isStatus_16 : decode cX9_isStatus 16 = .ok (.bipush 6, 2) := by decide +kernel
theorem dX9_isStatus_18 : decode cX9_isStatus 18 = .ok (.if_icmp .gt 7, 3) := by decide +kernel
theorem dX9_isStatus_21 : decode cX9_isStatus 21 = .ok (.iconst 1, 1) := by decide +kernel
theorem dX9_isStatus_22 : decode cX9_isStatus 22 = .ok (.goto 4, 3) := by decide +kernel
theorem dX9_isStatus_25 : decode cX9_isStatus 25 = .ok (.iconst 0, 1) := by decide +kernel
theorem dX9_isStatus_26 : decode cX9_isStatus 26 = .ok (.ireturn, 1) := by decide +kernel
set_option maxRecDepth 20000 in
theorem ggX9_ordersStatus_X9_isStatus : GoodIn wsX9_ordersStatus wsX9_isStatus := goodIn_r _ [6] (by decide +kernel) (by decide +kernel)
set_option maxRecDepth 20000 in
theorem gX9_ordersStatus_X9_isStatus : GoodIn wsX9_ordersStatus (va_wsS RX9 153 yX9_isStatus wsX9_isStatus) := goodIn_app (goodIn_of _ (by decide +kernel)) ggX9_ordersStatus_X9_isStatus
set_option maxRecDepth 20000 in
theorem ggX9_ordersStatus_X9_statusOf : GoodIn wsX9_ordersStatus wsX9_statusOf := goodIn_r _ [10, 1, 11, 12, 5, 13, 21, 22, 23, 24, 25, 26, 27, 28, 29, 30, 31, 32, 33, 34, 35, 36, 37, 38, 39, 40, 41, 42] (by decide +kernel) (by decide +kernel)
set_option maxRecDepth 20000 in
theorem gX9_ordersStatus_X9_statusOf : GoodIn wsX9_ordersStatus (wsV RX9 78 RX9 yX9_statusOf wsX9_statusOf) := goodIn_app (goodIn_of _ (by decide +kernel)) ggX9_ordersStatus_X9_statusOf
set_option maxRecDepth 20000 in
theorem ggX9_ordersStatus_X9_within : GoodIn wsX9_ordersStatus wsX9_within := goodIn_r _ [16] (by decide +kernel) (by decide +kernel)
set_option maxRecDepth 20000 in
theorem gX9_ordersStatus_X9_within : GoodIn wsX9_ordersStatus (va_wsS RX9 98 yX9_within wsX9_within) := goodIn_app (goodIn_of _ (by decide +kernel)) ggX9_ordersStatus_X9_within
set_option maxRecDepth 20000 in
theorem ggX9_ordersStatus_X9_rowAt : GoodIn wsX9_ordersStatus wsX9_rowAt := goodIn_r _ [13] (by decide +kernel) (by decide +kernel)
set_option maxRecDepth 20000 in
theorem gX9_ordersStatus_X9_rowAt : GoodIn wsX9_ordersStatus (va_wsS RX9 69 yX9_rowAt wsX9_rowAt) := goodIn_app (goodIn_of _ (by decide +kernel)) ggX9_ordersStatus_X9_rowAt
set_option maxRecDepth 20000 in
theorem ggX9_ordersStatus_X9_makes : GoodIn wsX9_ordersStatus wsX9_makes := goodIn_r _ [20, 1, 11, 12, 5, 13, 21, 22, 23, 24, 25, 26, 27, 28, 29, 30, 31, 32, 33, 34, 35, 36, 37, 38, 39, 40, 41, 42] (by decide +kernel) (by decide +kernel)
set_option maxRecDepth 20000 in
theorem gX9_ordersStatus_X9_makes : GoodIn wsX9_ordersStatus (wsV RX9 156 RX9 yX9_makes wsX9_makes) := goodIn_app (goodIn_of _ (by decide +kernel)) ggX9_ordersStatus_X9_makes
theorem dX9_ordersStatus_0 : decode cX9_ordersStatus 0 = .ok (.iload 4, 2) := by decide +kernel
theorem dX9_ordersStatus_2 : decode cX9_ordersStatus 2 = .ok (.invokestatic 153, 3) := by decide +kernel
theorem dX9_ordersStatus_5 : decode cX9_ordersStatus 5 = .ok (.ifCond .ne 5, 3) := by decide +kernel
theorem dX9_ordersStatus_8 : decode cX9_ordersStatus 8 = .ok (.iconst 3, 1) := by decide +kernel
theorem dX9_ordersStatus_9 : decode cX9_ordersStatus 9 = .ok (.ireturn, 1) := by decide +kernel
theorem dX9_ordersStatus_10 : decode cX9_ordersStatus 10 = .ok (.aload_n 0, 1) := by decide +kernel
theorem dX9_ordersStatus_11 : decode cX9_ordersStatus 11 = .ok (.iload_n 2, 1) := by decide +kernel
theorem dX9_ordersStatus_12 : decode cX9_ordersStatus 12 = .ok (.iload_n 3, 1) := by decide +kernel
theorem dX9_ordersStatus_13 : decode cX9_ordersStatus 13 = .ok (.invokevirtual 78, 3) := by decide +kernel
theorem dX9_ordersStatus_16 : decode cX9_ordersStatus 16 = .ok (.istore 5, 2) := by decide +kernel
theorem dX9_ordersStatus_18 : decode cX9_ordersStatus 18 = .ok (.iload 4, 2) := by decide +kernel
theorem dX9_ordersStatus_20 : decode cX9_ordersStatus 20 = .ok (.iconst 3, 1) := by decide +kernel
theorem dX9_ordersStatus_21 : decode cX9_ordersStatus 21 = .ok (.if_icmp .ge 14, 3) := by decide +kernel
theorem dX9_ordersStatus_24 : decode cX9_ordersStatus 24 = .ok (.iload 5, 2) := by decide +kernel
theorem dX9_ordersStatus_26 : decode cX9_ordersStatus 26 = .ok (.ifCond .eq 24, 3) := by decide +kernel
theorem dX9_ordersStatus_29 : decode cX9_ordersStatus 29 = .ok (.iload 5, 2) := by decide +kernel
theorem dX9_ordersStatus_31 : decode cX9_ordersStatus 31 = .ok (.iconst 3, 1) := by decide +kernel
theorem dX9_ordersStatus_32 : decode cX9_ordersStatus 32 = .ok (.if_icmp .eq 18, 3) := by decide +kernel
theorem dX9_ordersStatus_35 : decode cX9_ordersStatus 35 = .ok (.iload 4, 2) := by decide +kernel
theorem dX9_ordersStatus_37 : decode cX9_ordersStatus 37 = .ok (.iconst 4, 1) := by decide +kernel
theorem dX9_ordersStatus_38 : decode cX9_ordersStatus 38 = .ok (.iconst 5, 1) := by decide +kernel
theorem dX9_ordersStatus_39 : decode cX9_ordersStatus 39 = .ok (.invokestatic 98, 3) := by decide +kernel
theorem dX9_ordersStatus_42 : decode cX9_ordersStatus 42 = .ok (.ifCond .eq 10, 3) := by decide +kernel
theorem dX9_ordersStatus_45 : decode cX9_ordersStatus 45 = .ok (.iload 5, 2) := by decide +kernel
theorem dX9_ordersStatus_47 : decode cX9_ordersStatus 47 = .ok (.ifCond .eq 5, 3) := by decide +kernel
theorem dX9_ordersStatus_50 : decode cX9_ordersStatus 50 = .ok (.iconst 4, 1) := by decide +kernel
theorem dX9_ordersStatus_51 : decode cX9_ordersStatus 51 = .ok (.ireturn, 1) := by decide +kernel
theorem dX9_ordersStatus_52 : decode cX9_ordersStatus 52 = .ok (.iload 4, 2) := by decide +kernel
theorem dX9_ordersStatus_54 : decode cX9_ordersStatus 54 = .ok (.iconst 3, 1) := by decide +kernel
theorem dX9_ordersStatus_55 : decode cX9_ordersStatus 55 = .ok (.if_icmp .ge 17, 3) := by decide +kernel
theorem dX9_ordersStatus_58 : decode cX9_ordersStatus 58 = .ok (.aload_n 0, 1) := by decide +kernel
theorem dX9_ordersStatus_59 : decode cX9_ordersStatus 59 = .ok (.getfield 13, 3) := by decide +kernel
theorem dX9_ordersStatus_62 : decode cX9_ordersStatus 62 = .ok (.iload_n 2, 1) := by decide +kernel
theorem dX9_ordersStatus_63 : decode cX9_ordersStatus 63 = .ok (.iload_n 3, 1) := by decide +kernel
theorem dX9_ordersStatus_64 : decode cX9_ordersStatus 64 = .ok (.invokestatic 69, 3) := by decide +kernel
theorem dX9_ordersStatus_67 : decode cX9_ordersStatus 67 = .ok (.iload 4, 2) := by decide +kernel
theorem dX9_ordersStatus_69 : decode cX9_ordersStatus 69 = .ok (.iastore, 1) := by decide +kernel
theorem dX9_ordersStatus_70 : decode cX9_ordersStatus 70 = .ok (.iconst 0, 1) := by decide +kernel
theorem dX9_ordersStatus_71 : decode cX9_ordersStatus 71 = .ok (.ireturn, 1) := by decide +kernel
theorem dX9_ordersStatus_72 : decode cX9_ordersStatus 72 = .ok (.aload_n 0, 1) := by decide +kernel
theorem dX9_ordersStatus_73 : decode cX9_ordersStatus 73 = .ok (.iload_n 2, 1) := by decide +kernel
theorem dX9_ordersStatus_74 : decode cX9_ordersStatus 74 = .ok (.iload_n 3, 1) := by decide +kernel
theorem dX9_ordersStatus_75 : decode cX9_ordersStatus 75 = .ok (.iload 4, 2) := by decide +kernel
theorem dX9_ordersStatus_77 : decode cX9_ordersStatus 77 = .ok (.iconst 4, 1) := by decide +kernel
theorem dX9_ordersStatus_78 : decode cX9_ordersStatus 78 = .ok (.if_icmp .ne 7, 3) := by decide +kernel
theorem dX9_ordersStatus_81 : decode cX9_ordersStatus 81 = .ok (.iconst 1, 1) := by decide +kernel
theorem dX9_ordersStatus_82 : decode cX9_ordersStatus 82 = .ok (.goto 14, 3) := by decide +kernel
theorem dX9_ordersStatus_85 : decode cX9_ordersStatus 85 = .ok (.iload 4, 2) := by decide +kernel
theorem dX9_ordersStatus_87 : decode cX9_ordersStatus 87 = .ok (.iconst 5, 1) := by decide +kernel
theorem dX9_ordersStatus_88 : decode cX9_ordersStatus 88 = .ok (.if_icmp .ne 7, 3) := by decide +kernel
theorem dX9_ordersStatus_91 : decode cX9_ordersStatus 91 = .ok (.iconst 3, 1) := by decide +kernel
theorem dX9_ordersStatus_92 : decode cX9_ordersStatus 92 = .ok (.goto 4, 3) := by decide +kernel
theorem dX9_ordersStatus_95 : decode cX9_ordersStatus 95 = .ok (.iconst 0, 1) := by decide +kernel
theorem dX9_ordersStatus_96 : decode cX9_ordersStatus 96 = .ok (.invokevirtual 156, 3) := by decide +kernel
theorem dX9_ordersStatus_99 : decode cX9_ordersStatus 99 = .ok (.aload_n 0, 1) := by decide +kernel
theorem dX9_ordersStatus_100 : decode cX9_ordersStatus 100 = .ok (.getfield 47, 3) := by decide +kernel
theorem dX9_ordersStatus_103 : decode cX9_ordersStatus 103 = .ok (.bipush 9, 2) := by decide +kernel
theorem dX9_ordersStatus_105 : decode cX9_ordersStatus 105 = .ok (.iload_n 2, 1) := by decide +kernel
theorem dX9_ordersStatus_106 : decode cX9_ordersStatus 106 = .ok (.imul, 1) := by decide +kernel
theorem dX9_ordersStatus_107 : decode cX9_ordersStatus 107 = .ok (.iload_n 3, 1) := by decide +kernel
theorem dX9_ordersStatus_108 : decode cX9_ordersStatus 108 = .ok (.iadd, 1) := by decide +kernel
theorem dX9_ordersStatus_109 : decode cX9_ordersStatus 109 = .ok (.iconst 1, 1) := by decide +kernel
theorem dX9_ordersStatus_110 : decode cX9_ordersStatus 110 = .ok (.isub, 1) := by decide +kernel
theorem dX9_ordersStatus_111 : decode cX9_ordersStatus 111 = .ok (.iload 4, 2) := by decide +kernel
theorem dX9_ordersStatus_113 : decode cX9_ordersStatus 113 = .ok (.iconst 4, 1) := by decide +kernel
theorem dX9_ordersStatus_114 : decode cX9_ordersStatus 114 = .ok (.if_icmp .ne 7, 3) := by decide +kernel
theorem dX9_ordersStatus_117 : decode cX9_ordersStatus 117 = .ok (.iload_n 1, 1) := by decide +kernel
theorem dX9_ordersStatus_118 : decode cX9_ordersStatus 118 = .ok (.goto 4, 3) := by decide +kernel
theorem dX9_ordersStatus_121 : decode cX9_ordersStatus 121 = .ok (.iconst (-1), 1) := by decide +kernel
theorem dX9_ordersStatus_122 : decode cX9_ordersStatus 122 = .ok (.iastore, 1) := by decide +kernel
theorem dX9_ordersStatus_123 : decode cX9_ordersStatus 123 = .ok (.iconst 0, 1) := by decide +kernel
theorem dX9_ordersStatus_124 : decode cX9_ordersStatus 124 = .ok (.ireturn, 1) := by decide +kernel
set_option maxRecDepth 20000 in
theorem ggX9_ordersCell_X9_rowAt : GoodIn wsX9_ordersCell wsX9_rowAt := goodIn_r _ [5] (by decide +kernel) (by decide +kernel)
set_option maxRecDepth 20000 in
theorem gX9_ordersCell_X9_rowAt : GoodIn wsX9_ordersCell (va_wsS RX9 69 yX9_rowAt wsX9_rowAt) := goodIn_app (goodIn_of _ (by decide +kernel)) ggX9_ordersCell_X9_rowAt
set_option maxRecDepth 20000 in
theorem ggX9_ordersCell_X9_missing : GoodIn wsX9_ordersCell wsX9_missing := goodIn_r _ [9, 1, 10, 11, 12, 4, 13, 14, 15, 16, 17, 18, 19, 20, 21, 22, 23, 24, 25, 26, 27, 28, 29, 30, 31, 2, 3, 5, 32, 33, 34, 35, 36, 37, 38, 39, 40, 41, 42, 43, 44, 45, 46, 47, 48, 49, 50, 51, 52, 53] (by decide +kernel) (by decide +kernel)
set_option maxRecDepth 20000 in
theorem gX9_ordersCell_X9_missing : GoodIn wsX9_ordersCell (wsV RX9 160 RX9 yX9_missing wsX9_missing) := goodIn_app (goodIn_of _ (by decide +kernel)) ggX9_ordersCell_X9_missing
theorem dX9_ordersCell_0 : decode cX9_ordersCell 0 = .ok (.iload_n 1, 1) := by decide +kernel
theorem dX9_ordersCell_1 : decode cX9_ordersCell 1 = .ok (.iload_n 3, 1) := by decide +kernel
theorem dX9_ordersCell_2 : decode cX9_ordersCell 2 = .ok (.invokestatic 69, 3) := by decide +kernel
theorem dX9_ordersCell_5 : decode cX9_ordersCell 5 = .ok (.istore 5, 2) := by decide +kernel
theorem dX9_ordersCell_7 : decode cX9_ordersCell 7 = .ok (.aload_n 0, 1) := by decide +kernel
theorem dX9_ordersCell_8 : decode cX9_ordersCell 8 = .ok (.getfield 13, 3) := by decide +kernel
theorem dX9_ordersCell_11 : decode cX9_ordersCell 11 = .ok (.iload 5, 2) := by decide +kernel
theorem dX9_ordersCell_13 : decode cX9_ordersCell 13 = .ok (.iaload, 1) := by decide +kernel
theorem dX9_ordersCell_14 : decode cX9_ordersCell 14 = .ok (.ifCond .ne 5, 3) := by decide +kernel
theorem dX9_ordersCell_17 : decode cX9_ordersCell 17 = .ok (.iconst 4, 1) := by decide +kernel
theorem dX9_ordersCell_18 : decode cX9_ordersCell 18 = .ok (.ireturn, 1) := by decide +kernel
theorem dX9_ordersCell_19 : decode cX9_ordersCell 19 = .ok (.aload_n 0, 1) := by decide +kernel
theorem dX9_ordersCell_20 : decode cX9_ordersCell 20 = .ok (.getfield 13, 3) := by decide +kernel
theorem dX9_ordersCell_23 : decode cX9_ordersCell 23 = .ok (.iload 5, 2) := by decide +kernel
theorem dX9_ordersCell_25 : decode cX9_ordersCell 25 = .ok (.iload_n 2, 1) := by decide +kernel
theorem dX9_ordersCell_26 : decode cX9_ordersCell 26 = .ok (.iadd, 1) := by decide +kernel
theorem dX9_ordersCell_27 : decode cX9_ordersCell 27 = .ok (.iload 4, 2) := by decide +kernel
theorem dX9_ordersCell_29 : decode cX9_ordersCell 29 = .ok (.iastore, 1) := by decide +kernel
theorem dX9_ordersCell_30 : decode cX9_ordersCell 30 = .ok (.aload_n 0, 1) := by decide +kernel
theorem dX9_ordersCell_31 : decode cX9_ordersCell 31 = .ok (.getfield 13, 3) := by decide +kernel
theorem dX9_ordersCell_34 : decode cX9_ordersCell 34 = .ok (.iload 5, 2) := by decide +kernel
theorem dX9_ordersCell_36 : decode cX9_ordersCell 36 = .ok (.aload_n 0, 1) := by decide +kernel
theorem dX9_ordersCell_37 : decode cX9_ordersCell 37 = .ok (.getfield 13, 3) := by decide +kernel
theorem dX9_ordersCell_40 : decode cX9_ordersCell 40 = .ok (.iload 5, 2) := by decide +kernel
theorem dX9_ordersCell_42 : decode cX9_ordersCell 42 = .ok (.iaload, 1) := by decide +kernel
theorem dX9_ordersCell_43 : decode cX9_ordersCell 43 = .ok (.iconst 3, 1) := by decide +kernel
theorem dX9_ordersCell_44 : decode cX9_ordersCell 44 = .ok (.if_icmp .ne 16, 3) := by decide +kernel
theorem dX9_ordersCell_47 : decode cX9_ordersCell 47 = .ok (.aload_n 0, 1) := by decide +kernel
theorem dX9_ordersCell_48 : decode cX9_ordersCell 48 = .ok (.iload_n 1, 1) := by decide +kernel
theorem dX9_ordersCell_49 : decode cX9_ordersCell 49 = .ok (.iload_n 3, 1) := by decide +kernel
theorem dX9_ordersCell_50 : decode cX9_ordersCell 50 = .ok (.invokevirtual 160, 3) := by decide +kernel
theorem dX9_ordersCell_53 : decode cX9_ordersCell 53 = .ok (.ifCond .ne 7, 3) := by decide +kernel
theorem dX9_ordersCell_56 : decode cX9_ordersCell 56 = .ok (.iconst 2, 1) := by decide +kernel
theorem dX9_ordersCell_57 : decode cX9_ordersCell 57 = .ok (.goto 10, 3) := by decide +kernel
theorem dX9_ordersCell_60 : decode cX9_ordersCell 60 = .ok (.aload_n 0, 1) := by decide +kernel
theorem dX9_ordersCell_61 : decode cX9_ordersCell 61 = .ok (.getfield 13, 3) := by decide +kernel
theorem dX9_ordersCell_64 : decode cX9_ordersCell 64 = .ok (.iload 5, 2) := by decide +kernel
theorem dX9_ordersCell_66 : decode cX9_ordersCell 66 = .ok (.iaload, 1) := by decide +kernel
theorem dX9_ordersCell_67 : decode cX9_ordersCell 67 = .ok (.iastore, 1) := by decide +kernel
theorem dX9_ordersCell_68 : decode cX9_ordersCell 68 = .ok (.iconst 0, 1) := by decide +kernel
theorem dX9_ordersCell_69 : decode cX9_ordersCell 69 = .ok (.ireturn, 1) := by decide +kernel
set_option maxRecDepth 20000 in
theorem ggX9_ordersTable_X9_part : GoodIn wsX9_ordersTable wsX9_part := goodIn_r _ [6, 7, 56, 57, 58, 59, 60, 61, 62, 63, 64, 65, 66, 67, 68, 69, 70, 71, 72, 73, 74, 75, 76, 77] (by decide +kernel) (by decide +kernel)
set_option maxRecDepth 20000 in
theorem gX9_ordersTable_X9_part : GoodIn wsX9_ordersTable (wsV RX9 50 RX9 yX9_part wsX9_part) := goodIn_app (goodIn_of _ (by decide +kernel)) ggX9_ordersTable_X9_part
set_option maxRecDepth 20000 in
theorem ggX9_ordersTable_X9_within : GoodIn wsX9_ordersTable wsX9_within := goodIn_r _ [10] (by decide +kernel) (by decide +kernel)
set_option maxRecDepth 20000 in
theorem gX9_ordersTable_X9_within : GoodIn wsX9_ordersTable (va_wsS RX9 98 yX9_within wsX9_within) := goodIn_app (goodIn_of _ (by decide +kernel)) ggX9_ordersTable_X9_within
set_option maxRecDepth 20000 in
theorem ggX9_ordersTable_X9_tableOf : GoodIn wsX9_ordersTable wsX9_tableOf := goodIn_r _ [14, 15, 16, 17, 5, 18, 2, 3, 4, 6, 7, 56, 57, 58, 59, 60, 61, 62, 63, 64, 65, 66, 67, 68, 69, 70, 71, 72, 73, 74, 75, 76, 77] (by decide +kernel) (by decide +kernel)
set_option maxRecDepth 20000 in
theorem gX9_ordersTable_X9_tableOf : GoodIn wsX9_ordersTable (wsV RX9 62 RX9 yX9_tableOf wsX9_tableOf) := goodIn_app (goodIn_of _ (by decide +kernel)) ggX9_ordersTable_X9_tableOf
set_option maxRecDepth 20000 in
theorem ggX9_ordersTable_X9_ordersStatus : GoodIn wsX9_ordersTable wsX9_ordersStatus := goodIn_r _ [22, 23, 24, 25, 26, 5, 27, 28, 29, 30, 31, 32, 33, 34, 8, 9, 10, 35, 36, 37, 38, 56, 57, 58, 59, 60, 61, 62, 63, 64, 65, 66, 67, 68, 69, 70, 71, 72, 73, 74, 75, 76, 77] (by decide +kernel) (by decide +kernel)
set_option maxRecDepth 20000 in
theorem gX9_ordersTable_X9_ordersStatus : GoodIn wsX9_ordersTable (wsV RX9 163 RX9 yX9_ordersStatus wsX9_ordersStatus) := goodIn_app (goodIn_of _ (by decide +kernel)) ggX9_ordersTable_X9_ordersStatus
set_option maxRecDepth 20000 in
theorem ggX9_ordersTable_X9_ordersCell : GoodIn wsX9_ordersTable wsX9_ordersCell := goodIn_r _ [42, 23, 32, 33, 5, 34, 43, 44, 45, 46, 47, 48, 49, 50, 51, 52, 53, 54, 55, 15, 16, 17, 18, 2, 3, 4, 6, 7, 11, 12, 13, 14, 56, 57, 58, 59, 60, 61, 62, 63, 64, 65, 66, 67, 68, 69, 70, 71, 72, 73, 74, 75, 76, 77] (by decide +kernel) (by decide +kernel)
set_option maxRecDepth 20000 in
theorem gX9_ordersTable_X9_ordersCell : GoodIn wsX9_ordersTable (wsV RX9 167 RX9 yX9_ordersCell wsX9_ordersCell) := goodIn_app (goodIn_of _ (by decide +kernel)) ggX9_ordersTable_X9_ordersCell
theorem dX9_ordersTable_0 : decode cX9_ordersTable 0 = .ok (.aload_n 0, 1) := by decide +kernel
theorem dX9_ordersTable_1 : decode cX9_ordersTable 1 = .ok (.getfield 44, 3) := by decide +kernel
theorem dX9_ordersTable_4 : decode cX9_ordersTable 4 = .ok (.iconst 5, 1) := by decide +kernel
theorem dX9_ordersTable_5 : decode cX9_ordersTable 5 = .ok (.iload_n 1, 1) := by decide +kernel
theorem dX9_ordersTable_6 : decode cX9_ordersTable 6 = .ok (.imul, 1) := by decide +kernel
theorem dX9_ordersTable_7 : decode cX9_ordersTable 7 = .ok (.iconst 2, 1) := by decide +kernel
theorem dX9_ordersTable_8 : decode cX9_ordersTable 8 = .ok (.iadd, 1) := by decide +kernel
theorem dX9_ordersTable_9 : decode cX9_ordersTable 9 = .ok (.iaload, 1) := by decide +kernel
theorem dX9_ordersTable_10 : decode cX9_ordersTable 10 = .ok (.istore_n 3, 1) := by decide +kernel
theorem dX9_ordersTable_11 : decode cX9_ordersTable 11 = .ok (.aload_n 0, 1) := by decide +kernel
theorem dX9_ordersTable_12 : decode cX9_ordersTable 12 = .ok (.getfield 44, 3) := by decide +kernel
theorem dX9_ordersTable_15 : decode cX9_ordersTable 15 = .ok (.iconst 5, 1) := by decide +kernel
theorem dX9_ordersTable_16 : decode cX9_ordersTable 16 = .ok (.iload_n 1, 1) := by decide +kernel
theorem dX9_ordersTable_17 : decode cX9_ordersTable 17 = .ok (.imul, 1) := by decide +kernel
theorem dX9_ordersTable_18 : decode cX9_ordersTable 18 = .ok (.iconst 3, 1) := by decide +kernel
theorem dX9_ordersTable_19 : decode cX9_ordersTable 19 = .ok (.iadd, 1) := by decide +kernel
theorem dX9_ordersTable_20 : decode cX9_ordersTable 20 = .ok (.iaload, 1) := by decide +kernel
theorem dX9_ordersTable_21 : decode cX9_ordersTable 21 = .ok (.istore 4, 2) := by decide +kernel
theorem dX9_ordersTable_23 : decode cX9_ordersTable 23 = .ok (.iload_n 3, 1) := by decide +kernel
theorem dX9_ordersTable_24 : decode cX9_ordersTable 24 = .ok (.iconst 0, 1) := by decide +kernel
theorem dX9_ordersTable_25 : decode cX9_ordersTable 25 = .ok (.aload_n 0, 1) := by decide +kernel
theorem dX9_ordersTable_26 : decode cX9_ordersTable 26 = .ok (.iload_n 2, 1) := by decide +kernel
theorem dX9_ordersTable_27 : decode cX9_ordersTable 27 = .ok (.iconst 3, 1) := by decide +kernel
theorem dX9_ordersTable_28 : decode cX9_ordersTable 28 = .ok (.invokevirtual 50, 3) := by decide +kernel
theorem dX9_ordersTable_31 : decode cX9_ordersTable 31 = .ok (.invokestatic 98, 3) := by decide +kernel
theorem dX9_ordersTable_34 : decode cX9_ordersTable 34 = .ok (.ifCond .eq 9, 3) := by decide +kernel
theorem dX9_ordersTable_37 : decode cX9_ordersTable 37 = .ok (.iload 4, 2) := by decide +kernel
theorem dX9_ordersTable_39 : decode cX9_ordersTable 39 = .ok (.iconst 1, 1) := by decide +kernel
theorem dX9_ordersTable_40 : decode cX9_ordersTable 40 = .ok (.if_icmp .ge 5, 3) := by decide +kernel
theorem dX9_ordersTable_43 : decode cX9_ordersTable 43 = .ok (.iconst 1, 1) := by decide +kernel
theorem dX9_ordersTable_44 : decode cX9_ordersTable 44 = .ok (.ireturn, 1) := by decide +kernel
theorem dX9_ordersTable_45 : decode cX9_ordersTable 45 = .ok (.aload_n 0, 1) := by decide +kernel
theorem dX9_ordersTable_46 : decode cX9_ordersTable 46 = .ok (.getfield 44, 3) := by decide +kernel
theorem dX9_ordersTable_49 : decode cX9_ordersTable 49 = .ok (.iconst 5, 1) := by decide +kernel
theorem dX9_ordersTable_50 : decode cX9_ordersTable 50 = .ok (.iload_n 1, 1) := by decide +kernel
theorem dX9_ordersTable_51 : decode cX9_ordersTable 51 = .ok (.imul, 1) := by decide +kernel
theorem dX9_ordersTable_52 : decode cX9_ordersTable 52 = .ok (.iconst 4, 1) := by decide +kernel
theorem dX9_ordersTable_53 : decode cX9_ordersTable 53 = .ok (.iadd, 1) := by decide +kernel
theorem dX9_ordersTable_54 : decode cX9_ordersTable 54 = .ok (.iaload, 1) := by decide +kernel
theorem dX9_ordersTable_55 : decode cX9_ordersTable 55 = .ok (.istore 5, 2) := by decide +kernel
theorem dX9_ordersTable_57 : decode cX9_ordersTable 57 = .ok (.aload_n 0, 1) := by decide +kernel
theorem dX9_ordersTable_58 : decode cX9_ordersTable 58 = .ok (.iload_n 2, 1) := by decide +kernel
theorem dX9_ordersTable_59 : decode cX9_ordersTable 59 = .ok (.invokevirtual 62, 3) := by decide +kernel
theorem dX9_ordersTable_62 : decode cX9_ordersTable 62 = .ok (.istore 6, 2) := by decide +kernel
theorem dX9_ordersTable_64 : decode cX9_ordersTable 64 = .ok (.iload_n 3, 1) := by decide +kernel
theorem dX9_ordersTable_65 : decode cX9_ordersTable 65 = .ok (.ifCond .ne 17, 3) := by decide +kernel
theorem dX9_ordersTable_68 : decode cX9_ordersTable 68 = .ok (.aload_n 0, 1) := by decide +kernel
theorem dX9_ordersTable_69 : decode cX9_ordersTable 69 = .ok (.iload_n 1, 1) := by decide +kernel
theorem dX9_ordersTable_70 : decode cX9_ordersTable 70 = .ok (.iload 6, 2) := by decide +kernel
theorem dX9_ordersTable_72 : decode cX9_ordersTable 72 = .ok (.iload 4, 2) := by decide +kernel
theorem dX9_ordersTable_74 : decode cX9_ordersTable 74 = .ok (.iload 5, 2) := by decide +kernel
theorem dX9_ordersTable_76 : decode cX9_ordersTable 76 = .ok (.invokevirtual 163, 3) := by decide +kernel
theorem dX9_ordersTable_79 : decode cX9_ordersTable 79 = .ok (.goto 14, 3) := by decide +kernel
theorem dX9_ordersTable_82 : decode cX9_ordersTable 82 = .ok (.aload_n 0, 1) := by decide +kernel
theorem dX9_ordersTable_83 : decode cX9_ordersTable 83 = .ok (.iload 6, 2) := by decide +kernel
theorem dX9_ordersTable_85 : decode cX9_ordersTable 85 = .ok (.iload_n 3, 1) := by decide +kernel
theorem dX9_ordersTable_86 : decode cX9_ordersTable 86 = .ok (.iload 4, 2) := by decide +kernel
theorem dX9_ordersTable_88 : decode cX9_ordersTable 88 = .ok (.iload 5, 2) := by decide +kernel
theorem dX9_ordersTable_90 : decode cX9_ordersTable 90 = .ok (.invokevirtual 167, 3) := by decide +kernel
theorem dX9_ordersTable_93 : decode cX9_ordersTable 93 = .ok (.ireturn, 1) := by decide +kernel
set_option maxRecDepth 20000 in
theorem ggX9_does_X9_branchOf : GoodIn wsX9_does wsX9_branchOf := goodIn_r _ [7, 8, 9, 10, 11, 6, 12, 13, 64, 65, 66, 67, 68, 69, 70, 71, 72, 73, 74, 75, 76, 77, 78, 79, 80, 81, 82, 83, 84, 85] (by decide +kernel) (by decide +kernel)
set_option maxRecDepth 20000 in
theorem gX9_does_X9_branchOf : GoodIn wsX9_does (wsV RX9 170 RX9 yX9_branchOf wsX9_branchOf) := goodIn_app (goodIn_of _ (by decide +kernel)) ggX9_does_X9_branchOf
set_option maxRecDepth 20000 in
theorem ggX9_does_X9_isTable : GoodIn wsX9_does wsX9_isTable := goodIn_r _ [17, 9, 10, 11, 6, 12, 13, 64, 65, 66, 67, 68, 69, 70, 71, 72, 73, 74, 75, 76, 77, 78, 79, 80, 81, 82, 83, 84, 85] (by decide +kernel) (by decide +kernel)
set_option maxRecDepth 20000 in
theorem gX9_does_X9_isTable : GoodIn wsX9_does (wsV RX9 58 RX9 yX9_isTable wsX9_isTable) := goodIn_app (goodIn_of _ (by decide +kernel)) ggX9_does_X9_isTable
set_option maxRecDepth 20000 in
theorem ggX9_does_X9_ordersTable : GoodIn wsX9_does wsX9_ordersTable := goodIn_r _ [21, 1, 9, 10, 11, 6, 12, 13, 22, 23, 24, 25, 26, 27, 28, 14, 15, 16, 17, 29, 30, 31, 32, 2, 33, 34, 35, 36, 37, 38, 39, 40, 41, 42, 43, 44, 45, 46, 47, 48, 49, 50, 51, 52, 53, 54, 55, 56, 57, 58, 59, 60, 61, 62, 63, 8, 64, 65, 66, 67, 68, 69, 70, 71, 72, 73, 74, 75, 76, 77, 78, 79, 80, 81, 82, 83, 84, 85] (by decide +kernel) (by decide +kernel)
set_option maxRecDepth 20000 in
theorem gX9_does_X9_ordersTable : GoodIn wsX9_does (wsV RX9 173 RX9 yX9_ordersTable wsX9_ordersTable) := goodIn_app (goodIn_of _ (by decide +kernel)) ggX9_does_X9_ordersTable
set_option maxRecDepth 20000 in
theorem ggX9_does_X9_part : GoodIn wsX9_does wsX9_part := goodIn_r _ [12, 13, 64, 65, 66, 67, 68, 69, 70, 71, 72, 73, 74, 75, 76, 77, 78, 79, 80, 81, 82, 83, 84, 85] (by decide +kernel) (by decide +kernel)
set_option maxRecDepth 20000 in
theorem gX9_does_X9_part : GoodIn wsX9_does (wsV RX9 50 RX9 yX9_part wsX9_part) := goodIn_app (goodIn_of _ (by decide +kernel)) ggX9_does_X9_part
set_option maxRecDepth 20000 in
theorem ggX9_does_X9_within : GoodIn wsX9_does wsX9_within := goodIn_r _ [24] (by decide +kernel) (by decide +kernel)
set_option maxRecDepth 20000 in
theorem gX9_does_X9_within : GoodIn wsX9_does (va_wsS RX9 98 yX9_within wsX9_within) := goodIn_app (goodIn_of _ (by decide +kernel)) ggX9_does_X9_within
theorem dX9_does_0 : decode cX9_does 0 = .ok (.aload_n 0, 1) := by decide +kernel
theorem dX9_does_1 : decode cX9_does 1 = .ok (.aload_n 0, 1) := by decide +kernel
theorem dX9_does_2 : decode cX9_does 2 = .ok (.getfield 44, 3) := by decide +kernel
theorem dX9_does_5 : decode cX9_does 5 = .ok (.iconst 5, 1) := by decide +kernel
theorem dX9_does_6 : decode cX9_does 6 = .ok (.iload_n 1, 1) := by decide +kernel
theorem dX9_does_7 : decode cX9_does 7 = .ok (.imul, 1) := by decide +kernel
theorem dX9_does_8 : decode cX9_does 8 = .ok (.iaload, 1) := by decide +kernel
theorem dX9_does_9 : decode cX9_does 9 = .ok (.aload_n 0, 1) := by decide +kernel
theorem dX9_does_10 : decode cX9_does 10 = .ok (.getfield 44, 3) := by decide +kernel
theorem dX9_does_13 : decode cX9_does 13 = .ok (.iconst 5, 1) := by decide +kernel
theorem dX9_does_14 : decode cX9_does 14 = .ok (.iload_n 1, 1) := by decide +kernel
theorem dX9_does_15 : decode cX9_does 15 = .ok (.imul, 1) := by decide +kernel
theorem dX9_does_16 : decode cX9_does 16 = .ok (.iconst 1, 1) := by decide +kernel
theorem dX9_does_17 : decode cX9_does 17 = .ok (.iadd, 1) := by decide +kernel
theorem dX9_does_18 : decode cX9_does 18 = .ok (.iaload, 1) := by decide +kernel
theorem dX9_does_19 : decode cX9_does 19 = .ok (.invokevirtual 170, 3) := by decide +kernel
theorem dX9_does_22 : decode cX9_does 22 = .ok (.istore_n 2, 1) := by decide +kernel
theorem dX9_does_23 : decode cX9_does 23 = .ok (.iload_n 2, 1) := by decide +kernel
theorem dX9_does_24 : decode cX9_does 24 = .ok (.bipush (-9), 2) := by decide +kernel
theorem dX9_does_26 : decode cX9_does 26 = .ok (.if_icmp .ne 5, 3) := by decide +kernel
theorem dX9_does_29 : decode cX9_does 29 = .ok (.iconst 1, 1) := by decide +kernel
theorem dX9_does_30 : decode cX9_does 30 = .ok (.ireturn, 1) := by decide +kernel
theorem dX9_does_31 : decode cX9_does 31 = .ok (.aload_n 0, 1) := by decide +kernel
theorem dX9_does_32 : decode cX9_does 32 = .ok (.iload_n 2, 1) := by decide +kernel
theorem dX9_does_33 : decode cX9_does 33 = .ok (.invokevirtual 58, 3) := by decide +kernel
theorem dX9_does_36 : decode cX9_does 36 = .ok (.ifCond .eq 10, 3) := by decide +kernel
theorem dX9_does_39 : decode cX9_does 39 = .ok (.aload_n 0, 1) := by decide +kernel
theorem dX9_does_40 : decode cX9_does 40 = .ok (.iload_n 1, 1) := by decide +kernel
theorem dX9_does_41 : decode cX9_does 41 = .ok (.iload_n 2, 1) := by decide +kernel
theorem dX9_does_42 : decode cX9_does 42 = .ok (.invokevirtual 173, 3) := by decide +kernel
theorem dX9_does_45 : decode cX9_does 45 = .ok (.ireturn, 1) := by decide +kernel
theorem dX9_does_46 : decode cX9_does 46 = .ok (.aload_n 0, 1) := by decide +kernel
theorem dX9_does_47 : decode cX9_does 47 = .ok (.getfield 44, 3) := by decide +kernel
theorem dX9_does_50 : decode cX9_does 50 = .ok (.iconst 5, 1) := by decide +kernel
theorem dX9_does_51 : decode cX9_does 51 = .ok (.iload_n 1, 1) := by decide +kernel
theorem dX9_does_52 : decode cX9_does 52 = .ok (.imul, 1) := by decide +kernel
theorem dX9_does_53 : decode cX9_does 53 = .ok (.iconst 2, 1) := by decide +kernel
theorem dX9_does_54 : decode cX9_does 54 = .ok (.iadd, 1) := by decide +kernel
theorem dX9_does_55 : decode cX9_does 55 = .ok (.iaload, 1) := by decide +kernel
theorem dX9_does_56 : decode cX9_does 56 = .ok (.ifCond .ne 16, 3) := by decide +kernel
theorem dX9_does_59 : decode cX9_does 59 = .ok (.aload_n 0, 1) := by decide +kernel
theorem dX9_does_60 : decode cX9_does 60 = .ok (.getfield 44, 3) := by decide +kernel
theorem dX9_does_63 : decode cX9_does 63 = .ok (.iconst 5, 1) := by decide +kernel
theorem dX9_does_64 : decode cX9_does 64 = .ok (.iload_n 1, 1) := by decide +kernel
theorem dX9_does_65 : decode cX9_does 65 = .ok (.imul, 1) := by decide +kernel
theorem dX9_does_66 : decode cX9_does 66 = .ok (.iconst 3, 1) := by decide +kernel
theorem dX9_does_67 : decode cX9_does 67 = .ok (.iadd, 1) := by decide +kernel
theorem dX9_does_68 : decode cX9_does 68 = .ok (.iaload, 1) := by decide +kernel
theorem dX9_does_69 : decode cX9_does 69 = .ok (.ifCond .lt 5, 3) := by decide +kernel
theorem dX9_does_72 : decode cX9_does 72 = .ok (.iconst 1, 1) := by decide +kernel
theorem dX9_does_73 : decode cX9_does 73 = .ok (.ireturn, 1) := by decide +kernel
theorem dX9_does_74 : decode cX9_does 74 = .ok (.aload_n 0, 1) := by decide +kernel
theorem dX9_does_75 : decode cX9_does 75 = .ok (.iload_n 2, 1) := by decide +kernel
theorem dX9_does_76 : decode cX9_does 76 = .ok (.iconst 2, 1) := by decide +kernel
theorem dX9_does_77 : decode cX9_does 77 = .ok (.invokevirtual 50, 3) := by decide +kernel
theorem dX9_does_80 : decode cX9_does 80 = .ok (.iconst 1, 1) := by decide +kernel
theorem dX9_does_81 : decode cX9_does 81 = .ok (.if_icmp .ne 5, 3) := by decide +kernel
theorem dX9_does_84 : decode cX9_does 84 = .ok (.iconst 2, 1) := by decide +kernel
theorem dX9_does_85 : decode cX9_does 85 = .ok (.ireturn, 1) := by decide +kernel
theorem dX9_does_86 : decode cX9_does 86 = .ok (.aload_n 0, 1) := by decide +kernel
theorem dX9_does_87 : decode cX9_does 87 = .ok (.getfield 44, 3) := by decide +kernel
theorem dX9_does_90 : decode cX9_does 90 = .ok (.iconst 5, 1) := by decide +kernel
theorem dX9_does_91 : decode cX9_does 91 = .ok (.iload_n 1, 1) := by decide +kernel
theorem dX9_does_92 : decode cX9_does 92 = .ok (.imul, 1) := by decide +kernel
theorem dX9_does_93 : decode cX9_does 93 = .ok (.iconst 4, 1) := by decide +kernel
theorem dX9_does_94 : decode cX9_does 94 = .ok (.iadd, 1) := by decide +kernel
theorem dX9_does_95 : decode cX9_does 95 = .ok (.iaload, 1) := by decide +kernel
theorem dX9_does_96 : decode cX9_does 96 = .ok (.istore_n 3, 1) := by decide +kernel
theorem dX9_does_97 : decode cX9_does 97 = .ok (.iload_n 3, 1) := by decide +kernel
theorem dX9_does_98 : decode cX9_does 98 = .ok (.aload_n 0, 1) := by decide +kernel
theorem dX9_does_99 : decode cX9_does 99 = .ok (.iload_n 2, 1) := by decide +kernel
theorem dX9_does_100 : decode cX9_does 100 = .ok (.iconst 3, 1) := by decide +kernel
theorem dX9_does_101 : decode cX9_does 101 = .ok (.invokevirtual 50, 3) := by decide +kernel
theorem dX9_does_104 : decode cX9_does 104 = .ok (.aload_n 0, 1) := by decide +kernel
theorem dX9_does_105 : decode cX9_does 105 = .ok (.iload_n 2, 1) := by decide +kernel
theorem dX9_does_106 : decode cX9_does 106 = .ok (.iconst 4, 1) := by decide +kernel
theorem dX9_does_107 : decode cX9_does 107 = .ok (.invokevirtual 50, 3) := by decide +kernel
theorem dX9_does_110 : decode cX9_does 110 = .ok (.invokestatic 98, 3) := by decide +kernel
theorem dX9_does_113 : decode cX9_does 113 = .ok (.ifCond .ne 5, 3) := by decide +kernel
theorem dX9_does_116 : decode cX9_does 116 = .ok (.iconst 3, 1) := by decide +kernel
theorem dX9_does_117 : decode cX9_does 117 = .ok (.ireturn, 1) := by decide +kernel
theorem dX9_does_118 : decode cX9_does 118 = .ok (.aload_n 0, 1) := by decide +kernel
theorem dX9_does_119 : decode cX9_does 119 = .ok (.getfield 13, 3) := by decide +kernel
theorem dX9_does_122 : decode cX9_does 122 = .ok (.iload_n 2, 1) := by decide +kernel
theorem dX9_does_123 : decode cX9_does 123 = .ok (.iload_n 3, 1) := by decide +kernel
theorem dX9_does_124 : decode cX9_does 124 = .ok (.iastore, 1) := by decide +kernel
theorem dX9_does_125 : decode cX9_does 125 = .ok (.iconst 0, 1) := by decide +kernel
theorem dX9_does_126 : decode cX9_does 126 = .ok (.ireturn, 1) := by decide +kernel
set_option maxRecDepth 20000 in
theorem ggX9_lacking_X9_tables : GoodIn wsX9_lacking wsX9_tables := goodIn_r _ [6, 7, 8, 9, 10, 5, 11, 12, 13, 14, 15, 16, 41, 42, 43, 44, 45, 46, 47, 48, 49, 50, 51, 52, 53, 54, 55, 56, 57, 58, 59, 60, 61, 62] (by decide +kernel) (by decide +kernel)
set_option maxRecDepth 20000 in
theorem gX9_lacking_X9_tables : GoodIn wsX9_lacking (wsV RX9 176 RX9 yX9_tables wsX9_tables) := goodIn_app (goodIn_of _ (by decide +kernel)) ggX9_lacking_X9_tables
set_option maxRecDepth 20000 in
theorem ggX9_lacking_X9_statusOf : GoodIn wsX9_lacking wsX9_statusOf := goodIn_r _ [20, 21, 22, 23, 5, 24, 41, 42, 43, 44, 45, 46, 47, 48, 49, 50, 51, 52, 53, 54, 55, 56, 57, 58, 59, 60, 61, 62] (by decide +kernel) (by decide +kernel)
set_option maxRecDepth 20000 in
theorem gX9_lacking_X9_statusOf : GoodIn wsX9_lacking (wsV RX9 78 RX9 yX9_statusOf wsX9_statusOf) := goodIn_app (goodIn_of _ (by decide +kernel)) ggX9_lacking_X9_statusOf
set_option maxRecDepth 20000 in
theorem ggX9_lacking_X9_missing : GoodIn wsX9_lacking wsX9_missing := goodIn_r _ [28, 21, 29, 30, 31, 5, 32, 33, 34, 35, 36, 7, 8, 9, 10, 11, 12, 13, 14, 15, 16, 37, 38, 39, 40, 22, 23, 24, 41, 42, 43, 44, 45, 46, 47, 48, 49, 50, 51, 52, 53, 54, 55, 56, 57, 58, 59, 60, 61, 62] (by decide +kernel) (by decide +kernel)
set_option maxRecDepth 20000 in
theorem gX9_lacking_X9_missing : GoodIn wsX9_lacking (wsV RX9 160 RX9 yX9_missing wsX9_missing) := goodIn_app (goodIn_of _ (by decide +kernel)) ggX9_lacking_X9_missing
theorem dX9_lacking_0 : decode cX9_lacking 0 = .ok (.bipush (-9), 2) := by decide +kernel
theorem dX9_lacking_2 : decode cX9_lacking 2 = .ok (.istore_n 1, 1) := by decide +kernel
theorem dX9_lacking_3 : decode cX9_lacking 3 = .ok (.iconst 0, 1) := by decide +kernel
theorem dX9_lacking_4 : decode cX9_lacking 4 = .ok (.istore_n 2, 1) := by decide +kernel
theorem dX9_lacking_5 : decode cX9_lacking 5 = .ok (.iload_n 2, 1) := by decide +kernel
theorem dX9_lacking_6 : decode cX9_lacking 6 = .ok (.bipush 9, 2) := by decide +kernel
theorem dX9_lacking_8 : decode cX9_lacking 8 = .ok (.aload_n 0, 1) := by decide +kernel
theorem dX9_lacking_9 : decode cX9_lacking 9 = .ok (.invokevirtual 176, 3) := by decide +kernel
theorem dX9_lacking_12 : decode cX9_lacking 12 = .ok (.imul, 1) := by decide +kernel
theorem dX9_lacking_13 : decode cX9_lacking 13 = .ok (.if_icmp .ge 91, 3) := by decide +kernel
theorem dX9_lacking_16 : decode cX9_lacking 16 = .ok (.iload_n 2, 1) := by decide +kernel
theorem dX9_lacking_17 : decode cX9_lacking 17 = .ok (.bipush 9, 2) := by decide +kernel
theorem dX9_lacking_19 : decode cX9_lacking 19 = .ok (.idiv, 1) := by decide +kernel
theorem dX9_lacking_20 : decode cX9_lacking 20 = .ok (.istore_n 3, 1) := by decide +kernel
theorem dX9_lacking_21 : decode cX9_lacking 21 = .ok (.iload_n 2, 1) := by decide +kernel
theorem dX9_lacking_22 : decode cX9_lacking 22 = .ok (.bipush 9, 2) := by decide +kernel
theorem dX9_lacking_24 : decode cX9_lacking 24 = .ok (.irem, 1) := by decide +kernel
theorem dX9_lacking_25 : decode cX9_lacking 25 = .ok (.iconst 1, 1) := by decide +kernel
theorem dX9_lacking_26 : decode cX9_lacking 26 = .ok (.iadd, 1) := by decide +kernel
theorem dX9_lacking_27 : decode cX9_lacking 27 = .ok (.istore 4, 2) := by decide +kernel
theorem dX9_lacking_29 : decode cX9_lacking 29 = .ok (.aload_n 0, 1) := by decide +kernel
theorem dX9_lacking_30 : decode cX9_lacking 30 = .ok (.getfield 47, 3) := by decide +kernel
theorem dX9_lacking_33 : decode cX9_lacking 33 = .ok (.iload_n 2, 1) := by decide +kernel
theorem dX9_lacking_34 : decode cX9_lacking 34 = .ok (.iaload, 1) := by decide +kernel
theorem dX9_lacking_35 : decode cX9_lacking 35 = .ok (.ifCond .lt 28, 3) := by decide +kernel
theorem dX9_lacking_38 : decode cX9_lacking 38 = .ok (.aload_n 0, 1) := by decide +kernel
theorem dX9_lacking_39 : decode cX9_lacking 39 = .ok (.iload_n 3, 1) := by decide +kernel
theorem dX9_lacking_40 : decode cX9_lacking 40 = .ok (.iload 4, 2) := by decide +kernel
theorem dX9_lacking_42 : decode cX9_lacking 42 = .ok (.invokevirtual 78, 3) := by decide +kernel
theorem dX9_lacking_45 : decode cX9_lacking 45 = .ok (.iconst 1, 1) := by decide +kernel
theorem dX9_lacking_46 : decode cX9_lacking 46 = .ok (.if_icmp .ne 17, 3) := by decide +kernel
theorem dX9_lacking_49 : decode cX9_lacking 49 = .ok (.aload_n 0, 1) := by decide +kernel
theorem dX9_lacking_50 : decode cX9_lacking 50 = .ok (.iload_n 3, 1) := by decide +kernel
theorem dX9_lacking_51 : decode cX9_lacking 51 = .ok (.iload 4, 2) := by decide +kernel
theorem dX9_lacking_53 : decode cX9_lacking 53 = .ok (.invokevirtual 160, 3) := by decide +kernel
theorem dX9_lacking_56 : decode cX9_lacking 56 = .ok (.ifCond .le 7, 3) := by decide +kernel
theorem dX9_lacking_59 : decode cX9_lacking 59 = .ok (.iconst 1, 1) := by decide +kernel
theorem dX9_lacking_60 : decode cX9_lacking 60 = .ok (.goto 4, 3) := by decide +kernel
theorem dX9_lacking_63 : decode cX9_lacking 63 = .ok (.iconst 0, 1) := by decide +kernel
theorem dX9_lacking_64 : decode cX9_lacking 64 = .ok (.istore 5, 2) := by decide +kernel
theorem dX9_lacking_66 : decode cX9_lacking 66 = .ok (.iload 5, 2) := by decide +kernel
theorem dX9_lacking_68 : decode cX9_lacking 68 = .ok (.ifCond .eq 28, 3) := by decide +kernel
theorem dX9_lacking_71 : decode cX9_lacking 71 = .ok (.iload_n 1, 1) := by decide +kernel
theorem dX9_lacking_72 : decode cX9_lacking 72 = .ok (.bipush (-9), 2) := by decide +kernel
theorem dX9_lacking_74 : decode cX9_lacking 74 = .ok (.if_icmp .eq 13, 3) := by decide +kernel
theorem dX9_lacking_77 : decode cX9_lacking 77 = .ok (.aload_n 0, 1) := by decide +kernel
theorem dX9_lacking_78 : decode cX9_lacking 78 = .ok (.getfield 47, 3) := by decide +kernel
theorem dX9_lacking_81 : decode cX9_lacking 81 = .ok (.iload_n 2, 1) := by decide +kernel
theorem dX9_lacking_82 : decode cX9_lacking 82 = .ok (.iaload, 1) := by decide +kernel
theorem dX9_lacking_83 : decode cX9_lacking 83 = .ok (.iload_n 1, 1) := by decide +kernel
theorem dX9_lacking_84 : decode cX9_lacking 84 = .ok (.if_icmp .ge 12, 3) := by decide +kernel
theorem dX9_lacking_87 : decode cX9_lacking 87 = .ok (.aload_n 0, 1) := by decide +kernel
theorem dX9_lacking_88 : decode cX9_lacking 88 = .ok (.getfield 47, 3) := by decide +kernel
theorem dX9_lacking_91 : decode cX9_lacking 91 = .ok (.iload_n 2, 1) := by decide +kernel
theorem dX9_lacking_92 : decode cX9_lacking 92 = .ok (.iaload, 1) := by decide +kernel
theorem dX9_lacking_93 : decode cX9_lacking 93 = .ok (.goto 4, 3) := by decide +kernel
theorem dX9_lacking_96 : decode cX9_lacking 96 = .ok (.iload_n 1, 1) := by decide +kernel
theorem dX9_lacking_97 : decode cX9_lacking 97 = .ok (.istore_n 1, 1) := by decide +kernel
theorem dX9_lacking_98 : decode cX9_lacking 98 = .ok (.iinc 2 1, 3) := by decide +kernel
theorem dX9_lacking_101 : decode cX9_lacking 101 = .ok (.goto (-96), 3) := by decide +kernel
theorem dX9_lacking_104 : decode cX9_lacking 104 = .ok (.iload_n 1, 1) := by decide +kernel
theorem dX9_lacking_105 : decode cX9_lacking 105 = .ok (.ireturn, 1) := by decide +kernel
set_option maxRecDepth 20000 in
theorem ggX9_doesAll_X9_does : GoodIn wsX9_doesAll wsX9_does := goodIn_r _ [7, 8, 9, 10, 11, 12, 6, 13, 14, 15, 16, 17, 18, 19, 20, 21, 22, 23, 24, 25, 26, 27, 28, 29, 30, 31, 32, 33, 34, 35, 36, 37, 38, 1, 39, 40, 41, 42, 43, 44, 45, 46, 47, 48, 49, 50, 51, 52, 53, 54, 55, 56, 57, 58, 59, 60, 61, 62, 63, 64, 65, 66, 67, 68, 77, 78, 79, 80, 81, 82, 83, 84, 85, 86, 87, 88, 89, 90, 91, 92, 93, 94, 95, 96, 97, 98] (by decide +kernel) (by decide +kernel)
set_option maxRecDepth 20000 in
theorem gX9_doesAll_X9_does : GoodIn wsX9_doesAll (wsV RX9 179 RX9 yX9_does wsX9_does) := goodIn_app (goodIn_of _ (by decide +kernel)) ggX9_doesAll_X9_does
set_option maxRecDepth 20000 in
theorem ggX9_doesAll_X9_lacking : GoodIn wsX9_doesAll wsX9_lacking := goodIn_r _ [72, 1, 73, 74, 75, 6, 76, 14, 20, 21, 22, 23, 15, 16, 17, 18, 19, 42, 43, 44, 45, 9, 46, 47, 48, 57, 58, 59, 60, 61, 62, 63, 64, 65, 66, 67, 68, 31, 32, 33, 34, 77, 78, 79, 80, 81, 82, 83, 84, 85, 86, 87, 88, 89, 90, 91, 92, 93, 94, 95, 96, 97, 98] (by decide +kernel) (by decide +kernel)
set_option maxRecDepth 20000 in
theorem gX9_doesAll_X9_lacking : GoodIn wsX9_doesAll (wsV RX9 182 RX9 yX9_lacking wsX9_lacking) := goodIn_app (goodIn_of _ (by decide +kernel)) ggX9_doesAll_X9_lacking
theorem dX9_doesAll_0 : decode cX9_doesAll 0 = .ok (.iconst 0, 1) := by decide +kernel
theorem dX9_doesAll_1 : decode cX9_doesAll 1 = .ok (.istore_n 1, 1) := by decide +kernel
theorem dX9_doesAll_2 : decode cX9_doesAll 2 = .ok (.iload_n 1, 1) := by decide +kernel
theorem dX9_doesAll_3 : decode cX9_doesAll 3 = .ok (.aload_n 0, 1) := by decide +kernel
theorem dX9_doesAll_4 : decode cX9_doesAll 4 = .ok (.getfield 47, 3) := by decide +kernel
theorem dX9_doesAll_7 : decode cX9_doesAll 7 = .ok (.arraylength, 1) := by decide +kernel
theorem dX9_doesAll_8 : decode cX9_doesAll 8 = .ok (.if_icmp .ge 16, 3) := by decide +kernel
theorem dX9_doesAll_11 : decode cX9_doesAll 11 = .ok (.aload_n 0, 1) := by decide +kernel
theorem dX9_doesAll_12 : decode cX9_doesAll 12 = .ok (.getfield 47, 3) := by decide +kernel
theorem dX9_doesAll_15 : decode cX9_doesAll 15 = .ok (.iload_n 1, 1) := by decide +kernel
theorem dX9_doesAll_16 : decode cX9_doesAll 16 = .ok (.iconst (-1), 1) := by decide +kernel
theorem dX9_doesAll_17 : decode cX9_doesAll 17 = .ok (.iastore, 1) := by decide +kernel
theorem dX9_doesAll_18 : decode cX9_doesAll 18 = .ok (.iinc 1 1, 3) := by decide +kernel
theorem dX9_doesAll_21 : decode cX9_doesAll 21 = .ok (.goto (-19), 3) := by decide +kernel
theorem dX9_doesAll_24 : decode cX9_doesAll 24 = .ok (.iconst 0, 1) := by decide +kernel
theorem dX9_doesAll_25 : decode cX9_doesAll 25 = .ok (.istore_n 1, 1) := by decide +kernel
theorem dX9_doesAll_26 : decode cX9_doesAll 26 = .ok (.iload_n 1, 1) := by decide +kernel
theorem dX9_doesAll_27 : decode cX9_doesAll 27 = .ok (.aload_n 0, 1) := by decide +kernel
theorem dX9_doesAll_28 : decode cX9_doesAll 28 = .ok (.getfield 147, 3) := by decide +kernel
theorem dX9_doesAll_31 : decode cX9_doesAll 31 = .ok (.if_icmp .ge 26, 3) := by decide +kernel
theorem dX9_doesAll_34 : decode cX9_doesAll 34 = .ok (.aload_n 0, 1) := by decide +kernel
theorem dX9_doesAll_35 : decode cX9_doesAll 35 = .ok (.iload_n 1, 1) := by decide +kernel
theorem dX9_doesAll_36 : decode cX9_doesAll 36 = .ok (.invokevirtual 179, 3) := by decide +kernel
theorem dX9_doesAll_39 : decode cX9_doesAll 39 = .ok (.istore_n 2, 1) := by decide +kernel
theorem dX9_doesAll_40 : decode cX9_doesAll 40 = .ok (.iload_n 2, 1) := by decide +kernel
theorem dX9_doesAll_41 : decode cX9_doesAll 41 = .ok (.ifCond .le 10, 3) := by decide +kernel
theorem dX9_doesAll_44 : decode cX9_doesAll 44 = .ok (.bipush 10, 2) := by decide +kernel
theorem dX9_doesAll_46 : decode cX9_doesAll 46 = .ok (.iload_n 1, 1) := by decide +kernel
theorem dX9_doesAll_47 : decode cX9_doesAll 47 = .ok (.imul, 1) := by decide +kernel
theorem dX9_doesAll_48 : decode cX9_doesAll 48 = .ok (.iload_n 2, 1) := by decide +kernel
theorem dX9_doesAll_49 : decode cX9_doesAll 49 = .ok (.iadd, 1) := by decide +kernel
theorem dX9_doesAll_50 : decode cX9_doesAll 50 = .ok (.ireturn, 1) := by decide +kernel
theorem dX9_doesAll_51 : decode cX9_doesAll 51 = .ok (.iinc 1 1, 3) := by decide +kernel
theorem dX9_doesAll_54 : decode cX9_doesAll 54 = .ok (.goto (-28), 3) := by decide +kernel
theorem dX9_doesAll_57 : decode cX9_doesAll 57 = .ok (.aload_n 0, 1) := by decide +kernel
theorem dX9_doesAll_58 : decode cX9_doesAll 58 = .ok (.invokevirtual 182, 3) := by decide +kernel
theorem dX9_doesAll_61 : decode cX9_doesAll 61 = .ok (.istore_n 1, 1) := by decide +kernel
theorem dX9_doesAll_62 : decode cX9_doesAll 62 = .ok (.iload_n 1, 1) := by decide +kernel
theorem dX9_doesAll_63 : decode cX9_doesAll 63 = .ok (.bipush (-9), 2) := by decide +kernel
theorem dX9_doesAll_65 : decode cX9_doesAll 65 = .ok (.if_icmp .ne 7, 3) := by decide +kernel
theorem dX9_doesAll_68 : decode cX9_doesAll 68 = .ok (.iconst 0, 1) := by decide +kernel
theorem dX9_doesAll_69 : decode cX9_doesAll 69 = .ok (.goto 9, 3) := by decide +kernel
theorem dX9_doesAll_72 : decode cX9_doesAll 72 = .ok (.bipush 10, 2) := by decide +kernel
theorem dX9_doesAll_74 : decode cX9_doesAll 74 = .ok (.iload_n 1, 1) := by decide +kernel
theorem dX9_doesAll_75 : decode cX9_doesAll 75 = .ok (.imul, 1) := by decide +kernel
theorem dX9_doesAll_76 : decode cX9_doesAll 76 = .ok (.iconst 5, 1) := by decide +kernel
theorem dX9_doesAll_77 : decode cX9_doesAll 77 = .ok (.iadd, 1) := by decide +kernel
theorem dX9_doesAll_78 : decode cX9_doesAll 78 = .ok (.ireturn, 1) := by decide +kernel
theorem dX9_dropsNotice_0 : decode cX9_dropsNotice 0 = .ok (.aload_n 0, 1) := by decide +kernel
theorem dX9_dropsNotice_1 : decode cX9_dropsNotice 1 = .ok (.getfield 13, 3) := by decide +kernel
theorem dX9_dropsNotice_4 : decode cX9_dropsNotice 4 = .ok (.bipush 80, 2) := by decide +kernel
theorem dX9_dropsNotice_6 : decode cX9_dropsNotice 6 = .ok (.dup2, 1) := by decide +kernel
theorem dX9_dropsNotice_7 : decode cX9_dropsNotice 7 = .ok (.iaload, 1) := by decide +kernel
theorem dX9_dropsNotice_8 : decode cX9_dropsNotice 8 = .ok (.iconst 1, 1) := by decide +kernel
theorem dX9_dropsNotice_9 : decode cX9_dropsNotice 9 = .ok (.isub, 1) := by decide +kernel
theorem dX9_dropsNotice_10 : decode cX9_dropsNotice 10 = .ok (.iastore, 1) := by decide +kernel
theorem dX9_dropsNotice_11 : decode cX9_dropsNotice 11 = .ok (.bipush 81, 2) := by decide +kernel
theorem dX9_dropsNotice_13 : decode cX9_dropsNotice 13 = .ok (.iconst 5, 1) := by decide +kernel
theorem dX9_dropsNotice_14 : decode cX9_dropsNotice 14 = .ok (.iload_n 1, 1) := by decide +kernel
theorem dX9_dropsNotice_15 : decode cX9_dropsNotice 15 = .ok (.imul, 1) := by decide +kernel
theorem dX9_dropsNotice_16 : decode cX9_dropsNotice 16 = .ok (.iadd, 1) := by decide +kernel
theorem dX9_dropsNotice_17 : decode cX9_dropsNotice 17 = .ok (.istore_n 2, 1) := by decide +kernel
theorem dX9_dropsNotice_18 : decode cX9_dropsNotice 18 = .ok (.iload_n 2, 1) := by decide +kernel
theorem dX9_dropsNotice_19 : decode cX9_dropsNotice 19 = .ok (.bipush 81, 2) := by decide +kernel
theorem dX9_dropsNotice_21 : decode cX9_dropsNotice 21 = .ok (.iconst 5, 1) := by decide +kernel
theorem dX9_dropsNotice_22 : decode cX9_dropsNotice 22 = .ok (.aload_n 0, 1) := by decide +kernel
theorem dX9_dropsNotice_23 : decode cX9_dropsNotice 23 = .ok (.getfield 13, 3) := by decide +kernel
theorem dX9_dropsNotice_26 : decode cX9_dropsNotice 26 = .ok (.bipush 80, 2) := by decide +kernel
theorem dX9_dropsNotice_28 : decode cX9_dropsNotice 28 = .ok (.iaload, 1) := by decide +kernel
theorem dX9_dropsNotice_29 : decode cX9_dropsNotice 29 = .ok (.imul, 1) := by decide +kernel
theorem dX9_dropsNotice_30 : decode cX9_dropsNotice 30 = .ok (.iadd, 1) := by decide +kernel
theorem dX9_dropsNotice_31 : decode cX9_dropsNotice 31 = .ok (.if_icmp .ge 23, 3) := by decide +kernel
theorem dX9_dropsNotice_34 : decode cX9_dropsNotice 34 = .ok (.aload_n 0, 1) := by decide +kernel
theorem dX9_dropsNotice_35 : decode cX9_dropsNotice 35 = .ok (.getfield 13, 3) := by decide +kernel
theorem dX9_dropsNotice_38 : decode cX9_dropsNotice 38 = .ok (.iload_n 2, 1) := by decide +kernel
theorem dX9_dropsNotice_39 : decode cX9_dropsNotice 39 = .ok (.aload_n 0, 1) := by decide +kernel
theorem dX9_dropsNotice_40 : decode cX9_dropsNotice 40 = .ok (.getfield 13, 3) := by decide +kernel
theorem dX9_dropsNotice_43 : decode cX9_dropsNotice 43 = .ok (.iload_n 2, 1) := by decide +kernel
theorem dX9_dropsNotice_44 : decode cX9_dropsNotice 44 = .ok (.iconst 5, 1) := by decide +kernel
theorem dX9_dropsNotice_45 : decode cX9_dropsNotice 45 = .ok (.iadd, 1) := by decide +kernel
theorem dX9_dropsNotice_46 : decode cX9_dropsNotice 46 = .ok (.iaload, 1) := by decide +kernel
theorem dX9_dropsNotice_47 : decode cX9_dropsNotice 47 = .ok (.iastore, 1) := by decide +kernel
theorem dX9_dropsNotice_48 : decode cX9_dropsNotice 48 = .ok (.iinc 2 1, 3) := by decide +kernel
theorem dX9_dropsNotice_51 : decode cX9_dropsNotice 51 = .ok (.goto (-33), 3) := by decide +kernel
theorem dX9_dropsNotice_54 : decode cX9_dropsNotice 54 = .ok (.return_, 1) := by decide +kernel
set_option maxRecDepth 20000 in
theorem ggX9_notices_X9_dropsNotice : GoodIn wsX9_notices wsX9_dropsNotice := goodIn_r _ [6, 1, 7, 8, 9, 10, 11, 12, 13, 14, 15, 16, 17, 18, 19, 20, 21, 22, 23, 24, 25, 26, 27, 28] (by decide +kernel) (by decide +kernel)
set_option maxRecDepth 20000 in
theorem gX9_notices_X9_dropsNotice : GoodIn wsX9_notices (wsV RX9 185 RX9 yX9_dropsNotice wsX9_dropsNotice) := goodIn_app (goodIn_of _ (by decide +kernel)) ggX9_notices_X9_dropsNotice
theorem dX9_notices_0 : decode cX9_notices 0 = .ok (.aload_n 0, 1) := by decide +kernel
theorem dX9_notices_1 : decode cX9_notices 1 = .ok (.getfield 13, 3) := by decide +kernel
theorem dX9_notices_4 : decode cX9_notices 4 = .ok (.bipush 80, 2) := by decide +kernel
theorem dX9_notices_6 : decode cX9_notices 6 = .ok (.iaload, 1) := by decide +kernel
theorem dX9_notices_7 : decode cX9_notices 7 = .ok (.bipush 8, 2) := by decide +kernel
theorem dX9_notices_9 : decode cX9_notices 9 = .ok (.if_icmp .ne 19, 3) := by decide +kernel
theorem dX9_notices_12 : decode cX9_notices 12 = .ok (.aload_n 0, 1) := by decide +kernel
theorem dX9_notices_13 : decode cX9_notices 13 = .ok (.iconst 0, 1) := by decide +kernel
theorem dX9_notices_14 : decode cX9_notices 14 = .ok (.invokevirtual 185, 3) := by decide +kernel
theorem dX9_notices_17 : decode cX9_notices 17 = .ok (.aload_n 0, 1) := by decide +kernel
theorem dX9_notices_18 : decode cX9_notices 18 = .ok (.getfield 13, 3) := by decide +kernel
theorem dX9_notices_21 : decode cX9_notices 21 = .ok (.bipush 122, 2) := by decide +kernel
theorem dX9_notices_23 : decode cX9_notices 23 = .ok (.dup2, 1) := by decide +kernel
theorem dX9_notices_24 : decode cX9_notices 24 = .ok (.iaload, 1) := by decide +kernel
theorem dX9_notices_25 : decode cX9_notices 25 = .ok (.iconst 1, 1) := by decide +kernel
theorem dX9_notices_26 : decode cX9_notices 26 = .ok (.iadd, 1) := by decide +kernel
theorem dX9_notices_27 : decode cX9_notices 27 = .ok (.iastore, 1) := by decide +kernel
theorem dX9_notices_28 : decode cX9_notices 28 = .ok (.bipush 81, 2) := by decide +kernel
theorem dX9_notices_30 : decode cX9_notices 30 = .ok (.iconst 5, 1) := by decide +kernel
theorem dX9_notices_31 : decode cX9_notices 31 = .ok (.aload_n 0, 1) := by decide +kernel
theorem dX9_notices_32 : decode cX9_notices 32 = .ok (.getfield 13, 3) := by decide +kernel
theorem dX9_notices_35 : decode cX9_notices 35 = .ok (.bipush 80, 2) := by decide +kernel
theorem dX9_notices_37 : decode cX9_notices 37 = .ok (.iaload, 1) := by decide +kernel
theorem dX9_notices_38 : decode cX9_notices 38 = .ok (.imul, 1) := by decide +kernel
theorem dX9_notices_39 : decode cX9_notices 39 = .ok (.iadd, 1) := by decide +kernel
theorem dX9_notices_40 : decode cX9_notices 40 = .ok (.istore 4, 2) := by decide +kernel
theorem dX9_notices_42 : decode cX9_notices 42 = .ok (.aload_n 0, 1) := by decide +kernel
theorem dX9_notices_43 : decode cX9_notices 43 = .ok (.getfield 13, 3) := by decide +kernel
theorem dX9_notices_46 : decode cX9_notices 46 = .ok (.iload 4, 2) := by decide +kernel
theorem dX9_notices_48 : decode cX9_notices 48 = .ok (.iload_n 1, 1) := by decide +kernel
theorem dX9_notices_49 : decode cX9_notices 49 = .ok (.iastore, 1) := by decide +kernel
theorem dX9_notices_50 : decode cX9_notices 50 = .ok (.aload_n 0, 1) := by decide +kernel
theorem dX9_notices_51 : decode cX9_notices 51 = .ok (.getfield 13, 3) := by decide +kernel
theorem dX9_notices_54 : decode cX9_notices 54 = .ok (.iload 4, 2) := by decide +kernel
theorem dX9_notices_56 : decode cX9_notices 56 = .ok (.iconst 1, 1) := by decide +kernel
theorem dX9_notices_57 : decode cX9_notices 57 = .ok (.iadd, 1) := by decide +kernel
theorem dX9_notices_58 : decode cX9_notices 58 = .ok (.iload_n 2, 1) := by decide +kernel
theorem dX9_notices_59 : decode cX9_notices 59 = .ok (.iastore, 1) := by decide +kernel
theorem dX9_notices_60 : decode cX9_notices 60 = .ok (.aload_n 0, 1) := by decide +kernel
theorem dX9_notices_61 : decode cX9_notices 61 = .ok (.getfield 13, 3) := by decide +kernel
theorem dX9_notices_64 : decode cX9_notices 64 = .ok (.iload 4, 2) := by decide +kernel
theorem dX9_notices_66 : decode cX9_notices 66 = .ok (.iconst 2, 1) := by decide +kernel
theorem dX9_notices_67 : decode cX9_notices 67 = .ok (.iadd, 1) := by decide +kernel
theorem dX9_notices_68 : decode cX9_notices 68 = .ok (.iload_n 3, 1) := by decide +kernel
theorem dX9_notices_69 : decode cX9_notices 69 = .ok (.iastore, 1) := by decide +kernel
theorem dX9_notices_70 : decode cX9_notices 70 = .ok (.aload_n 0, 1) := by decide +kernel
theorem dX9_notices_71 : decode cX9_notices 71 = .ok (.getfield 13, 3) := by decide +kernel
theorem dX9_notices_74 : decode cX9_notices 74 = .ok (.iload 4, 2) := by decide +kernel
theorem dX9_notices_76 : decode cX9_notices 76 = .ok (.iconst 3, 1) := by decide +kernel
theorem dX9_notices_77 : decode cX9_notices 77 = .ok (.iadd, 1) := by decide +kernel
theorem dX9_notices_78 : decode cX9_notices 78 = .ok (.iconst 1, 1) := by decide +kernel
theorem dX9_notices_79 : decode cX9_notices 79 = .ok (.iastore, 1) := by decide +kernel
theorem dX9_notices_80 : decode cX9_notices 80 = .ok (.aload_n 0, 1) := by decide +kernel
theorem dX9_notices_81 : decode cX9_notices 81 = .ok (.getfield 13, 3) := by decide +kernel
theorem dX9_notices_84 : decode cX9_notices 84 = .ok (.iload 4, 2) := by decide +kernel
theorem dX9_notices_86 : decode cX9_notices 86 = .ok (.iconst 4, 1) := by decide +kernel
theorem dX9_notices_87 : decode cX9_notices 87 = .ok (.iadd, 1) := by decide +kernel
theorem dX9_notices_88 : decode cX9_notices 88 = .ok (.iconst 3, 1) := by decide +kernel
theorem dX9_notices_89 : decode cX9_notices 89 = .ok (.iastore, 1) := by decide +kernel
theorem dX9_notices_90 : decode cX9_notices 90 = .ok (.aload_n 0, 1) := by decide +kernel
theorem dX9_notices_91 : decode cX9_notices 91 = .ok (.getfield 13, 3) := by decide +kernel
theorem dX9_notices_94 : decode cX9_notices 94 = .ok (.bipush 80, 2) := by decide +kernel
theorem dX9_notices_96 : decode cX9_notices 96 = .ok (.dup2, 1) := by decide +kernel
theorem dX9_notices_97 : decode cX9_notices 97 = .ok (.iaload, 1) := by decide +kernel
theorem dX9_notices_98 : decode cX9_notices 98 = .ok (.iconst 1, 1) := by decide +kernel
theorem dX9_notices_99 : decode cX9_notices 99 = .ok (.iadd, 1) := by decide +kernel
theorem dX9_notices_100 : decode cX9_notices 100 = .ok (.iastore, 1) := by decide +kernel
theorem dX9_notices_101 : decode cX9_notices 101 = .ok (.return_, 1) := by decide +kernel
set_option maxRecDepth 20000 in
theorem ggX9_noticesAll_X9_tables : GoodIn wsX9_noticesAll wsX9_tables := goodIn_r _ [7, 8, 9, 10, 11, 6, 12, 13, 14, 15, 16, 17, 29, 30, 31, 32, 33, 34, 35, 36, 37, 38, 39, 40, 41, 42, 43, 44, 45, 46, 47, 48, 49, 50] (by decide +kernel) (by decide +kernel)
set_option maxRecDepth 20000 in
theorem gX9_noticesAll_X9_tables : GoodIn wsX9_noticesAll (wsV RX9 176 RX9 yX9_tables wsX9_tables) := goodIn_app (goodIn_of _ (by decide +kernel)) ggX9_noticesAll_X9_tables
set_option maxRecDepth 20000 in
theorem ggX9_noticesAll_X9_rowAt : GoodIn wsX9_noticesAll wsX9_rowAt := goodIn_r _ [20] (by decide +kernel) (by decide +kernel)
set_option maxRecDepth 20000 in
theorem gX9_noticesAll_X9_rowAt : GoodIn wsX9_noticesAll (va_wsS RX9 69 yX9_rowAt wsX9_rowAt) := goodIn_app (goodIn_of _ (by decide +kernel)) ggX9_noticesAll_X9_rowAt
set_option maxRecDepth 20000 in
theorem ggX9_noticesAll_X9_notices : GoodIn wsX9_noticesAll wsX9_notices := goodIn_r _ [24, 2, 25, 26, 27, 6, 28, 29, 30, 31, 32, 33, 34, 35, 36, 37, 38, 39, 40, 41, 42, 43, 44, 45, 46, 47, 48, 49, 50] (by decide +kernel) (by decide +kernel)
set_option maxRecDepth 20000 in
theorem gX9_noticesAll_X9_notices : GoodIn wsX9_noticesAll (wsV RX9 188 RX9 yX9_notices wsX9_notices) := goodIn_app (goodIn_of _ (by decide +kernel)) ggX9_noticesAll_X9_notices
theorem dX9_noticesAll_0 : decode cX9_noticesAll 0 = .ok (.iconst 0, 1) := by decide +kernel
theorem dX9_noticesAll_1 : decode cX9_noticesAll 1 = .ok (.istore_n 1, 1) := by decide +kernel
theorem dX9_noticesAll_2 : decode cX9_noticesAll 2 = .ok (.iload_n 1, 1) := by decide +kernel
theorem dX9_noticesAll_3 : decode cX9_noticesAll 3 = .ok (.bipush 9, 2) := by decide +kernel
theorem dX9_noticesAll_5 : decode cX9_noticesAll 5 = .ok (.aload_n 0, 1) := by decide +kernel
theorem dX9_noticesAll_6 : decode cX9_noticesAll 6 = .ok (.invokevirtual 176, 3) := by decide +kernel
theorem dX9_noticesAll_9 : decode cX9_noticesAll 9 = .ok (.imul, 1) := by decide +kernel
theorem dX9_noticesAll_10 : decode cX9_noticesAll 10 = .ok (.if_icmp .ge 81, 3) := by decide +kernel
theorem dX9_noticesAll_13 : decode cX9_noticesAll 13 = .ok (.iload_n 1, 1) := by decide +kernel
theorem dX9_noticesAll_14 : decode cX9_noticesAll 14 = .ok (.bipush 9, 2) := by decide +kernel
theorem dX9_noticesAll_16 : decode cX9_noticesAll 16 = .ok (.idiv, 1) := by decide +kernel
theorem dX9_noticesAll_17 : decode cX9_noticesAll 17 = .ok (.iload_n 1, 1) := by decide +kernel
theorem dX9_noticesAll_18 : decode cX9_noticesAll 18 = .ok (.bipush 9, 2) := by decide +kernel
theorem dX9_noticesAll_20 : decode cX9_noticesAll 20 = .ok (.irem, 1) := by decide +kernel
theorem dX9_noticesAll_21 : decode cX9_noticesAll 21 = .ok (.iconst 1, 1) := by decide +kernel
theorem dX9_noticesAll_22 : decode cX9_noticesAll 22 = .ok (.iadd, 1) := by decide +kernel
theorem dX9_noticesAll_23 : decode cX9_noticesAll 23 = .ok (.invokestatic 69, 3) := by decide +kernel
theorem dX9_noticesAll_26 : decode cX9_noticesAll 26 = .ok (.istore_n 2, 1) := by decide +kernel
theorem dX9_noticesAll_27 : decode cX9_noticesAll 27 = .ok (.aload_n 0, 1) := by decide +kernel
theorem dX9_noticesAll_28 : decode cX9_noticesAll 28 = .ok (.getfield 16, 3) := by decide +kernel
theorem dX9_noticesAll_31 : decode cX9_noticesAll 31 = .ok (.iload_n 2, 1) := by decide +kernel
theorem dX9_noticesAll_32 : decode cX9_noticesAll 32 = .ok (.iaload, 1) := by decide +kernel
theorem dX9_noticesAll_33 : decode cX9_noticesAll 33 = .ok (.iconst 1, 1) := by decide +kernel
theorem dX9_noticesAll_34 : decode cX9_noticesAll 34 = .ok (.if_icmp .ne 7, 3) := by decide +kernel
theorem dX9_noticesAll_37 : decode cX9_noticesAll 37 = .ok (.iconst 1, 1) := by decide +kernel
theorem dX9_noticesAll_38 : decode cX9_noticesAll 38 = .ok (.goto 4, 3) := by decide +kernel
theorem dX9_noticesAll_41 : decode cX9_noticesAll 41 = .ok (.iconst 0, 1) := by decide +kernel
theorem dX9_noticesAll_42 : decode cX9_noticesAll 42 = .ok (.istore_n 3, 1) := by decide +kernel
theorem dX9_noticesAll_43 : decode cX9_noticesAll 43 = .ok (.iload_n 3, 1) := by decide +kernel
theorem dX9_noticesAll_44 : decode cX9_noticesAll 44 = .ok (.aload_n 0, 1) := by decide +kernel
theorem dX9_noticesAll_45 : decode cX9_noticesAll 45 = .ok (.getfield 13, 3) := by decide +kernel
theorem dX9_noticesAll_48 : decode cX9_noticesAll 48 = .ok (.iload_n 2, 1) := by decide +kernel
theorem dX9_noticesAll_49 : decode cX9_noticesAll 49 = .ok (.iaload, 1) := by decide +kernel
theorem dX9_noticesAll_50 : decode cX9_noticesAll 50 = .ok (.iconst 1, 1) := by decide +kernel
theorem dX9_noticesAll_51 : decode cX9_noticesAll 51 = .ok (.if_icmp .ne 7, 3) := by decide +kernel
theorem dX9_noticesAll_54 : decode cX9_noticesAll 54 = .ok (.iconst 1, 1) := by decide +kernel
theorem dX9_noticesAll_55 : decode cX9_noticesAll 55 = .ok (.goto 4, 3) := by decide +kernel
theorem dX9_noticesAll_58 : decode cX9_noticesAll 58 = .ok (.iconst 0, 1) := by decide +kernel
theorem dX9_noticesAll_59 : decode cX9_noticesAll 59 = .ok (.if_icmp .eq 26, 3) := by decide +kernel
theorem dX9_noticesAll_62 : decode cX9_noticesAll 62 = .ok (.aload_n 0, 1) := by decide +kernel
theorem dX9_noticesAll_63 : decode cX9_noticesAll 63 = .ok (.iload_n 3, 1) := by decide +kernel
theorem dX9_noticesAll_64 : decode cX9_noticesAll 64 = .ok (.ifCond .eq 7, 3) := by decide +kernel
theorem dX9_noticesAll_67 : decode cX9_noticesAll 67 = .ok (.iconst 1, 1) := by decide +kernel
theorem dX9_noticesAll_68 : decode cX9_noticesAll 68 = .ok (.goto 4, 3) := by decide +kernel
theorem dX9_noticesAll_71 : decode cX9_noticesAll 71 = .ok (.iconst 0, 1) := by decide +kernel
theorem dX9_noticesAll_72 : decode cX9_noticesAll 72 = .ok (.iload_n 1, 1) := by decide +kernel
theorem dX9_noticesAll_73 : decode cX9_noticesAll 73 = .ok (.bipush 9, 2) := by decide +kernel
theorem dX9_noticesAll_75 : decode cX9_noticesAll 75 = .ok (.idiv, 1) := by decide +kernel
theorem dX9_noticesAll_76 : decode cX9_noticesAll 76 = .ok (.iload_n 1, 1) := by decide +kernel
theorem dX9_noticesAll_77 : decode cX9_noticesAll 77 = .ok (.bipush 9, 2) := by decide +kernel
theorem dX9_noticesAll_79 : decode cX9_noticesAll 79 = .ok (.irem, 1) := by decide +kernel
theorem dX9_noticesAll_80 : decode cX9_noticesAll 80 = .ok (.iconst 1, 1) := by decide +kernel
theorem dX9_noticesAll_81 : decode cX9_noticesAll 81 = .ok (.iadd, 1) := by decide +kernel
theorem dX9_noticesAll_82 : decode cX9_noticesAll 82 = .ok (.invokevirtual 188, 3) := by decide +kernel
theorem dX9_noticesAll_85 : decode cX9_noticesAll 85 = .ok (.iinc 1 1, 3) := by decide +kernel
theorem dX9_noticesAll_88 : decode cX9_noticesAll 88 = .ok (.goto (-86), 3) := by decide +kernel
theorem dX9_noticesAll_91 : decode cX9_noticesAll 91 = .ok (.return_, 1) := by decide +kernel
theorem dX9_laysAside_0 : decode cX9_laysAside 0 = .ok (.iconst 0, 1) := by decide +kernel
theorem dX9_laysAside_1 : decode cX9_laysAside 1 = .ok (.istore_n 1, 1) := by decide +kernel
theorem dX9_laysAside_2 : decode cX9_laysAside 2 = .ok (.iload_n 1, 1) := by decide +kernel
theorem dX9_laysAside_3 : decode cX9_laysAside 3 = .ok (.bipush 124, 2) := by decide +kernel
theorem dX9_laysAside_5 : decode cX9_laysAside 5 = .ok (.if_icmp .ge 21, 3) := by decide +kernel
theorem dX9_laysAside_8 : decode cX9_laysAside 8 = .ok (.aload_n 0, 1) := by decide +kernel
theorem dX9_laysAside_9 : decode cX9_laysAside 9 = .ok (.getfield 16, 3) := by decide +kernel
theorem dX9_laysAside_12 : decode cX9_laysAside 12 = .ok (.iload_n 1, 1) := by decide +kernel
theorem dX9_laysAside_13 : decode cX9_laysAside 13 = .ok (.aload_n 0, 1) := by decide +kernel
theorem dX9_laysAside_14 : decode cX9_laysAside 14 = .ok (.getfield 13, 3) := by decide +kernel
theorem dX9_laysAside_17 : decode cX9_laysAside 17 = .ok (.iload_n 1, 1) := by decide +kernel
theorem dX9_laysAside_18 : decode cX9_laysAside 18 = .ok (.iaload, 1) := by decide +kernel
theorem dX9_laysAside_19 : decode cX9_laysAside 19 = .ok (.iastore, 1) := by decide +kernel
theorem dX9_laysAside_20 : decode cX9_laysAside 20 = .ok (.iinc 1 1, 3) := by decide +kernel
theorem dX9_laysAside_23 : decode cX9_laysAside 23 = .ok (.goto (-21), 3) := by decide +kernel
theorem dX9_laysAside_26 : decode cX9_laysAside 26 = .ok (.return_, 1) := by decide +kernel
theorem dX9_keeps_0 : decode cX9_keeps 0 = .ok (.aload_n 0, 1) := by decide +kernel
theorem dX9_keeps_1 : decode cX9_keeps 1 = .ok (.getfield 144, 3) := by decide +kernel
theorem dX9_keeps_4 : decode cX9_keeps 4 = .ok (.bipush 6, 2) := by decide +kernel
theorem dX9_keeps_6 : decode cX9_keeps 6 = .ok (.if_icmp .ne 43, 3) := by decide +kernel
theorem dX9_keeps_9 : decode cX9_keeps 9 = .ok (.iconst 0, 1) := by decide +kernel
theorem dX9_keeps_10 : decode cX9_keeps 10 = .ok (.istore_n 1, 1) := by decide +kernel
theorem dX9_keeps_11 : decode cX9_keeps 11 = .ok (.iload_n 1, 1) := by decide +kernel
theorem dX9_keeps_12 : decode cX9_keeps 12 = .ok (.sipush 620, 3) := by decide +kernel
theorem dX9_keeps_15 : decode cX9_keeps 15 = .ok (.if_icmp .ge 24, 3) := by decide +kernel
theorem dX9_keeps_18 : decode cX9_keeps 18 = .ok (.aload_n 0, 1) := by decide +kernel
