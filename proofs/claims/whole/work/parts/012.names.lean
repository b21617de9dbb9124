theorem dX6_columnsOf_21 : decode cX6_columnsOf 21 = .ok (.iload_n 2, 1) := by decide +kernel
theorem dX6_columnsOf_22 : decode cX6_columnsOf 22 = .ok (.invokevirtual 58, 3) := by decide +kernel
theorem dX6_columnsOf_25 : decode cX6_columnsOf 25 = .ok (.iload_n 1, 1) := by decide +kernel
theorem dX6_columnsOf_26 : decode cX6_columnsOf 26 = .ok (.if_icmp .ne 10, 3) := by decide +kernel
theorem dX6_columnsOf_29 : decode cX6_columnsOf 29 = .ok (.aload_n 0, 1) := by decide +kernel
theorem dX6_columnsOf_30 : decode cX6_columnsOf 30 = .ok (.iload_n 2, 1) := by decide +kernel
theorem dX6_columnsOf_31 : decode cX6_columnsOf 31 = .ok (.iconst 3, 1) := by decide +kernel
theorem dX6_columnsOf_32 : decode cX6_columnsOf 32 = .ok (.invokevirtual 55, 3) := by decide +kernel
theorem dX6_columnsOf_35 : decode cX6_columnsOf 35 = .ok (.ireturn, 1) := by decide +kernel
theorem dX6_columnsOf_36 : decode cX6_columnsOf 36 = .ok (.iinc 2 1, 3) := by decide +kernel
theorem dX6_columnsOf_39 : decode cX6_columnsOf 39 = .ok (.goto (-37), 3) := by decide +kernel
theorem dX6_columnsOf_42 : decode cX6_columnsOf 42 = .ok (.iconst 0, 1) := by decide +kernel
theorem dX6_columnsOf_43 : decode cX6_columnsOf 43 = .ok (.ireturn, 1) := by decide +kernel
set_option maxRecDepth 20000 in
theorem ggX6_readBranch_J7_fill_53178 : GoodIn wsX6_readBranch wsJ7_fill_53178 := goodIn_r _ [6] (by decide +kernel) (by decide +kernel)
set_option maxRecDepth 20000 in
theorem gX6_readBranch_J7_fill_53178 : GoodIn wsX6_readBranch (va_wsS RX6 62 yJ7_fill_53178 wsJ7_fill_53178) := goodIn_app (goodIn_of _ (by decide +kernel)) ggX6_readBranch_J7_fill_53178
set_option maxRecDepth 20000 in
theorem ggX6_readBranch_X6_readName : GoodIn wsX6_readBranch wsX6_readName := goodIn_r _ [11, 12, 1, 13, 14, 15, 16, 17, 18, 19, 20, 21, 22, 23, 24, 25, 26, 27, 28, 29, 30, 31, 32, 33, 34, 35, 36, 37, 38, 39, 40, 10, 41, 42, 43, 44, 45, 46, 47, 48, 49, 73, 74, 75, 76, 77, 78, 79, 80, 81, 82, 70, 71, 72] (by decide +kernel) (by decide +kernel)
set_option maxRecDepth 20000 in
theorem gX6_readBranch_X6_readName : GoodIn wsX6_readBranch (wsV RX6 71 RX6 yX6_readName wsX6_readName) := goodIn_app (goodIn_of _ (by decide +kernel)) ggX6_readBranch_X6_readName
set_option maxRecDepth 20000 in
theorem ggX6_readBranch_X6_readBounds : GoodIn wsX6_readBranch wsX6_readBounds := goodIn_r _ [53, 1, 54, 55, 56, 10, 57, 12, 13, 14, 15, 16, 17, 18, 19, 20, 21, 22, 23, 24, 25, 26, 27, 28, 29, 30, 31, 32, 33, 34, 70, 71, 72, 73, 74, 75, 76, 77, 78, 79, 80, 81, 82] (by decide +kernel) (by decide +kernel)
set_option maxRecDepth 20000 in
theorem gX6_readBranch_X6_readBounds : GoodIn wsX6_readBranch (wsV RX6 74 RX6 yX6_readBounds wsX6_readBounds) := goodIn_app (goodIn_of _ (by decide +kernel)) ggX6_readBranch_X6_readBounds
set_option maxRecDepth 20000 in
theorem ggX6_readBranch_X5_takes : GoodIn wsX6_readBranch wsX5_takes := goodIn_r _ [61, 24, 18, 19, 20, 16, 21, 22, 23, 25, 26, 27, 28, 29, 30, 73, 74, 75, 76, 77, 78, 79, 80, 81, 82] (by decide +kernel) (by decide +kernel)
set_option maxRecDepth 20000 in
theorem gX6_readBranch_X5_takes : GoodIn wsX6_readBranch (wsV RX6 33 RX5 yX5_takes wsX5_takes) := goodIn_app (goodIn_of _ (by decide +kernel)) ggX6_readBranch_X5_takes
set_option maxRecDepth 20000 in
theorem ggX6_readBranch_X6_readInto : GoodIn wsX6_readBranch wsX6_readInto := goodIn_r _ [57, 1, 12, 13, 14, 15, 16, 17, 18, 19, 20, 21, 22, 23, 24, 25, 26, 27, 28, 29, 30, 31, 32, 33, 34, 70, 71, 72, 73, 74, 75, 76, 77, 78, 79, 80, 81, 82] (by decide +kernel) (by decide +kernel)
set_option maxRecDepth 20000 in
theorem gX6_readBranch_X6_readInto : GoodIn wsX6_readBranch (wsV RX6 77 RX6 yX6_readInto wsX6_readInto) := goodIn_app (goodIn_of _ (by decide +kernel)) ggX6_readBranch_X6_readInto
set_option maxRecDepth 20000 in
theorem ggX6_readBranch_X6_tables : GoodIn wsX6_readBranch wsX6_tables := goodIn_r _ [65, 42, 66, 67, 68, 10, 69, 45, 46, 47, 48, 49, 70, 71, 72] (by decide +kernel) (by decide +kernel)
set_option maxRecDepth 20000 in
theorem gX6_readBranch_X6_tables : GoodIn wsX6_readBranch (wsV RX6 81 RX6 yX6_tables wsX6_tables) := goodIn_app (goodIn_of _ (by decide +kernel)) ggX6_readBranch_X6_tables
theorem dX6_readBranch_0 : decode cX6_readBranch 0 = .ok (.aload_n 0, 1) := by decide +kernel
theorem dX6_readBranch_1 : decode cX6_readBranch 1 = .ok (.getfield 15, 3) := by decide +kernel
theorem dX6_readBranch_4 : decode cX6_readBranch 4 = .ok (.iconst 0, 1) := by decide +kernel
theorem dX6_readBranch_5 : decode cX6_readBranch 5 = .ok (.invokestatic 62, 3) := by decide +kernel
theorem dX6_readBranch_8 : decode cX6_readBranch 8 = .ok (.aload_n 1, 1) := by decide +kernel
theorem dX6_readBranch_9 : decode cX6_readBranch 9 = .ok (.getfield 68, 3) := by decide +kernel
theorem dX6_readBranch_12 : decode cX6_readBranch 12 = .ok (.lookupswitch 165 #[(99, 74), (110, 36), (116, 116)], 36) := by decide +kernel
theorem dX6_readBranch_48 : decode cX6_readBranch 48 = .ok (.aload_n 0, 1) := by decide +kernel
theorem dX6_readBranch_49 : decode cX6_readBranch 49 = .ok (.getfield 15, 3) := by decide +kernel
theorem dX6_readBranch_52 : decode cX6_readBranch 52 = .ok (.iconst 0, 1) := by decide +kernel
theorem dX6_readBranch_53 : decode cX6_readBranch 53 = .ok (.iconst 0, 1) := by decide +kernel
theorem dX6_readBranch_54 : decode cX6_readBranch 54 = .ok (.iastore, 1) := by decide +kernel
theorem dX6_readBranch_55 : decode cX6_readBranch 55 = .ok (.aload_n 0, 1) := by decide +kernel
theorem dX6_readBranch_56 : decode cX6_readBranch 56 = .ok (.aload_n 1, 1) := by decide +kernel
theorem dX6_readBranch_57 : decode cX6_readBranch 57 = .ok (.invokevirtual 71, 3) := by decide +kernel
theorem dX6_readBranch_60 : decode cX6_readBranch 60 = .ok (.ifCond .eq 24, 3) := by decide +kernel
theorem dX6_readBranch_63 : decode cX6_readBranch 63 = .ok (.aload_n 0, 1) := by decide +kernel
theorem dX6_readBranch_64 : decode cX6_readBranch 64 = .ok (.aload_n 1, 1) := by decide +kernel
theorem dX6_readBranch_65 : decode cX6_readBranch 65 = .ok (.invokevirtual 74, 3) := by decide +kernel
theorem dX6_readBranch_68 : decode cX6_readBranch 68 = .ok (.ifCond .eq 16, 3) := by decide +kernel
theorem dX6_readBranch_71 : decode cX6_readBranch 71 = .ok (.aload_n 1, 1) := by decide +kernel
theorem dX6_readBranch_72 : decode cX6_readBranch 72 = .ok (.bipush 59, 2) := by decide +kernel
theorem dX6_readBranch_74 : decode cX6_readBranch 74 = .ok (.invokevirtual 33, 3) := by decide +kernel
theorem dX6_readBranch_77 : decode cX6_readBranch 77 = .ok (.ifCond .eq 7, 3) := by decide +kernel
theorem dX6_readBranch_80 : decode cX6_readBranch 80 = .ok (.iconst 1, 1) := by decide +kernel
theorem dX6_readBranch_81 : decode cX6_readBranch 81 = .ok (.goto 4, 3) := by decide +kernel
theorem dX6_readBranch_84 : decode cX6_readBranch 84 = .ok (.iconst 0, 1) := by decide +kernel
theorem dX6_readBranch_85 : decode cX6_readBranch 85 = .ok (.ireturn, 1) := by decide +kernel
theorem dX6_readBranch_86 : decode cX6_readBranch 86 = .ok (.aload_n 0, 1) := by decide +kernel
theorem dX6_readBranch_87 : decode cX6_readBranch 87 = .ok (.getfield 15, 3) := by decide +kernel
theorem dX6_readBranch_90 : decode cX6_readBranch 90 = .ok (.iconst 0, 1) := by decide +kernel
theorem dX6_readBranch_91 : decode cX6_readBranch 91 = .ok (.iconst 1, 1) := by decide +kernel
theorem dX6_readBranch_92 : decode cX6_readBranch 92 = .ok (.iastore, 1) := by decide +kernel
theorem dX6_readBranch_93 : decode cX6_readBranch 93 = .ok (.aload_n 0, 1) := by decide +kernel
theorem dX6_readBranch_94 : decode cX6_readBranch 94 = .ok (.aload_n 1, 1) := by decide +kernel
theorem dX6_readBranch_95 : decode cX6_readBranch 95 = .ok (.invokevirtual 71, 3) := by decide +kernel
theorem dX6_readBranch_98 : decode cX6_readBranch 98 = .ok (.ifCond .eq 28, 3) := by decide +kernel
theorem dX6_readBranch_101 : decode cX6_readBranch 101 = .ok (.aload_n 0, 1) := by decide +kernel
theorem dX6_readBranch_102 : decode cX6_readBranch 102 = .ok (.iconst 2, 1) := by decide +kernel
theorem dX6_readBranch_103 : decode cX6_readBranch 103 = .ok (.aload_n 1, 1) := by decide +kernel
theorem dX6_readBranch_104 : decode cX6_readBranch 104 = .ok (.iconst 1, 1) := by decide +kernel
theorem dX6_readBranch_105 : decode cX6_readBranch 105 = .ok (.bipush 9, 2) := by decide +kernel
theorem dX6_readBranch_107 : decode cX6_readBranch 107 = .ok (.invokevirtual 77, 3) := by decide +kernel
theorem dX6_readBranch_110 : decode cX6_readBranch 110 = .ok (.ifCond .eq 16, 3) := by decide +kernel
theorem dX6_readBranch_113 : decode cX6_readBranch 113 = .ok (.aload_n 1, 1) := by decide +kernel
theorem dX6_readBranch_114 : decode cX6_readBranch 114 = .ok (.bipush 59, 2) := by decide +kernel
theorem dX6_readBranch_116 : decode cX6_readBranch 116 = .ok (.invokevirtual 33, 3) := by decide +kernel
theorem dX6_readBranch_119 : decode cX6_readBranch 119 = .ok (.ifCond .eq 7, 3) := by decide +kernel
theorem dX6_readBranch_122 : decode cX6_readBranch 122 = .ok (.iconst 1, 1) := by decide +kernel
theorem dX6_readBranch_123 : decode cX6_readBranch 123 = .ok (.goto 4, 3) := by decide +kernel
theorem dX6_readBranch_126 : decode cX6_readBranch 126 = .ok (.iconst 0, 1) := by decide +kernel
theorem dX6_readBranch_127 : decode cX6_readBranch 127 = .ok (.ireturn, 1) := by decide +kernel
theorem dX6_readBranch_128 : decode cX6_readBranch 128 = .ok (.aload_n 0, 1) := by decide +kernel
theorem dX6_readBranch_129 : decode cX6_readBranch 129 = .ok (.getfield 15, 3) := by decide +kernel
theorem dX6_readBranch_132 : decode cX6_readBranch 132 = .ok (.iconst 0, 1) := by decide +kernel
theorem dX6_readBranch_133 : decode cX6_readBranch 133 = .ok (.iconst 2, 1) := by decide +kernel
theorem dX6_readBranch_134 : decode cX6_readBranch 134 = .ok (.iastore, 1) := by decide +kernel
theorem dX6_readBranch_135 : decode cX6_readBranch 135 = .ok (.aload_n 0, 1) := by decide +kernel
theorem dX6_readBranch_136 : decode cX6_readBranch 136 = .ok (.invokevirtual 81, 3) := by decide +kernel
theorem dX6_readBranch_139 : decode cX6_readBranch 139 = .ok (.iconst 2, 1) := by decide +kernel
theorem dX6_readBranch_140 : decode cX6_readBranch 140 = .ok (.if_icmp .ge 35, 3) := by decide +kernel
theorem dX6_readBranch_143 : decode cX6_readBranch 143 = .ok (.aload_n 0, 1) := by decide +kernel
theorem dX6_readBranch_144 : decode cX6_readBranch 144 = .ok (.aload_n 1, 1) := by decide +kernel
theorem dX6_readBranch_145 : decode cX6_readBranch 145 = .ok (.invokevirtual 71, 3) := by decide +kernel
theorem dX6_readBranch_148 : decode cX6_readBranch 148 = .ok (.ifCond .eq 27, 3) := by decide +kernel
theorem dX6_readBranch_151 : decode cX6_readBranch 151 = .ok (.aload_n 0, 1) := by decide +kernel
theorem dX6_readBranch_152 : decode cX6_readBranch 152 = .ok (.iconst 3, 1) := by decide +kernel
theorem dX6_readBranch_153 : decode cX6_readBranch 153 = .ok (.aload_n 1, 1) := by decide +kernel
theorem dX6_readBranch_154 : decode cX6_readBranch 154 = .ok (.iconst 1, 1) := by decide +kernel
theorem dX6_readBranch_155 : decode cX6_readBranch 155 = .ok (.iconst 3, 1) := by decide +kernel
theorem dX6_readBranch_156 : decode cX6_readBranch 156 = .ok (.invokevirtual 77, 3) := by decide +kernel
theorem dX6_readBranch_159 : decode cX6_readBranch 159 = .ok (.ifCond .eq 16, 3) := by decide +kernel
theorem dX6_readBranch_162 : decode cX6_readBranch 162 = .ok (.aload_n 1, 1) := by decide +kernel
theorem dX6_readBranch_163 : decode cX6_readBranch 163 = .ok (.bipush 59, 2) := by decide +kernel
theorem dX6_readBranch_165 : decode cX6_readBranch 165 = .ok (.invokevirtual 33, 3) := by decide +kernel
theorem dX6_readBranch_168 : decode cX6_readBranch 168 = .ok (.ifCond .eq 7, 3) := by decide +kernel
theorem dX6_readBranch_171 : decode cX6_readBranch 171 = .ok (.iconst 1, 1) := by decide +kernel
theorem dX6_readBranch_172 : decode cX6_readBranch 172 = .ok (.goto 4, 3) := by decide +kernel
theorem dX6_readBranch_175 : decode cX6_readBranch 175 = .ok (.iconst 0, 1) := by decide +kernel
theorem dX6_readBranch_176 : decode cX6_readBranch 176 = .ok (.ireturn, 1) := by decide +kernel
theorem dX6_readBranch_177 : decode cX6_readBranch 177 = .ok (.iconst 0, 1) := by decide +kernel
theorem dX6_readBranch_178 : decode cX6_readBranch 178 = .ok (.ireturn, 1) := by decide +kernel
set_option maxRecDepth 20000 in
theorem ggX6_readName_X5_takesNumber : GoodIn wsX6_readName wsX5_takesNumber := goodIn_r _ [7, 8, 9, 10, 6, 11, 12, 13, 14, 15, 16, 17, 18, 19, 20, 21, 22, 23, 24, 41, 42, 43, 44, 45, 46, 47, 48, 49, 50] (by decide +kernel) (by decide +kernel)
set_option maxRecDepth 20000 in
theorem gX6_readName_X5_takesNumber : GoodIn wsX6_readName (wsV RX6 85 RX5 yX5_takesNumber wsX5_takesNumber) := goodIn_app (goodIn_of _ (by decide +kernel)) ggX6_readName_X5_takesNumber
set_option maxRecDepth 20000 in
theorem ggX6_readName_X8_nameOf : GoodIn wsX6_readName wsX8_nameOf := goodIn_r _ [27] (by decide +kernel) (by decide +kernel)
set_option maxRecDepth 20000 in
theorem gX6_readName_X8_nameOf_n51 : GoodIn wsX6_readName (wsX8_nameOf) := ggX6_readName_X8_nameOf
set_option maxRecDepth 20000 in
theorem ggX6_readName_X6_branchOf : GoodIn wsX6_readName wsX6_branchOf := goodIn_r _ [32, 33, 34, 26, 35, 25, 27, 36, 37, 38, 31, 39, 40, 51, 52, 53] (by decide +kernel) (by decide +kernel)
set_option maxRecDepth 20000 in
theorem gX6_readName_X6_branchOf : GoodIn wsX6_readName (wsV RX6 92 RX6 yX6_branchOf wsX6_branchOf) := goodIn_app (goodIn_of _ (by decide +kernel)) ggX6_readName_X6_branchOf
theorem dX6_readName_0 : decode cX6_readName 0 = .ok (.aload_n 1, 1) := by decide +kernel
theorem dX6_readName_1 : decode cX6_readName 1 = .ok (.iconst 1, 1) := by decide +kernel
theorem dX6_readName_2 : decode cX6_readName 2 = .ok (.bipush 9, 2) := by decide +kernel
theorem dX6_readName_4 : decode cX6_readName 4 = .ok (.invokevirtual 85, 3) := by decide +kernel
theorem dX6_readName_7 : decode cX6_readName 7 = .ok (.ifCond .ne 5, 3) := by decide +kernel
theorem dX6_readName_10 : decode cX6_readName 10 = .ok (.iconst 0, 1) := by decide +kernel
theorem dX6_readName_11 : decode cX6_readName 11 = .ok (.ireturn, 1) := by decide +kernel
theorem dX6_readName_12 : decode cX6_readName 12 = .ok (.aload_n 1, 1) := by decide +kernel
theorem dX6_readName_13 : decode cX6_readName 13 = .ok (.getfield 89, 3) := by decide +kernel
theorem dX6_readName_16 : decode cX6_readName 16 = .ok (.istore_n 2, 1) := by decide +kernel
theorem dX6_readName_17 : decode cX6_readName 17 = .ok (.aload_n 1, 1) := by decide +kernel
theorem dX6_readName_18 : decode cX6_readName 18 = .ok (.iconst 1, 1) := by decide +kernel
theorem dX6_readName_19 : decode cX6_readName 19 = .ok (.bipush 9, 2) := by decide +kernel
theorem dX6_readName_21 : decode cX6_readName 21 = .ok (.invokevirtual 85, 3) := by decide +kernel
theorem dX6_readName_24 : decode cX6_readName 24 = .ok (.ifCond .ne 5, 3) := by decide +kernel
theorem dX6_readName_27 : decode cX6_readName 27 = .ok (.iconst 0, 1) := by decide +kernel
theorem dX6_readName_28 : decode cX6_readName 28 = .ok (.ireturn, 1) := by decide +kernel
theorem dX6_readName_29 : decode cX6_readName 29 = .ok (.aload_n 0, 1) := by decide +kernel
theorem dX6_readName_30 : decode cX6_readName 30 = .ok (.getfield 15, 3) := by decide +kernel
theorem dX6_readName_33 : decode cX6_readName 33 = .ok (.iconst 1, 1) := by decide +kernel
theorem dX6_readName_34 : decode cX6_readName 34 = .ok (.iload_n 2, 1) := by decide +kernel
theorem dX6_readName_35 : decode cX6_readName 35 = .ok (.aload_n 1, 1) := by decide +kernel
theorem dX6_readName_36 : decode cX6_readName 36 = .ok (.getfield 89, 3) := by decide +kernel
theorem dX6_readName_39 : decode cX6_readName 39 = .ok (.iconst (-1), 1) := by decide +kernel
theorem dX6_readName_40 : decode cX6_readName 40 = .ok (.iconst (-1), 1) := by decide +kernel
theorem dX6_readName_41 : decode cX6_readName 41 = .ok (.invokestatic 51, 3) := by decide +kernel
theorem dX6_readName_44 : decode cX6_readName 44 = .ok (.iastore, 1) := by decide +kernel
theorem dX6_readName_45 : decode cX6_readName 45 = .ok (.aload_n 0, 1) := by decide +kernel
theorem dX6_readName_46 : decode cX6_readName 46 = .ok (.aload_n 0, 1) := by decide +kernel
theorem dX6_readName_47 : decode cX6_readName 47 = .ok (.getfield 15, 3) := by decide +kernel
theorem dX6_readName_50 : decode cX6_readName 50 = .ok (.iconst 1, 1) := by decide +kernel
theorem dX6_readName_51 : decode cX6_readName 51 = .ok (.iaload, 1) := by decide +kernel
theorem dX6_readName_52 : decode cX6_readName 52 = .ok (.invokevirtual 92, 3) := by decide +kernel
theorem dX6_readName_55 : decode cX6_readName 55 = .ok (.bipush (-9), 2) := by decide +kernel
theorem dX6_readName_57 : decode cX6_readName 57 = .ok (.if_icmp .ne 7, 3) := by decide +kernel
theorem dX6_readName_60 : decode cX6_readName 60 = .ok (.iconst 1, 1) := by decide +kernel
theorem dX6_readName_61 : decode cX6_readName 61 = .ok (.goto 4, 3) := by decide +kernel
theorem dX6_readName_64 : decode cX6_readName 64 = .ok (.iconst 0, 1) := by decide +kernel
theorem dX6_readName_65 : decode cX6_readName 65 = .ok (.ireturn, 1) := by decide +kernel
set_option maxRecDepth 20000 in
theorem ggX6_readBounds_X6_readInto : GoodIn wsX6_readBounds wsX6_readInto := goodIn_r _ [6, 1, 7, 8, 9, 10, 11, 12, 13, 14, 15, 16, 17, 18, 19, 20, 21, 22, 23, 24, 25, 26, 27, 28, 29, 30, 31, 32, 33, 34, 35, 36, 37, 38, 39, 40, 41, 42] (by decide +kernel) (by decide +kernel)
set_option maxRecDepth 20000 in
theorem gX6_readBounds_X6_readInto : GoodIn wsX6_readBounds (wsV RX6 77 RX6 yX6_readInto wsX6_readInto) := goodIn_app (goodIn_of _ (by decide +kernel)) ggX6_readBounds_X6_readInto
theorem dX6_readBounds_0 : decode cX6_readBounds 0 = .ok (.aload_n 0, 1) := by decide +kernel
theorem dX6_readBounds_1 : decode cX6_readBounds 1 = .ok (.iconst 4, 1) := by decide +kernel
theorem dX6_readBounds_2 : decode cX6_readBounds 2 = .ok (.aload_n 1, 1) := by decide +kernel
theorem dX6_readBounds_3 : decode cX6_readBounds 3 = .ok (.iconst 0, 1) := by decide +kernel
theorem dX6_readBounds_4 : decode cX6_readBounds 4 = .ok (.bipush 99, 2) := by decide +kernel
theorem dX6_readBounds_6 : decode cX6_readBounds 6 = .ok (.invokevirtual 77, 3) := by decide +kernel
theorem dX6_readBounds_9 : decode cX6_readBounds 9 = .ok (.ifCond .eq 46, 3) := by decide +kernel
theorem dX6_readBounds_12 : decode cX6_readBounds 12 = .ok (.aload_n 0, 1) := by decide +kernel
theorem dX6_readBounds_13 : decode cX6_readBounds 13 = .ok (.iconst 5, 1) := by decide +kernel
theorem dX6_readBounds_14 : decode cX6_readBounds 14 = .ok (.aload_n 1, 1) := by decide +kernel
theorem dX6_readBounds_15 : decode cX6_readBounds 15 = .ok (.aload_n 0, 1) := by decide +kernel
theorem dX6_readBounds_16 : decode cX6_readBounds 16 = .ok (.getfield 15, 3) := by decide +kernel
theorem dX6_readBounds_19 : decode cX6_readBounds 19 = .ok (.iconst 4, 1) := by decide +kernel
theorem dX6_readBounds_20 : decode cX6_readBounds 20 = .ok (.iaload, 1) := by decide +kernel
theorem dX6_readBounds_21 : decode cX6_readBounds 21 = .ok (.bipush 99, 2) := by decide +kernel
theorem dX6_readBounds_23 : decode cX6_readBounds 23 = .ok (.invokevirtual 77, 3) := by decide +kernel
theorem dX6_readBounds_26 : decode cX6_readBounds 26 = .ok (.ifCond .eq 29, 3) := by decide +kernel
theorem dX6_readBounds_29 : decode cX6_readBounds 29 = .ok (.aload_n 0, 1) := by decide +kernel
theorem dX6_readBounds_30 : decode cX6_readBounds 30 = .ok (.bipush 6, 2) := by decide +kernel
theorem dX6_readBounds_32 : decode cX6_readBounds 32 = .ok (.aload_n 1, 1) := by decide +kernel
theorem dX6_readBounds_33 : decode cX6_readBounds 33 = .ok (.aload_n 0, 1) := by decide +kernel
theorem dX6_readBounds_34 : decode cX6_readBounds 34 = .ok (.getfield 15, 3) := by decide +kernel
theorem dX6_readBounds_37 : decode cX6_readBounds 37 = .ok (.iconst 4, 1) := by decide +kernel
theorem dX6_readBounds_38 : decode cX6_readBounds 38 = .ok (.iaload, 1) := by decide +kernel
theorem dX6_readBounds_39 : decode cX6_readBounds 39 = .ok (.aload_n 0, 1) := by decide +kernel
theorem dX6_readBounds_40 : decode cX6_readBounds 40 = .ok (.getfield 15, 3) := by decide +kernel
theorem dX6_readBounds_43 : decode cX6_readBounds 43 = .ok (.iconst 5, 1) := by decide +kernel
theorem dX6_readBounds_44 : decode cX6_readBounds 44 = .ok (.iaload, 1) := by decide +kernel
theorem dX6_readBounds_45 : decode cX6_readBounds 45 = .ok (.invokevirtual 77, 3) := by decide +kernel
theorem dX6_readBounds_48 : decode cX6_readBounds 48 = .ok (.ifCond .eq 7, 3) := by decide +kernel
theorem dX6_readBounds_51 : decode cX6_readBounds 51 = .ok (.iconst 1, 1) := by decide +kernel
theorem dX6_readBounds_52 : decode cX6_readBounds 52 = .ok (.goto 4, 3) := by decide +kernel
theorem dX6_readBounds_55 : decode cX6_readBounds 55 = .ok (.iconst 0, 1) := by decide +kernel
theorem dX6_readBounds_56 : decode cX6_readBounds 56 = .ok (.ireturn, 1) := by decide +kernel
set_option maxRecDepth 20000 in
theorem ggX6_readInto_X5_takesNumber : GoodIn wsX6_readInto wsX5_takesNumber := goodIn_r _ [7, 8, 9, 10, 6, 11, 12, 13, 14, 15, 16, 17, 18, 19, 20, 21, 22, 23, 24, 28, 29, 30, 31, 32, 33, 34, 35, 36, 37] (by decide +kernel) (by decide +kernel)
set_option maxRecDepth 20000 in
theorem gX6_readInto_X5_takesNumber : GoodIn wsX6_readInto (wsV RX6 85 RX5 yX5_takesNumber wsX5_takesNumber) := goodIn_app (goodIn_of _ (by decide +kernel)) ggX6_readInto_X5_takesNumber
theorem dX6_readInto_0 : decode cX6_readInto 0 = .ok (.iload_n 1, 1) := by decide +kernel
theorem dX6_readInto_1 : decode cX6_readInto 1 = .ok (.ifCond .lt 19, 3) := by decide +kernel
theorem dX6_readInto_4 : decode cX6_readInto 4 = .ok (.iload_n 1, 1) := by decide +kernel
theorem dX6_readInto_5 : decode cX6_readInto 5 = .ok (.bipush 7, 2) := by decide +kernel
theorem dX6_readInto_7 : decode cX6_readInto 7 = .ok (.if_icmp .ge 13, 3) := by decide +kernel
theorem dX6_readInto_10 : decode cX6_readInto 10 = .ok (.aload_n 2, 1) := by decide +kernel
theorem dX6_readInto_11 : decode cX6_readInto 11 = .ok (.iload_n 3, 1) := by decide +kernel
theorem dX6_readInto_12 : decode cX6_readInto 12 = .ok (.iload 4, 2) := by decide +kernel
theorem dX6_readInto_14 : decode cX6_readInto 14 = .ok (.invokevirtual 85, 3) := by decide +kernel
theorem dX6_readInto_17 : decode cX6_readInto 17 = .ok (.ifCond .ne 5, 3) := by decide +kernel
theorem dX6_readInto_20 : decode cX6_readInto 20 = .ok (.iconst 0, 1) := by decide +kernel
theorem dX6_readInto_21 : decode cX6_readInto 21 = .ok (.ireturn, 1) := by decide +kernel
theorem dX6_readInto_22 : decode cX6_readInto 22 = .ok (.aload_n 0, 1) := by decide +kernel
theorem dX6_readInto_23 : decode cX6_readInto 23 = .ok (.getfield 15, 3) := by decide +kernel
theorem dX6_readInto_26 : decode cX6_readInto 26 = .ok (.iload_n 1, 1) := by decide +kernel
theorem dX6_readInto_27 : decode cX6_readInto 27 = .ok (.aload_n 2, 1) := by decide +kernel
theorem dX6_readInto_28 : decode cX6_readInto 28 = .ok (.getfield 89, 3) := by decide +kernel
theorem dX6_readInto_31 : decode cX6_readInto 31 = .ok (.iastore, 1) := by decide +kernel
theorem dX6_readInto_32 : decode cX6_readInto 32 = .ok (.iconst 1, 1) := by decide +kernel
theorem dX6_readInto_33 : decode cX6_readInto 33 = .ok (.ireturn, 1) := by decide +kernel
set_option maxRecDepth 20000 in
theorem ggX6_insertFresh_X6_field : GoodIn wsX6_insertFresh wsX6_field := goodIn_r _ [12, 3, 13, 14, 15] (by decide +kernel) (by decide +kernel)
set_option maxRecDepth 20000 in
theorem gX6_insertFresh_X6_field : GoodIn wsX6_insertFresh (wsV RX6 55 RX6 yX6_field wsX6_field) := goodIn_app (goodIn_of _ (by decide +kernel)) ggX6_insertFresh_X6_field
theorem dX6_insertFresh_0 : decode cX6_insertFresh 0 = .ok (.aload_n 0, 1) := by decide +kernel
theorem dX6_insertFresh_1 : decode cX6_insertFresh 1 = .ok (.getfield 24, 3) := by decide +kernel
theorem dX6_insertFresh_4 : decode cX6_insertFresh 4 = .ok (.ifCond .lt 12, 3) := by decide +kernel
theorem dX6_insertFresh_7 : decode cX6_insertFresh 7 = .ok (.aload_n 0, 1) := by decide +kernel
theorem dX6_insertFresh_8 : decode cX6_insertFresh 8 = .ok (.getfield 24, 3) := by decide +kernel
theorem dX6_insertFresh_11 : decode cX6_insertFresh 11 = .ok (.bipush 8, 2) := by decide +kernel
theorem dX6_insertFresh_13 : decode cX6_insertFresh 13 = .ok (.if_icmp .lt 4, 3) := by decide +kernel
theorem dX6_insertFresh_16 : decode cX6_insertFresh 16 = .ok (.return_, 1) := by decide +kernel
theorem dX6_insertFresh_17 : decode cX6_insertFresh 17 = .ok (.iconst 0, 1) := by decide +kernel
theorem dX6_insertFresh_18 : decode cX6_insertFresh 18 = .ok (.istore_n 1, 1) := by decide +kernel
theorem dX6_insertFresh_19 : decode cX6_insertFresh 19 = .ok (.iload_n 1, 1) := by decide +kernel
theorem dX6_insertFresh_20 : decode cX6_insertFresh 20 = .ok (.aload_n 0, 1) := by decide +kernel
theorem dX6_insertFresh_21 : decode cX6_insertFresh 21 = .ok (.getfield 24, 3) := by decide +kernel
theorem dX6_insertFresh_24 : decode cX6_insertFresh 24 = .ok (.if_icmp .ge 24, 3) := by decide +kernel
theorem dX6_insertFresh_27 : decode cX6_insertFresh 27 = .ok (.aload_n 0, 1) := by decide +kernel
theorem dX6_insertFresh_28 : decode cX6_insertFresh 28 = .ok (.iload_n 1, 1) := by decide +kernel
theorem dX6_insertFresh_29 : decode cX6_insertFresh 29 = .ok (.iconst 1, 1) := by decide +kernel
theorem dX6_insertFresh_30 : decode cX6_insertFresh 30 = .ok (.invokevirtual 55, 3) := by decide +kernel
theorem dX6_insertFresh_33 : decode cX6_insertFresh 33 = .ok (.aload_n 0, 1) := by decide +kernel
theorem dX6_insertFresh_34 : decode cX6_insertFresh 34 = .ok (.getfield 15, 3) := by decide +kernel
theorem dX6_insertFresh_37 : decode cX6_insertFresh 37 = .ok (.iconst 1, 1) := by decide +kernel
theorem dX6_insertFresh_38 : decode cX6_insertFresh 38 = .ok (.iaload, 1) := by decide +kernel
theorem dX6_insertFresh_39 : decode cX6_insertFresh 39 = .ok (.if_icmp .ge 9, 3) := by decide +kernel
theorem dX6_insertFresh_42 : decode cX6_insertFresh 42 = .ok (.iinc 1 1, 3) := by decide +kernel
theorem dX6_insertFresh_45 : decode cX6_insertFresh 45 = .ok (.goto (-26), 3) := by decide +kernel
theorem dX6_insertFresh_48 : decode cX6_insertFresh 48 = .ok (.iload_n 1, 1) := by decide +kernel
theorem dX6_insertFresh_49 : decode cX6_insertFresh 49 = .ok (.bipush 7, 2) := by decide +kernel
theorem dX6_insertFresh_51 : decode cX6_insertFresh 51 = .ok (.imul, 1) := by decide +kernel
theorem dX6_insertFresh_52 : decode cX6_insertFresh 52 = .ok (.istore_n 2, 1) := by decide +kernel
theorem dX6_insertFresh_53 : decode cX6_insertFresh 53 = .ok (.aload_n 0, 1) := by decide +kernel
theorem dX6_insertFresh_54 : decode cX6_insertFresh 54 = .ok (.getfield 11, 3) := by decide +kernel
theorem dX6_insertFresh_57 : decode cX6_insertFresh 57 = .ok (.iload_n 2, 1) := by decide +kernel
theorem dX6_insertFresh_58 : decode cX6_insertFresh 58 = .ok (.aload_n 0, 1) := by decide +kernel
theorem dX6_insertFresh_59 : decode cX6_insertFresh 59 = .ok (.getfield 11, 3) := by decide +kernel
theorem dX6_insertFresh_62 : decode cX6_insertFresh 62 = .ok (.iload_n 2, 1) := by decide +kernel
theorem dX6_insertFresh_63 : decode cX6_insertFresh 63 = .ok (.bipush 7, 2) := by decide +kernel
theorem dX6_insertFresh_65 : decode cX6_insertFresh 65 = .ok (.iadd, 1) := by decide +kernel
theorem dX6_insertFresh_66 : decode cX6_insertFresh 66 = .ok (.aload_n 0, 1) := by decide +kernel
theorem dX6_insertFresh_67 : decode cX6_insertFresh 67 = .ok (.getfield 24, 3) := by decide +kernel
theorem dX6_insertFresh_70 : decode cX6_insertFresh 70 = .ok (.iload_n 1, 1) := by decide +kernel
theorem dX6_insertFresh_71 : decode cX6_insertFresh 71 = .ok (.isub, 1) := by decide +kernel
theorem dX6_insertFresh_72 : decode cX6_insertFresh 72 = .ok (.bipush 7, 2) := by decide +kernel
theorem dX6_insertFresh_74 : decode cX6_insertFresh 74 = .ok (.imul, 1) := by decide +kernel
theorem dX6_insertFresh_75 : decode cX6_insertFresh 75 = .ok (.invokestatic 18, 3) := by decide +kernel
theorem dX6_insertFresh_78 : decode cX6_insertFresh 78 = .ok (.aload_n 0, 1) := by decide +kernel
theorem dX6_insertFresh_79 : decode cX6_insertFresh 79 = .ok (.getfield 15, 3) := by decide +kernel
theorem dX6_insertFresh_82 : decode cX6_insertFresh 82 = .ok (.iconst 0, 1) := by decide +kernel
theorem dX6_insertFresh_83 : decode cX6_insertFresh 83 = .ok (.aload_n 0, 1) := by decide +kernel
theorem dX6_insertFresh_84 : decode cX6_insertFresh 84 = .ok (.getfield 11, 3) := by decide +kernel
theorem dX6_insertFresh_87 : decode cX6_insertFresh 87 = .ok (.iload_n 2, 1) := by decide +kernel
theorem dX6_insertFresh_88 : decode cX6_insertFresh 88 = .ok (.bipush 7, 2) := by decide +kernel
theorem dX6_insertFresh_90 : decode cX6_insertFresh 90 = .ok (.invokestatic 18, 3) := by decide +kernel
theorem dX6_insertFresh_93 : decode cX6_insertFresh 93 = .ok (.aload_n 0, 1) := by decide +kernel
theorem dX6_insertFresh_94 : decode cX6_insertFresh 94 = .ok (.dup, 1) := by decide +kernel
theorem dX6_insertFresh_95 : decode cX6_insertFresh 95 = .ok (.getfield 24, 3) := by decide +kernel
theorem dX6_insertFresh_98 : decode cX6_insertFresh 98 = .ok (.iconst 1, 1) := by decide +kernel
theorem dX6_insertFresh_99 : decode cX6_insertFresh 99 = .ok (.iadd, 1) := by decide +kernel
theorem dX6_insertFresh_100 : decode cX6_insertFresh 100 = .ok (.putfield 24, 3) := by decide +kernel
theorem dX6_insertFresh_103 : decode cX6_insertFresh 103 = .ok (.return_, 1) := by decide +kernel
theorem dX7_init_0 : decode cX7_init 0 = .ok (.aload_n 0, 1) := by decide +kernel
theorem dX7_init_1 : decode cX7_init 1 = .ok (.invokespecial 5, 3) := by decide +kernel
theorem dX7_init_4 : decode cX7_init 4 = .ok (.aload_n 0, 1) := by decide +kernel
theorem dX7_init_5 : decode cX7_init 5 = .ok (.bipush 18, 2) := by decide +kernel
theorem dX7_init_7 : decode cX7_init 7 = .ok (.newarray .int, 2) := by decide +kernel
theorem dX7_init_9 : decode cX7_init 9 = .ok (.putfield 11, 3) := by decide +kernel
theorem dX7_init_12 : decode cX7_init 12 = .ok (.return_, 1) := by decide +kernel
set_option maxRecDepth 20000 in
theorem ggX7_carryOut_J7_fill_53178 : GoodIn wsX7_carryOut wsJ7_fill_53178 := goodIn_r _ [6] (by decide +kernel) (by decide +kernel)
set_option maxRecDepth 20000 in
theorem gX7_carryOut_J7_fill_53178 : GoodIn wsX7_carryOut (va_wsS RX7 17 yJ7_fill_53178 wsJ7_fill_53178) := goodIn_app (goodIn_of _ (by decide +kernel)) ggX7_carryOut_J7_fill_53178
set_option maxRecDepth 20000 in
theorem ggX7_carryOut_X7_doOrder : GoodIn wsX7_carryOut wsX7_doOrder := goodIn_r _ [11, 12, 13, 14, 15, 16, 17, 18, 19, 20, 21, 22, 23, 24, 25, 26, 27, 28, 29, 30, 31, 32, 33, 34, 35, 36, 37, 38, 39, 40, 10, 41, 42, 43, 44, 45, 46, 47, 48, 49, 50, 51, 52, 53, 54, 55, 56, 57, 58, 59, 60, 61, 62, 63, 64, 65, 66, 67, 68, 69, 70, 71, 72, 73, 74, 75, 76, 77, 78, 79, 80, 81, 82, 1, 83, 84, 85, 86, 87, 88, 89, 90, 91, 92, 93, 94, 95, 96, 97, 98, 99, 100, 101, 102, 103, 104, 105, 106, 107, 121, 122, 123, 124, 125, 126, 127, 120] (by decide +kernel) (by decide +kernel)
set_option maxRecDepth 20000 in
theorem gX7_carryOut_X7_doOrder : GoodIn wsX7_carryOut (wsV RX7 27 RX7 yX7_doOrder wsX7_doOrder) := goodIn_app (goodIn_of _ (by decide +kernel)) ggX7_carryOut_X7_doOrder
set_option maxRecDepth 20000 in
theorem ggX7_carryOut_X7_firstThatLeftUnfilled : GoodIn wsX7_carryOut wsX7_firstThatLeftUnfilled := goodIn_r _ [111, 112, 113, 114, 115, 95, 96, 97, 26, 98, 28, 34, 35, 36, 37, 38, 99, 57, 58, 59, 64, 65, 66, 49, 67, 68, 69, 70, 71, 72, 73, 74, 55, 100, 101, 102, 103, 104, 105, 106, 107, 116, 117, 118, 10, 119, 1, 124, 125, 126, 127, 120] (by decide +kernel) (by decide +kernel)
set_option maxRecDepth 20000 in
theorem gX7_carryOut_X7_firstThatLeftUnfilled : GoodIn wsX7_carryOut (wsV RX7 31 RX7 yX7_firstThatLeftUnfilled wsX7_firstThatLeftUnfilled) := goodIn_app (goodIn_of _ (by decide +kernel)) ggX7_carryOut_X7_firstThatLeftUnfilled
theorem dX7_carryOut_0 : decode cX7_carryOut 0 = .ok (.aload_n 0, 1) := by decide +kernel
theorem dX7_carryOut_1 : decode cX7_carryOut 1 = .ok (.getfield 11, 3) := by decide +kernel
theorem dX7_carryOut_4 : decode cX7_carryOut 4 = .ok (.bipush 8, 2) := by decide +kernel
theorem dX7_carryOut_6 : decode cX7_carryOut 6 = .ok (.invokestatic 17, 3) := by decide +kernel
theorem dX7_carryOut_9 : decode cX7_carryOut 9 = .ok (.iconst 0, 1) := by decide +kernel
theorem dX7_carryOut_10 : decode cX7_carryOut 10 = .ok (.istore 4, 2) := by decide +kernel
theorem dX7_carryOut_12 : decode cX7_carryOut 12 = .ok (.iload 4, 2) := by decide +kernel
theorem dX7_carryOut_14 : decode cX7_carryOut 14 = .ok (.aload_n 1, 1) := by decide +kernel
theorem dX7_carryOut_15 : decode cX7_carryOut 15 = .ok (.getfield 23, 3) := by decide +kernel
theorem dX7_carryOut_18 : decode cX7_carryOut 18 = .ok (.if_icmp .ge 34, 3) := by decide +kernel
theorem dX7_carryOut_21 : decode cX7_carryOut 21 = .ok (.aload_n 0, 1) := by decide +kernel
theorem dX7_carryOut_22 : decode cX7_carryOut 22 = .ok (.iload 4, 2) := by decide +kernel
theorem dX7_carryOut_24 : decode cX7_carryOut 24 = .ok (.aload_n 1, 1) := by decide +kernel
theorem dX7_carryOut_25 : decode cX7_carryOut 25 = .ok (.aload_n 2, 1) := by decide +kernel
theorem dX7_carryOut_26 : decode cX7_carryOut 26 = .ok (.aload_n 3, 1) := by decide +kernel
theorem dX7_carryOut_27 : decode cX7_carryOut 27 = .ok (.invokevirtual 27, 3) := by decide +kernel
theorem dX7_carryOut_30 : decode cX7_carryOut 30 = .ok (.istore 5, 2) := by decide +kernel
theorem dX7_carryOut_32 : decode cX7_carryOut 32 = .ok (.iload 5, 2) := by decide +kernel
theorem dX7_carryOut_34 : decode cX7_carryOut 34 = .ok (.ifCond .eq 12, 3) := by decide +kernel
theorem dX7_carryOut_37 : decode cX7_carryOut 37 = .ok (.bipush 10, 2) := by decide +kernel
theorem dX7_carryOut_39 : decode cX7_carryOut 39 = .ok (.iload 4, 2) := by decide +kernel
theorem dX7_carryOut_41 : decode cX7_carryOut 41 = .ok (.imul, 1) := by decide +kernel
theorem dX7_carryOut_42 : decode cX7_carryOut 42 = .ok (.iload 5, 2) := by decide +kernel
theorem dX7_carryOut_44 : decode cX7_carryOut 44 = .ok (.iadd, 1) := by decide +kernel
theorem dX7_carryOut_45 : decode cX7_carryOut 45 = .ok (.ireturn, 1) := by decide +kernel
theorem dX7_carryOut_46 : decode cX7_carryOut 46 = .ok (.iinc 4 1, 3) := by decide +kernel
theorem dX7_carryOut_49 : decode cX7_carryOut 49 = .ok (.goto (-37), 3) := by decide +kernel
theorem dX7_carryOut_52 : decode cX7_carryOut 52 = .ok (.aload_n 0, 1) := by decide +kernel
theorem dX7_carryOut_53 : decode cX7_carryOut 53 = .ok (.aload_n 2, 1) := by decide +kernel
theorem dX7_carryOut_54 : decode cX7_carryOut 54 = .ok (.aload_n 3, 1) := by decide +kernel
theorem dX7_carryOut_55 : decode cX7_carryOut 55 = .ok (.invokevirtual 31, 3) := by decide +kernel
theorem dX7_carryOut_58 : decode cX7_carryOut 58 = .ok (.istore 4, 2) := by decide +kernel
theorem dX7_carryOut_60 : decode cX7_carryOut 60 = .ok (.iload 4, 2) := by decide +kernel
theorem dX7_carryOut_62 : decode cX7_carryOut 62 = .ok (.bipush 8, 2) := by decide +kernel
theorem dX7_carryOut_64 : decode cX7_carryOut 64 = .ok (.if_icmp .ne 7, 3) := by decide +kernel
theorem dX7_carryOut_67 : decode cX7_carryOut 67 = .ok (.iconst 0, 1) := by decide +kernel
theorem dX7_carryOut_68 : decode cX7_carryOut 68 = .ok (.goto 10, 3) := by decide +kernel
theorem dX7_carryOut_71 : decode cX7_carryOut 71 = .ok (.bipush 10, 2) := by decide +kernel
theorem dX7_carryOut_73 : decode cX7_carryOut 73 = .ok (.iload 4, 2) := by decide +kernel
theorem dX7_carryOut_75 : decode cX7_carryOut 75 = .ok (.imul, 1) := by decide +kernel
theorem dX7_carryOut_76 : decode cX7_carryOut 76 = .ok (.iconst 5, 1) := by decide +kernel
theorem dX7_carryOut_77 : decode cX7_carryOut 77 = .ok (.iadd, 1) := by decide +kernel
theorem dX7_carryOut_78 : decode cX7_carryOut 78 = .ok (.ireturn, 1) := by decide +kernel
set_option maxRecDepth 20000 in
theorem ggX7_doOrder_X1_name : GoodIn wsX7_doOrder wsX1_name := goodIn_r _ [5, 6, 99, 100, 101] (by decide +kernel) (by decide +kernel)
set_option maxRecDepth 20000 in
theorem gX7_doOrder_X1_name : GoodIn wsX7_doOrder (wsV RX7 35 RX1 yX1_name wsX1_name) := goodIn_app (goodIn_of _ (by decide +kernel)) ggX7_doOrder_X1_name
set_option maxRecDepth 20000 in
theorem ggX7_doOrder_X1_value : GoodIn wsX7_doOrder wsX1_value := goodIn_r _ [10, 11, 99, 100, 101] (by decide +kernel) (by decide +kernel)
set_option maxRecDepth 20000 in
theorem gX7_doOrder_X1_value : GoodIn wsX7_doOrder (wsV RX7 39 RX1 yX1_value wsX1_value) := goodIn_app (goodIn_of _ (by decide +kernel)) ggX7_doOrder_X1_value
set_option maxRecDepth 20000 in
theorem ggX7_doOrder_X6_branchOf : GoodIn wsX7_doOrder wsX6_branchOf := goodIn_r _ [16, 17, 18, 19, 20, 21, 22, 23, 24, 25, 15, 26, 27, 102, 103, 104] (by decide +kernel) (by decide +kernel)
set_option maxRecDepth 20000 in
theorem gX7_doOrder_X6_branchOf : GoodIn wsX7_doOrder (wsV RX7 42 RX6 yX6_branchOf wsX6_branchOf) := goodIn_app (goodIn_of _ (by decide +kernel)) ggX7_doOrder_X6_branchOf
set_option maxRecDepth 20000 in
theorem ggX7_doOrder_X7_mayHaveLeaf : GoodIn wsX7_doOrder wsX7_mayHaveLeaf := goodIn_r _ [31, 18, 19, 20, 32, 24, 25, 15, 26, 27, 102, 103, 104] (by decide +kernel) (by decide +kernel)
set_option maxRecDepth 20000 in
theorem gX7_doOrder_X7_mayHaveLeaf : GoodIn wsX7_doOrder (va_wsS RX7 47 yX7_mayHaveLeaf wsX7_mayHaveLeaf) := goodIn_app (goodIn_of _ (by decide +kernel)) ggX7_doOrder_X7_mayHaveLeaf
set_option maxRecDepth 20000 in
theorem ggX7_doOrder_X6_field : GoodIn wsX7_doOrder wsX6_field := goodIn_r _ [26, 27, 102, 103, 104] (by decide +kernel) (by decide +kernel)
set_option maxRecDepth 20000 in
theorem gX7_doOrder_X6_field : GoodIn wsX7_doOrder (wsV RX7 51 RX6 yX6_field wsX6_field) := goodIn_app (goodIn_of _ (by decide +kernel)) ggX7_doOrder_X6_field
set_option maxRecDepth 20000 in
theorem ggX7_doOrder_X7_setSingle : GoodIn wsX7_doOrder wsX7_setSingle := goodIn_r _ [35, 32, 24, 25, 15, 26, 27, 36, 37, 38, 39, 40, 41, 42, 43, 44, 45, 102, 103, 104, 105] (by decide +kernel) (by decide +kernel)
set_option maxRecDepth 20000 in
theorem gX7_doOrder_X7_setSingle : GoodIn wsX7_doOrder (va_wsS RX7 55 yX7_setSingle wsX7_setSingle) := goodIn_app (goodIn_of _ (by decide +kernel)) ggX7_doOrder_X7_setSingle
set_option maxRecDepth 20000 in
theorem ggX7_doOrder_X6_tablesAhead : GoodIn wsX7_doOrder wsX6_tablesAhead := goodIn_r _ [49, 17, 23, 24, 25, 15, 26, 27, 102, 103, 104] (by decide +kernel) (by decide +kernel)
set_option maxRecDepth 20000 in
theorem gX7_doOrder_X6_tablesAhead : GoodIn wsX7_doOrder (wsV RX7 59 RX6 yX6_tablesAhead wsX6_tablesAhead) := goodIn_app (goodIn_of _ (by decide +kernel)) ggX7_doOrder_X6_tablesAhead
set_option maxRecDepth 20000 in
theorem ggX7_doOrder_X8_numberOf : GoodIn wsX7_doOrder wsX8_numberOf := goodIn_r _ [20] (by decide +kernel) (by decide +kernel)
set_option maxRecDepth 20000 in
theorem gX7_doOrder_X8_numberOf_n62 : GoodIn wsX7_doOrder (wsX8_numberOf) := ggX7_doOrder_X8_numberOf
set_option maxRecDepth 20000 in
theorem ggX7_doOrder_X7_setStatus : GoodIn wsX7_doOrder wsX7_setStatus := goodIn_r _ [53, 54, 55, 56, 39, 57, 58, 59, 60, 61, 62, 63, 64, 45, 65, 66, 67, 68, 41, 42, 43, 44, 69, 70, 71, 30, 72, 73, 74, 75, 76, 77, 78, 105, 106] (by decide +kernel) (by decide +kernel)
set_option maxRecDepth 20000 in
theorem gX7_doOrder_X7_setStatus : GoodIn wsX7_doOrder (wsV RX7 65 RX7 yX7_setStatus wsX7_setStatus) := goodIn_app (goodIn_of _ (by decide +kernel)) ggX7_doOrder_X7_setStatus
set_option maxRecDepth 20000 in
theorem ggX7_doOrder_X7_fillCell : GoodIn wsX7_doOrder wsX7_fillCell := goodIn_r _ [81, 54, 55, 56, 39, 57, 58, 59, 60, 61, 62, 63, 64, 45, 82, 83, 84, 85, 41, 42, 43, 44, 86, 87, 88, 15, 89, 17, 23, 24, 25, 26, 27, 90, 47, 48, 49, 91, 92, 93, 94, 95, 96, 97, 98, 65, 66, 67, 68, 105, 102, 103, 104] (by decide +kernel) (by decide +kernel)
set_option maxRecDepth 20000 in
theorem gX7_doOrder_X7_fillCell : GoodIn wsX7_doOrder (va_wsS RX7 69 yX7_fillCell wsX7_fillCell) := goodIn_app (goodIn_of _ (by decide +kernel)) ggX7_doOrder_X7_fillCell
theorem dX7_doOrder_0 : decode cX7_doOrder 0 = .ok (.aload_n 2, 1) := by decide +kernel
theorem dX7_doOrder_1 : decode cX7_doOrder 1 = .ok (.iload_n 1, 1) := by decide +kernel
theorem dX7_doOrder_2 : decode cX7_doOrder 2 = .ok (.invokevirtual 35, 3) := by decide +kernel
theorem dX7_doOrder_5 : decode cX7_doOrder 5 = .ok (.istore 5, 2) := by decide +kernel
theorem dX7_doOrder_7 : decode cX7_doOrder 7 = .ok (.aload_n 2, 1) := by decide +kernel
theorem dX7_doOrder_8 : decode cX7_doOrder 8 = .ok (.iload_n 1, 1) := by decide +kernel
theorem dX7_doOrder_9 : decode cX7_doOrder 9 = .ok (.invokevirtual 39, 3) := by decide +kernel
theorem dX7_doOrder_12 : decode cX7_doOrder 12 = .ok (.istore 6, 2) := by decide +kernel
theorem dX7_doOrder_14 : decode cX7_doOrder 14 = .ok (.aload_n 3, 1) := by decide +kernel
theorem dX7_doOrder_15 : decode cX7_doOrder 15 = .ok (.iload 5, 2) := by decide +kernel
theorem dX7_doOrder_17 : decode cX7_doOrder 17 = .ok (.invokevirtual 42, 3) := by decide +kernel
theorem dX7_doOrder_20 : decode cX7_doOrder 20 = .ok (.istore 7, 2) := by decide +kernel
theorem dX7_doOrder_22 : decode cX7_doOrder 22 = .ok (.iload 7, 2) := by decide +kernel
theorem dX7_doOrder_24 : decode cX7_doOrder 24 = .ok (.bipush (-9), 2) := by decide +kernel
theorem dX7_doOrder_26 : decode cX7_doOrder 26 = .ok (.if_icmp .eq 14, 3) := by decide +kernel
theorem dX7_doOrder_29 : decode cX7_doOrder 29 = .ok (.aload_n 3, 1) := by decide +kernel
theorem dX7_doOrder_30 : decode cX7_doOrder 30 = .ok (.iload 7, 2) := by decide +kernel
theorem dX7_doOrder_32 : decode cX7_doOrder 32 = .ok (.iload 5, 2) := by decide +kernel
theorem dX7_doOrder_34 : decode cX7_doOrder 34 = .ok (.invokestatic 47, 3) := by decide +kernel
theorem dX7_doOrder_37 : decode cX7_doOrder 37 = .ok (.ifCond .ne 5, 3) := by decide +kernel
theorem dX7_doOrder_40 : decode cX7_doOrder 40 = .ok (.iconst 1, 1) := by decide +kernel
theorem dX7_doOrder_41 : decode cX7_doOrder 41 = .ok (.ireturn, 1) := by decide +kernel
theorem dX7_doOrder_42 : decode cX7_doOrder 42 = .ok (.aload_n 3, 1) := by decide +kernel
theorem dX7_doOrder_43 : decode cX7_doOrder 43 = .ok (.iload 7, 2) := by decide +kernel
theorem dX7_doOrder_45 : decode cX7_doOrder 45 = .ok (.iconst 0, 1) := by decide +kernel
theorem dX7_doOrder_46 : decode cX7_doOrder 46 = .ok (.invokevirtual 51, 3) := by decide +kernel
theorem dX7_doOrder_49 : decode cX7_doOrder 49 = .ok (.lookupswitch 40 #[(0, 27), (1, 38)], 27) := by decide +kernel
theorem dX7_doOrder_76 : decode cX7_doOrder 76 = .ok (.iload 7, 2) := by decide +kernel
theorem dX7_doOrder_78 : decode cX7_doOrder 78 = .ok (.iload 6, 2) := by decide +kernel
theorem dX7_doOrder_80 : decode cX7_doOrder 80 = .ok (.aload_n 3, 1) := by decide +kernel
theorem dX7_doOrder_81 : decode cX7_doOrder 81 = .ok (.aload 4, 2) := by decide +kernel
theorem dX7_doOrder_83 : decode cX7_doOrder 83 = .ok (.invokestatic 55, 3) := by decide +kernel
theorem dX7_doOrder_86 : decode cX7_doOrder 86 = .ok (.ireturn, 1) := by decide +kernel
theorem dX7_doOrder_87 : decode cX7_doOrder 87 = .ok (.iconst 2, 1) := by decide +kernel
theorem dX7_doOrder_88 : decode cX7_doOrder 88 = .ok (.ireturn, 1) := by decide +kernel
theorem dX7_doOrder_89 : decode cX7_doOrder 89 = .ok (.aload_n 3, 1) := by decide +kernel
theorem dX7_doOrder_90 : decode cX7_doOrder 90 = .ok (.iload 7, 2) := by decide +kernel
theorem dX7_doOrder_92 : decode cX7_doOrder 92 = .ok (.invokevirtual 59, 3) := by decide +kernel
theorem dX7_doOrder_95 : decode cX7_doOrder 95 = .ok (.istore 8, 2) := by decide +kernel
theorem dX7_doOrder_97 : decode cX7_doOrder 97 = .ok (.iload 5, 2) := by decide +kernel
theorem dX7_doOrder_99 : decode cX7_doOrder 99 = .ok (.iconst 2, 1) := by decide +kernel
theorem dX7_doOrder_100 : decode cX7_doOrder 100 = .ok (.invokestatic 62, 3) := by decide +kernel
theorem dX7_doOrder_103 : decode cX7_doOrder 103 = .ok (.istore 9, 2) := by decide +kernel
theorem dX7_doOrder_105 : decode cX7_doOrder 105 = .ok (.iload 5, 2) := by decide +kernel
theorem dX7_doOrder_107 : decode cX7_doOrder 107 = .ok (.iconst 3, 1) := by decide +kernel
theorem dX7_doOrder_108 : decode cX7_doOrder 108 = .ok (.invokestatic 62, 3) := by decide +kernel
theorem dX7_doOrder_111 : decode cX7_doOrder 111 = .ok (.istore 10, 2) := by decide +kernel
theorem dX7_doOrder_113 : decode cX7_doOrder 113 = .ok (.iload 9, 2) := by decide +kernel
theorem dX7_doOrder_115 : decode cX7_doOrder 115 = .ok (.ifCond .ne 19, 3) := by decide +kernel
theorem dX7_doOrder_118 : decode cX7_doOrder 118 = .ok (.aload_n 0, 1) := by decide +kernel
theorem dX7_doOrder_119 : decode cX7_doOrder 119 = .ok (.iload 8, 2) := by decide +kernel
theorem dX7_doOrder_121 : decode cX7_doOrder 121 = .ok (.iload 10, 2) := by decide +kernel
theorem dX7_doOrder_123 : decode cX7_doOrder 123 = .ok (.iload 6, 2) := by decide +kernel
theorem dX7_doOrder_125 : decode cX7_doOrder 125 = .ok (.iload_n 1, 1) := by decide +kernel
theorem dX7_doOrder_126 : decode cX7_doOrder 126 = .ok (.aload 4, 2) := by decide +kernel
theorem dX7_doOrder_128 : decode cX7_doOrder 128 = .ok (.invokevirtual 65, 3) := by decide +kernel
theorem dX7_doOrder_131 : decode cX7_doOrder 131 = .ok (.goto 17, 3) := by decide +kernel
theorem dX7_doOrder_134 : decode cX7_doOrder 134 = .ok (.iload 8, 2) := by decide +kernel
theorem dX7_doOrder_136 : decode cX7_doOrder 136 = .ok (.iload 9, 2) := by decide +kernel
theorem dX7_doOrder_138 : decode cX7_doOrder 138 = .ok (.iload 10, 2) := by decide +kernel
theorem dX7_doOrder_140 : decode cX7_doOrder 140 = .ok (.iload 6, 2) := by decide +kernel
theorem dX7_doOrder_142 : decode cX7_doOrder 142 = .ok (.aload_n 3, 1) := by decide +kernel
theorem dX7_doOrder_143 : decode cX7_doOrder 143 = .ok (.aload 4, 2) := by decide +kernel
theorem dX7_doOrder_145 : decode cX7_doOrder 145 = .ok (.invokestatic 69, 3) := by decide +kernel
theorem dX7_doOrder_148 : decode cX7_doOrder 148 = .ok (.ireturn, 1) := by decide +kernel
set_option maxRecDepth 20000 in
theorem ggX7_mayHaveLeaf_X8_numberOf : GoodIn wsX7_mayHaveLeaf wsX8_numberOf := goodIn_r _ [3] (by decide +kernel) (by decide +kernel)
set_option maxRecDepth 20000 in
theorem gX7_mayHaveLeaf_X8_numberOf_n62 : GoodIn wsX7_mayHaveLeaf (wsX8_numberOf) := ggX7_mayHaveLeaf_X8_numberOf
set_option maxRecDepth 20000 in
theorem ggX7_mayHaveLeaf_X6_field : GoodIn wsX7_mayHaveLeaf wsX6_field := goodIn_r _ [8, 9, 10, 11, 12] (by decide +kernel) (by decide +kernel)
set_option maxRecDepth 20000 in
theorem gX7_mayHaveLeaf_X6_field : GoodIn wsX7_mayHaveLeaf (wsV RX7 51 RX6 yX6_field wsX6_field) := goodIn_app (goodIn_of _ (by decide +kernel)) ggX7_mayHaveLeaf_X6_field
theorem dX7_mayHaveLeaf_0 : decode cX7_mayHaveLeaf 0 = .ok (.iload_n 2, 1) := by decide +kernel
theorem dX7_mayHaveLeaf_1 : decode cX7_mayHaveLeaf 1 = .ok (.iconst 2, 1) := by decide +kernel
theorem dX7_mayHaveLeaf_2 : decode cX7_mayHaveLeaf 2 = .ok (.invokestatic 62, 3) := by decide +kernel
theorem dX7_mayHaveLeaf_5 : decode cX7_mayHaveLeaf 5 = .ok (.istore_n 3, 1) := by decide +kernel
theorem dX7_mayHaveLeaf_6 : decode cX7_mayHaveLeaf 6 = .ok (.iload_n 2, 1) := by decide +kernel
theorem dX7_mayHaveLeaf_7 : decode cX7_mayHaveLeaf 7 = .ok (.iconst 3, 1) := by decide +kernel
theorem dX7_mayHaveLeaf_8 : decode cX7_mayHaveLeaf 8 = .ok (.invokestatic 62, 3) := by decide +kernel
theorem dX7_mayHaveLeaf_11 : decode cX7_mayHaveLeaf 11 = .ok (.istore 4, 2) := by decide +kernel
theorem dX7_mayHaveLeaf_13 : decode cX7_mayHaveLeaf 13 = .ok (.aload_n 0, 1) := by decide +kernel
theorem dX7_mayHaveLeaf_14 : decode cX7_mayHaveLeaf 14 = .ok (.iload_n 1, 1) := by decide +kernel
theorem dX7_mayHaveLeaf_15 : decode cX7_mayHaveLeaf 15 = .ok (.iconst 0, 1) := by decide +kernel
theorem dX7_mayHaveLeaf_16 : decode cX7_mayHaveLeaf 16 = .ok (.invokevirtual 51, 3) := by decide +kernel
theorem dX7_mayHaveLeaf_19 : decode cX7_mayHaveLeaf 19 = .ok (.iconst 2, 1) := by decide +kernel
theorem dX7_mayHaveLeaf_20 : decode cX7_mayHaveLeaf 20 = .ok (.if_icmp .eq 19, 3) := by decide +kernel
theorem dX7_mayHaveLeaf_23 : decode cX7_mayHaveLeaf 23 = .ok (.iload_n 3, 1) := by decide +kernel
theorem dX7_mayHaveLeaf_24 : decode cX7_mayHaveLeaf 24 = .ok (.ifCond .ne 13, 3) := by decide +kernel
theorem dX7_mayHaveLeaf_27 : decode cX7_mayHaveLeaf 27 = .ok (.iload 4, 2) := by decide +kernel
theorem dX7_mayHaveLeaf_29 : decode cX7_mayHaveLeaf 29 = .ok (.iconst (-1), 1) := by decide +kernel
theorem dX7_mayHaveLeaf_30 : decode cX7_mayHaveLeaf 30 = .ok (.if_icmp .ne 7, 3) := by decide +kernel
theorem dX7_mayHaveLeaf_33 : decode cX7_mayHaveLeaf 33 = .ok (.iconst 1, 1) := by decide +kernel
theorem dX7_mayHaveLeaf_34 : decode cX7_mayHaveLeaf 34 = .ok (.goto 4, 3) := by decide +kernel
theorem dX7_mayHaveLeaf_37 : decode cX7_mayHaveLeaf 37 = .ok (.iconst 0, 1) := by decide +kernel
theorem dX7_mayHaveLeaf_38 : decode cX7_mayHaveLeaf 38 = .ok (.ireturn, 1) := by decide +kernel
theorem dX7_mayHaveLeaf_39 : decode cX7_mayHaveLeaf 39 = .ok (.iload_n 3, 1) := by decide +kernel
theorem dX7_mayHaveLeaf_40 : decode cX7_mayHaveLeaf 40 = .ok (.ifCond .lt 30, 3) := by decide +kernel
theorem dX7_mayHaveLeaf_43 : decode cX7_mayHaveLeaf 43 = .ok (.iload_n 3, 1) := by decide +kernel
theorem dX7_mayHaveLeaf_44 : decode cX7_mayHaveLeaf 44 = .ok (.aload_n 0, 1) := by decide +kernel
theorem dX7_mayHaveLeaf_45 : decode cX7_mayHaveLeaf 45 = .ok (.iload_n 1, 1) := by decide +kernel
theorem dX7_mayHaveLeaf_46 : decode cX7_mayHaveLeaf 46 = .ok (.iconst 3, 1) := by decide +kernel
theorem dX7_mayHaveLeaf_47 : decode cX7_mayHaveLeaf 47 = .ok (.invokevirtual 51, 3) := by decide +kernel
theorem dX7_mayHaveLeaf_50 : decode cX7_mayHaveLeaf 50 = .ok (.if_icmp .gt 20, 3) := by decide +kernel
theorem dX7_mayHaveLeaf_53 : decode cX7_mayHaveLeaf 53 = .ok (.iload 4, 2) := by decide +kernel
theorem dX7_mayHaveLeaf_55 : decode cX7_mayHaveLeaf 55 = .ok (.iconst 1, 1) := by decide +kernel
theorem dX7_mayHaveLeaf_56 : decode cX7_mayHaveLeaf 56 = .ok (.if_icmp .lt 14, 3) := by decide +kernel
theorem dX7_mayHaveLeaf_59 : decode cX7_mayHaveLeaf 59 = .ok (.iload 4, 2) := by decide +kernel
theorem dX7_mayHaveLeaf_61 : decode cX7_mayHaveLeaf 61 = .ok (.bipush 9, 2) := by decide +kernel
theorem dX7_mayHaveLeaf_63 : decode cX7_mayHaveLeaf 63 = .ok (.if_icmp .gt 7, 3) := by decide +kernel
theorem dX7_mayHaveLeaf_66 : decode cX7_mayHaveLeaf 66 = .ok (.iconst 1, 1) := by decide +kernel
theorem dX7_mayHaveLeaf_67 : decode cX7_mayHaveLeaf 67 = .ok (.goto 4, 3) := by decide +kernel
theorem dX7_mayHaveLeaf_70 : decode cX7_mayHaveLeaf 70 = .ok (.iconst 0, 1) := by decide +kernel
theorem dX7_mayHaveLeaf_71 : decode cX7_mayHaveLeaf 71 = .ok (.ireturn, 1) := by decide +kernel
set_option maxRecDepth 20000 in
theorem ggX7_setSingle_X6_field : GoodIn wsX7_setSingle wsX6_field := goodIn_r _ [5, 6, 17, 18, 19] (by decide +kernel) (by decide +kernel)
set_option maxRecDepth 20000 in
theorem gX7_setSingle_X6_field : GoodIn wsX7_setSingle (wsV RX7 51 RX6 yX6_field wsX6_field) := goodIn_app (goodIn_of _ (by decide +kernel)) ggX7_setSingle_X6_field
set_option maxRecDepth 20000 in
theorem ggX7_setSingle_X4_setValue : GoodIn wsX7_setSingle wsX4_setValue := goodIn_r _ [11, 12, 13, 14, 10, 15, 16, 20] (by decide +kernel) (by decide +kernel)
set_option maxRecDepth 20000 in
theorem gX7_setSingle_X4_setValue : GoodIn wsX7_setSingle (wsV RX7 73 RX4 yX4_setValue wsX4_setValue) := goodIn_app (goodIn_of _ (by decide +kernel)) ggX7_setSingle_X4_setValue
theorem dX7_setSingle_0 : decode cX7_setSingle 0 = .ok (.iload_n 1, 1) := by decide +kernel
theorem dX7_setSingle_1 : decode cX7_setSingle 1 = .ok (.aload_n 2, 1) := by decide +kernel
theorem dX7_setSingle_2 : decode cX7_setSingle 2 = .ok (.iload_n 0, 1) := by decide +kernel
theorem dX7_setSingle_3 : decode cX7_setSingle 3 = .ok (.iconst 4, 1) := by decide +kernel
theorem dX7_setSingle_4 : decode cX7_setSingle 4 = .ok (.invokevirtual 51, 3) := by decide +kernel
theorem dX7_setSingle_7 : decode cX7_setSingle 7 = .ok (.if_icmp .lt 13, 3) := by decide +kernel
theorem dX7_setSingle_10 : decode cX7_setSingle 10 = .ok (.iload_n 1, 1) := by decide +kernel
theorem dX7_setSingle_11 : decode cX7_setSingle 11 = .ok (.aload_n 2, 1) := by decide +kernel
theorem dX7_setSingle_12 : decode cX7_setSingle 12 = .ok (.iload_n 0, 1) := by decide +kernel
theorem dX7_setSingle_13 : decode cX7_setSingle 13 = .ok (.iconst 5, 1) := by decide +kernel
theorem dX7_setSingle_14 : decode cX7_setSingle 14 = .ok (.invokevirtual 51, 3) := by decide +kernel
theorem dX7_setSingle_17 : decode cX7_setSingle 17 = .ok (.if_icmp .le 5, 3) := by decide +kernel
theorem dX7_setSingle_20 : decode cX7_setSingle 20 = .ok (.iconst 3, 1) := by decide +kernel
theorem dX7_setSingle_21 : decode cX7_setSingle 21 = .ok (.ireturn, 1) := by decide +kernel
theorem dX7_setSingle_22 : decode cX7_setSingle 22 = .ok (.aload_n 3, 1) := by decide +kernel
theorem dX7_setSingle_23 : decode cX7_setSingle 23 = .ok (.iload_n 0, 1) := by decide +kernel
theorem dX7_setSingle_24 : decode cX7_setSingle 24 = .ok (.iload_n 1, 1) := by decide +kernel
theorem dX7_setSingle_25 : decode cX7_setSingle 25 = .ok (.invokevirtual 73, 3) := by decide +kernel
theorem dX7_setSingle_28 : decode cX7_setSingle 28 = .ok (.iconst 0, 1) := by decide +kernel
theorem dX7_setSingle_29 : decode cX7_setSingle 29 = .ok (.ireturn, 1) := by decide +kernel
set_option maxRecDepth 20000 in
theorem ggX7_fillCell_X4_statusOf : GoodIn wsX7_fillCell wsX4_statusOf := goodIn_r _ [5, 6, 7, 4, 8, 9, 10, 11, 12, 13, 49] (by decide +kernel) (by decide +kernel)
set_option maxRecDepth 20000 in
theorem gX7_fillCell_X4_statusOf : GoodIn wsX7_fillCell (wsV RX7 79 RX4 yX4_statusOf wsX4_statusOf) := goodIn_app (goodIn_of _ (by decide +kernel)) ggX7_fillCell_X4_statusOf
set_option maxRecDepth 20000 in
theorem ggX7_fillCell_X4_setCell : GoodIn wsX7_fillCell wsX4_setCell := goodIn_r _ [17, 6, 7, 4, 8, 18, 19, 20, 21, 13, 49] (by decide +kernel) (by decide +kernel)
set_option maxRecDepth 20000 in
theorem gX7_fillCell_X4_setCell : GoodIn wsX7_fillCell (wsV RX7 82 RX4 yX4_setCell wsX4_setCell) := goodIn_app (goodIn_of _ (by decide +kernel)) ggX7_fillCell_X4_setCell
set_option maxRecDepth 20000 in
theorem ggX7_fillCell_X6_columnsOf : GoodIn wsX7_fillCell wsX6_columnsOf := goodIn_r _ [26, 27, 28, 29, 30, 25, 31, 32, 33, 34, 35, 36, 50, 51, 52] (by decide +kernel) (by decide +kernel)
set_option maxRecDepth 20000 in
theorem gX7_fillCell_X6_columnsOf : GoodIn wsX7_fillCell (wsV RX7 86 RX6 yX6_columnsOf wsX6_columnsOf) := goodIn_app (goodIn_of _ (by decide +kernel)) ggX7_fillCell_X6_columnsOf
set_option maxRecDepth 20000 in
theorem ggX7_fillCell_X4_unfilled : GoodIn wsX7_fillCell wsX4_unfilled := goodIn_r _ [40, 41, 42, 43, 4, 44, 6, 7, 8, 9, 10, 11, 12, 13, 49] (by decide +kernel) (by decide +kernel)
set_option maxRecDepth 20000 in
theorem gX7_fillCell_X4_unfilled : GoodIn wsX7_fillCell (wsV RX7 89 RX4 yX4_unfilled wsX4_unfilled) := goodIn_app (goodIn_of _ (by decide +kernel)) ggX7_fillCell_X4_unfilled
set_option maxRecDepth 20000 in
theorem ggX7_fillCell_X4_setStatus : GoodIn wsX7_fillCell wsX4_setStatus := goodIn_r _ [48, 6, 7, 4, 8, 18, 19, 20, 21, 13, 49] (by decide +kernel) (by decide +kernel)
set_option maxRecDepth 20000 in
theorem gX7_fillCell_X4_setStatus : GoodIn wsX7_fillCell (wsV RX7 93 RX4 yX4_setStatus wsX4_setStatus) := goodIn_app (goodIn_of _ (by decide +kernel)) ggX7_fillCell_X4_setStatus
theorem dX7_fillCell_0 : decode cX7_fillCell 0 = .ok (.aload 5, 2) := by decide +kernel
theorem dX7_fillCell_2 : decode cX7_fillCell 2 = .ok (.iload_n 0, 1) := by decide +kernel
theorem dX7_fillCell_3 : decode cX7_fillCell 3 = .ok (.iload_n 2, 1) := by decide +kernel
theorem dX7_fillCell_4 : decode cX7_fillCell 4 = .ok (.invokevirtual 79, 3) := by decide +kernel
theorem dX7_fillCell_7 : decode cX7_fillCell 7 = .ok (.istore 6, 2) := by decide +kernel
theorem dX7_fillCell_9 : decode cX7_fillCell 9 = .ok (.iload 6, 2) := by decide +kernel
theorem dX7_fillCell_11 : decode cX7_fillCell 11 = .ok (.ifCond .ne 5, 3) := by decide +kernel
theorem dX7_fillCell_14 : decode cX7_fillCell 14 = .ok (.iconst 4, 1) := by decide +kernel
theorem dX7_fillCell_15 : decode cX7_fillCell 15 = .ok (.ireturn, 1) := by decide +kernel
theorem dX7_fillCell_16 : decode cX7_fillCell 16 = .ok (.aload 5, 2) := by decide +kernel
theorem dX7_fillCell_18 : decode cX7_fillCell 18 = .ok (.iload_n 0, 1) := by decide +kernel
theorem dX7_fillCell_19 : decode cX7_fillCell 19 = .ok (.iload_n 1, 1) := by decide +kernel
theorem dX7_fillCell_20 : decode cX7_fillCell 20 = .ok (.iload_n 2, 1) := by decide +kernel
theorem dX7_fillCell_21 : decode cX7_fillCell 21 = .ok (.iload_n 3, 1) := by decide +kernel
theorem dX7_fillCell_22 : decode cX7_fillCell 22 = .ok (.invokevirtual 82, 3) := by decide +kernel
theorem dX7_fillCell_25 : decode cX7_fillCell 25 = .ok (.iload 6, 2) := by decide +kernel
theorem dX7_fillCell_27 : decode cX7_fillCell 27 = .ok (.iconst 3, 1) := by decide +kernel
theorem dX7_fillCell_28 : decode cX7_fillCell 28 = .ok (.if_icmp .ne 27, 3) := by decide +kernel
theorem dX7_fillCell_31 : decode cX7_fillCell 31 = .ok (.aload 5, 2) := by decide +kernel
theorem dX7_fillCell_33 : decode cX7_fillCell 33 = .ok (.iload_n 0, 1) := by decide +kernel
theorem dX7_fillCell_34 : decode cX7_fillCell 34 = .ok (.iload_n 2, 1) := by decide +kernel
theorem dX7_fillCell_35 : decode cX7_fillCell 35 = .ok (.aload 4, 2) := by decide +kernel
theorem dX7_fillCell_37 : decode cX7_fillCell 37 = .ok (.iload_n 0, 1) := by decide +kernel
theorem dX7_fillCell_38 : decode cX7_fillCell 38 = .ok (.invokevirtual 86, 3) := by decide +kernel
theorem dX7_fillCell_41 : decode cX7_fillCell 41 = .ok (.invokevirtual 89, 3) := by decide +kernel
theorem dX7_fillCell_44 : decode cX7_fillCell 44 = .ok (.ifCond .ne 11, 3) := by decide +kernel
theorem dX7_fillCell_47 : decode cX7_fillCell 47 = .ok (.aload 5, 2) := by decide +kernel
theorem dX7_fillCell_49 : decode cX7_fillCell 49 = .ok (.iload_n 0, 1) := by decide +kernel
theorem dX7_fillCell_50 : decode cX7_fillCell 50 = .ok (.iload_n 2, 1) := by decide +kernel
theorem dX7_fillCell_51 : decode cX7_fillCell 51 = .ok (.iconst 2, 1) := by decide +kernel
theorem dX7_fillCell_52 : decode cX7_fillCell 52 = .ok (.invokevirtual 93, 3) := by decide +kernel
theorem dX7_fillCell_55 : decode cX7_fillCell 55 = .ok (.iconst 0, 1) := by decide +kernel
theorem dX7_fillCell_56 : decode cX7_fillCell 56 = .ok (.ireturn, 1) := by decide +kernel
set_option maxRecDepth 20000 in
theorem ggX7_setStatus_X4_statusOf : GoodIn wsX7_setStatus wsX4_statusOf := goodIn_r _ [5, 6, 7, 4, 8, 9, 10, 11, 12, 13, 33] (by decide +kernel) (by decide +kernel)
set_option maxRecDepth 20000 in
theorem gX7_setStatus_X4_statusOf : GoodIn wsX7_setStatus (wsV RX7 79 RX4 yX4_statusOf wsX4_statusOf) := goodIn_app (goodIn_of _ (by decide +kernel)) ggX7_setStatus_X4_statusOf
set_option maxRecDepth 20000 in
theorem ggX7_setStatus_X4_setStatus : GoodIn wsX7_setStatus wsX4_setStatus := goodIn_r _ [17, 6, 7, 4, 8, 18, 19, 20, 21, 13, 33] (by decide +kernel) (by decide +kernel)
set_option maxRecDepth 20000 in
theorem gX7_setStatus_X4_setStatus : GoodIn wsX7_setStatus (wsV RX7 93 RX4 yX4_setStatus wsX4_setStatus) := goodIn_app (goodIn_of _ (by decide +kernel)) ggX7_setStatus_X4_setStatus
set_option maxRecDepth 20000 in
theorem ggX7_setStatus_X7_setMaker : GoodIn wsX7_setStatus wsX7_setMaker := goodIn_r _ [26, 27, 34] (by decide +kernel) (by decide +kernel)
set_option maxRecDepth 20000 in
theorem gX7_setStatus_X7_setMaker : GoodIn wsX7_setStatus (wsV RX7 96 RX7 yX7_setMaker wsX7_setMaker) := goodIn_app (goodIn_of _ (by decide +kernel)) ggX7_setStatus_X7_setMaker
set_option maxRecDepth 20000 in
theorem ggX7_setStatus_X4_emptyRow : GoodIn wsX7_setStatus wsX4_emptyRow := goodIn_r _ [31, 32, 15, 16, 4, 17, 6, 7, 8, 18, 19, 20, 21, 13, 33] (by decide +kernel) (by decide +kernel)
set_option maxRecDepth 20000 in
theorem gX7_setStatus_X4_emptyRow : GoodIn wsX7_setStatus (wsV RX7 99 RX4 yX4_emptyRow wsX4_emptyRow) := goodIn_app (goodIn_of _ (by decide +kernel)) ggX7_setStatus_X4_emptyRow
theorem dX7_setStatus_0 : decode cX7_setStatus 0 = .ok (.aload 5, 2) := by decide +kernel
theorem dX7_setStatus_2 : decode cX7_setStatus 2 = .ok (.iload_n 1, 1) := by decide +kernel
theorem dX7_setStatus_3 : decode cX7_setStatus 3 = .ok (.iload_n 2, 1) := by decide +kernel
theorem dX7_setStatus_4 : decode cX7_setStatus 4 = .ok (.invokevirtual 79, 3) := by decide +kernel
theorem dX7_setStatus_7 : decode cX7_setStatus 7 = .ok (.istore 6, 2) := by decide +kernel
theorem dX7_setStatus_9 : decode cX7_setStatus 9 = .ok (.iload_n 3, 1) := by decide +kernel
theorem dX7_setStatus_10 : decode cX7_setStatus 10 = .ok (.tableswitch 114 1 6 #[38, 38, 114, 61, 61, 105], 38) := by decide +kernel
theorem dX7_setStatus_48 : decode cX7_setStatus 48 = .ok (.iload 6, 2) := by decide +kernel
theorem dX7_setStatus_50 : decode cX7_setStatus 50 = .ok (.ifCond .eq 9, 3) := by decide +kernel
theorem dX7_setStatus_53 : decode cX7_setStatus 53 = .ok (.iload 6, 2) := by decide +kernel
theorem dX7_setStatus_55 : decode cX7_setStatus 55 = .ok (.iconst 3, 1) := by decide +kernel
theorem dX7_setStatus_56 : decode cX7_setStatus 56 = .ok (.if_icmp .ne 5, 3) := by decide +kernel
theorem dX7_setStatus_59 : decode cX7_setStatus 59 = .ok (.iconst 4, 1) := by decide +kernel
theorem dX7_setStatus_60 : decode cX7_setStatus 60 = .ok (.ireturn, 1) := by decide +kernel
theorem dX7_setStatus_61 : decode cX7_setStatus 61 = .ok (.aload 5, 2) := by decide +kernel
theorem dX7_setStatus_63 : decode cX7_setStatus 63 = .ok (.iload_n 1, 1) := by decide +kernel
theorem dX7_setStatus_64 : decode cX7_setStatus 64 = .ok (.iload_n 2, 1) := by decide +kernel
theorem dX7_setStatus_65 : decode cX7_setStatus 65 = .ok (.iload_n 3, 1) := by decide +kernel
theorem dX7_setStatus_66 : decode cX7_setStatus 66 = .ok (.invokevirtual 93, 3) := by decide +kernel
theorem dX7_setStatus_69 : decode cX7_setStatus 69 = .ok (.iconst 0, 1) := by decide +kernel
theorem dX7_setStatus_70 : decode cX7_setStatus 70 = .ok (.ireturn, 1) := by decide +kernel
theorem dX7_setStatus_71 : decode cX7_setStatus 71 = .ok (.iload 6, 2) := by decide +kernel
theorem dX7_setStatus_73 : decode cX7_setStatus 73 = .ok (.ifCond .eq 5, 3) := by decide +kernel
theorem dX7_setStatus_76 : decode cX7_setStatus 76 = .ok (.iconst 4, 1) := by decide +kernel
theorem dX7_setStatus_77 : decode cX7_setStatus 77 = .ok (.ireturn, 1) := by decide +kernel
theorem dX7_setStatus_78 : decode cX7_setStatus 78 = .ok (.aload 5, 2) := by decide +kernel
theorem dX7_setStatus_80 : decode cX7_setStatus 80 = .ok (.iload_n 1, 1) := by decide +kernel
theorem dX7_setStatus_81 : decode cX7_setStatus 81 = .ok (.iload_n 2, 1) := by decide +kernel
theorem dX7_setStatus_82 : decode cX7_setStatus 82 = .ok (.iload_n 3, 1) := by decide +kernel
theorem dX7_setStatus_83 : decode cX7_setStatus 83 = .ok (.iconst 4, 1) := by decide +kernel
theorem dX7_setStatus_84 : decode cX7_setStatus 84 = .ok (.if_icmp .ne 7, 3) := by decide +kernel
theorem dX7_setStatus_87 : decode cX7_setStatus 87 = .ok (.iconst 1, 1) := by decide +kernel
theorem dX7_setStatus_88 : decode cX7_setStatus 88 = .ok (.goto 4, 3) := by decide +kernel
theorem dX7_setStatus_91 : decode cX7_setStatus 91 = .ok (.iconst 3, 1) := by decide +kernel
theorem dX7_setStatus_92 : decode cX7_setStatus 92 = .ok (.invokevirtual 93, 3) := by decide +kernel
theorem dX7_setStatus_95 : decode cX7_setStatus 95 = .ok (.aload_n 0, 1) := by decide +kernel
theorem dX7_setStatus_96 : decode cX7_setStatus 96 = .ok (.iload_n 1, 1) := by decide +kernel
theorem dX7_setStatus_97 : decode cX7_setStatus 97 = .ok (.iload_n 2, 1) := by decide +kernel
theorem dX7_setStatus_98 : decode cX7_setStatus 98 = .ok (.iload_n 3, 1) := by decide +kernel
theorem dX7_setStatus_99 : decode cX7_setStatus 99 = .ok (.iconst 4, 1) := by decide +kernel
theorem dX7_setStatus_100 : decode cX7_setStatus 100 = .ok (.if_icmp .ne 8, 3) := by decide +kernel
theorem dX7_setStatus_103 : decode cX7_setStatus 103 = .ok (.iload 4, 2) := by decide +kernel
theorem dX7_setStatus_105 : decode cX7_setStatus 105 = .ok (.goto 5, 3) := by decide +kernel
theorem dX7_setStatus_108 : decode cX7_setStatus 108 = .ok (.bipush 8, 2) := by decide +kernel
theorem dX7_setStatus_110 : decode cX7_setStatus 110 = .ok (.invokevirtual 96, 3) := by decide +kernel
theorem dX7_setStatus_113 : decode cX7_setStatus 113 = .ok (.iconst 0, 1) := by decide +kernel
theorem dX7_setStatus_114 : decode cX7_setStatus 114 = .ok (.ireturn, 1) := by decide +kernel
theorem dX7_setStatus_115 : decode cX7_setStatus 115 = .ok (.aload 5, 2) := by decide +kernel
theorem dX7_setStatus_117 : decode cX7_setStatus 117 = .ok (.iload_n 1, 1) := by decide +kernel
theorem dX7_setStatus_118 : decode cX7_setStatus 118 = .ok (.iload_n 2, 1) := by decide +kernel
theorem dX7_setStatus_119 : decode cX7_setStatus 119 = .ok (.invokevirtual 99, 3) := by decide +kernel
theorem dX7_setStatus_122 : decode cX7_setStatus 122 = .ok (.iconst 0, 1) := by decide +kernel
theorem dX7_setStatus_123 : decode cX7_setStatus 123 = .ok (.ireturn, 1) := by decide +kernel
theorem dX7_setStatus_124 : decode cX7_setStatus 124 = .ok (.iconst 3, 1) := by decide +kernel
theorem dX7_setStatus_125 : decode cX7_setStatus 125 = .ok (.ireturn, 1) := by decide +kernel
set_option maxRecDepth 20000 in
theorem ggX7_firstThatLeftUnfilled_X6_columnsOf : GoodIn wsX7_firstThatLeftUnfilled wsX6_columnsOf := goodIn_r _ [9, 10, 11, 12, 13, 8, 14, 15, 16, 17, 18, 19, 47, 48, 49] (by decide +kernel) (by decide +kernel)
set_option maxRecDepth 20000 in
theorem gX7_firstThatLeftUnfilled_X6_columnsOf : GoodIn wsX7_firstThatLeftUnfilled (wsV RX7 86 RX6 yX6_columnsOf wsX6_columnsOf) := goodIn_app (goodIn_of _ (by decide +kernel)) ggX7_firstThatLeftUnfilled_X6_columnsOf
set_option maxRecDepth 20000 in
theorem ggX7_firstThatLeftUnfilled_X4_statusOf : GoodIn wsX7_firstThatLeftUnfilled wsX4_statusOf := goodIn_r _ [24, 25, 26, 23, 27, 28, 29, 30, 31, 32, 50] (by decide +kernel) (by decide +kernel)
set_option maxRecDepth 20000 in
theorem gX7_firstThatLeftUnfilled_X4_statusOf : GoodIn wsX7_firstThatLeftUnfilled (wsV RX7 79 RX4 yX4_statusOf wsX4_statusOf) := goodIn_app (goodIn_of _ (by decide +kernel)) ggX7_firstThatLeftUnfilled_X4_statusOf
set_option maxRecDepth 20000 in
theorem ggX7_firstThatLeftUnfilled_X4_unfilled : GoodIn wsX7_firstThatLeftUnfilled wsX4_unfilled := goodIn_r _ [36, 37, 38, 39, 23, 40, 25, 26, 27, 28, 29, 30, 31, 32, 50] (by decide +kernel) (by decide +kernel)
set_option maxRecDepth 20000 in
theorem gX7_firstThatLeftUnfilled_X4_unfilled : GoodIn wsX7_firstThatLeftUnfilled (wsV RX7 89 RX4 yX4_unfilled wsX4_unfilled) := goodIn_app (goodIn_of _ (by decide +kernel)) ggX7_firstThatLeftUnfilled_X4_unfilled
set_option maxRecDepth 20000 in
theorem ggX7_firstThatLeftUnfilled_X7_makerOf : GoodIn wsX7_firstThatLeftUnfilled wsX7_makerOf := goodIn_r _ [45, 46, 51] (by decide +kernel) (by decide +kernel)
set_option maxRecDepth 20000 in
theorem gX7_firstThatLeftUnfilled_X7_makerOf : GoodIn wsX7_firstThatLeftUnfilled (wsV RX7 102 RX7 yX7_makerOf wsX7_makerOf) := goodIn_app (goodIn_of _ (by decide +kernel)) ggX7_firstThatLeftUnfilled_X7_makerOf
theorem dX7_firstThatLeftUnfilled_0 : decode cX7_firstThatLeftUnfilled 0 = .ok (.bipush 8, 2) := by decide +kernel
theorem dX7_firstThatLeftUnfilled_2 : decode cX7_firstThatLeftUnfilled 2 = .ok (.istore_n 3, 1) := by decide +kernel
theorem dX7_firstThatLeftUnfilled_3 : decode cX7_firstThatLeftUnfilled 3 = .ok (.iconst 0, 1) := by decide +kernel
theorem dX7_firstThatLeftUnfilled_4 : decode cX7_firstThatLeftUnfilled 4 = .ok (.istore 4, 2) := by decide +kernel
theorem dX7_firstThatLeftUnfilled_6 : decode cX7_firstThatLeftUnfilled 6 = .ok (.iload 4, 2) := by decide +kernel
theorem dX7_firstThatLeftUnfilled_8 : decode cX7_firstThatLeftUnfilled 8 = .ok (.iconst 2, 1) := by decide +kernel
theorem dX7_firstThatLeftUnfilled_9 : decode cX7_firstThatLeftUnfilled 9 = .ok (.if_icmp .ge 71, 3) := by decide +kernel
theorem dX7_firstThatLeftUnfilled_12 : decode cX7_firstThatLeftUnfilled 12 = .ok (.aload_n 1, 1) := by decide +kernel
theorem dX7_firstThatLeftUnfilled_13 : decode cX7_firstThatLeftUnfilled 13 = .ok (.iload 4, 2) := by decide +kernel
theorem dX7_firstThatLeftUnfilled_15 : decode cX7_firstThatLeftUnfilled 15 = .ok (.invokevirtual 86, 3) := by decide +kernel
theorem dX7_firstThatLeftUnfilled_18 : decode cX7_firstThatLeftUnfilled 18 = .ok (.istore 5, 2) := by decide +kernel
theorem dX7_firstThatLeftUnfilled_20 : decode cX7_firstThatLeftUnfilled 20 = .ok (.iconst 1, 1) := by decide +kernel
theorem dX7_firstThatLeftUnfilled_21 : decode cX7_firstThatLeftUnfilled 21 = .ok (.istore 6, 2) := by decide +kernel
theorem dX7_firstThatLeftUnfilled_23 : decode cX7_firstThatLeftUnfilled 23 = .ok (.iload 6, 2) := by decide +kernel
theorem dX7_firstThatLeftUnfilled_25 : decode cX7_firstThatLeftUnfilled 25 = .ok (.bipush 9, 2) := by decide +kernel
theorem dX7_firstThatLeftUnfilled_27 : decode cX7_firstThatLeftUnfilled 27 = .ok (.if_icmp .gt 47, 3) := by decide +kernel
theorem dX7_firstThatLeftUnfilled_30 : decode cX7_firstThatLeftUnfilled 30 = .ok (.aload_n 2, 1) := by decide +kernel
theorem dX7_firstThatLeftUnfilled_31 : decode cX7_firstThatLeftUnfilled 31 = .ok (.iload 4, 2) := by decide +kernel
theorem dX7_firstThatLeftUnfilled_33 : decode cX7_firstThatLeftUnfilled 33 = .ok (.iload 6, 2) := by decide +kernel
theorem dX7_firstThatLeftUnfilled_35 : decode cX7_firstThatLeftUnfilled 35 = .ok (.invokevirtual 79, 3) := by decide +kernel
theorem dX7_firstThatLeftUnfilled_38 : decode cX7_firstThatLeftUnfilled 38 = .ok (.iconst 1, 1) := by decide +kernel
theorem dX7_firstThatLeftUnfilled_39 : decode cX7_firstThatLeftUnfilled 39 = .ok (.if_icmp .ne 29, 3) := by decide +kernel
theorem dX7_firstThatLeftUnfilled_42 : decode cX7_firstThatLeftUnfilled 42 = .ok (.aload_n 2, 1) := by decide +kernel
theorem dX7_firstThatLeftUnfilled_43 : decode cX7_firstThatLeftUnfilled 43 = .ok (.iload 4, 2) := by decide +kernel
theorem dX7_firstThatLeftUnfilled_45 : decode cX7_firstThatLeftUnfilled 45 = .ok (.iload 6, 2) := by decide +kernel
theorem dX7_firstThatLeftUnfilled_47 : decode cX7_firstThatLeftUnfilled 47 = .ok (.iload 5, 2) := by decide +kernel
theorem dX7_firstThatLeftUnfilled_49 : decode cX7_firstThatLeftUnfilled 49 = .ok (.invokevirtual 89, 3) := by decide +kernel
theorem dX7_firstThatLeftUnfilled_52 : decode cX7_firstThatLeftUnfilled 52 = .ok (.ifCond .le 16, 3) := by decide +kernel
theorem dX7_firstThatLeftUnfilled_55 : decode cX7_firstThatLeftUnfilled 55 = .ok (.iload_n 3, 1) := by decide +kernel
theorem dX7_firstThatLeftUnfilled_56 : decode cX7_firstThatLeftUnfilled 56 = .ok (.aload_n 0, 1) := by decide +kernel
theorem dX7_firstThatLeftUnfilled_57 : decode cX7_firstThatLeftUnfilled 57 = .ok (.iload 4, 2) := by decide +kernel
theorem dX7_firstThatLeftUnfilled_59 : decode cX7_firstThatLeftUnfilled 59 = .ok (.iload 6, 2) := by decide +kernel
theorem dX7_firstThatLeftUnfilled_61 : decode cX7_firstThatLeftUnfilled 61 = .ok (.invokevirtual 102, 3) := by decide +kernel
theorem dX7_firstThatLeftUnfilled_64 : decode cX7_firstThatLeftUnfilled 64 = .ok (.invokestatic 105, 3) := by decide +kernel
theorem dX7_firstThatLeftUnfilled_67 : decode cX7_firstThatLeftUnfilled 67 = .ok (.istore_n 3, 1) := by decide +kernel
theorem dX7_firstThatLeftUnfilled_68 : decode cX7_firstThatLeftUnfilled 68 = .ok (.iinc 6 1, 3) := by decide +kernel
theorem dX7_firstThatLeftUnfilled_71 : decode cX7_firstThatLeftUnfilled 71 = .ok (.goto (-48), 3) := by decide +kernel
theorem dX7_firstThatLeftUnfilled_74 : decode cX7_firstThatLeftUnfilled 74 = .ok (.iinc 4 1, 3) := by decide +kernel
theorem dX7_firstThatLeftUnfilled_77 : decode cX7_firstThatLeftUnfilled 77 = .ok (.goto (-71), 3) := by decide +kernel
theorem dX7_firstThatLeftUnfilled_80 : decode cX7_firstThatLeftUnfilled 80 = .ok (.iload_n 3, 1) := by decide +kernel
theorem dX7_firstThatLeftUnfilled_81 : decode cX7_firstThatLeftUnfilled 81 = .ok (.ireturn, 1) := by decide +kernel
theorem dX7_makerOf_0 : decode cX7_makerOf 0 = .ok (.iload_n 1, 1) := by decide +kernel
theorem dX7_makerOf_1 : decode cX7_makerOf 1 = .ok (.bipush 9, 2) := by decide +kernel
theorem dX7_makerOf_3 : decode cX7_makerOf 3 = .ok (.imul, 1) := by decide +kernel
theorem dX7_makerOf_4 : decode cX7_makerOf 4 = .ok (.iload_n 2, 1) := by decide +kernel
theorem dX7_makerOf_5 : decode cX7_makerOf 5 = .ok (.iadd, 1) := by decide +kernel
theorem dX7_makerOf_6 : decode cX7_makerOf 6 = .ok (.iconst 1, 1) := by decide +kernel
theorem dX7_makerOf_7 : decode cX7_makerOf 7 = .ok (.isub, 1) := by decide +kernel
theorem dX7_makerOf_8 : decode cX7_makerOf 8 = .ok (.istore_n 3, 1) := by decide +kernel
theorem dX7_makerOf_9 : decode cX7_makerOf 9 = .ok (.iload_n 3, 1) := by decide +kernel
theorem dX7_makerOf_10 : decode cX7_makerOf 10 = .ok (.ifCond .lt 21, 3) := by decide +kernel
theorem dX7_makerOf_13 : decode cX7_makerOf 13 = .ok (.iload_n 3, 1) := by decide +kernel
theorem dX7_makerOf_14 : decode cX7_makerOf 14 = .ok (.aload_n 0, 1) := by decide +kernel
theorem dX7_makerOf_15 : decode cX7_makerOf 15 = .ok (.getfield 11, 3) := by decide +kernel
theorem dX7_makerOf_18 : decode cX7_makerOf 18 = .ok (.arraylength, 1) := by decide +kernel
theorem dX7_makerOf_19 : decode cX7_makerOf 19 = .ok (.if_icmp .ge 12, 3) := by decide +kernel
theorem dX7_makerOf_22 : decode cX7_makerOf 22 = .ok (.aload_n 0, 1) := by decide +kernel
theorem dX7_makerOf_23 : decode cX7_makerOf 23 = .ok (.getfield 11, 3) := by decide +kernel
theorem dX7_makerOf_26 : decode cX7_makerOf 26 = .ok (.iload_n 3, 1) := by decide +kernel
theorem dX7_makerOf_27 : decode cX7_makerOf 27 = .ok (.iaload, 1) := by decide +kernel
theorem dX7_makerOf_28 : decode cX7_makerOf 28 = .ok (.goto 5, 3) := by decide +kernel
theorem dX7_makerOf_31 : decode cX7_makerOf 31 = .ok (.bipush 8, 2) := by decide +kernel
theorem dX7_makerOf_33 : decode cX7_makerOf 33 = .ok (.ireturn, 1) := by decide +kernel
theorem dX7_setMaker_0 : decode cX7_setMaker 0 = .ok (.iload_n 1, 1) := by decide +kernel
theorem dX7_setMaker_1 : decode cX7_setMaker 1 = .ok (.bipush 9, 2) := by decide +kernel
theorem dX7_setMaker_3 : decode cX7_setMaker 3 = .ok (.imul, 1) := by decide +kernel
theorem dX7_setMaker_4 : decode cX7_setMaker 4 = .ok (.iload_n 2, 1) := by decide +kernel
theorem dX7_setMaker_5 : decode cX7_setMaker 5 = .ok (.iadd, 1) := by decide +kernel
theorem dX7_setMaker_6 : decode cX7_setMaker 6 = .ok (.iconst 1, 1) := by decide +kernel
theorem dX7_setMaker_7 : decode cX7_setMaker 7 = .ok (.isub, 1) := by decide +kernel
theorem dX7_setMaker_8 : decode cX7_setMaker 8 = .ok (.istore 4, 2) := by decide +kernel
theorem dX7_setMaker_10 : decode cX7_setMaker 10 = .ok (.iload 4, 2) := by decide +kernel
theorem dX7_setMaker_12 : decode cX7_setMaker 12 = .ok (.ifCond .lt 21, 3) := by decide +kernel
theorem dX7_setMaker_15 : decode cX7_setMaker 15 = .ok (.iload 4, 2) := by decide +kernel
theorem dX7_setMaker_17 : decode cX7_setMaker 17 = .ok (.aload_n 0, 1) := by decide +kernel
theorem dX7_setMaker_18 : decode cX7_setMaker 18 = .ok (.getfield 11, 3) := by decide +kernel
theorem dX7_setMaker_21 : decode cX7_setMaker 21 = .ok (.arraylength, 1) := by decide +kernel
theorem dX7_setMaker_22 : decode cX7_setMaker 22 = .ok (.if_icmp .ge 11, 3) := by decide +kernel
theorem dX7_setMaker_25 : decode cX7_setMaker 25 = .ok (.aload_n 0, 1) := by decide +kernel
theorem dX7_setMaker_26 : decode cX7_setMaker 26 = .ok (.getfield 11, 3) := by decide +kernel
theorem dX7_setMaker_29 : decode cX7_setMaker 29 = .ok (.iload 4, 2) := by decide +kernel
theorem dX7_setMaker_31 : decode cX7_setMaker 31 = .ok (.iload_n 3, 1) := by decide +kernel
theorem dX7_setMaker_32 : decode cX7_setMaker 32 = .ok (.iastore, 1) := by decide +kernel
theorem dX7_setMaker_33 : decode cX7_setMaker 33 = .ok (.return_, 1) := by decide +kernel
set_option maxRecDepth 20000 in
theorem ggX8_init_X5_init : GoodIn wsX8_init wsX5_init := goodIn_r _ [39, 40, 2, 3, 41, 42, 43, 44, 45, 87, 88, 89, 90, 91, 92, 93, 94, 95, 96] (by decide +kernel) (by decide +kernel)
set_option maxRecDepth 20000 in
theorem gX8_init_X5_init_n9 : GoodIn wsX8_init (wsX5_init) := ggX8_init_X5_init
set_option maxRecDepth 20000 in
theorem ggX8_init_X6_init : GoodIn wsX8_init wsX6_init := goodIn_r _ [47, 48, 2, 3, 41, 49, 50, 107, 108, 109] (by decide +kernel) (by decide +kernel)
set_option maxRecDepth 20000 in
theorem gX8_init_X6_init_n18 : GoodIn wsX8_init (wsX6_init) := ggX8_init_X6_init
set_option maxRecDepth 20000 in
theorem ggX8_init_X1_init : GoodIn wsX8_init wsX1_init := goodIn_r _ [52, 53, 2, 3, 41, 54, 55, 110, 111, 112] (by decide +kernel) (by decide +kernel)
set_option maxRecDepth 20000 in
theorem gX8_init_X1_init_n28 : GoodIn wsX8_init (wsX1_init) := ggX8_init_X1_init
set_option maxRecDepth 20000 in
theorem ggX8_init_X7_init : GoodIn wsX8_init wsX7_init := goodIn_r _ [57, 58, 2, 3, 41, 59, 113] (by decide +kernel) (by decide +kernel)
set_option maxRecDepth 20000 in
theorem gX8_init_X7_init_n35 : GoodIn wsX8_init (wsX7_init) := ggX8_init_X7_init
set_option maxRecDepth 20000 in
theorem ggX8_init_X4_init : GoodIn wsX8_init wsX4_init := goodIn_r _ [61, 62, 2, 3, 41, 63, 114] (by decide +kernel) (by decide +kernel)
set_option maxRecDepth 20000 in
theorem gX8_init_X4_init_n42 : GoodIn wsX8_init (wsX4_init) := ggX8_init_X4_init
set_option maxRecDepth 20000 in
theorem ggX8_init_X0_init : GoodIn wsX8_init wsX0_init := goodIn_r _ [65, 66, 2, 3, 41, 67, 68, 69, 115, 116, 117, 118] (by decide +kernel) (by decide +kernel)
set_option maxRecDepth 20000 in
theorem gX8_init_X0_init_n52 : GoodIn wsX8_init (wsX0_init) := ggX8_init_X0_init
set_option maxRecDepth 20000 in
theorem ggX8_init_X2_init : GoodIn wsX8_init wsX2_init := goodIn_r _ [71, 72, 2, 3, 73, 35, 36, 74, 75, 76, 77, 78, 79, 80, 81, 82, 41, 83, 84, 85, 122, 123, 119, 120, 121] (by decide +kernel) (by decide +kernel)
set_option maxRecDepth 20000 in
theorem gX8_init_X2_init_n59 : GoodIn wsX8_init (wsX2_init) := ggX8_init_X2_init
set_option maxRecDepth 20000 in
theorem ggX8_init_X3_init : GoodIn wsX8_init wsX3_init := goodIn_r _ [77, 78, 2, 3, 79, 80, 81, 82, 41, 83, 84, 85, 122, 123] (by decide +kernel) (by decide +kernel)
set_option maxRecDepth 20000 in
theorem gX8_init_X3_init : GoodIn wsX8_init (wsX3_init) := ggX8_init_X3_init
theorem dX8_init_0 : decode cX8_init 0 = .ok (.aload_n 0, 1) := by decide +kernel
theorem dX8_init_1 : decode cX8_init 1 = .ok (.invokespecial 1, 3) := by decide +kernel
theorem dX8_init_4 : decode cX8_init 4 = .ok (.aload_n 0, 1) := by decide +kernel
theorem dX8_init_5 : decode cX8_init 5 = .ok (.new 7, 3) := by decide +kernel
theorem dX8_init_8 : decode cX8_init 8 = .ok (.dup, 1) := by decide +kernel
theorem dX8_init_9 : decode cX8_init 9 = .ok (.invokespecial 9, 3) := by decide +kernel
theorem dX8_init_12 : decode cX8_init 12 = .ok (.putfield 10, 3) := by decide +kernel
theorem dX8_init_15 : decode cX8_init 15 = .ok (.aload_n 0, 1) := by decide +kernel
theorem dX8_init_16 : decode cX8_init 16 = .ok (.new 16, 3) := by decide +kernel
theorem dX8_init_19 : decode cX8_init 19 = .ok (.dup, 1) := by decide +kernel
theorem dX8_init_20 : decode cX8_init 20 = .ok (.invokespecial 18, 3) := by decide +kernel
theorem dX8_init_23 : decode cX8_init 23 = .ok (.putfield 19, 3) := by decide +kernel
theorem dX8_init_26 : decode cX8_init 26 = .ok (.aload_n 0, 1) := by decide +kernel
theorem dX8_init_27 : decode cX8_init 27 = .ok (.new 16, 3) := by decide +kernel
theorem dX8_init_30 : decode cX8_init 30 = .ok (.dup, 1) := by decide +kernel
theorem dX8_init_31 : decode cX8_init 31 = .ok (.invokespecial 18, 3) := by decide +kernel
theorem dX8_init_34 : decode cX8_init 34 = .ok (.putfield 23, 3) := by decide +kernel
theorem dX8_init_37 : decode cX8_init 37 = .ok (.aload_n 0, 1) := by decide +kernel
theorem dX8_init_38 : decode cX8_init 38 = .ok (.new 26, 3) := by decide +kernel
theorem dX8_init_41 : decode cX8_init 41 = .ok (.dup, 1) := by decide +kernel
theorem dX8_init_42 : decode cX8_init 42 = .ok (.invokespecial 28, 3) := by decide +kernel
theorem dX8_init_45 : decode cX8_init 45 = .ok (.putfield 29, 3) := by decide +kernel
theorem dX8_init_48 : decode cX8_init 48 = .ok (.aload_n 0, 1) := by decide +kernel
theorem dX8_init_49 : decode cX8_init 49 = .ok (.new 33, 3) := by decide +kernel
theorem dX8_init_52 : decode cX8_init 52 = .ok (.dup, 1) := by decide +kernel
theorem dX8_init_53 : decode cX8_init 53 = .ok (.invokespecial 35, 3) := by decide +kernel
theorem dX8_init_56 : decode cX8_init 56 = .ok (.putfield 36, 3) := by decide +kernel
theorem dX8_init_59 : decode cX8_init 59 = .ok (.aload_n 0, 1) := by decide +kernel
theorem dX8_init_60 : decode cX8_init 60 = .ok (.new 40, 3) := by decide +kernel
theorem dX8_init_63 : decode cX8_init 63 = .ok (.dup, 1) := by decide +kernel
theorem dX8_init_64 : decode cX8_init 64 = .ok (.invokespecial 42, 3) := by decide +kernel
theorem dX8_init_67 : decode cX8_init 67 = .ok (.putfield 43, 3) := by decide +kernel
theorem dX8_init_70 : decode cX8_init 70 = .ok (.aload_n 0, 1) := by decide +kernel
theorem dX8_init_71 : decode cX8_init 71 = .ok (.new 40, 3) := by decide +kernel
theorem dX8_init_74 : decode cX8_init 74 = .ok (.dup, 1) := by decide +kernel
theorem dX8_init_75 : decode cX8_init 75 = .ok (.invokespecial 42, 3) := by decide +kernel
theorem dX8_init_78 : decode cX8_init 78 = .ok (.putfield 47, 3) := by decide +kernel
theorem dX8_init_81 : decode cX8_init 81 = .ok (.aload_n 0, 1) := by decide +kernel
theorem dX8_init_82 : decode cX8_init 82 = .ok (.new 50, 3) := by decide +kernel
theorem dX8_init_85 : decode cX8_init 85 = .ok (.dup, 1) := by decide +kernel
theorem dX8_init_86 : decode cX8_init 86 = .ok (.invokespecial 52, 3) := by decide +kernel
theorem dX8_init_89 : decode cX8_init 89 = .ok (.putfield 53, 3) := by decide +kernel
theorem dX8_init_92 : decode cX8_init 92 = .ok (.aload_n 0, 1) := by decide +kernel
theorem dX8_init_93 : decode cX8_init 93 = .ok (.new 57, 3) := by decide +kernel
theorem dX8_init_96 : decode cX8_init 96 = .ok (.dup, 1) := by decide +kernel
theorem dX8_init_97 : decode cX8_init 97 = .ok (.invokespecial 59, 3) := by decide +kernel
theorem dX8_init_100 : decode cX8_init 100 = .ok (.putfield 60, 3) := by decide +kernel
theorem dX8_init_103 : decode cX8_init 103 = .ok (.aload_n 0, 1) := by decide +kernel
theorem dX8_init_104 : decode cX8_init 104 = .ok (.new 64, 3) := by decide +kernel
theorem dX8_init_107 : decode cX8_init 107 = .ok (.dup, 1) := by decide +kernel
theorem dX8_init_108 : decode cX8_init 108 = .ok (.iconst 2, 1) := by decide +kernel
theorem dX8_init_109 : decode cX8_init 109 = .ok (.invokespecial 66, 3) := by decide +kernel
theorem dX8_init_112 : decode cX8_init 112 = .ok (.putfield 69, 3) := by decide +kernel
theorem dX8_init_115 : decode cX8_init 115 = .ok (.return_, 1) := by decide +kernel
set_option maxRecDepth 20000 in
theorem ggX8_type_X5_append : GoodIn wsX8_type wsX5_append := goodIn_r _ [7, 8, 9, 20, 21, 22, 23, 24, 25, 26, 27, 28, 29] (by decide +kernel) (by decide +kernel)
set_option maxRecDepth 20000 in
theorem gX8_type_X5_append : GoodIn wsX8_type (wsV RX8 73 RX5 yX5_append wsX5_append) := goodIn_app (goodIn_of _ (by decide +kernel)) ggX8_type_X5_append
theorem dX8_type_0 : decode cX8_type 0 = .ok (.iload_n 1, 1) := by decide +kernel
theorem dX8_type_1 : decode cX8_type 1 = .ok (.ifCond .lt 10, 3) := by decide +kernel
theorem dX8_type_4 : decode cX8_type 4 = .ok (.iload_n 1, 1) := by decide +kernel
theorem dX8_type_5 : decode cX8_type 5 = .ok (.sipush 255, 3) := by decide +kernel
theorem dX8_type_8 : decode cX8_type 8 = .ok (.if_icmp .le 5, 3) := by decide +kernel
theorem dX8_type_11 : decode cX8_type 11 = .ok (.iconst (-1), 1) := by decide +kernel
theorem dX8_type_12 : decode cX8_type 12 = .ok (.ireturn, 1) := by decide +kernel
theorem dX8_type_13 : decode cX8_type 13 = .ok (.aload_n 0, 1) := by decide +kernel
theorem dX8_type_14 : decode cX8_type 14 = .ok (.getfield 10, 3) := by decide +kernel
theorem dX8_type_17 : decode cX8_type 17 = .ok (.iload_n 1, 1) := by decide +kernel
theorem dX8_type_18 : decode cX8_type 18 = .ok (.invokevirtual 73, 3) := by decide +kernel
theorem dX8_type_21 : decode cX8_type 21 = .ok (.ifCond .eq 13, 3) := by decide +kernel
theorem dX8_type_24 : decode cX8_type 24 = .ok (.aload_n 0, 1) := by decide +kernel
theorem dX8_type_25 : decode cX8_type 25 = .ok (.getfield 10, 3) := by decide +kernel
theorem dX8_type_28 : decode cX8_type 28 = .ok (.getfield 77, 3) := by decide +kernel
theorem dX8_type_31 : decode cX8_type 31 = .ok (.goto 5, 3) := by decide +kernel
theorem dX8_type_34 : decode cX8_type 34 = .ok (.bipush (-3), 2) := by decide +kernel
theorem dX8_type_36 : decode cX8_type 36 = .ok (.ireturn, 1) := by decide +kernel
set_option maxRecDepth 20000 in
theorem ggX8_clear_X5_drop : GoodIn wsX8_clear wsX5_drop := goodIn_r _ [7, 8, 19, 20, 21, 22, 23, 24, 25, 26, 27, 28] (by decide +kernel) (by decide +kernel)
set_option maxRecDepth 20000 in
theorem gX8_clear_X5_drop : GoodIn wsX8_clear (wsV RX8 81 RX5 yX5_drop wsX5_drop) := goodIn_app (goodIn_of _ (by decide +kernel)) ggX8_clear_X5_drop
theorem dX8_clear_0 : decode cX8_clear 0 = .ok (.aload_n 0, 1) := by decide +kernel
theorem dX8_clear_1 : decode cX8_clear 1 = .ok (.getfield 10, 3) := by decide +kernel
theorem dX8_clear_4 : decode cX8_clear 4 = .ok (.getfield 77, 3) := by decide +kernel
theorem dX8_clear_7 : decode cX8_clear 7 = .ok (.istore_n 1, 1) := by decide +kernel
theorem dX8_clear_8 : decode cX8_clear 8 = .ok (.aload_n 0, 1) := by decide +kernel
theorem dX8_clear_9 : decode cX8_clear 9 = .ok (.getfield 10, 3) := by decide +kernel
theorem dX8_clear_12 : decode cX8_clear 12 = .ok (.invokevirtual 81, 3) := by decide +kernel
theorem dX8_clear_15 : decode cX8_clear 15 = .ok (.iload_n 1, 1) := by decide +kernel
theorem dX8_clear_16 : decode cX8_clear 16 = .ok (.ireturn, 1) := by decide +kernel
set_option maxRecDepth 20000 in
theorem ggX8_branches_X6_readFrom : GoodIn wsX8_branches wsX6_readFrom := goodIn_r _ [12, 13, 14, 15, 16, 17, 18, 19, 20, 21, 22, 23, 24, 25, 26, 27, 28, 29, 30, 31, 32, 33, 34, 35, 36, 37, 38, 39, 40, 41, 42, 43, 44, 45, 46, 47, 48, 49, 50, 51, 52, 11, 53, 54, 55, 56, 57, 58, 59, 60, 61, 62, 63, 64, 65, 66, 67, 68, 69, 70, 71, 72, 73, 74, 75, 76, 77, 78, 79, 80, 81, 82, 83, 84, 85, 86, 87, 88, 89, 90, 91, 92, 93, 94, 95, 96, 97, 98, 99, 100, 101, 102, 103, 104, 105, 106, 107, 108, 109, 110, 158, 159, 160, 161, 162, 163, 164, 165, 166, 167, 168, 169, 170] (by decide +kernel) (by decide +kernel)
set_option maxRecDepth 20000 in
theorem gX8_branches_X6_readFrom : GoodIn wsX8_branches (wsV RX8 84 RX6 yX6_readFrom wsX6_readFrom) := goodIn_app (goodIn_of _ (by decide +kernel)) ggX8_branches_X6_readFrom
set_option maxRecDepth 20000 in
theorem ggX8_branches_X5_drop : GoodIn wsX8_branches wsX5_drop := goodIn_r _ [114, 22, 161, 162, 163, 164, 165, 166, 167, 168, 169, 170] (by decide +kernel) (by decide +kernel)
set_option maxRecDepth 20000 in
theorem gX8_branches_X5_drop : GoodIn wsX8_branches (wsV RX8 81 RX5 yX5_drop wsX5_drop) := goodIn_app (goodIn_of _ (by decide +kernel)) ggX8_branches_X5_drop
set_option maxRecDepth 20000 in
theorem ggX8_branches_X6_takeFrom : GoodIn wsX8_branches wsX6_takeFrom := goodIn_r _ [118, 86, 107, 108, 109, 110, 13, 158, 159, 160] (by decide +kernel) (by decide +kernel)
set_option maxRecDepth 20000 in
theorem gX8_branches_X6_takeFrom : GoodIn wsX8_branches (wsV RX8 88 RX6 yX6_takeFrom wsX6_takeFrom) := goodIn_app (goodIn_of _ (by decide +kernel)) ggX8_branches_X6_takeFrom
set_option maxRecDepth 20000 in
theorem ggX8_branches_X4_begin : GoodIn wsX8_branches wsX4_begin := goodIn_r _ [123, 124, 125, 126, 57, 58, 59, 127, 83, 84, 11, 85, 86, 128, 129, 130, 122, 131, 132, 133, 134, 135, 171, 158, 159, 160] (by decide +kernel) (by decide +kernel)
set_option maxRecDepth 20000 in
theorem gX8_branches_X4_begin : GoodIn wsX8_branches (wsV RX8 92 RX4 yX4_begin wsX4_begin) := goodIn_app (goodIn_of _ (by decide +kernel)) ggX8_branches_X4_begin
set_option maxRecDepth 20000 in
theorem ggX8_branches_X2_forget : GoodIn wsX8_branches wsX2_forget := goodIn_r _ [140, 141, 172, 173, 174] (by decide +kernel) (by decide +kernel)
set_option maxRecDepth 20000 in
theorem gX8_branches_X2_forget : GoodIn wsX8_branches (wsV RX8 95 RX2 yX2_forget wsX2_forget) := goodIn_app (goodIn_of _ (by decide +kernel)) ggX8_branches_X2_forget
set_option maxRecDepth 20000 in
theorem ggX8_branches_X3_forget : GoodIn wsX8_branches wsX3_forget := goodIn_r _ [146, 147, 175, 176] (by decide +kernel) (by decide +kernel)
set_option maxRecDepth 20000 in
theorem gX8_branches_X3_forget : GoodIn wsX8_branches (wsV RX8 98 RX3 yX3_forget wsX3_forget) := goodIn_app (goodIn_of _ (by decide +kernel)) ggX8_branches_X3_forget
theorem dX8_branches_0 : decode cX8_branches 0 = .ok (.aload_n 0, 1) := by decide +kernel
theorem dX8_branches_1 : decode cX8_branches 1 = .ok (.getfield 23, 3) := by decide +kernel
theorem dX8_branches_4 : decode cX8_branches 4 = .ok (.aload_n 0, 1) := by decide +kernel
theorem dX8_branches_5 : decode cX8_branches 5 = .ok (.getfield 10, 3) := by decide +kernel
theorem dX8_branches_8 : decode cX8_branches 8 = .ok (.invokevirtual 84, 3) := by decide +kernel
theorem dX8_branches_11 : decode cX8_branches 11 = .ok (.istore_n 1, 1) := by decide +kernel
theorem dX8_branches_12 : decode cX8_branches 12 = .ok (.iload_n 1, 1) := by decide +kernel
theorem dX8_branches_13 : decode cX8_branches 13 = .ok (.iconst (-1), 1) := by decide +kernel
theorem dX8_branches_14 : decode cX8_branches 14 = .ok (.if_icmp .eq 8, 3) := by decide +kernel
theorem dX8_branches_17 : decode cX8_branches 17 = .ok (.bipush (-10), 2) := by decide +kernel
theorem dX8_branches_19 : decode cX8_branches 19 = .ok (.iload_n 1, 1) := by decide +kernel
theorem dX8_branches_20 : decode cX8_branches 20 = .ok (.isub, 1) := by decide +kernel
theorem dX8_branches_21 : decode cX8_branches 21 = .ok (.ireturn, 1) := by decide +kernel
theorem dX8_branches_22 : decode cX8_branches 22 = .ok (.aload_n 0, 1) := by decide +kernel
theorem dX8_branches_23 : decode cX8_branches 23 = .ok (.getfield 10, 3) := by decide +kernel
theorem dX8_branches_26 : decode cX8_branches 26 = .ok (.invokevirtual 81, 3) := by decide +kernel
theorem dX8_branches_29 : decode cX8_branches 29 = .ok (.aload_n 0, 1) := by decide +kernel
theorem dX8_branches_30 : decode cX8_branches 30 = .ok (.getfield 19, 3) := by decide +kernel
theorem dX8_branches_33 : decode cX8_branches 33 = .ok (.aload_n 0, 1) := by decide +kernel
theorem dX8_branches_34 : decode cX8_branches 34 = .ok (.getfield 23, 3) := by decide +kernel
theorem dX8_branches_37 : decode cX8_branches 37 = .ok (.invokevirtual 88, 3) := by decide +kernel
theorem dX8_branches_40 : decode cX8_branches 40 = .ok (.aload_n 0, 1) := by decide +kernel
theorem dX8_branches_41 : decode cX8_branches 41 = .ok (.getfield 43, 3) := by decide +kernel
theorem dX8_branches_44 : decode cX8_branches 44 = .ok (.aload_n 0, 1) := by decide +kernel
theorem dX8_branches_45 : decode cX8_branches 45 = .ok (.getfield 19, 3) := by decide +kernel
theorem dX8_branches_48 : decode cX8_branches 48 = .ok (.invokevirtual 92, 3) := by decide +kernel
theorem dX8_branches_51 : decode cX8_branches 51 = .ok (.aload_n 0, 1) := by decide +kernel
theorem dX8_branches_52 : decode cX8_branches 52 = .ok (.getfield 60, 3) := by decide +kernel
theorem dX8_branches_55 : decode cX8_branches 55 = .ok (.invokevirtual 95, 3) := by decide +kernel
theorem dX8_branches_58 : decode cX8_branches 58 = .ok (.aload_n 0, 1) := by decide +kernel
theorem dX8_branches_59 : decode cX8_branches 59 = .ok (.getfield 69, 3) := by decide +kernel
theorem dX8_branches_62 : decode cX8_branches 62 = .ok (.invokevirtual 98, 3) := by decide +kernel
theorem dX8_branches_65 : decode cX8_branches 65 = .ok (.aload_n 0, 1) := by decide +kernel
theorem dX8_branches_66 : decode cX8_branches 66 = .ok (.getfield 19, 3) := by decide +kernel
theorem dX8_branches_69 : decode cX8_branches 69 = .ok (.getfield 99, 3) := by decide +kernel
theorem dX8_branches_72 : decode cX8_branches 72 = .ok (.ireturn, 1) := by decide +kernel
set_option maxRecDepth 20000 in
theorem ggX8_orders_X1_readFrom : GoodIn wsX8_orders wsX1_readFrom := goodIn_r _ [13, 14, 15, 16, 17, 18, 19, 20, 21, 22, 23, 24, 25, 26, 27, 28, 29, 30, 31, 32, 33, 34, 35, 36, 37, 38, 39, 40, 41, 42, 43, 44, 45, 46, 47, 48, 49, 50, 51, 52, 53, 12, 54, 55, 56, 57, 58, 59, 60, 61, 62, 63, 64, 65, 66, 67, 68, 69, 70, 71, 72, 260, 261, 262, 263, 264, 265, 266, 267, 268, 269, 270, 271, 272] (by decide +kernel) (by decide +kernel)
set_option maxRecDepth 20000 in
theorem gX8_orders_X1_readFrom : GoodIn wsX8_orders (wsV RX8 102 RX1 yX1_readFrom wsX1_readFrom) := goodIn_app (goodIn_of _ (by decide +kernel)) ggX8_orders_X1_readFrom
set_option maxRecDepth 20000 in
theorem ggX8_orders_X4_takeFrom : GoodIn wsX8_orders wsX4_takeFrom := goodIn_r _ [77, 78, 79, 80, 81, 76, 82, 83, 84, 85, 86, 273] (by decide +kernel) (by decide +kernel)
set_option maxRecDepth 20000 in
theorem gX8_orders_X4_takeFrom : GoodIn wsX8_orders (wsV RX8 103 RX4 yX4_takeFrom wsX4_takeFrom) := goodIn_app (goodIn_of _ (by decide +kernel)) ggX8_orders_X4_takeFrom
set_option maxRecDepth 20000 in
theorem ggX8_orders_X7_carryOut : GoodIn wsX8_orders wsX7_carryOut := goodIn_r _ [91, 92, 93, 94, 95, 96, 97, 98, 99, 100, 90, 101, 102, 103, 104, 12, 105, 65, 106, 107, 108, 109, 66, 110, 111, 112, 113, 114, 115, 116, 117, 118, 119, 120, 121, 122, 123, 124, 125, 126, 127, 128, 129, 130, 131, 132, 133, 134, 135, 76, 136, 137, 138, 139, 140, 78, 141, 142, 143, 144, 145, 146, 147, 148, 149, 150, 151, 152, 153, 154, 155, 156, 157, 158, 159, 160, 161, 162, 163, 164, 165, 166, 167, 168, 169, 170, 171, 172, 173, 174, 175, 176, 177, 178, 179, 180, 181, 182, 183, 184, 185, 186, 187, 188, 189, 190, 191, 192, 193, 194, 195, 196, 197, 31, 32, 33, 198, 199, 200, 201, 274, 260, 261, 262, 275, 276, 277, 273] (by decide +kernel) (by decide +kernel)
set_option maxRecDepth 20000 in
theorem gX8_orders_X7_carryOut : GoodIn wsX8_orders (wsV RX8 106 RX7 yX7_carryOut wsX7_carryOut) := goodIn_app (goodIn_of _ (by decide +kernel)) ggX8_orders_X7_carryOut
set_option maxRecDepth 20000 in
theorem ggX8_orders_X4_noteChanges : GoodIn wsX8_orders wsX4_noteChanges := goodIn_r _ [205, 206, 150, 151, 76, 152, 153, 154, 155, 156, 157, 158, 159, 78, 207, 208, 209, 210, 211, 212, 213, 214, 215, 216, 217, 218, 83, 84, 85, 86, 219, 220, 221, 137, 138, 139, 140, 222, 223, 224, 225, 273] (by decide +kernel) (by decide +kernel)
set_option maxRecDepth 20000 in
theorem gX8_orders_X4_noteChanges : GoodIn wsX8_orders (wsV RX8 110 RX4 yX4_noteChanges wsX4_noteChanges) := goodIn_app (goodIn_of _ (by decide +kernel)) ggX8_orders_X4_noteChanges
set_option maxRecDepth 20000 in
theorem ggX8_orders_X2_push : GoodIn wsX8_orders wsX2_push := goodIn_r _ [230, 231, 232, 233, 234, 31, 32, 33, 235, 236, 237, 238, 239, 240, 241, 242, 243, 244, 76, 245, 78, 83, 84, 85, 86, 278, 279, 280, 281, 282, 273] (by decide +kernel) (by decide +kernel)
set_option maxRecDepth 20000 in
theorem gX8_orders_X2_push : GoodIn wsX8_orders (wsV RX8 113 RX2 yX2_push wsX2_push) := goodIn_app (goodIn_of _ (by decide +kernel)) ggX8_orders_X2_push
set_option maxRecDepth 20000 in
theorem ggX8_orders_X5_drop : GoodIn wsX8_orders wsX5_drop := goodIn_r _ [249, 23, 263, 264, 265, 266, 267, 268, 269, 270, 271, 272] (by decide +kernel) (by decide +kernel)
set_option maxRecDepth 20000 in
theorem gX8_orders_X5_drop : GoodIn wsX8_orders (wsV RX8 81 RX5 yX5_drop wsX5_drop) := goodIn_app (goodIn_of _ (by decide +kernel)) ggX8_orders_X5_drop
theorem dX8_orders_0 : decode cX8_orders 0 = .ok (.aload_n 0, 1) := by decide +kernel
theorem dX8_orders_1 : decode cX8_orders 1 = .ok (.getfield 29, 3) := by decide +kernel
theorem dX8_orders_4 : decode cX8_orders 4 = .ok (.aload_n 0, 1) := by decide +kernel
theorem dX8_orders_5 : decode cX8_orders 5 = .ok (.getfield 10, 3) := by decide +kernel
theorem dX8_orders_8 : decode cX8_orders 8 = .ok (.invokevirtual 102, 3) := by decide +kernel
theorem dX8_orders_11 : decode cX8_orders 11 = .ok (.istore_n 1, 1) := by decide +kernel
theorem dX8_orders_12 : decode cX8_orders 12 = .ok (.iload_n 1, 1) := by decide +kernel
theorem dX8_orders_13 : decode cX8_orders 13 = .ok (.iconst (-1), 1) := by decide +kernel
theorem dX8_orders_14 : decode cX8_orders 14 = .ok (.if_icmp .eq 8, 3) := by decide +kernel
theorem dX8_orders_17 : decode cX8_orders 17 = .ok (.bipush (-10), 2) := by decide +kernel
theorem dX8_orders_19 : decode cX8_orders 19 = .ok (.iload_n 1, 1) := by decide +kernel
theorem dX8_orders_20 : decode cX8_orders 20 = .ok (.isub, 1) := by decide +kernel
theorem dX8_orders_21 : decode cX8_orders 21 = .ok (.ireturn, 1) := by decide +kernel
theorem dX8_orders_22 : decode cX8_orders 22 = .ok (.aload_n 0, 1) := by decide +kernel
theorem dX8_orders_23 : decode cX8_orders 23 = .ok (.getfield 47, 3) := by decide +kernel
theorem dX8_orders_26 : decode cX8_orders 26 = .ok (.aload_n 0, 1) := by decide +kernel
theorem dX8_orders_27 : decode cX8_orders 27 = .ok (.getfield 43, 3) := by decide +kernel
theorem dX8_orders_30 : decode cX8_orders 30 = .ok (.invokevirtual 103, 3) := by decide +kernel
theorem dX8_orders_33 : decode cX8_orders 33 = .ok (.aload_n 0, 1) := by decide +kernel
theorem dX8_orders_34 : decode cX8_orders 34 = .ok (.getfield 36, 3) := by decide +kernel
theorem dX8_orders_37 : decode cX8_orders 37 = .ok (.aload_n 0, 1) := by decide +kernel
theorem dX8_orders_38 : decode cX8_orders 38 = .ok (.getfield 29, 3) := by decide +kernel
theorem dX8_orders_41 : decode cX8_orders 41 = .ok (.aload_n 0, 1) := by decide +kernel
theorem dX8_orders_42 : decode cX8_orders 42 = .ok (.getfield 19, 3) := by decide +kernel
theorem dX8_orders_45 : decode cX8_orders 45 = .ok (.aload_n 0, 1) := by decide +kernel
theorem dX8_orders_46 : decode cX8_orders 46 = .ok (.getfield 47, 3) := by decide +kernel
theorem dX8_orders_49 : decode cX8_orders 49 = .ok (.invokevirtual 106, 3) := by decide +kernel
theorem dX8_orders_52 : decode cX8_orders 52 = .ok (.istore_n 2, 1) := by decide +kernel
theorem dX8_orders_53 : decode cX8_orders 53 = .ok (.iload_n 2, 1) := by decide +kernel
theorem dX8_orders_54 : decode cX8_orders 54 = .ok (.ifCond .eq 9, 3) := by decide +kernel
theorem dX8_orders_57 : decode cX8_orders 57 = .ok (.sipush (-1000), 3) := by decide +kernel
theorem dX8_orders_60 : decode cX8_orders 60 = .ok (.iload_n 2, 1) := by decide +kernel
theorem dX8_orders_61 : decode cX8_orders 61 = .ok (.isub, 1) := by decide +kernel
theorem dX8_orders_62 : decode cX8_orders 62 = .ok (.ireturn, 1) := by decide +kernel
theorem dX8_orders_63 : decode cX8_orders 63 = .ok (.aload_n 0, 1) := by decide +kernel
theorem dX8_orders_64 : decode cX8_orders 64 = .ok (.getfield 47, 3) := by decide +kernel
theorem dX8_orders_67 : decode cX8_orders 67 = .ok (.aload_n 0, 1) := by decide +kernel
theorem dX8_orders_68 : decode cX8_orders 68 = .ok (.getfield 43, 3) := by decide +kernel
theorem dX8_orders_71 : decode cX8_orders 71 = .ok (.invokevirtual 110, 3) := by decide +kernel
theorem dX8_orders_74 : decode cX8_orders 74 = .ok (.aload_n 0, 1) := by decide +kernel
theorem dX8_orders_75 : decode cX8_orders 75 = .ok (.getfield 60, 3) := by decide +kernel
theorem dX8_orders_78 : decode cX8_orders 78 = .ok (.aload_n 0, 1) := by decide +kernel
theorem dX8_orders_79 : decode cX8_orders 79 = .ok (.getfield 43, 3) := by decide +kernel
theorem dX8_orders_82 : decode cX8_orders 82 = .ok (.invokevirtual 113, 3) := by decide +kernel
theorem dX8_orders_85 : decode cX8_orders 85 = .ok (.aload_n 0, 1) := by decide +kernel
theorem dX8_orders_86 : decode cX8_orders 86 = .ok (.getfield 43, 3) := by decide +kernel
theorem dX8_orders_89 : decode cX8_orders 89 = .ok (.aload_n 0, 1) := by decide +kernel
theorem dX8_orders_90 : decode cX8_orders 90 = .ok (.getfield 47, 3) := by decide +kernel
theorem dX8_orders_93 : decode cX8_orders 93 = .ok (.invokevirtual 103, 3) := by decide +kernel
theorem dX8_orders_96 : decode cX8_orders 96 = .ok (.aload_n 0, 1) := by decide +kernel
theorem dX8_orders_97 : decode cX8_orders 97 = .ok (.getfield 10, 3) := by decide +kernel
theorem dX8_orders_100 : decode cX8_orders 100 = .ok (.invokevirtual 81, 3) := by decide +kernel
theorem dX8_orders_103 : decode cX8_orders 103 = .ok (.aload_n 0, 1) := by decide +kernel
theorem dX8_orders_104 : decode cX8_orders 104 = .ok (.getfield 29, 3) := by decide +kernel
theorem dX8_orders_107 : decode cX8_orders 107 = .ok (.getfield 116, 3) := by decide +kernel
theorem dX8_orders_110 : decode cX8_orders 110 = .ok (.ireturn, 1) := by decide +kernel
set_option maxRecDepth 20000 in
theorem ggX8_ticks_X4_time : GoodIn wsX8_ticks wsX4_time := goodIn_r _ [8, 9, 10, 11, 7, 12, 13, 98] (by decide +kernel) (by decide +kernel)
set_option maxRecDepth 20000 in
theorem gX8_ticks_X4_time : GoodIn wsX8_ticks (wsV RX8 117 RX4 yX4_time wsX4_time) := goodIn_app (goodIn_of _ (by decide +kernel)) ggX8_ticks_X4_time
set_option maxRecDepth 20000 in
theorem ggX8_ticks_X2_push : GoodIn wsX8_ticks wsX2_push := goodIn_r _ [18, 19, 20, 21, 22, 23, 24, 25, 26, 27, 28, 29, 30, 31, 32, 33, 34, 35, 7, 36, 13, 37, 38, 39, 40, 99, 100, 101, 102, 103, 98] (by decide +kernel) (by decide +kernel)
set_option maxRecDepth 20000 in
theorem gX8_ticks_X2_push : GoodIn wsX8_ticks (wsV RX8 113 RX2 yX2_push wsX2_push) := goodIn_app (goodIn_of _ (by decide +kernel)) ggX8_ticks_X2_push
set_option maxRecDepth 20000 in
theorem ggX8_ticks_X4_tick : GoodIn wsX8_ticks wsX4_tick := goodIn_r _ [44, 45, 46, 5, 6, 7, 8, 9, 10, 11, 12, 13, 47, 48, 49, 50, 51, 52, 53, 54, 55, 56, 57, 58, 59, 60, 61, 62, 63, 64, 65, 66, 67, 68, 69, 70, 71, 72, 73, 74, 75, 76, 77, 78, 79, 80, 81, 82, 83, 37, 38, 39, 40, 84, 85, 86, 87, 104, 105, 106, 98] (by decide +kernel) (by decide +kernel)
set_option maxRecDepth 20000 in
theorem gX8_ticks_X4_tick : GoodIn wsX8_ticks (wsV RX8 121 RX4 yX4_tick wsX4_tick) := goodIn_app (goodIn_of _ (by decide +kernel)) ggX8_ticks_X4_tick
theorem dX8_ticks_0 : decode cX8_ticks 0 = .ok (.iload_n 1, 1) := by decide +kernel
theorem dX8_ticks_1 : decode cX8_ticks 1 = .ok (.iconst 1, 1) := by decide +kernel
theorem dX8_ticks_2 : decode cX8_ticks 2 = .ok (.if_icmp .lt 9, 3) := by decide +kernel
theorem dX8_ticks_5 : decode cX8_ticks 5 = .ok (.iload_n 1, 1) := by decide +kernel
theorem dX8_ticks_6 : decode cX8_ticks 6 = .ok (.bipush 99, 2) := by decide +kernel
theorem dX8_ticks_8 : decode cX8_ticks 8 = .ok (.if_icmp .le 5, 3) := by decide +kernel
theorem dX8_ticks_11 : decode cX8_ticks 11 = .ok (.iconst (-1), 1) := by decide +kernel
theorem dX8_ticks_12 : decode cX8_ticks 12 = .ok (.ireturn, 1) := by decide +kernel
theorem dX8_ticks_13 : decode cX8_ticks 13 = .ok (.aload_n 0, 1) := by decide +kernel
theorem dX8_ticks_14 : decode cX8_ticks 14 = .ok (.getfield 43, 3) := by decide +kernel
theorem dX8_ticks_17 : decode cX8_ticks 17 = .ok (.invokevirtual 117, 3) := by decide +kernel
theorem dX8_ticks_20 : decode cX8_ticks 20 = .ok (.iload_n 1, 1) := by decide +kernel
theorem dX8_ticks_21 : decode cX8_ticks 21 = .ok (.iadd, 1) := by decide +kernel
theorem dX8_ticks_22 : decode cX8_ticks 22 = .ok (.sipush 999, 3) := by decide +kernel
theorem dX8_ticks_25 : decode cX8_ticks 25 = .ok (.if_icmp .le 6, 3) := by decide +kernel
theorem dX8_ticks_28 : decode cX8_ticks 28 = .ok (.bipush (-2), 2) := by decide +kernel
theorem dX8_ticks_30 : decode cX8_ticks 30 = .ok (.ireturn, 1) := by decide +kernel
theorem dX8_ticks_31 : decode cX8_ticks 31 = .ok (.aload_n 0, 1) := by decide +kernel
theorem dX8_ticks_32 : decode cX8_ticks 32 = .ok (.getfield 60, 3) := by decide +kernel
theorem dX8_ticks_35 : decode cX8_ticks 35 = .ok (.aload_n 0, 1) := by decide +kernel
theorem dX8_ticks_36 : decode cX8_ticks 36 = .ok (.getfield 43, 3) := by decide +kernel
theorem dX8_ticks_39 : decode cX8_ticks 39 = .ok (.invokevirtual 113, 3) := by decide +kernel
theorem dX8_ticks_42 : decode cX8_ticks 42 = .ok (.iconst 0, 1) := by decide +kernel
theorem dX8_ticks_43 : decode cX8_ticks 43 = .ok (.istore_n 2, 1) := by decide +kernel
theorem dX8_ticks_44 : decode cX8_ticks 44 = .ok (.iload_n 2, 1) := by decide +kernel
theorem dX8_ticks_45 : decode cX8_ticks 45 = .ok (.iload_n 1, 1) := by decide +kernel
theorem dX8_ticks_46 : decode cX8_ticks 46 = .ok (.if_icmp .ge 20, 3) := by decide +kernel
theorem dX8_ticks_49 : decode cX8_ticks 49 = .ok (.aload_n 0, 1) := by decide +kernel
theorem dX8_ticks_50 : decode cX8_ticks 50 = .ok (.getfield 43, 3) := by decide +kernel
theorem dX8_ticks_53 : decode cX8_ticks 53 = .ok (.aload_n 0, 1) := by decide +kernel
theorem dX8_ticks_54 : decode cX8_ticks 54 = .ok (.getfield 19, 3) := by decide +kernel
theorem dX8_ticks_57 : decode cX8_ticks 57 = .ok (.invokevirtual 121, 3) := by decide +kernel
theorem dX8_ticks_60 : decode cX8_ticks 60 = .ok (.iinc 2 1, 3) := by decide +kernel
theorem dX8_ticks_63 : decode cX8_ticks 63 = .ok (.goto (-19), 3) := by decide +kernel
theorem dX8_ticks_66 : decode cX8_ticks 66 = .ok (.aload_n 0, 1) := by decide +kernel
theorem dX8_ticks_67 : decode cX8_ticks 67 = .ok (.getfield 43, 3) := by decide +kernel
theorem dX8_ticks_70 : decode cX8_ticks 70 = .ok (.invokevirtual 117, 3) := by decide +kernel
theorem dX8_ticks_73 : decode cX8_ticks 73 = .ok (.ireturn, 1) := by decide +kernel
set_option maxRecDepth 20000 in
theorem ggX8_answers_X4_waiting : GoodIn wsX8_answers wsX4_waiting := goodIn_r _ [7, 8, 9, 10, 6, 11, 12, 66] (by decide +kernel) (by decide +kernel)
set_option maxRecDepth 20000 in
theorem gX8_answers_X4_waiting : GoodIn wsX8_answers (wsV RX8 124 RX4 yX4_waiting wsX4_waiting) := goodIn_app (goodIn_of _ (by decide +kernel)) ggX8_answers_X4_waiting
set_option maxRecDepth 20000 in
theorem ggX8_answers_X2_push : GoodIn wsX8_answers wsX2_push := goodIn_r _ [17, 18, 19, 20, 21, 22, 23, 24, 25, 26, 27, 28, 29, 30, 31, 32, 33, 34, 6, 35, 12, 36, 37, 38, 39, 67, 68, 69, 70, 71, 66] (by decide +kernel) (by decide +kernel)
set_option maxRecDepth 20000 in
theorem gX8_answers_X2_push : GoodIn wsX8_answers (wsV RX8 113 RX2 yX2_push wsX2_push) := goodIn_app (goodIn_of _ (by decide +kernel)) ggX8_answers_X2_push
set_option maxRecDepth 20000 in
theorem ggX8_answers_X4_noticeField : GoodIn wsX8_answers wsX4_noticeField := goodIn_r _ [43, 44, 45, 6, 46, 8, 9, 10, 11, 12, 66] (by decide +kernel) (by decide +kernel)
set_option maxRecDepth 20000 in
theorem gX8_answers_X4_noticeField : GoodIn wsX8_answers (wsV RX8 127 RX4 yX4_noticeField wsX4_noticeField) := goodIn_app (goodIn_of _ (by decide +kernel)) ggX8_answers_X4_noticeField
set_option maxRecDepth 20000 in
theorem ggX8_answers_X4_removeNotice : GoodIn wsX8_answers wsX4_removeNotice := goodIn_r _ [50, 12, 36, 37, 38, 39, 51, 4, 5, 6, 7, 8, 9, 10, 11, 44, 45, 46, 52, 53, 54, 55, 66] (by decide +kernel) (by decide +kernel)
set_option maxRecDepth 20000 in
theorem gX8_answers_X4_removeNotice : GoodIn wsX8_answers (wsV RX8 131 RX4 yX4_removeNotice wsX4_removeNotice) := goodIn_app (goodIn_of _ (by decide +kernel)) ggX8_answers_X4_removeNotice
theorem dX8_answers_0 : decode cX8_answers 0 = .ok (.iload_n 1, 1) := by decide +kernel
theorem dX8_answers_1 : decode cX8_answers 1 = .ok (.ifCond .lt 14, 3) := by decide +kernel
theorem dX8_answers_4 : decode cX8_answers 4 = .ok (.iload_n 1, 1) := by decide +kernel
theorem dX8_answers_5 : decode cX8_answers 5 = .ok (.aload_n 0, 1) := by decide +kernel
theorem dX8_answers_6 : decode cX8_answers 6 = .ok (.getfield 43, 3) := by decide +kernel
theorem dX8_answers_9 : decode cX8_answers 9 = .ok (.invokevirtual 124, 3) := by decide +kernel
theorem dX8_answers_12 : decode cX8_answers 12 = .ok (.if_icmp .lt 5, 3) := by decide +kernel
theorem dX8_answers_15 : decode cX8_answers 15 = .ok (.iconst (-1), 1) := by decide +kernel
theorem dX8_answers_16 : decode cX8_answers 16 = .ok (.ireturn, 1) := by decide +kernel
theorem dX8_answers_17 : decode cX8_answers 17 = .ok (.aload_n 0, 1) := by decide +kernel
theorem dX8_answers_18 : decode cX8_answers 18 = .ok (.getfield 60, 3) := by decide +kernel
theorem dX8_answers_21 : decode cX8_answers 21 = .ok (.aload_n 0, 1) := by decide +kernel
theorem dX8_answers_22 : decode cX8_answers 22 = .ok (.getfield 43, 3) := by decide +kernel
theorem dX8_answers_25 : decode cX8_answers 25 = .ok (.invokevirtual 113, 3) := by decide +kernel
theorem dX8_answers_28 : decode cX8_answers 28 = .ok (.aload_n 0, 1) := by decide +kernel
theorem dX8_answers_29 : decode cX8_answers 29 = .ok (.getfield 43, 3) := by decide +kernel
theorem dX8_answers_32 : decode cX8_answers 32 = .ok (.iload_n 1, 1) := by decide +kernel
theorem dX8_answers_33 : decode cX8_answers 33 = .ok (.iconst 3, 1) := by decide +kernel
theorem dX8_answers_34 : decode cX8_answers 34 = .ok (.invokevirtual 127, 3) := by decide +kernel
theorem dX8_answers_37 : decode cX8_answers 37 = .ok (.istore_n 2, 1) := by decide +kernel
theorem dX8_answers_38 : decode cX8_answers 38 = .ok (.aload_n 0, 1) := by decide +kernel
theorem dX8_answers_39 : decode cX8_answers 39 = .ok (.getfield 43, 3) := by decide +kernel
theorem dX8_answers_42 : decode cX8_answers 42 = .ok (.iload_n 1, 1) := by decide +kernel
theorem dX8_answers_43 : decode cX8_answers 43 = .ok (.invokevirtual 131, 3) := by decide +kernel
theorem dX8_answers_46 : decode cX8_answers 46 = .ok (.iload_n 2, 1) := by decide +kernel
theorem dX8_answers_47 : decode cX8_answers 47 = .ok (.ireturn, 1) := by decide +kernel
set_option maxRecDepth 20000 in
theorem ggX8_undo_X2_pop : GoodIn wsX8_undo wsX2_pop := goodIn_r _ [8, 9, 10, 11, 12, 13, 14, 15, 16, 17, 18, 19, 20, 21, 22, 23, 24, 25, 26, 27, 28, 29, 30, 31, 32, 43, 44, 45, 46, 47, 48] (by decide +kernel) (by decide +kernel)
set_option maxRecDepth 20000 in
theorem gX8_undo_X2_pop : GoodIn wsX8_undo (wsV RX8 137 RX2 yX2_pop wsX2_pop) := goodIn_app (goodIn_of _ (by decide +kernel)) ggX8_undo_X2_pop
theorem dX8_undo_0 : decode cX8_undo 0 = .ok (.aload_n 0, 1) := by decide +kernel
theorem dX8_undo_1 : decode cX8_undo 1 = .ok (.getfield 60, 3) := by decide +kernel
theorem dX8_undo_4 : decode cX8_undo 4 = .ok (.getfield 134, 3) := by decide +kernel
theorem dX8_undo_7 : decode cX8_undo 7 = .ok (.ifCond .ne 6, 3) := by decide +kernel
theorem dX8_undo_10 : decode cX8_undo 10 = .ok (.bipush (-2), 2) := by decide +kernel
theorem dX8_undo_12 : decode cX8_undo 12 = .ok (.ireturn, 1) := by decide +kernel
theorem dX8_undo_13 : decode cX8_undo 13 = .ok (.aload_n 0, 1) := by decide +kernel
theorem dX8_undo_14 : decode cX8_undo 14 = .ok (.getfield 60, 3) := by decide +kernel
theorem dX8_undo_17 : decode cX8_undo 17 = .ok (.aload_n 0, 1) := by decide +kernel
theorem dX8_undo_18 : decode cX8_undo 18 = .ok (.getfield 43, 3) := by decide +kernel
theorem dX8_undo_21 : decode cX8_undo 21 = .ok (.invokevirtual 137, 3) := by decide +kernel
theorem dX8_undo_24 : decode cX8_undo 24 = .ok (.aload_n 0, 1) := by decide +kernel
theorem dX8_undo_25 : decode cX8_undo 25 = .ok (.getfield 60, 3) := by decide +kernel
theorem dX8_undo_28 : decode cX8_undo 28 = .ok (.getfield 134, 3) := by decide +kernel
theorem dX8_undo_31 : decode cX8_undo 31 = .ok (.ireturn, 1) := by decide +kernel
set_option maxRecDepth 20000 in
theorem ggX8_leaf_X8_isName : GoodIn wsX8_leaf wsX8_isName := goodIn_r _ [4, 5, 6, 3, 7, 8, 9, 10] (by decide +kernel) (by decide +kernel)
set_option maxRecDepth 20000 in
theorem gX8_leaf_X8_isName : GoodIn wsX8_leaf (va_wsS RX8 140 yX8_isName wsX8_isName) := goodIn_app (goodIn_of _ (by decide +kernel)) ggX8_leaf_X8_isName
set_option maxRecDepth 20000 in
theorem ggX8_leaf_X8_nameOf : GoodIn wsX8_leaf wsX8_nameOf := goodIn_r _ [13] (by decide +kernel) (by decide +kernel)
set_option maxRecDepth 20000 in
theorem gX8_leaf_X8_nameOf : GoodIn wsX8_leaf (va_wsS RX8 144 yX8_nameOf wsX8_nameOf) := goodIn_app (goodIn_of _ (by decide +kernel)) ggX8_leaf_X8_nameOf
set_option maxRecDepth 20000 in
theorem ggX8_leaf_X8_listed : GoodIn wsX8_leaf wsX8_listed := goodIn_r _ [17, 18, 19, 20, 21, 22, 23, 24, 25, 26, 27, 28, 29, 30, 31, 32, 33, 34, 35, 36, 37, 38, 39, 40, 41, 42, 43, 44, 45, 46, 47, 48, 49, 50, 51, 52, 53, 54, 55, 56, 57, 58, 59, 60, 3, 61, 12, 13, 62, 63, 64, 65, 66, 67, 68, 69, 70, 71, 72, 73, 74, 75, 76, 77, 78, 79, 80, 90, 91, 92, 93, 94, 95, 96, 97, 98, 99, 100, 101, 102, 103, 104, 105, 106, 107] (by decide +kernel) (by decide +kernel)
set_option maxRecDepth 20000 in
theorem gX8_leaf_X8_listed : GoodIn wsX8_leaf (wsV RX8 148 RX8 yX8_listed wsX8_listed) := goodIn_app (goodIn_of _ (by decide +kernel)) ggX8_leaf_X8_listed
set_option maxRecDepth 20000 in
theorem ggX8_leaf_X0_firstFrom : GoodIn wsX8_leaf wsX0_firstFrom := goodIn_r _ [84, 26, 85, 86, 87, 24, 88, 70, 100, 101, 102, 103] (by decide +kernel) (by decide +kernel)
set_option maxRecDepth 20000 in
theorem gX8_leaf_X0_firstFrom : GoodIn wsX8_leaf (wsV RX8 152 RX0 yX0_firstFrom wsX0_firstFrom) := goodIn_app (goodIn_of _ (by decide +kernel)) ggX8_leaf_X0_firstFrom
set_option maxRecDepth 20000 in
theorem ggX8_leaf_X0_name : GoodIn wsX8_leaf wsX0_name := goodIn_r _ [88, 70, 100, 101, 102, 103] (by decide +kernel) (by decide +kernel)
set_option maxRecDepth 20000 in
theorem gX8_leaf_X0_name : GoodIn wsX8_leaf (wsV RX8 156 RX0 yX0_name wsX0_name) := goodIn_app (goodIn_of _ (by decide +kernel)) ggX8_leaf_X0_name
theorem dX8_leaf_0 : decode cX8_leaf 0 = .ok (.iload_n 1, 1) := by decide +kernel
theorem dX8_leaf_1 : decode cX8_leaf 1 = .ok (.iload_n 2, 1) := by decide +kernel
theorem dX8_leaf_2 : decode cX8_leaf 2 = .ok (.iload_n 3, 1) := by decide +kernel
theorem dX8_leaf_3 : decode cX8_leaf 3 = .ok (.iload 4, 2) := by decide +kernel
theorem dX8_leaf_5 : decode cX8_leaf 5 = .ok (.invokestatic 140, 3) := by decide +kernel
theorem dX8_leaf_8 : decode cX8_leaf 8 = .ok (.ifCond .ne 5, 3) := by decide +kernel
theorem dX8_leaf_11 : decode cX8_leaf 11 = .ok (.iconst (-1), 1) := by decide +kernel
theorem dX8_leaf_12 : decode cX8_leaf 12 = .ok (.ireturn, 1) := by decide +kernel
theorem dX8_leaf_13 : decode cX8_leaf 13 = .ok (.iload_n 1, 1) := by decide +kernel
theorem dX8_leaf_14 : decode cX8_leaf 14 = .ok (.iload_n 2, 1) := by decide +kernel
theorem dX8_leaf_15 : decode cX8_leaf 15 = .ok (.iload_n 3, 1) := by decide +kernel
theorem dX8_leaf_16 : decode cX8_leaf 16 = .ok (.iload 4, 2) := by decide +kernel
theorem dX8_leaf_18 : decode cX8_leaf 18 = .ok (.invokestatic 144, 3) := by decide +kernel
theorem dX8_leaf_21 : decode cX8_leaf 21 = .ok (.istore 5, 2) := by decide +kernel
theorem dX8_leaf_23 : decode cX8_leaf 23 = .ok (.aload_n 0, 1) := by decide +kernel
theorem dX8_leaf_24 : decode cX8_leaf 24 = .ok (.invokevirtual 148, 3) := by decide +kernel
theorem dX8_leaf_27 : decode cX8_leaf 27 = .ok (.astore 6, 2) := by decide +kernel
theorem dX8_leaf_29 : decode cX8_leaf 29 = .ok (.aload 6, 2) := by decide +kernel
theorem dX8_leaf_31 : decode cX8_leaf 31 = .ok (.iload 5, 2) := by decide +kernel
theorem dX8_leaf_33 : decode cX8_leaf 33 = .ok (.invokevirtual 152, 3) := by decide +kernel
theorem dX8_leaf_36 : decode cX8_leaf 36 = .ok (.istore 7, 2) := by decide +kernel
theorem dX8_leaf_38 : decode cX8_leaf 38 = .ok (.iload 7, 2) := by decide +kernel
theorem dX8_leaf_40 : decode cX8_leaf 40 = .ok (.bipush (-9), 2) := by decide +kernel
theorem dX8_leaf_42 : decode cX8_leaf 42 = .ok (.if_icmp .eq 20, 3) := by decide +kernel
theorem dX8_leaf_45 : decode cX8_leaf 45 = .ok (.aload 6, 2) := by decide +kernel
theorem dX8_leaf_47 : decode cX8_leaf 47 = .ok (.iload 7, 2) := by decide +kernel
theorem dX8_leaf_49 : decode cX8_leaf 49 = .ok (.invokevirtual 156, 3) := by decide +kernel
theorem dX8_leaf_52 : decode cX8_leaf 52 = .ok (.iload 5, 2) := by decide +kernel
theorem dX8_leaf_54 : decode cX8_leaf 54 = .ok (.if_icmp .ne 8, 3) := by decide +kernel
theorem dX8_leaf_57 : decode cX8_leaf 57 = .ok (.iload 7, 2) := by decide +kernel
theorem dX8_leaf_59 : decode cX8_leaf 59 = .ok (.goto 5, 3) := by decide +kernel
theorem dX8_leaf_62 : decode cX8_leaf 62 = .ok (.bipush (-9), 2) := by decide +kernel
theorem dX8_leaf_64 : decode cX8_leaf 64 = .ok (.ireturn, 1) := by decide +kernel
set_option maxRecDepth 20000 in
theorem ggX8_told_X8_listed : GoodIn wsX8_told wsX8_listed := goodIn_r _ [6, 7, 8, 9, 10, 11, 12, 13, 14, 15, 16, 17, 18, 19, 20, 21, 22, 23, 24, 25, 26, 27, 28, 29, 30, 31, 32, 33, 34, 35, 36, 37, 38, 39, 40, 41, 42, 43, 44, 45, 46, 47, 48, 49, 5, 50, 51, 52, 53, 54, 55, 56, 57, 58, 59, 60, 61, 62, 63, 64, 65, 66, 67, 68, 69, 70, 71, 89, 90, 91, 92, 93, 94, 95, 96, 97, 98, 85, 86, 87, 88, 99, 100, 101, 102] (by decide +kernel) (by decide +kernel)
set_option maxRecDepth 20000 in
theorem gX8_told_X8_listed : GoodIn wsX8_told (wsV RX8 148 RX8 yX8_listed wsX8_listed) := goodIn_app (goodIn_of _ (by decide +kernel)) ggX8_told_X8_listed
set_option maxRecDepth 20000 in
theorem ggX8_told_X0_value : GoodIn wsX8_told wsX0_value := goodIn_r _ [75, 62, 85, 86, 87, 88] (by decide +kernel) (by decide +kernel)
set_option maxRecDepth 20000 in
theorem gX8_told_X0_value : GoodIn wsX8_told (wsV RX8 160 RX0 yX0_value wsX0_value) := goodIn_app (goodIn_of _ (by decide +kernel)) ggX8_told_X0_value
set_option maxRecDepth 20000 in
theorem ggX8_told_X0_kind : GoodIn wsX8_told wsX0_kind := goodIn_r _ [79, 63, 85, 86, 87, 88] (by decide +kernel) (by decide +kernel)
set_option maxRecDepth 20000 in
theorem gX8_told_X0_kind : GoodIn wsX8_told (wsV RX8 163 RX0 yX0_kind wsX0_kind) := goodIn_app (goodIn_of _ (by decide +kernel)) ggX8_told_X0_kind
set_option maxRecDepth 20000 in
theorem ggX8_told_X0_name : GoodIn wsX8_told wsX0_name := goodIn_r _ [83, 61, 85, 86, 87, 88] (by decide +kernel) (by decide +kernel)
set_option maxRecDepth 20000 in
theorem gX8_told_X0_name : GoodIn wsX8_told (wsV RX8 156 RX0 yX0_name wsX0_name) := goodIn_app (goodIn_of _ (by decide +kernel)) ggX8_told_X0_name
set_option maxRecDepth 20000 in
theorem ggX8_told_X8_numberOf : GoodIn wsX8_told wsX8_numberOf := goodIn_r _ [50] (by decide +kernel) (by decide +kernel)
set_option maxRecDepth 20000 in
theorem gX8_told_X8_numberOf : GoodIn wsX8_told (va_wsS RX8 166 yX8_numberOf wsX8_numberOf) := goodIn_app (goodIn_of _ (by decide +kernel)) ggX8_told_X8_numberOf
theorem dX8_told_0 : decode cX8_told 0 = .ok (.aload_n 0, 1) := by decide +kernel
theorem dX8_told_1 : decode cX8_told 1 = .ok (.invokevirtual 148, 3) := by decide +kernel
theorem dX8_told_4 : decode cX8_told 4 = .ok (.astore_n 3, 1) := by decide +kernel
theorem dX8_told_5 : decode cX8_told 5 = .ok (.iload_n 1, 1) := by decide +kernel
theorem dX8_told_6 : decode cX8_told 6 = .ok (.ifCond .lt 20, 3) := by decide +kernel
theorem dX8_told_9 : decode cX8_told 9 = .ok (.iload_n 1, 1) := by decide +kernel
theorem dX8_told_10 : decode cX8_told 10 = .ok (.aload_n 3, 1) := by decide +kernel
theorem dX8_told_11 : decode cX8_told 11 = .ok (.getfield 159, 3) := by decide +kernel
theorem dX8_told_14 : decode cX8_told 14 = .ok (.if_icmp .ge 12, 3) := by decide +kernel
theorem dX8_told_17 : decode cX8_told 17 = .ok (.iload_n 2, 1) := by decide +kernel
theorem dX8_told_18 : decode cX8_told 18 = .ok (.ifCond .lt 8, 3) := by decide +kernel
theorem dX8_told_21 : decode cX8_told 21 = .ok (.iload_n 2, 1) := by decide +kernel
theorem dX8_told_22 : decode cX8_told 22 = .ok (.iconst 5, 1) := by decide +kernel
theorem dX8_told_23 : decode cX8_told 23 = .ok (.if_icmp .le 6, 3) := by decide +kernel
theorem dX8_told_26 : decode cX8_told 26 = .ok (.bipush (-5), 2) := by decide +kernel
theorem dX8_told_28 : decode cX8_told 28 = .ok (.ireturn, 1) := by decide +kernel
theorem dX8_told_29 : decode cX8_told 29 = .ok (.iload_n 2, 1) := by decide +kernel
theorem dX8_told_30 : decode cX8_told 30 = .ok (.iconst 4, 1) := by decide +kernel
theorem dX8_told_31 : decode cX8_told 31 = .ok (.if_icmp .ne 9, 3) := by decide +kernel
theorem dX8_told_34 : decode cX8_told 34 = .ok (.aload_n 3, 1) := by decide +kernel
theorem dX8_told_35 : decode cX8_told 35 = .ok (.iload_n 1, 1) := by decide +kernel
theorem dX8_told_36 : decode cX8_told 36 = .ok (.invokevirtual 160, 3) := by decide +kernel
theorem dX8_told_39 : decode cX8_told 39 = .ok (.ireturn, 1) := by decide +kernel
theorem dX8_told_40 : decode cX8_told 40 = .ok (.iload_n 2, 1) := by decide +kernel
theorem dX8_told_41 : decode cX8_told 41 = .ok (.iconst 5, 1) := by decide +kernel
theorem dX8_told_42 : decode cX8_told 42 = .ok (.if_icmp .ne 11, 3) := by decide +kernel
theorem dX8_told_45 : decode cX8_told 45 = .ok (.aload_n 3, 1) := by decide +kernel
theorem dX8_told_46 : decode cX8_told 46 = .ok (.iload_n 1, 1) := by decide +kernel
theorem dX8_told_47 : decode cX8_told 47 = .ok (.invokevirtual 163, 3) := by decide +kernel
theorem dX8_told_50 : decode cX8_told 50 = .ok (.goto 12, 3) := by decide +kernel
theorem dX8_told_53 : decode cX8_told 53 = .ok (.aload_n 3, 1) := by decide +kernel
theorem dX8_told_54 : decode cX8_told 54 = .ok (.iload_n 1, 1) := by decide +kernel
theorem dX8_told_55 : decode cX8_told 55 = .ok (.invokevirtual 156, 3) := by decide +kernel
theorem dX8_told_58 : decode cX8_told 58 = .ok (.iload_n 2, 1) := by decide +kernel
theorem dX8_told_59 : decode cX8_told 59 = .ok (.invokestatic 166, 3) := by decide +kernel
theorem dX8_told_62 : decode cX8_told 62 = .ok (.ireturn, 1) := by decide +kernel
set_option maxRecDepth 20000 in
theorem ggX8_next_X8_isName : GoodIn wsX8_next wsX8_isName := goodIn_r _ [4, 5, 6, 3, 7, 8, 9, 10] (by decide +kernel) (by decide +kernel)
set_option maxRecDepth 20000 in
theorem gX8_next_X8_isName : GoodIn wsX8_next (va_wsS RX8 140 yX8_isName wsX8_isName) := goodIn_app (goodIn_of _ (by decide +kernel)) ggX8_next_X8_isName
set_option maxRecDepth 20000 in
theorem ggX8_next_X8_listed : GoodIn wsX8_next wsX8_listed := goodIn_r _ [14, 15, 16, 17, 18, 19, 20, 21, 22, 23, 24, 25, 26, 27, 28, 29, 30, 31, 32, 33, 34, 35, 36, 37, 38, 39, 40, 41, 42, 43, 44, 45, 46, 47, 48, 49, 50, 51, 52, 53, 54, 55, 56, 57, 3, 58, 59, 60, 61, 62, 63, 64, 65, 66, 67, 68, 69, 70, 71, 72, 73, 74, 75, 76, 77, 78, 79, 89, 90, 91, 92, 93, 94, 95, 96, 97, 98, 99, 100, 101, 102, 103, 104, 105, 106] (by decide +kernel) (by decide +kernel)
set_option maxRecDepth 20000 in
theorem gX8_next_X8_listed : GoodIn wsX8_next (wsV RX8 148 RX8 yX8_listed wsX8_listed) := goodIn_app (goodIn_of _ (by decide +kernel)) ggX8_next_X8_listed
set_option maxRecDepth 20000 in
theorem ggX8_next_X8_nameOf : GoodIn wsX8_next wsX8_nameOf := goodIn_r _ [60] (by decide +kernel) (by decide +kernel)
set_option maxRecDepth 20000 in
theorem gX8_next_X8_nameOf : GoodIn wsX8_next (va_wsS RX8 144 yX8_nameOf wsX8_nameOf) := goodIn_app (goodIn_of _ (by decide +kernel)) ggX8_next_X8_nameOf
set_option maxRecDepth 20000 in
theorem ggX8_next_X0_firstFrom : GoodIn wsX8_next wsX0_firstFrom := goodIn_r _ [84, 23, 85, 86, 87, 21, 88, 69, 99, 100, 101, 102] (by decide +kernel) (by decide +kernel)
set_option maxRecDepth 20000 in
theorem gX8_next_X0_firstFrom : GoodIn wsX8_next (wsV RX8 152 RX0 yX0_firstFrom wsX0_firstFrom) := goodIn_app (goodIn_of _ (by decide +kernel)) ggX8_next_X0_firstFrom
theorem dX8_next_0 : decode cX8_next 0 = .ok (.iload_n 1, 1) := by decide +kernel
theorem dX8_next_1 : decode cX8_next 1 = .ok (.iload_n 2, 1) := by decide +kernel
theorem dX8_next_2 : decode cX8_next 2 = .ok (.iload_n 3, 1) := by decide +kernel
theorem dX8_next_3 : decode cX8_next 3 = .ok (.iload 4, 2) := by decide +kernel
theorem dX8_next_5 : decode cX8_next 5 = .ok (.invokestatic 140, 3) := by decide +kernel
theorem dX8_next_8 : decode cX8_next 8 = .ok (.ifCond .ne 5, 3) := by decide +kernel
theorem dX8_next_11 : decode cX8_next 11 = .ok (.iconst (-1), 1) := by decide +kernel
theorem dX8_next_12 : decode cX8_next 12 = .ok (.ireturn, 1) := by decide +kernel
theorem dX8_next_13 : decode cX8_next 13 = .ok (.aload_n 0, 1) := by decide +kernel
theorem dX8_next_14 : decode cX8_next 14 = .ok (.invokevirtual 148, 3) := by decide +kernel
theorem dX8_next_17 : decode cX8_next 17 = .ok (.iload_n 1, 1) := by decide +kernel
theorem dX8_next_18 : decode cX8_next 18 = .ok (.iload_n 2, 1) := by decide +kernel
theorem dX8_next_19 : decode cX8_next 19 = .ok (.iload_n 3, 1) := by decide +kernel
theorem dX8_next_20 : decode cX8_next 20 = .ok (.iload 4, 2) := by decide +kernel
theorem dX8_next_22 : decode cX8_next 22 = .ok (.invokestatic 144, 3) := by decide +kernel
theorem dX8_next_25 : decode cX8_next 25 = .ok (.iconst 1, 1) := by decide +kernel
theorem dX8_next_26 : decode cX8_next 26 = .ok (.iadd, 1) := by decide +kernel
theorem dX8_next_27 : decode cX8_next 27 = .ok (.invokevirtual 152, 3) := by decide +kernel
theorem dX8_next_30 : decode cX8_next 30 = .ok (.ireturn, 1) := by decide +kernel
set_option maxRecDepth 20000 in
theorem ggX8_bulk_X8_isName : GoodIn wsX8_bulk wsX8_isName := goodIn_r _ [4, 5, 6, 3, 7, 8, 9, 10] (by decide +kernel) (by decide +kernel)
set_option maxRecDepth 20000 in
theorem gX8_bulk_X8_isName : GoodIn wsX8_bulk (va_wsS RX8 140 yX8_isName wsX8_isName) := goodIn_app (goodIn_of _ (by decide +kernel)) ggX8_bulk_X8_isName
set_option maxRecDepth 20000 in
theorem ggX8_bulk_X8_listed : GoodIn wsX8_bulk wsX8_listed := goodIn_r _ [14, 15, 16, 17, 18, 19, 20, 21, 22, 23, 24, 25, 26, 27, 28, 29, 30, 31, 32, 33, 34, 35, 36, 37, 38, 39, 40, 41, 42, 43, 44, 45, 46, 47, 48, 49, 50, 51, 52, 53, 54, 55, 56, 57, 3, 58, 59, 60, 61, 62, 63, 64, 65, 66, 67, 68, 69, 70, 71, 72, 73, 74, 75, 76, 77, 78, 79, 101, 102, 103, 104, 105, 106, 107, 108, 109, 110, 111, 112, 113, 114, 115, 116, 117, 118] (by decide +kernel) (by decide +kernel)
set_option maxRecDepth 20000 in
theorem gX8_bulk_X8_listed : GoodIn wsX8_bulk (wsV RX8 148 RX8 yX8_listed wsX8_listed) := goodIn_app (goodIn_of _ (by decide +kernel)) ggX8_bulk_X8_listed
set_option maxRecDepth 20000 in
theorem ggX8_bulk_X8_nameOf : GoodIn wsX8_bulk wsX8_nameOf := goodIn_r _ [60] (by decide +kernel) (by decide +kernel)
set_option maxRecDepth 20000 in
theorem gX8_bulk_X8_nameOf : GoodIn wsX8_bulk (va_wsS RX8 144 yX8_nameOf wsX8_nameOf) := goodIn_app (goodIn_of _ (by decide +kernel)) ggX8_bulk_X8_nameOf
set_option maxRecDepth 20000 in
theorem ggX8_bulk_X0_firstFrom : GoodIn wsX8_bulk wsX0_firstFrom := goodIn_r _ [84, 23, 85, 86, 87, 21, 88, 69, 111, 112, 113, 114] (by decide +kernel) (by decide +kernel)
set_option maxRecDepth 20000 in
theorem gX8_bulk_X0_firstFrom : GoodIn wsX8_bulk (wsV RX8 152 RX0 yX0_firstFrom wsX0_firstFrom) := goodIn_app (goodIn_of _ (by decide +kernel)) ggX8_bulk_X0_firstFrom
set_option maxRecDepth 20000 in
theorem ggX8_bulk_X0_fitting : GoodIn wsX8_bulk wsX0_fitting := goodIn_r _ [92, 23, 93, 94, 95, 21, 96, 85, 86, 87, 88, 69, 57, 3, 58, 97, 98, 99, 100, 70, 111, 112, 113, 114] (by decide +kernel) (by decide +kernel)
set_option maxRecDepth 20000 in
theorem gX8_bulk_X0_fitting : GoodIn wsX8_bulk (wsV RX8 169 RX0 yX0_fitting wsX0_fitting) := goodIn_app (goodIn_of _ (by decide +kernel)) ggX8_bulk_X0_fitting
theorem dX8_bulk_0 : decode cX8_bulk 0 = .ok (.iload_n 1, 1) := by decide +kernel
theorem dX8_bulk_1 : decode cX8_bulk 1 = .ok (.iload_n 2, 1) := by decide +kernel
theorem dX8_bulk_2 : decode cX8_bulk 2 = .ok (.iload_n 3, 1) := by decide +kernel
theorem dX8_bulk_3 : decode cX8_bulk 3 = .ok (.iload 4, 2) := by decide +kernel
theorem dX8_bulk_5 : decode cX8_bulk 5 = .ok (.invokestatic 140, 3) := by decide +kernel
theorem dX8_bulk_8 : decode cX8_bulk 8 = .ok (.ifCond .eq 28, 3) := by decide +kernel
theorem dX8_bulk_11 : decode cX8_bulk 11 = .ok (.iload 5, 2) := by decide +kernel
theorem dX8_bulk_13 : decode cX8_bulk 13 = .ok (.ifCond .lt 23, 3) := by decide +kernel
theorem dX8_bulk_16 : decode cX8_bulk 16 = .ok (.iload 5, 2) := by decide +kernel
theorem dX8_bulk_18 : decode cX8_bulk 18 = .ok (.bipush 99, 2) := by decide +kernel
theorem dX8_bulk_20 : decode cX8_bulk 20 = .ok (.if_icmp .gt 16, 3) := by decide +kernel
theorem dX8_bulk_23 : decode cX8_bulk 23 = .ok (.iload 6, 2) := by decide +kernel
theorem dX8_bulk_25 : decode cX8_bulk 25 = .ok (.ifCond .lt 11, 3) := by decide +kernel
theorem dX8_bulk_28 : decode cX8_bulk 28 = .ok (.iload 6, 2) := by decide +kernel
theorem dX8_bulk_30 : decode cX8_bulk 30 = .ok (.sipush 999, 3) := by decide +kernel
theorem dX8_bulk_33 : decode cX8_bulk 33 = .ok (.if_icmp .le 5, 3) := by decide +kernel
theorem dX8_bulk_36 : decode cX8_bulk 36 = .ok (.iconst (-1), 1) := by decide +kernel
theorem dX8_bulk_37 : decode cX8_bulk 37 = .ok (.ireturn, 1) := by decide +kernel
theorem dX8_bulk_38 : decode cX8_bulk 38 = .ok (.aload_n 0, 1) := by decide +kernel
theorem dX8_bulk_39 : decode cX8_bulk 39 = .ok (.invokevirtual 148, 3) := by decide +kernel
theorem dX8_bulk_42 : decode cX8_bulk 42 = .ok (.astore 7, 2) := by decide +kernel
theorem dX8_bulk_44 : decode cX8_bulk 44 = .ok (.aload 7, 2) := by decide +kernel
theorem dX8_bulk_46 : decode cX8_bulk 46 = .ok (.iload_n 1, 1) := by decide +kernel
theorem dX8_bulk_47 : decode cX8_bulk 47 = .ok (.iload_n 2, 1) := by decide +kernel
theorem dX8_bulk_48 : decode cX8_bulk 48 = .ok (.iload_n 3, 1) := by decide +kernel
theorem dX8_bulk_49 : decode cX8_bulk 49 = .ok (.iload 4, 2) := by decide +kernel
theorem dX8_bulk_51 : decode cX8_bulk 51 = .ok (.invokestatic 144, 3) := by decide +kernel
theorem dX8_bulk_54 : decode cX8_bulk 54 = .ok (.iconst 1, 1) := by decide +kernel
theorem dX8_bulk_55 : decode cX8_bulk 55 = .ok (.iadd, 1) := by decide +kernel
theorem dX8_bulk_56 : decode cX8_bulk 56 = .ok (.invokevirtual 152, 3) := by decide +kernel
theorem dX8_bulk_59 : decode cX8_bulk 59 = .ok (.istore 8, 2) := by decide +kernel
theorem dX8_bulk_61 : decode cX8_bulk 61 = .ok (.iload 8, 2) := by decide +kernel
theorem dX8_bulk_63 : decode cX8_bulk 63 = .ok (.bipush (-9), 2) := by decide +kernel
theorem dX8_bulk_65 : decode cX8_bulk 65 = .ok (.if_icmp .ne 7, 3) := by decide +kernel
theorem dX8_bulk_68 : decode cX8_bulk 68 = .ok (.iconst 0, 1) := by decide +kernel
theorem dX8_bulk_69 : decode cX8_bulk 69 = .ok (.goto 14, 3) := by decide +kernel
theorem dX8_bulk_72 : decode cX8_bulk 72 = .ok (.aload 7, 2) := by decide +kernel
theorem dX8_bulk_74 : decode cX8_bulk 74 = .ok (.iload 8, 2) := by decide +kernel
theorem dX8_bulk_76 : decode cX8_bulk 76 = .ok (.iload 5, 2) := by decide +kernel
theorem dX8_bulk_78 : decode cX8_bulk 78 = .ok (.iload 6, 2) := by decide +kernel
theorem dX8_bulk_80 : decode cX8_bulk 80 = .ok (.invokevirtual 169, 3) := by decide +kernel
theorem dX8_bulk_83 : decode cX8_bulk 83 = .ok (.ireturn, 1) := by decide +kernel
set_option maxRecDepth 20000 in
theorem ggX8_walk_X8_listed : GoodIn wsX8_walk wsX8_listed := goodIn_r _ [6, 7, 8, 9, 10, 11, 12, 13, 14, 15, 16, 17, 18, 19, 20, 21, 22, 23, 24, 25, 26, 27, 28, 29, 30, 31, 32, 33, 34, 35, 36, 37, 38, 39, 40, 41, 42, 43, 44, 45, 46, 47, 48, 49, 5, 50, 51, 52, 53, 54, 55, 56, 57, 58, 59, 60, 61, 62, 63, 64, 65, 66, 67, 68, 69, 70, 71, 92, 93, 94, 95, 96, 97, 98, 99, 100, 101, 88, 89, 90, 91, 102, 103, 104, 105] (by decide +kernel) (by decide +kernel)
set_option maxRecDepth 20000 in
theorem gX8_walk_X8_listed : GoodIn wsX8_walk (wsV RX8 148 RX8 yX8_listed wsX8_listed) := goodIn_app (goodIn_of _ (by decide +kernel)) ggX8_walk_X8_listed
set_option maxRecDepth 20000 in
theorem ggX8_walk_X0_fitting : GoodIn wsX8_walk wsX0_fitting := goodIn_r _ [75, 15, 76, 77, 78, 13, 79, 80, 81, 82, 83, 61, 49, 5, 50, 84, 85, 86, 87, 62, 88, 89, 90, 91] (by decide +kernel) (by decide +kernel)
set_option maxRecDepth 20000 in
theorem gX8_walk_X0_fitting : GoodIn wsX8_walk (wsV RX8 169 RX0 yX0_fitting wsX0_fitting) := goodIn_app (goodIn_of _ (by decide +kernel)) ggX8_walk_X0_fitting
theorem dX8_walk_0 : decode cX8_walk 0 = .ok (.iload_n 1, 1) := by decide +kernel
theorem dX8_walk_1 : decode cX8_walk 1 = .ok (.ifCond .lt 10, 3) := by decide +kernel
theorem dX8_walk_4 : decode cX8_walk 4 = .ok (.iload_n 1, 1) := by decide +kernel
theorem dX8_walk_5 : decode cX8_walk 5 = .ok (.sipush 999, 3) := by decide +kernel
theorem dX8_walk_8 : decode cX8_walk 8 = .ok (.if_icmp .le 5, 3) := by decide +kernel
theorem dX8_walk_11 : decode cX8_walk 11 = .ok (.iconst (-1), 1) := by decide +kernel
theorem dX8_walk_12 : decode cX8_walk 12 = .ok (.ireturn, 1) := by decide +kernel
theorem dX8_walk_13 : decode cX8_walk 13 = .ok (.aload_n 0, 1) := by decide +kernel
theorem dX8_walk_14 : decode cX8_walk 14 = .ok (.invokevirtual 148, 3) := by decide +kernel
theorem dX8_walk_17 : decode cX8_walk 17 = .ok (.astore_n 2, 1) := by decide +kernel
theorem dX8_walk_18 : decode cX8_walk 18 = .ok (.iconst 0, 1) := by decide +kernel
theorem dX8_walk_19 : decode cX8_walk 19 = .ok (.istore_n 3, 1) := by decide +kernel
theorem dX8_walk_20 : decode cX8_walk 20 = .ok (.iconst 0, 1) := by decide +kernel
theorem dX8_walk_21 : decode cX8_walk 21 = .ok (.istore 4, 2) := by decide +kernel
theorem dX8_walk_23 : decode cX8_walk 23 = .ok (.iload_n 3, 1) := by decide +kernel
theorem dX8_walk_24 : decode cX8_walk 24 = .ok (.aload_n 2, 1) := by decide +kernel
theorem dX8_walk_25 : decode cX8_walk 25 = .ok (.getfield 159, 3) := by decide +kernel
theorem dX8_walk_28 : decode cX8_walk 28 = .ok (.if_icmp .ge 44, 3) := by decide +kernel
theorem dX8_walk_31 : decode cX8_walk 31 = .ok (.iload 4, 2) := by decide +kernel
theorem dX8_walk_33 : decode cX8_walk 33 = .ok (.aload_n 2, 1) := by decide +kernel
theorem dX8_walk_34 : decode cX8_walk 34 = .ok (.getfield 159, 3) := by decide +kernel
theorem dX8_walk_37 : decode cX8_walk 37 = .ok (.if_icmp .ge 35, 3) := by decide +kernel
theorem dX8_walk_40 : decode cX8_walk 40 = .ok (.aload_n 2, 1) := by decide +kernel
theorem dX8_walk_41 : decode cX8_walk 41 = .ok (.iload 4, 2) := by decide +kernel
theorem dX8_walk_43 : decode cX8_walk 43 = .ok (.bipush 99, 2) := by decide +kernel
theorem dX8_walk_45 : decode cX8_walk 45 = .ok (.iload_n 1, 1) := by decide +kernel
theorem dX8_walk_46 : decode cX8_walk 46 = .ok (.invokevirtual 169, 3) := by decide +kernel
theorem dX8_walk_49 : decode cX8_walk 49 = .ok (.istore 5, 2) := by decide +kernel
theorem dX8_walk_51 : decode cX8_walk 51 = .ok (.iload 5, 2) := by decide +kernel
theorem dX8_walk_53 : decode cX8_walk 53 = .ok (.ifCond .ne 6, 3) := by decide +kernel
theorem dX8_walk_56 : decode cX8_walk 56 = .ok (.bipush (-9), 2) := by decide +kernel
theorem dX8_walk_58 : decode cX8_walk 58 = .ok (.ireturn, 1) := by decide +kernel
theorem dX8_walk_59 : decode cX8_walk 59 = .ok (.iload 4, 2) := by decide +kernel
theorem dX8_walk_61 : decode cX8_walk 61 = .ok (.iload 5, 2) := by decide +kernel
theorem dX8_walk_63 : decode cX8_walk 63 = .ok (.iadd, 1) := by decide +kernel
theorem dX8_walk_64 : decode cX8_walk 64 = .ok (.istore 4, 2) := by decide +kernel
theorem dX8_walk_66 : decode cX8_walk 66 = .ok (.iinc 3 1, 3) := by decide +kernel
theorem dX8_walk_69 : decode cX8_walk 69 = .ok (.goto (-46), 3) := by decide +kernel
theorem dX8_walk_72 : decode cX8_walk 72 = .ok (.iload_n 3, 1) := by decide +kernel
theorem dX8_walk_73 : decode cX8_walk 73 = .ok (.ireturn, 1) := by decide +kernel
set_option maxRecDepth 20000 in
theorem ggX8_having_X8_listed : GoodIn wsX8_having wsX8_listed := goodIn_r _ [5, 6, 7, 8, 9, 10, 11, 12, 13, 14, 15, 16, 17, 18, 19, 20, 21, 22, 23, 24, 25, 26, 27, 28, 29, 30, 31, 32, 33, 34, 35, 36, 37, 38, 39, 40, 41, 42, 43, 44, 45, 46, 47, 48, 4, 49, 50, 51, 52, 53, 54, 55, 56, 57, 58, 59, 60, 61, 62, 63, 64, 65, 66, 67, 68, 69, 70, 83, 84, 85, 86, 87, 88, 89, 90, 91, 92, 93, 94, 95, 96, 97, 98, 99, 100] (by decide +kernel) (by decide +kernel)
set_option maxRecDepth 20000 in
theorem gX8_having_X8_listed : GoodIn wsX8_having (wsV RX8 148 RX8 yX8_listed wsX8_listed) := goodIn_app (goodIn_of _ (by decide +kernel)) ggX8_having_X8_listed
set_option maxRecDepth 20000 in
theorem ggX8_having_X0_howManyHave : GoodIn wsX8_having wsX0_howManyHave := goodIn_r _ [74, 14, 75, 76, 77, 12, 78, 61, 93, 94, 95, 96] (by decide +kernel) (by decide +kernel)
set_option maxRecDepth 20000 in
theorem gX8_having_X0_howManyHave : GoodIn wsX8_having (wsV RX8 173 RX0 yX0_howManyHave wsX0_howManyHave) := goodIn_app (goodIn_of _ (by decide +kernel)) ggX8_having_X0_howManyHave
set_option maxRecDepth 20000 in
theorem ggX8_having_X0_withValue : GoodIn wsX8_having wsX0_withValue := goodIn_r _ [82, 14, 75, 76, 77, 12, 78, 61, 93, 94, 95, 96] (by decide +kernel) (by decide +kernel)
set_option maxRecDepth 20000 in
theorem gX8_having_X0_withValue : GoodIn wsX8_having (wsV RX8 176 RX0 yX0_withValue wsX0_withValue) := goodIn_app (goodIn_of _ (by decide +kernel)) ggX8_having_X0_withValue
theorem dX8_having_0 : decode cX8_having 0 = .ok (.iload_n 2, 1) := by decide +kernel
theorem dX8_having_1 : decode cX8_having 1 = .ok (.iconst (-1), 1) := by decide +kernel
theorem dX8_having_2 : decode cX8_having 2 = .ok (.if_icmp .ge 5, 3) := by decide +kernel
theorem dX8_having_5 : decode cX8_having 5 = .ok (.iconst (-1), 1) := by decide +kernel
theorem dX8_having_6 : decode cX8_having 6 = .ok (.ireturn, 1) := by decide +kernel
theorem dX8_having_7 : decode cX8_having 7 = .ok (.aload_n 0, 1) := by decide +kernel
theorem dX8_having_8 : decode cX8_having 8 = .ok (.invokevirtual 148, 3) := by decide +kernel
theorem dX8_having_11 : decode cX8_having 11 = .ok (.astore_n 3, 1) := by decide +kernel
theorem dX8_having_12 : decode cX8_having 12 = .ok (.iload_n 2, 1) := by decide +kernel
theorem dX8_having_13 : decode cX8_having 13 = .ok (.iconst (-1), 1) := by decide +kernel
theorem dX8_having_14 : decode cX8_having 14 = .ok (.if_icmp .ne 11, 3) := by decide +kernel
theorem dX8_having_17 : decode cX8_having 17 = .ok (.aload_n 3, 1) := by decide +kernel
theorem dX8_having_18 : decode cX8_having 18 = .ok (.iload_n 1, 1) := by decide +kernel
theorem dX8_having_19 : decode cX8_having 19 = .ok (.invokevirtual 173, 3) := by decide +kernel
theorem dX8_having_22 : decode cX8_having 22 = .ok (.goto 9, 3) := by decide +kernel
theorem dX8_having_25 : decode cX8_having 25 = .ok (.aload_n 3, 1) := by decide +kernel
theorem dX8_having_26 : decode cX8_having 26 = .ok (.iload_n 1, 1) := by decide +kernel
theorem dX8_having_27 : decode cX8_having 27 = .ok (.iload_n 2, 1) := by decide +kernel
theorem dX8_having_28 : decode cX8_having 28 = .ok (.invokevirtual 176, 3) := by decide +kernel
theorem dX8_having_31 : decode cX8_having 31 = .ok (.ireturn, 1) := by decide +kernel
set_option maxRecDepth 20000 in
theorem ggX8_status_X8_isRow : GoodIn wsX8_status wsX8_isRow := goodIn_r _ [6, 7, 8, 9, 10, 11, 12, 13, 14, 15, 16, 17, 18, 19, 20, 21, 22, 36, 37, 38, 39, 40, 41, 42, 43, 44, 45, 46, 47, 48] (by decide +kernel) (by decide +kernel)
set_option maxRecDepth 20000 in
theorem gX8_status_X8_isRow : GoodIn wsX8_status (wsV RX8 179 RX8 yX8_isRow wsX8_isRow) := goodIn_app (goodIn_of _ (by decide +kernel)) ggX8_status_X8_isRow
set_option maxRecDepth 20000 in
theorem ggX8_status_X4_statusOf : GoodIn wsX8_status wsX4_statusOf := goodIn_r _ [27, 28, 29, 26, 30, 31, 32, 33, 34, 35, 49] (by decide +kernel) (by decide +kernel)
set_option maxRecDepth 20000 in
theorem gX8_status_X4_statusOf : GoodIn wsX8_status (wsV RX8 183 RX4 yX4_statusOf wsX4_statusOf) := goodIn_app (goodIn_of _ (by decide +kernel)) ggX8_status_X4_statusOf
theorem dX8_status_0 : decode cX8_status 0 = .ok (.aload_n 0, 1) := by decide +kernel
theorem dX8_status_1 : decode cX8_status 1 = .ok (.iload_n 1, 1) := by decide +kernel
theorem dX8_status_2 : decode cX8_status 2 = .ok (.iload_n 2, 1) := by decide +kernel
theorem dX8_status_3 : decode cX8_status 3 = .ok (.invokevirtual 179, 3) := by decide +kernel
theorem dX8_status_6 : decode cX8_status 6 = .ok (.ifCond .eq 15, 3) := by decide +kernel
theorem dX8_status_9 : decode cX8_status 9 = .ok (.aload_n 0, 1) := by decide +kernel
theorem dX8_status_10 : decode cX8_status 10 = .ok (.getfield 43, 3) := by decide +kernel
theorem dX8_status_13 : decode cX8_status 13 = .ok (.iload_n 1, 1) := by decide +kernel
theorem dX8_status_14 : decode cX8_status 14 = .ok (.iload_n 2, 1) := by decide +kernel
theorem dX8_status_15 : decode cX8_status 15 = .ok (.invokevirtual 183, 3) := by decide +kernel
theorem dX8_status_18 : decode cX8_status 18 = .ok (.goto 4, 3) := by decide +kernel
theorem dX8_status_21 : decode cX8_status 21 = .ok (.iconst (-1), 1) := by decide +kernel
theorem dX8_status_22 : decode cX8_status 22 = .ok (.ireturn, 1) := by decide +kernel
set_option maxRecDepth 20000 in
theorem ggX8_needs_X8_isRow : GoodIn wsX8_needs wsX8_isRow := goodIn_r _ [7, 1, 8, 9, 10, 11, 12, 13, 14, 15, 16, 17, 18, 19, 20, 21, 22, 48, 49, 50, 51, 52, 53, 54, 55, 56, 57, 58, 59, 60] (by decide +kernel) (by decide +kernel)
set_option maxRecDepth 20000 in
theorem gX8_needs_X8_isRow : GoodIn wsX8_needs (wsV RX8 179 RX8 yX8_isRow wsX8_isRow) := goodIn_app (goodIn_of _ (by decide +kernel)) ggX8_needs_X8_isRow
set_option maxRecDepth 20000 in
theorem ggX8_needs_X6_columnsOf : GoodIn wsX8_needs wsX6_columnsOf := goodIn_r _ [26, 13, 18, 19, 20, 11, 21, 22, 14, 15, 16, 17, 58, 59, 60] (by decide +kernel) (by decide +kernel)
set_option maxRecDepth 20000 in
theorem gX8_needs_X6_columnsOf : GoodIn wsX8_needs (wsV RX8 186 RX6 yX6_columnsOf wsX6_columnsOf) := goodIn_app (goodIn_of _ (by decide +kernel)) ggX8_needs_X6_columnsOf
set_option maxRecDepth 20000 in
theorem ggX8_needs_X4_statusOf : GoodIn wsX8_needs wsX4_statusOf := goodIn_r _ [31, 32, 33, 30, 34, 35, 36, 37, 38, 39, 61] (by decide +kernel) (by decide +kernel)
set_option maxRecDepth 20000 in
theorem gX8_needs_X4_statusOf : GoodIn wsX8_needs (wsV RX8 183 RX4 yX4_statusOf wsX4_statusOf) := goodIn_app (goodIn_of _ (by decide +kernel)) ggX8_needs_X4_statusOf
set_option maxRecDepth 20000 in
theorem ggX8_needs_X4_unfilled : GoodIn wsX8_needs wsX4_unfilled := goodIn_r _ [43, 44, 45, 46, 30, 47, 32, 33, 34, 35, 36, 37, 38, 39, 61] (by decide +kernel) (by decide +kernel)
set_option maxRecDepth 20000 in
theorem gX8_needs_X4_unfilled : GoodIn wsX8_needs (wsV RX8 189 RX4 yX4_unfilled wsX4_unfilled) := goodIn_app (goodIn_of _ (by decide +kernel)) ggX8_needs_X4_unfilled
theorem dX8_needs_0 : decode cX8_needs 0 = .ok (.aload_n 0, 1) := by decide +kernel
theorem dX8_needs_1 : decode cX8_needs 1 = .ok (.iload_n 1, 1) := by decide +kernel
theorem dX8_needs_2 : decode cX8_needs 2 = .ok (.iload_n 2, 1) := by decide +kernel
theorem dX8_needs_3 : decode cX8_needs 3 = .ok (.invokevirtual 179, 3) := by decide +kernel
theorem dX8_needs_6 : decode cX8_needs 6 = .ok (.ifCond .ne 5, 3) := by decide +kernel
theorem dX8_needs_9 : decode cX8_needs 9 = .ok (.iconst (-1), 1) := by decide +kernel
theorem dX8_needs_10 : decode cX8_needs 10 = .ok (.ireturn, 1) := by decide +kernel
theorem dX8_needs_11 : decode cX8_needs 11 = .ok (.aload_n 0, 1) := by decide +kernel
theorem dX8_needs_12 : decode cX8_needs 12 = .ok (.getfield 19, 3) := by decide +kernel
theorem dX8_needs_15 : decode cX8_needs 15 = .ok (.iload_n 1, 1) := by decide +kernel
theorem dX8_needs_16 : decode cX8_needs 16 = .ok (.invokevirtual 186, 3) := by decide +kernel
theorem dX8_needs_19 : decode cX8_needs 19 = .ok (.istore_n 3, 1) := by decide +kernel
theorem dX8_needs_20 : decode cX8_needs 20 = .ok (.aload_n 0, 1) := by decide +kernel
theorem dX8_needs_21 : decode cX8_needs 21 = .ok (.getfield 43, 3) := by decide +kernel
theorem dX8_needs_24 : decode cX8_needs 24 = .ok (.iload_n 1, 1) := by decide +kernel
theorem dX8_needs_25 : decode cX8_needs 25 = .ok (.iload_n 2, 1) := by decide +kernel
theorem dX8_needs_26 : decode cX8_needs 26 = .ok (.invokevirtual 183, 3) := by decide +kernel
theorem dX8_needs_29 : decode cX8_needs 29 = .ok (.tableswitch 44 1 3 #[27, 29, 31], 27) := by decide +kernel
theorem dX8_needs_56 : decode cX8_needs 56 = .ok (.iconst 0, 1) := by decide +kernel
theorem dX8_needs_57 : decode cX8_needs 57 = .ok (.ireturn, 1) := by decide +kernel
theorem dX8_needs_58 : decode cX8_needs 58 = .ok (.iconst 1, 1) := by decide +kernel
theorem dX8_needs_59 : decode cX8_needs 59 = .ok (.ireturn, 1) := by decide +kernel
theorem dX8_needs_60 : decode cX8_needs 60 = .ok (.iconst 1, 1) := by decide +kernel
theorem dX8_needs_61 : decode cX8_needs 61 = .ok (.aload_n 0, 1) := by decide +kernel
theorem dX8_needs_62 : decode cX8_needs 62 = .ok (.getfield 43, 3) := by decide +kernel
theorem dX8_needs_65 : decode cX8_needs 65 = .ok (.iload_n 1, 1) := by decide +kernel
theorem dX8_needs_66 : decode cX8_needs 66 = .ok (.iload_n 2, 1) := by decide +kernel
theorem dX8_needs_67 : decode cX8_needs 67 = .ok (.iload_n 3, 1) := by decide +kernel
theorem dX8_needs_68 : decode cX8_needs 68 = .ok (.invokevirtual 189, 3) := by decide +kernel
theorem dX8_needs_71 : decode cX8_needs 71 = .ok (.iadd, 1) := by decide +kernel
theorem dX8_needs_72 : decode cX8_needs 72 = .ok (.ireturn, 1) := by decide +kernel
theorem dX8_needs_73 : decode cX8_needs 73 = .ok (.iconst 1, 1) := by decide +kernel
theorem dX8_needs_74 : decode cX8_needs 74 = .ok (.iload_n 3, 1) := by decide +kernel
theorem dX8_needs_75 : decode cX8_needs 75 = .ok (.iadd, 1) := by decide +kernel
theorem dX8_needs_76 : decode cX8_needs 76 = .ok (.ireturn, 1) := by decide +kernel
set_option maxRecDepth 20000 in
theorem ggX8_notice_X4_waiting : GoodIn wsX8_notice wsX4_waiting := goodIn_r _ [6, 7, 8, 9, 5, 10, 11, 29] (by decide +kernel) (by decide +kernel)
set_option maxRecDepth 20000 in
theorem gX8_notice_X4_waiting : GoodIn wsX8_notice (wsV RX8 124 RX4 yX4_waiting wsX4_waiting) := goodIn_app (goodIn_of _ (by decide +kernel)) ggX8_notice_X4_waiting
set_option maxRecDepth 20000 in
theorem ggX8_notice_X4_noticeField : GoodIn wsX8_notice wsX4_noticeField := goodIn_r _ [15, 16, 17, 5, 18, 7, 8, 9, 10, 11, 29] (by decide +kernel) (by decide +kernel)
set_option maxRecDepth 20000 in
theorem gX8_notice_X4_noticeField : GoodIn wsX8_notice (wsV RX8 127 RX4 yX4_noticeField wsX4_noticeField) := goodIn_app (goodIn_of _ (by decide +kernel)) ggX8_notice_X4_noticeField
theorem dX8_notice_0 : decode cX8_notice 0 = .ok (.iload_n 1, 1) := by decide +kernel
theorem dX8_notice_1 : decode cX8_notice 1 = .ok (.ifCond .lt 23, 3) := by decide +kernel
theorem dX8_notice_4 : decode cX8_notice 4 = .ok (.iload_n 1, 1) := by decide +kernel
theorem dX8_notice_5 : decode cX8_notice 5 = .ok (.aload_n 0, 1) := by decide +kernel
theorem dX8_notice_6 : decode cX8_notice 6 = .ok (.getfield 43, 3) := by decide +kernel
theorem dX8_notice_9 : decode cX8_notice 9 = .ok (.invokevirtual 124, 3) := by decide +kernel
theorem dX8_notice_12 : decode cX8_notice 12 = .ok (.if_icmp .ge 12, 3) := by decide +kernel
theorem dX8_notice_15 : decode cX8_notice 15 = .ok (.iload_n 2, 1) := by decide +kernel
theorem dX8_notice_16 : decode cX8_notice 16 = .ok (.ifCond .lt 8, 3) := by decide +kernel
theorem dX8_notice_19 : decode cX8_notice 19 = .ok (.iload_n 2, 1) := by decide +kernel
theorem dX8_notice_20 : decode cX8_notice 20 = .ok (.iconst 5, 1) := by decide +kernel
theorem dX8_notice_21 : decode cX8_notice 21 = .ok (.if_icmp .lt 5, 3) := by decide +kernel
theorem dX8_notice_24 : decode cX8_notice 24 = .ok (.iconst (-1), 1) := by decide +kernel
theorem dX8_notice_25 : decode cX8_notice 25 = .ok (.ireturn, 1) := by decide +kernel
theorem dX8_notice_26 : decode cX8_notice 26 = .ok (.aload_n 0, 1) := by decide +kernel
theorem dX8_notice_27 : decode cX8_notice 27 = .ok (.getfield 43, 3) := by decide +kernel
theorem dX8_notice_30 : decode cX8_notice 30 = .ok (.iload_n 1, 1) := by decide +kernel
theorem dX8_notice_31 : decode cX8_notice 31 = .ok (.iload_n 2, 1) := by decide +kernel
theorem dX8_notice_32 : decode cX8_notice 32 = .ok (.invokevirtual 127, 3) := by decide +kernel
theorem dX8_notice_35 : decode cX8_notice 35 = .ok (.ireturn, 1) := by decide +kernel
set_option maxRecDepth 20000 in
theorem ggX8_keep_X3_put : GoodIn wsX8_keep wsX3_put := goodIn_r _ [7, 8, 9, 10, 11, 12, 13, 14, 15, 16, 17, 18, 19, 38, 39, 40] (by decide +kernel) (by decide +kernel)
set_option maxRecDepth 20000 in
theorem gX8_keep_X3_put : GoodIn wsX8_keep (wsV RX8 192 RX3 yX3_put wsX3_put) := goodIn_app (goodIn_of _ (by decide +kernel)) ggX8_keep_X3_put
set_option maxRecDepth 20000 in
theorem ggX8_keep_X4_time : GoodIn wsX8_keep wsX4_time := goodIn_r _ [23, 24, 25, 26, 13, 27, 15, 40] (by decide +kernel) (by decide +kernel)
set_option maxRecDepth 20000 in
theorem gX8_keep_X4_time : GoodIn wsX8_keep (wsV RX8 117 RX4 yX4_time wsX4_time) := goodIn_app (goodIn_of _ (by decide +kernel)) ggX8_keep_X4_time
theorem dX8_keep_0 : decode cX8_keep 0 = .ok (.iload_n 1, 1) := by decide +kernel
theorem dX8_keep_1 : decode cX8_keep 1 = .ok (.ifCond .lt 8, 3) := by decide +kernel
theorem dX8_keep_4 : decode cX8_keep 4 = .ok (.iload_n 1, 1) := by decide +kernel
theorem dX8_keep_5 : decode cX8_keep 5 = .ok (.iconst 2, 1) := by decide +kernel
theorem dX8_keep_6 : decode cX8_keep 6 = .ok (.if_icmp .lt 5, 3) := by decide +kernel
theorem dX8_keep_9 : decode cX8_keep 9 = .ok (.iconst (-1), 1) := by decide +kernel
theorem dX8_keep_10 : decode cX8_keep 10 = .ok (.ireturn, 1) := by decide +kernel
theorem dX8_keep_11 : decode cX8_keep 11 = .ok (.aload_n 0, 1) := by decide +kernel
theorem dX8_keep_12 : decode cX8_keep 12 = .ok (.getfield 69, 3) := by decide +kernel
theorem dX8_keep_15 : decode cX8_keep 15 = .ok (.iload_n 1, 1) := by decide +kernel
theorem dX8_keep_16 : decode cX8_keep 16 = .ok (.aload_n 0, 1) := by decide +kernel
theorem dX8_keep_17 : decode cX8_keep 17 = .ok (.getfield 43, 3) := by decide +kernel
theorem dX8_keep_20 : decode cX8_keep 20 = .ok (.invokevirtual 192, 3) := by decide +kernel
theorem dX8_keep_23 : decode cX8_keep 23 = .ok (.aload_n 0, 1) := by decide +kernel
theorem dX8_keep_24 : decode cX8_keep 24 = .ok (.getfield 43, 3) := by decide +kernel
theorem dX8_keep_27 : decode cX8_keep 27 = .ok (.invokevirtual 117, 3) := by decide +kernel
theorem dX8_keep_30 : decode cX8_keep 30 = .ok (.ireturn, 1) := by decide +kernel
set_option maxRecDepth 20000 in
theorem ggX8_back_X3_has : GoodIn wsX8_back wsX3_has := goodIn_r _ [8, 9, 50, 51] (by decide +kernel) (by decide +kernel)
set_option maxRecDepth 20000 in
theorem gX8_back_X3_has : GoodIn wsX8_back (wsV RX8 196 RX3 yX3_has wsX3_has) := goodIn_app (goodIn_of _ (by decide +kernel)) ggX8_back_X3_has
set_option maxRecDepth 20000 in
theorem ggX8_back_X3_bring : GoodIn wsX8_back wsX3_bring := goodIn_r _ [13, 14, 15, 5, 6, 7, 8, 9, 16, 17, 18, 19, 20, 21, 22, 23, 24, 25, 50, 51, 52] (by decide +kernel) (by decide +kernel)
set_option maxRecDepth 20000 in
theorem gX8_back_X3_bring : GoodIn wsX8_back (wsV RX8 199 RX3 yX3_bring wsX3_bring) := goodIn_app (goodIn_of _ (by decide +kernel)) ggX8_back_X3_bring
set_option maxRecDepth 20000 in
theorem ggX8_back_X2_forget : GoodIn wsX8_back wsX2_forget := goodIn_r _ [30, 31, 53, 54, 55] (by decide +kernel) (by decide +kernel)
set_option maxRecDepth 20000 in
theorem gX8_back_X2_forget : GoodIn wsX8_back (wsV RX8 95 RX2 yX2_forget wsX2_forget) := goodIn_app (goodIn_of _ (by decide +kernel)) ggX8_back_X2_forget
set_option maxRecDepth 20000 in
theorem ggX8_back_X4_time : GoodIn wsX8_back wsX4_time := goodIn_r _ [35, 36, 37, 38, 19, 39, 21, 52] (by decide +kernel) (by decide +kernel)
set_option maxRecDepth 20000 in
theorem gX8_back_X4_time : GoodIn wsX8_back (wsV RX8 117 RX4 yX4_time wsX4_time) := goodIn_app (goodIn_of _ (by decide +kernel)) ggX8_back_X4_time
theorem dX8_back_0 : decode cX8_back 0 = .ok (.iload_n 1, 1) := by decide +kernel
theorem dX8_back_1 : decode cX8_back 1 = .ok (.ifCond .lt 8, 3) := by decide +kernel
theorem dX8_back_4 : decode cX8_back 4 = .ok (.iload_n 1, 1) := by decide +kernel
theorem dX8_back_5 : decode cX8_back 5 = .ok (.iconst 2, 1) := by decide +kernel
theorem dX8_back_6 : decode cX8_back 6 = .ok (.if_icmp .lt 5, 3) := by decide +kernel
theorem dX8_back_9 : decode cX8_back 9 = .ok (.iconst (-1), 1) := by decide +kernel
theorem dX8_back_10 : decode cX8_back 10 = .ok (.ireturn, 1) := by decide +kernel
theorem dX8_back_11 : decode cX8_back 11 = .ok (.aload_n 0, 1) := by decide +kernel
theorem dX8_back_12 : decode cX8_back 12 = .ok (.getfield 69, 3) := by decide +kernel
theorem dX8_back_15 : decode cX8_back 15 = .ok (.iload_n 1, 1) := by decide +kernel
theorem dX8_back_16 : decode cX8_back 16 = .ok (.invokevirtual 196, 3) := by decide +kernel
theorem dX8_back_19 : decode cX8_back 19 = .ok (.ifCond .ne 6, 3) := by decide +kernel
theorem dX8_back_22 : decode cX8_back 22 = .ok (.bipush (-2), 2) := by decide +kernel
theorem dX8_back_24 : decode cX8_back 24 = .ok (.ireturn, 1) := by decide +kernel
theorem dX8_back_25 : decode cX8_back 25 = .ok (.aload_n 0, 1) := by decide +kernel
theorem dX8_back_26 : decode cX8_back 26 = .ok (.getfield 69, 3) := by decide +kernel
theorem dX8_back_29 : decode cX8_back 29 = .ok (.iload_n 1, 1) := by decide +kernel
theorem dX8_back_30 : decode cX8_back 30 = .ok (.aload_n 0, 1) := by decide +kernel
theorem dX8_back_31 : decode cX8_back 31 = .ok (.getfield 43, 3) := by decide +kernel
theorem dX8_back_34 : decode cX8_back 34 = .ok (.invokevirtual 199, 3) := by decide +kernel
theorem dX8_back_37 : decode cX8_back 37 = .ok (.aload_n 0, 1) := by decide +kernel
theorem dX8_back_38 : decode cX8_back 38 = .ok (.getfield 60, 3) := by decide +kernel
theorem dX8_back_41 : decode cX8_back 41 = .ok (.invokevirtual 95, 3) := by decide +kernel
theorem dX8_back_44 : decode cX8_back 44 = .ok (.aload_n 0, 1) := by decide +kernel
theorem dX8_back_45 : decode cX8_back 45 = .ok (.getfield 43, 3) := by decide +kernel
theorem dX8_back_48 : decode cX8_back 48 = .ok (.invokevirtual 117, 3) := by decide +kernel
theorem dX8_back_51 : decode cX8_back 51 = .ok (.ireturn, 1) := by decide +kernel
set_option maxRecDepth 20000 in
theorem ggX8_count_X6_tables : GoodIn wsX8_count wsX6_tables := goodIn_r _ [13, 14, 15, 16, 17, 12, 18, 19, 20, 21, 22, 23, 108, 109, 110] (by decide +kernel) (by decide +kernel)
set_option maxRecDepth 20000 in
theorem gX8_count_X6_tables : GoodIn wsX8_count (wsV RX8 202 RX6 yX6_tables wsX6_tables) := goodIn_app (goodIn_of _ (by decide +kernel)) ggX8_count_X6_tables
set_option maxRecDepth 20000 in
theorem ggX8_count_X8_listed : GoodIn wsX8_count wsX8_listed := goodIn_r _ [28, 29, 1, 4, 30, 31, 32, 33, 34, 35, 36, 37, 20, 21, 12, 22, 23, 38, 16, 17, 18, 14, 19, 39, 40, 41, 42, 43, 44, 45, 46, 47, 48, 49, 50, 51, 52, 53, 54, 55, 56, 57, 58, 59, 27, 60, 61, 62, 63, 64, 65, 66, 67, 68, 69, 70, 71, 72, 73, 74, 75, 76, 77, 78, 79, 80, 81, 98, 99, 100, 101, 102, 103, 104, 105, 106, 107, 111, 112, 113, 114, 108, 109, 110, 128] (by decide +kernel) (by decide +kernel)
set_option maxRecDepth 20000 in
theorem gX8_count_X8_listed : GoodIn wsX8_count (wsV RX8 148 RX8 yX8_listed wsX8_listed) := goodIn_app (goodIn_of _ (by decide +kernel)) ggX8_count_X8_listed
set_option maxRecDepth 20000 in
theorem ggX8_count_X4_time : GoodIn wsX8_count wsX4_time := goodIn_r _ [85, 51, 52, 53, 46, 54, 55, 128] (by decide +kernel) (by decide +kernel)
set_option maxRecDepth 20000 in
theorem gX8_count_X4_time : GoodIn wsX8_count (wsV RX8 117 RX4 yX4_time wsX4_time) := goodIn_app (goodIn_of _ (by decide +kernel)) ggX8_count_X4_time
set_option maxRecDepth 20000 in
theorem ggX8_count_X4_waiting : GoodIn wsX8_count wsX4_waiting := goodIn_r _ [89, 51, 52, 53, 46, 54, 55, 128] (by decide +kernel) (by decide +kernel)
set_option maxRecDepth 20000 in
theorem gX8_count_X4_waiting : GoodIn wsX8_count (wsV RX8 124 RX4 yX4_waiting wsX4_waiting) := goodIn_app (goodIn_of _ (by decide +kernel)) ggX8_count_X4_waiting
set_option maxRecDepth 20000 in
theorem ggX8_count_X4_dropped : GoodIn wsX8_count wsX4_dropped := goodIn_r _ [93, 51, 52, 53, 46, 54, 55, 128] (by decide +kernel) (by decide +kernel)
set_option maxRecDepth 20000 in
theorem gX8_count_X4_dropped : GoodIn wsX8_count (wsV RX8 205 RX4 yX4_dropped wsX4_dropped) := goodIn_app (goodIn_of _ (by decide +kernel)) ggX8_count_X4_dropped
set_option maxRecDepth 20000 in
theorem ggX8_count_X4_givenUp : GoodIn wsX8_count wsX4_givenUp := goodIn_r _ [97, 51, 52, 53, 46, 54, 55, 128] (by decide +kernel) (by decide +kernel)
set_option maxRecDepth 20000 in
theorem gX8_count_X4_givenUp : GoodIn wsX8_count (wsV RX8 208 RX4 yX4_givenUp wsX4_givenUp) := goodIn_app (goodIn_of _ (by decide +kernel)) ggX8_count_X4_givenUp
theorem dX8_count_0 : decode cX8_count 0 = .ok (.iload_n 1, 1) := by decide +kernel
theorem dX8_count_1 : decode cX8_count 1 = .ok (.tableswitch 123 0 8 #[51, 59, 67, 75, 83, 91, 99, 107, 115], 51) := by decide +kernel
theorem dX8_count_52 : decode cX8_count 52 = .ok (.aload_n 0, 1) := by decide +kernel
theorem dX8_count_53 : decode cX8_count 53 = .ok (.getfield 19, 3) := by decide +kernel
theorem dX8_count_56 : decode cX8_count 56 = .ok (.getfield 99, 3) := by decide +kernel
theorem dX8_count_59 : decode cX8_count 59 = .ok (.ireturn, 1) := by decide +kernel
theorem dX8_count_60 : decode cX8_count 60 = .ok (.aload_n 0, 1) := by decide +kernel
theorem dX8_count_61 : decode cX8_count 61 = .ok (.getfield 19, 3) := by decide +kernel
theorem dX8_count_64 : decode cX8_count 64 = .ok (.invokevirtual 202, 3) := by decide +kernel
theorem dX8_count_67 : decode cX8_count 67 = .ok (.ireturn, 1) := by decide +kernel
theorem dX8_count_68 : decode cX8_count 68 = .ok (.aload_n 0, 1) := by decide +kernel
theorem dX8_count_69 : decode cX8_count 69 = .ok (.invokevirtual 148, 3) := by decide +kernel
theorem dX8_count_72 : decode cX8_count 72 = .ok (.getfield 159, 3) := by decide +kernel
theorem dX8_count_75 : decode cX8_count 75 = .ok (.ireturn, 1) := by decide +kernel
theorem dX8_count_76 : decode cX8_count 76 = .ok (.aload_n 0, 1) := by decide +kernel
theorem dX8_count_77 : decode cX8_count 77 = .ok (.getfield 43, 3) := by decide +kernel
theorem dX8_count_80 : decode cX8_count 80 = .ok (.invokevirtual 117, 3) := by decide +kernel
theorem dX8_count_83 : decode cX8_count 83 = .ok (.ireturn, 1) := by decide +kernel
theorem dX8_count_84 : decode cX8_count 84 = .ok (.aload_n 0, 1) := by decide +kernel
theorem dX8_count_85 : decode cX8_count 85 = .ok (.getfield 43, 3) := by decide +kernel
theorem dX8_count_88 : decode cX8_count 88 = .ok (.invokevirtual 124, 3) := by decide +kernel
theorem dX8_count_91 : decode cX8_count 91 = .ok (.ireturn, 1) := by decide +kernel
theorem dX8_count_92 : decode cX8_count 92 = .ok (.aload_n 0, 1) := by decide +kernel
theorem dX8_count_93 : decode cX8_count 93 = .ok (.getfield 43, 3) := by decide +kernel
theorem dX8_count_96 : decode cX8_count 96 = .ok (.invokevirtual 205, 3) := by decide +kernel
theorem dX8_count_99 : decode cX8_count 99 = .ok (.ireturn, 1) := by decide +kernel
theorem dX8_count_100 : decode cX8_count 100 = .ok (.aload_n 0, 1) := by decide +kernel
theorem dX8_count_101 : decode cX8_count 101 = .ok (.getfield 43, 3) := by decide +kernel
theorem dX8_count_104 : decode cX8_count 104 = .ok (.invokevirtual 208, 3) := by decide +kernel
theorem dX8_count_107 : decode cX8_count 107 = .ok (.ireturn, 1) := by decide +kernel
theorem dX8_count_108 : decode cX8_count 108 = .ok (.aload_n 0, 1) := by decide +kernel
theorem dX8_count_109 : decode cX8_count 109 = .ok (.getfield 10, 3) := by decide +kernel
theorem dX8_count_112 : decode cX8_count 112 = .ok (.getfield 77, 3) := by decide +kernel
theorem dX8_count_115 : decode cX8_count 115 = .ok (.ireturn, 1) := by decide +kernel
theorem dX8_count_116 : decode cX8_count 116 = .ok (.aload_n 0, 1) := by decide +kernel
theorem dX8_count_117 : decode cX8_count 117 = .ok (.getfield 60, 3) := by decide +kernel
theorem dX8_count_120 : decode cX8_count 120 = .ok (.getfield 134, 3) := by decide +kernel
theorem dX8_count_123 : decode cX8_count 123 = .ok (.ireturn, 1) := by decide +kernel
theorem dX8_count_124 : decode cX8_count 124 = .ok (.iconst (-1), 1) := by decide +kernel
theorem dX8_count_125 : decode cX8_count 125 = .ok (.ireturn, 1) := by decide +kernel
set_option maxRecDepth 20000 in
theorem ggX8_listed_X0_listAll : GoodIn wsX8_listed wsX0_listAll := goodIn_r _ [8, 9, 10, 11, 12, 13, 14, 15, 16, 17, 18, 19, 20, 21, 22, 23, 24, 25, 7, 26, 27, 28, 29, 30, 31, 32, 33, 34, 35, 36, 37, 38, 39, 40, 41, 42, 43, 44, 45, 46, 47, 48, 49, 50, 51, 52, 53, 54, 55, 56, 57, 58, 59, 60, 61, 62, 63, 64, 65, 66, 77, 78, 79, 80, 81, 82, 83, 84] (by decide +kernel) (by decide +kernel)
set_option maxRecDepth 20000 in
theorem gX8_listed_X0_listAll : GoodIn wsX8_listed (wsV RX8 211 RX0 yX0_listAll wsX0_listAll) := goodIn_app (goodIn_of _ (by decide +kernel)) ggX8_listed_X0_listAll
theorem dX8_listed_0 : decode cX8_listed 0 = .ok (.aload_n 0, 1) := by decide +kernel
theorem dX8_listed_1 : decode cX8_listed 1 = .ok (.getfield 53, 3) := by decide +kernel
theorem dX8_listed_4 : decode cX8_listed 4 = .ok (.aload_n 0, 1) := by decide +kernel
theorem dX8_listed_5 : decode cX8_listed 5 = .ok (.getfield 19, 3) := by decide +kernel
theorem dX8_listed_8 : decode cX8_listed 8 = .ok (.aload_n 0, 1) := by decide +kernel
theorem dX8_listed_9 : decode cX8_listed 9 = .ok (.getfield 43, 3) := by decide +kernel
theorem dX8_listed_12 : decode cX8_listed 12 = .ok (.invokevirtual 211, 3) := by decide +kernel
theorem dX8_listed_15 : decode cX8_listed 15 = .ok (.aload_n 0, 1) := by decide +kernel
theorem dX8_listed_16 : decode cX8_listed 16 = .ok (.getfield 53, 3) := by decide +kernel
theorem dX8_listed_19 : decode cX8_listed 19 = .ok (.areturn, 1) := by decide +kernel
set_option maxRecDepth 20000 in
theorem ggX8_isRow_X6_tables : GoodIn wsX8_isRow wsX6_tables := goodIn_r _ [6, 7, 8, 9, 10, 5, 11, 12, 13, 14, 15, 16, 27, 28, 29] (by decide +kernel) (by decide +kernel)
set_option maxRecDepth 20000 in
theorem gX8_isRow_X6_tables : GoodIn wsX8_isRow (wsV RX8 202 RX6 yX6_tables wsX6_tables) := goodIn_app (goodIn_of _ (by decide +kernel)) ggX8_isRow_X6_tables
theorem dX8_isRow_0 : decode cX8_isRow 0 = .ok (.iload_n 1, 1) := by decide +kernel
theorem dX8_isRow_1 : decode cX8_isRow 1 = .ok (.ifCond .lt 29, 3) := by decide +kernel
theorem dX8_isRow_4 : decode cX8_isRow 4 = .ok (.iload_n 1, 1) := by decide +kernel
theorem dX8_isRow_5 : decode cX8_isRow 5 = .ok (.aload_n 0, 1) := by decide +kernel
theorem dX8_isRow_6 : decode cX8_isRow 6 = .ok (.getfield 19, 3) := by decide +kernel
theorem dX8_isRow_9 : decode cX8_isRow 9 = .ok (.invokevirtual 202, 3) := by decide +kernel
theorem dX8_isRow_12 : decode cX8_isRow 12 = .ok (.if_icmp .ge 18, 3) := by decide +kernel
theorem dX8_isRow_15 : decode cX8_isRow 15 = .ok (.iload_n 2, 1) := by decide +kernel
theorem dX8_isRow_16 : decode cX8_isRow 16 = .ok (.iconst 1, 1) := by decide +kernel
theorem dX8_isRow_17 : decode cX8_isRow 17 = .ok (.if_icmp .lt 13, 3) := by decide +kernel
theorem dX8_isRow_20 : decode cX8_isRow 20 = .ok (.iload_n 2, 1) := by decide +kernel
theorem dX8_isRow_21 : decode cX8_isRow 21 = .ok (.bipush 9, 2) := by decide +kernel
theorem dX8_isRow_23 : decode cX8_isRow 23 = .ok (.if_icmp .gt 7, 3) := by decide +kernel
theorem dX8_isRow_26 : decode cX8_isRow 26 = .ok (.iconst 1, 1) := by decide +kernel
theorem dX8_isRow_27 : decode cX8_isRow 27 = .ok (.goto 4, 3) := by decide +kernel
theorem dX8_isRow_30 : decode cX8_isRow 30 = .ok (.iconst 0, 1) := by decide +kernel
theorem dX8_isRow_31 : decode cX8_isRow 31 = .ok (.ireturn, 1) := by decide +kernel
set_option maxRecDepth 20000 in
theorem ggX8_isName_X8_isNumberOrEnd : GoodIn wsX8_isName wsX8_isNumberOrEnd := goodIn_r _ [4] (by decide +kernel) (by decide +kernel)
set_option maxRecDepth 20000 in
theorem gX8_isName_X8_isNumberOrEnd : GoodIn wsX8_isName (va_wsS RX8 215 yX8_isNumberOrEnd wsX8_isNumberOrEnd) := goodIn_app (goodIn_of _ (by decide +kernel)) ggX8_isName_X8_isNumberOrEnd
set_option maxRecDepth 20000 in
theorem ggX8_isName_X8_mayFollow : GoodIn wsX8_isName wsX8_mayFollow := goodIn_r _ [7, 1, 2, 3, 4] (by decide +kernel) (by decide +kernel)
set_option maxRecDepth 20000 in
theorem gX8_isName_X8_mayFollow : GoodIn wsX8_isName (va_wsS RX8 218 yX8_mayFollow wsX8_mayFollow) := goodIn_app (goodIn_of _ (by decide +kernel)) ggX8_isName_X8_mayFollow
theorem dX8_isName_0 : decode cX8_isName 0 = .ok (.iload_n 0, 1) := by decide +kernel
theorem dX8_isName_1 : decode cX8_isName 1 = .ok (.iconst (-1), 1) := by decide +kernel
theorem dX8_isName_2 : decode cX8_isName 2 = .ok (.if_icmp .eq 38, 3) := by decide +kernel
theorem dX8_isName_5 : decode cX8_isName 5 = .ok (.iload_n 0, 1) := by decide +kernel
theorem dX8_isName_6 : decode cX8_isName 6 = .ok (.invokestatic 215, 3) := by decide +kernel
theorem dX8_isName_9 : decode cX8_isName 9 = .ok (.ifCond .eq 31, 3) := by decide +kernel
theorem dX8_isName_12 : decode cX8_isName 12 = .ok (.iload_n 0, 1) := by decide +kernel
theorem dX8_isName_13 : decode cX8_isName 13 = .ok (.iload_n 1, 1) := by decide +kernel
theorem dX8_isName_14 : decode cX8_isName 14 = .ok (.invokestatic 218, 3) := by decide +kernel
theorem dX8_isName_17 : decode cX8_isName 17 = .ok (.ifCond .eq 23, 3) := by decide +kernel
theorem dX8_isName_20 : decode cX8_isName 20 = .ok (.iload_n 1, 1) := by decide +kernel
theorem dX8_isName_21 : decode cX8_isName 21 = .ok (.iload_n 2, 1) := by decide +kernel
theorem dX8_isName_22 : decode cX8_isName 22 = .ok (.invokestatic 218, 3) := by decide +kernel
theorem dX8_isName_25 : decode cX8_isName 25 = .ok (.ifCond .eq 15, 3) := by decide +kernel
theorem dX8_isName_28 : decode cX8_isName 28 = .ok (.iload_n 2, 1) := by decide +kernel
theorem dX8_isName_29 : decode cX8_isName 29 = .ok (.iload_n 3, 1) := by decide +kernel
theorem dX8_isName_30 : decode cX8_isName 30 = .ok (.invokestatic 218, 3) := by decide +kernel
theorem dX8_isName_33 : decode cX8_isName 33 = .ok (.ifCond .eq 7, 3) := by decide +kernel
theorem dX8_isName_36 : decode cX8_isName 36 = .ok (.iconst 1, 1) := by decide +kernel
theorem dX8_isName_37 : decode cX8_isName 37 = .ok (.goto 4, 3) := by decide +kernel
theorem dX8_isName_40 : decode cX8_isName 40 = .ok (.iconst 0, 1) := by decide +kernel
theorem dX8_isName_41 : decode cX8_isName 41 = .ok (.ireturn, 1) := by decide +kernel
set_option maxRecDepth 20000 in
theorem ggX8_mayFollow_X8_isNumberOrEnd : GoodIn wsX8_mayFollow wsX8_isNumberOrEnd := goodIn_r _ [4] (by decide +kernel) (by decide +kernel)
set_option maxRecDepth 20000 in
theorem gX8_mayFollow_X8_isNumberOrEnd : GoodIn wsX8_mayFollow (va_wsS RX8 215 yX8_isNumberOrEnd wsX8_isNumberOrEnd) := goodIn_app (goodIn_of _ (by decide +kernel)) ggX8_mayFollow_X8_isNumberOrEnd
theorem dX8_mayFollow_0 : decode cX8_mayFollow 0 = .ok (.iload_n 1, 1) := by decide +kernel
theorem dX8_mayFollow_1 : decode cX8_mayFollow 1 = .ok (.invokestatic 215, 3) := by decide +kernel
theorem dX8_mayFollow_4 : decode cX8_mayFollow 4 = .ok (.ifCond .eq 17, 3) := by decide +kernel
theorem dX8_mayFollow_7 : decode cX8_mayFollow 7 = .ok (.iload_n 0, 1) := by decide +kernel
theorem dX8_mayFollow_8 : decode cX8_mayFollow 8 = .ok (.iconst (-1), 1) := by decide +kernel
theorem dX8_mayFollow_9 : decode cX8_mayFollow 9 = .ok (.if_icmp .ne 8, 3) := by decide +kernel
theorem dX8_mayFollow_12 : decode cX8_mayFollow 12 = .ok (.iload_n 1, 1) := by decide +kernel
theorem dX8_mayFollow_13 : decode cX8_mayFollow 13 = .ok (.iconst (-1), 1) := by decide +kernel
theorem dX8_mayFollow_14 : decode cX8_mayFollow 14 = .ok (.if_icmp .ne 7, 3) := by decide +kernel
theorem dX8_mayFollow_17 : decode cX8_mayFollow 17 = .ok (.iconst 1, 1) := by decide +kernel
theorem dX8_mayFollow_18 : decode cX8_mayFollow 18 = .ok (.goto 4, 3) := by decide +kernel
theorem dX8_mayFollow_21 : decode cX8_mayFollow 21 = .ok (.iconst 0, 1) := by decide +kernel
theorem dX8_mayFollow_22 : decode cX8_mayFollow 22 = .ok (.ireturn, 1) := by decide +kernel
theorem dX8_isNumberOrEnd_0 : decode cX8_isNumberOrEnd 0 = .ok (.iload_n 0, 1) := by decide +kernel
theorem dX8_isNumberOrEnd_1 : decode cX8_isNumberOrEnd 1 = .ok (.iconst (-1), 1) := by decide +kernel
theorem dX8_isNumberOrEnd_2 : decode cX8_isNumberOrEnd 2 = .ok (.if_icmp .lt 13, 3) := by decide +kernel
theorem dX8_isNumberOrEnd_5 : decode cX8_isNumberOrEnd 5 = .ok (.iload_n 0, 1) := by decide +kernel
theorem dX8_isNumberOrEnd_6 : decode cX8_isNumberOrEnd 6 = .ok (.bipush 9, 2) := by decide +kernel
theorem dX8_isNumberOrEnd_8 : decode cX8_isNumberOrEnd 8 = .ok (.if_icmp .gt 7, 3) := by decide +kernel
theorem dX8_isNumberOrEnd_11 : decode cX8_isNumberOrEnd 11 = .ok (.iconst 1, 1) := by decide +kernel
theorem dX8_isNumberOrEnd_12 : decode cX8_isNumberOrEnd 12 = .ok (.goto 4, 3) := by decide +kernel
theorem dX8_isNumberOrEnd_15 : decode cX8_isNumberOrEnd 15 = .ok (.iconst 0, 1) := by decide +kernel
theorem dX8_isNumberOrEnd_16 : decode cX8_isNumberOrEnd 16 = .ok (.ireturn, 1) := by decide +kernel
theorem dX8_nameOf_0 : decode cX8_nameOf 0 = .ok (.iload_n 0, 1) := by decide +kernel
theorem dX8_nameOf_1 : decode cX8_nameOf 1 = .ok (.iconst 1, 1) := by decide +kernel
theorem dX8_nameOf_2 : decode cX8_nameOf 2 = .ok (.iadd, 1) := by decide +kernel
theorem dX8_nameOf_3 : decode cX8_nameOf 3 = .ok (.bipush 12, 2) := by decide +kernel
theorem dX8_nameOf_5 : decode cX8_nameOf 5 = .ok (.ishl, 1) := by decide +kernel
theorem dX8_nameOf_6 : decode cX8_nameOf 6 = .ok (.iload_n 1, 1) := by decide +kernel
theorem dX8_nameOf_7 : decode cX8_nameOf 7 = .ok (.iconst 1, 1) := by decide +kernel
theorem dX8_nameOf_8 : decode cX8_nameOf 8 = .ok (.iadd, 1) := by decide +kernel
theorem dX8_nameOf_9 : decode cX8_nameOf 9 = .ok (.bipush 8, 2) := by decide +kernel
theorem dX8_nameOf_11 : decode cX8_nameOf 11 = .ok (.ishl, 1) := by decide +kernel
theorem dX8_nameOf_12 : decode cX8_nameOf 12 = .ok (.ior, 1) := by decide +kernel
theorem dX8_nameOf_13 : decode cX8_nameOf 13 = .ok (.iload_n 2, 1) := by decide +kernel
theorem dX8_nameOf_14 : decode cX8_nameOf 14 = .ok (.iconst 1, 1) := by decide +kernel
theorem dX8_nameOf_15 : decode cX8_nameOf 15 = .ok (.iadd, 1) := by decide +kernel
theorem dX8_nameOf_16 : decode cX8_nameOf 16 = .ok (.iconst 4, 1) := by decide +kernel
theorem dX8_nameOf_17 : decode cX8_nameOf 17 = .ok (.ishl, 1) := by decide +kernel
theorem dX8_nameOf_18 : decode cX8_nameOf 18 = .ok (.ior, 1) := by decide +kernel
theorem dX8_nameOf_19 : decode cX8_nameOf 19 = .ok (.iload_n 3, 1) := by decide +kernel
theorem dX8_nameOf_20 : decode cX8_nameOf 20 = .ok (.iconst 1, 1) := by decide +kernel
theorem dX8_nameOf_21 : decode cX8_nameOf 21 = .ok (.iadd, 1) := by decide +kernel
theorem dX8_nameOf_22 : decode cX8_nameOf 22 = .ok (.ior, 1) := by decide +kernel
theorem dX8_nameOf_23 : decode cX8_nameOf 23 = .ok (.ireturn, 1) := by decide +kernel
theorem dX8_numberOf_0 : decode cX8_numberOf 0 = .ok (.iload_n 0, 1) := by decide +kernel
theorem dX8_numberOf_1 : decode cX8_numberOf 1 = .ok (.bipush 12, 2) := by decide +kernel
theorem dX8_numberOf_3 : decode cX8_numberOf 3 = .ok (.iconst 4, 1) := by decide +kernel
theorem dX8_numberOf_4 : decode cX8_numberOf 4 = .ok (.iload_n 1, 1) := by decide +kernel
theorem dX8_numberOf_5 : decode cX8_numberOf 5 = .ok (.imul, 1) := by decide +kernel
theorem dX8_numberOf_6 : decode cX8_numberOf 6 = .ok (.isub, 1) := by decide +kernel
theorem dX8_numberOf_7 : decode cX8_numberOf 7 = .ok (.ishr, 1) := by decide +kernel
theorem dX8_numberOf_8 : decode cX8_numberOf 8 = .ok (.bipush 15, 2) := by decide +kernel
theorem dX8_numberOf_10 : decode cX8_numberOf 10 = .ok (.iand, 1) := by decide +kernel
theorem dX8_numberOf_11 : decode cX8_numberOf 11 = .ok (.iconst 1, 1) := by decide +kernel
theorem dX8_numberOf_12 : decode cX8_numberOf 12 = .ok (.isub, 1) := by decide +kernel
theorem dX8_numberOf_13 : decode cX8_numberOf 13 = .ok (.ireturn, 1) := by decide +kernel
theorem dX9_init_0 : decode cX9_init 0 = .ok (.aload_n 0, 1) := by decide +kernel
theorem dX9_init_1 : decode cX9_init 1 = .ok (.invokespecial 1, 3) := by decide +kernel
theorem dX9_init_4 : decode cX9_init 4 = .ok (.aload_n 0, 1) := by decide +kernel
theorem dX9_init_5 : decode cX9_init 5 = .ok (.bipush 40, 2) := by decide +kernel
theorem dX9_init_7 : decode cX9_init 7 = .ok (.newarray .int, 2) := by decide +kernel
theorem dX9_init_9 : decode cX9_init 9 = .ok (.putfield 7, 3) := by decide +kernel
theorem dX9_init_12 : decode cX9_init 12 = .ok (.aload_n 0, 1) := by decide +kernel
theorem dX9_init_13 : decode cX9_init 13 = .ok (.bipush 124, 2) := by decide +kernel
theorem dX9_init_15 : decode cX9_init 15 = .ok (.newarray .int, 2) := by decide +kernel
theorem dX9_init_17 : decode cX9_init 17 = .ok (.putfield 13, 3) := by decide +kernel
theorem dX9_init_20 : decode cX9_init 20 = .ok (.aload_n 0, 1) := by decide +kernel
theorem dX9_init_21 : decode cX9_init 21 = .ok (.bipush 124, 2) := by decide +kernel
theorem dX9_init_23 : decode cX9_init 23 = .ok (.newarray .int, 2) := by decide +kernel
theorem dX9_init_25 : decode cX9_init 25 = .ok (.putfield 16, 3) := by decide +kernel
theorem dX9_init_28 : decode cX9_init 28 = .ok (.aload_n 0, 1) := by decide +kernel
theorem dX9_init_29 : decode cX9_init 29 = .ok (.sipush 744, 3) := by decide +kernel
theorem dX9_init_32 : decode cX9_init 32 = .ok (.newarray .int, 2) := by decide +kernel
theorem dX9_init_34 : decode cX9_init 34 = .ok (.putfield 19, 3) := by decide +kernel
theorem dX9_init_37 : decode cX9_init 37 = .ok (.aload_n 0, 1) := by decide +kernel
theorem dX9_init_38 : decode cX9_init 38 = .ok (.sipush 248, 3) := by decide +kernel
theorem dX9_init_41 : decode cX9_init 41 = .ok (.newarray .int, 2) := by decide +kernel
theorem dX9_init_43 : decode cX9_init 43 = .ok (.putfield 22, 3) := by decide +kernel
theorem dX9_init_46 : decode cX9_init 46 = .ok (.aload_n 0, 1) := by decide +kernel
theorem dX9_init_47 : decode cX9_init 47 = .ok (.iconst 2, 1) := by decide +kernel
theorem dX9_init_48 : decode cX9_init 48 = .ok (.newarray .boolean, 2) := by decide +kernel
theorem dX9_init_50 : decode cX9_init 50 = .ok (.putfield 25, 3) := by decide +kernel
theorem dX9_init_53 : decode cX9_init 53 = .ok (.aload_n 0, 1) := by decide +kernel
theorem dX9_init_54 : decode cX9_init 54 = .ok (.sipush 160, 3) := by decide +kernel
theorem dX9_init_57 : decode cX9_init 57 = .ok (.newarray .int, 2) := by decide +kernel
theorem dX9_init_59 : decode cX9_init 59 = .ok (.putfield 29, 3) := by decide +kernel
theorem dX9_init_62 : decode cX9_init 62 = .ok (.aload_n 0, 1) := by decide +kernel
theorem dX9_init_63 : decode cX9_init 63 = .ok (.sipush 320, 3) := by decide +kernel
theorem dX9_init_66 : decode cX9_init 66 = .ok (.newarray .int, 2) := by decide +kernel
theorem dX9_init_68 : decode cX9_init 68 = .ok (.putfield 32, 3) := by decide +kernel
theorem dX9_init_71 : decode cX9_init 71 = .ok (.aload_n 0, 1) := by decide +kernel
theorem dX9_init_72 : decode cX9_init 72 = .ok (.bipush 80, 2) := by decide +kernel
theorem dX9_init_74 : decode cX9_init 74 = .ok (.newarray .int, 2) := by decide +kernel
theorem dX9_init_76 : decode cX9_init 76 = .ok (.putfield 35, 3) := by decide +kernel
theorem dX9_init_79 : decode cX9_init 79 = .ok (.aload_n 0, 1) := by decide +kernel
theorem dX9_init_80 : decode cX9_init 80 = .ok (.bipush 80, 2) := by decide +kernel
theorem dX9_init_82 : decode cX9_init 82 = .ok (.newarray .int, 2) := by decide +kernel
theorem dX9_init_84 : decode cX9_init 84 = .ok (.putfield 38, 3) := by decide +kernel
theorem dX9_init_87 : decode cX9_init 87 = .ok (.aload_n 0, 1) := by decide +kernel
theorem dX9_init_88 : decode cX9_init 88 = .ok (.bipush 54, 2) := by decide +kernel
theorem dX9_init_90 : decode cX9_init 90 = .ok (.newarray .int, 2) := by decide +kernel
theorem dX9_init_92 : decode cX9_init 92 = .ok (.putfield 41, 3) := by decide +kernel
theorem dX9_init_95 : decode cX9_init 95 = .ok (.aload_n 0, 1) := by decide +kernel
theorem dX9_init_96 : decode cX9_init 96 = .ok (.bipush 45, 2) := by decide +kernel
theorem dX9_init_98 : decode cX9_init 98 = .ok (.newarray .int, 2) := by decide +kernel
theorem dX9_init_100 : decode cX9_init 100 = .ok (.putfield 44, 3) := by decide +kernel
theorem dX9_init_103 : decode cX9_init 103 = .ok (.aload_n 0, 1) := by decide +kernel
theorem dX9_init_104 : decode cX9_init 104 = .ok (.bipush 18, 2) := by decide +kernel
theorem dX9_init_106 : decode cX9_init 106 = .ok (.newarray .int, 2) := by decide +kernel
theorem dX9_init_108 : decode cX9_init 108 = .ok (.putfield 47, 3) := by decide +kernel
theorem dX9_init_111 : decode cX9_init 111 = .ok (.return_, 1) := by decide +kernel
theorem dX9_within_0 : decode cX9_within 0 = .ok (.iload_n 0, 1) := by decide +kernel
theorem dX9_within_1 : decode cX9_within 1 = .ok (.iload_n 1, 1) := by decide +kernel
theorem dX9_within_2 : decode cX9_within 2 = .ok (.if_icmp .lt 12, 3) := by decide +kernel
theorem dX9_within_5 : decode cX9_within 5 = .ok (.iload_n 0, 1) := by decide +kernel
theorem dX9_within_6 : decode cX9_within 6 = .ok (.iload_n 2, 1) := by decide +kernel
theorem dX9_within_7 : decode cX9_within 7 = .ok (.if_icmp .gt 7, 3) := by decide +kernel
theorem dX9_within_10 : decode cX9_within 10 = .ok (.iconst 1, 1) := by decide +kernel
theorem dX9_within_11 : decode cX9_within 11 = .ok (.goto 4, 3) := by decide +kernel
theorem dX9_within_14 : decode cX9_within 14 = .ok (.iconst 0, 1) := by decide +kernel
theorem dX9_within_15 : decode cX9_within 15 = .ok (.ireturn, 1) := by decide +kernel
theorem dX9_part_0 : decode cX9_part 0 = .ok (.aload_n 0, 1) := by decide +kernel
theorem dX9_part_1 : decode cX9_part 1 = .ok (.getfield 7, 3) := by decide +kernel
theorem dX9_part_4 : decode cX9_part 4 = .ok (.iconst 5, 1) := by decide +kernel
theorem dX9_part_5 : decode cX9_part 5 = .ok (.iload_n 1, 1) := by decide +kernel
theorem dX9_part_6 : decode cX9_part 6 = .ok (.imul, 1) := by decide +kernel
theorem dX9_part_7 : decode cX9_part 7 = .ok (.iload_n 2, 1) := by decide +kernel
theorem dX9_part_8 : decode cX9_part 8 = .ok (.iadd, 1) := by decide +kernel
theorem dX9_part_9 : decode cX9_part 9 = .ok (.iaload, 1) := by decide +kernel
theorem dX9_part_10 : decode cX9_part 10 = .ok (.ireturn, 1) := by decide +kernel
set_option maxRecDepth 20000 in
theorem ggX9_isTable_X9_part : GoodIn wsX9_isTable wsX9_part := goodIn_r _ [5, 6, 7, 8, 9, 10, 11, 12, 13, 14, 15, 16, 17, 18, 19, 20, 21, 22, 23, 24, 25, 26, 27, 28] (by decide +kernel) (by decide +kernel)
set_option maxRecDepth 20000 in
theorem gX9_isTable_X9_part : GoodIn wsX9_isTable (wsV RX9 50 RX9 yX9_part wsX9_part) := goodIn_app (goodIn_of _ (by decide +kernel)) ggX9_isTable_X9_part
theorem dX9_isTable_0 : decode cX9_isTable 0 = .ok (.aload_n 0, 1) := by decide +kernel
theorem dX9_isTable_1 : decode cX9_isTable 1 = .ok (.iload_n 1, 1) := by decide +kernel
theorem dX9_isTable_2 : decode cX9_isTable 2 = .ok (.iconst 2, 1) := by decide +kernel
theorem dX9_isTable_3 : decode cX9_isTable 3 = .ok (.invokevirtual 50, 3) := by decide +kernel
theorem dX9_isTable_6 : decode cX9_isTable 6 = .ok (.iconst 2, 1) := by decide +kernel
theorem dX9_isTable_7 : decode cX9_isTable 7 = .ok (.if_icmp .ne 7, 3) := by decide +kernel
theorem dX9_isTable_10 : decode cX9_isTable 10 = .ok (.iconst 1, 1) := by decide +kernel
theorem dX9_isTable_11 : decode cX9_isTable 11 = .ok (.goto 4, 3) := by decide +kernel
theorem dX9_isTable_14 : decode cX9_isTable 14 = .ok (.iconst 0, 1) := by decide +kernel
theorem dX9_isTable_15 : decode cX9_isTable 15 = .ok (.ireturn, 1) := by decide +kernel
set_option maxRecDepth 20000 in
theorem ggX9_branchOf_X9_part : GoodIn wsX9_branchOf wsX9_part := goodIn_r _ [6, 7, 8, 9, 10, 11, 12, 13, 14, 15, 16, 17, 18, 19, 20, 21, 22, 23, 24, 25, 26, 27, 28, 29] (by decide +kernel) (by decide +kernel)
set_option maxRecDepth 20000 in
theorem gX9_branchOf_X9_part : GoodIn wsX9_branchOf (wsV RX9 50 RX9 yX9_part wsX9_part) := goodIn_app (goodIn_of _ (by decide +kernel)) ggX9_branchOf_X9_part
theorem dX9_branchOf_0 : decode cX9_branchOf 0 = .ok (.bipush (-9), 2) := by decide +kernel
theorem dX9_branchOf_2 : decode cX9_branchOf 2 = .ok (.istore_n 3, 1) := by decide +kernel
theorem dX9_branchOf_3 : decode cX9_branchOf 3 = .ok (.iconst 0, 1) := by decide +kernel
theorem dX9_branchOf_4 : decode cX9_branchOf 4 = .ok (.istore 4, 2) := by decide +kernel
theorem dX9_branchOf_6 : decode cX9_branchOf 6 = .ok (.iload 4, 2) := by decide +kernel
theorem dX9_branchOf_8 : decode cX9_branchOf 8 = .ok (.aload_n 0, 1) := by decide +kernel
theorem dX9_branchOf_9 : decode cX9_branchOf 9 = .ok (.getfield 54, 3) := by decide +kernel
theorem dX9_branchOf_12 : decode cX9_branchOf 12 = .ok (.if_icmp .ge 38, 3) := by decide +kernel
theorem dX9_branchOf_15 : decode cX9_branchOf 15 = .ok (.aload_n 0, 1) := by decide +kernel
theorem dX9_branchOf_16 : decode cX9_branchOf 16 = .ok (.iload 4, 2) := by decide +kernel
theorem dX9_branchOf_18 : decode cX9_branchOf 18 = .ok (.iconst 0, 1) := by decide +kernel
theorem dX9_branchOf_19 : decode cX9_branchOf 19 = .ok (.invokevirtual 50, 3) := by decide +kernel
theorem dX9_branchOf_22 : decode cX9_branchOf 22 = .ok (.iload_n 1, 1) := by decide +kernel
theorem dX9_branchOf_23 : decode cX9_branchOf 23 = .ok (.if_icmp .ne 19, 3) := by decide +kernel
theorem dX9_branchOf_26 : decode cX9_branchOf 26 = .ok (.aload_n 0, 1) := by decide +kernel
theorem dX9_branchOf_27 : decode cX9_branchOf 27 = .ok (.iload 4, 2) := by decide +kernel
theorem dX9_branchOf_29 : decode cX9_branchOf 29 = .ok (.iconst 1, 1) := by decide +kernel
theorem dX9_branchOf_30 : decode cX9_branchOf 30 = .ok (.invokevirtual 50, 3) := by decide +kernel
theorem dX9_branchOf_33 : decode cX9_branchOf 33 = .ok (.iload_n 2, 1) := by decide +kernel
theorem dX9_branchOf_34 : decode cX9_branchOf 34 = .ok (.if_icmp .ne 8, 3) := by decide +kernel
theorem dX9_branchOf_37 : decode cX9_branchOf 37 = .ok (.iload 4, 2) := by decide +kernel
theorem dX9_branchOf_39 : decode cX9_branchOf 39 = .ok (.goto 4, 3) := by decide +kernel
theorem dX9_branchOf_42 : decode cX9_branchOf 42 = .ok (.iload_n 3, 1) := by decide +kernel
theorem dX9_branchOf_43 : decode cX9_branchOf 43 = .ok (.istore_n 3, 1) := by decide +kernel
theorem dX9_branchOf_44 : decode cX9_branchOf 44 = .ok (.iinc 4 1, 3) := by decide +kernel
theorem dX9_branchOf_47 : decode cX9_branchOf 47 = .ok (.goto (-41), 3) := by decide +kernel
theorem dX9_branchOf_50 : decode cX9_branchOf 50 = .ok (.iload_n 3, 1) := by decide +kernel
theorem dX9_branchOf_51 : decode cX9_branchOf 51 = .ok (.ireturn, 1) := by decide +kernel
set_option maxRecDepth 20000 in
theorem ggX9_tables_X9_isTable : GoodIn wsX9_tables wsX9_isTable := goodIn_r _ [6, 7, 8, 9, 5, 10, 11, 12, 13, 14, 15, 16, 17, 18, 19, 20, 21, 22, 23, 24, 25, 26, 27, 28, 29, 30, 31, 32, 33] (by decide +kernel) (by decide +kernel)
