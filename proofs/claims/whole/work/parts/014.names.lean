theorem dX9_keeps_19 : decode cX9_keeps 19 = .ok (.getfield 19, 3) := by decide +kernel
theorem dX9_keeps_22 : decode cX9_keeps 22 = .ok (.iload_n 1, 1) := by decide +kernel
theorem dX9_keeps_23 : decode cX9_keeps 23 = .ok (.aload_n 0, 1) := by decide +kernel
theorem dX9_keeps_24 : decode cX9_keeps 24 = .ok (.getfield 19, 3) := by decide +kernel
theorem dX9_keeps_27 : decode cX9_keeps 27 = .ok (.iload_n 1, 1) := by decide +kernel
theorem dX9_keeps_28 : decode cX9_keeps 28 = .ok (.bipush 124, 2) := by decide +kernel
theorem dX9_keeps_30 : decode cX9_keeps 30 = .ok (.iadd, 1) := by decide +kernel
theorem dX9_keeps_31 : decode cX9_keeps 31 = .ok (.iaload, 1) := by decide +kernel
theorem dX9_keeps_32 : decode cX9_keeps 32 = .ok (.iastore, 1) := by decide +kernel
theorem dX9_keeps_33 : decode cX9_keeps 33 = .ok (.iinc 1 1, 3) := by decide +kernel
theorem dX9_keeps_36 : decode cX9_keeps 36 = .ok (.goto (-25), 3) := by decide +kernel
theorem dX9_keeps_39 : decode cX9_keeps 39 = .ok (.aload_n 0, 1) := by decide +kernel
theorem dX9_keeps_40 : decode cX9_keeps 40 = .ok (.dup, 1) := by decide +kernel
theorem dX9_keeps_41 : decode cX9_keeps 41 = .ok (.getfield 144, 3) := by decide +kernel
theorem dX9_keeps_44 : decode cX9_keeps 44 = .ok (.iconst 1, 1) := by decide +kernel
theorem dX9_keeps_45 : decode cX9_keeps 45 = .ok (.isub, 1) := by decide +kernel
theorem dX9_keeps_46 : decode cX9_keeps 46 = .ok (.putfield 144, 3) := by decide +kernel
theorem dX9_keeps_49 : decode cX9_keeps 49 = .ok (.iconst 0, 1) := by decide +kernel
theorem dX9_keeps_50 : decode cX9_keeps 50 = .ok (.istore_n 1, 1) := by decide +kernel
theorem dX9_keeps_51 : decode cX9_keeps 51 = .ok (.iload_n 1, 1) := by decide +kernel
theorem dX9_keeps_52 : decode cX9_keeps 52 = .ok (.bipush 124, 2) := by decide +kernel
theorem dX9_keeps_54 : decode cX9_keeps 54 = .ok (.if_icmp .ge 29, 3) := by decide +kernel
theorem dX9_keeps_57 : decode cX9_keeps 57 = .ok (.aload_n 0, 1) := by decide +kernel
theorem dX9_keeps_58 : decode cX9_keeps 58 = .ok (.getfield 19, 3) := by decide +kernel
theorem dX9_keeps_61 : decode cX9_keeps 61 = .ok (.bipush 124, 2) := by decide +kernel
theorem dX9_keeps_63 : decode cX9_keeps 63 = .ok (.aload_n 0, 1) := by decide +kernel
theorem dX9_keeps_64 : decode cX9_keeps 64 = .ok (.getfield 144, 3) := by decide +kernel
theorem dX9_keeps_67 : decode cX9_keeps 67 = .ok (.imul, 1) := by decide +kernel
theorem dX9_keeps_68 : decode cX9_keeps 68 = .ok (.iload_n 1, 1) := by decide +kernel
theorem dX9_keeps_69 : decode cX9_keeps 69 = .ok (.iadd, 1) := by decide +kernel
theorem dX9_keeps_70 : decode cX9_keeps 70 = .ok (.aload_n 0, 1) := by decide +kernel
theorem dX9_keeps_71 : decode cX9_keeps 71 = .ok (.getfield 16, 3) := by decide +kernel
theorem dX9_keeps_74 : decode cX9_keeps 74 = .ok (.iload_n 1, 1) := by decide +kernel
theorem dX9_keeps_75 : decode cX9_keeps 75 = .ok (.iaload, 1) := by decide +kernel
theorem dX9_keeps_76 : decode cX9_keeps 76 = .ok (.iastore, 1) := by decide +kernel
theorem dX9_keeps_77 : decode cX9_keeps 77 = .ok (.iinc 1 1, 3) := by decide +kernel
theorem dX9_keeps_80 : decode cX9_keeps 80 = .ok (.goto (-29), 3) := by decide +kernel
theorem dX9_keeps_83 : decode cX9_keeps 83 = .ok (.aload_n 0, 1) := by decide +kernel
theorem dX9_keeps_84 : decode cX9_keeps 84 = .ok (.dup, 1) := by decide +kernel
theorem dX9_keeps_85 : decode cX9_keeps 85 = .ok (.getfield 144, 3) := by decide +kernel
theorem dX9_keeps_88 : decode cX9_keeps 88 = .ok (.iconst 1, 1) := by decide +kernel
theorem dX9_keeps_89 : decode cX9_keeps 89 = .ok (.iadd, 1) := by decide +kernel
theorem dX9_keeps_90 : decode cX9_keeps 90 = .ok (.putfield 144, 3) := by decide +kernel
theorem dX9_keeps_93 : decode cX9_keeps 93 = .ok (.return_, 1) := by decide +kernel
set_option maxRecDepth 20000 in
theorem ggX9_orders_X9_readsOrders : GoodIn wsX9_orders wsX9_readsOrders := goodIn_r _ [10, 11, 5, 4, 12, 13, 14, 9, 15, 16, 1, 17, 18, 19, 20, 21, 22, 23, 24, 25, 26, 27, 28, 29, 30, 31, 32, 33, 34, 35, 36, 132, 133, 134, 135, 136, 137, 138, 139, 140, 141, 142, 143, 144, 145, 146, 147, 148, 149, 150, 151, 152, 153] (by decide +kernel) (by decide +kernel)
set_option maxRecDepth 20000 in
theorem gX9_orders_X9_readsOrders : GoodIn wsX9_orders (wsV RX9 191 RX9 yX9_readsOrders wsX9_readsOrders) := goodIn_app (goodIn_of _ (by decide +kernel)) ggX9_orders_X9_readsOrders
set_option maxRecDepth 20000 in
theorem ggX9_orders_X9_laysAside : GoodIn wsX9_orders wsX9_laysAside := goodIn_r _ [40, 3, 2, 132, 133, 134, 135, 136, 137, 138, 139, 140, 141, 142, 143, 144, 145, 146, 147, 148, 149, 150, 151, 152, 153] (by decide +kernel) (by decide +kernel)
set_option maxRecDepth 20000 in
theorem gX9_orders_X9_laysAside : GoodIn wsX9_orders (wsV RX9 194 RX9 yX9_laysAside wsX9_laysAside) := goodIn_app (goodIn_of _ (by decide +kernel)) ggX9_orders_X9_laysAside
set_option maxRecDepth 20000 in
theorem ggX9_orders_X9_doesAll : GoodIn wsX9_orders wsX9_doesAll := goodIn_r _ [44, 45, 5, 46, 47, 48, 9, 49, 21, 2, 50, 51, 52, 53, 54, 55, 56, 57, 58, 59, 60, 61, 62, 63, 64, 65, 66, 67, 30, 31, 32, 68, 69, 70, 71, 72, 73, 74, 75, 76, 77, 78, 79, 80, 81, 82, 83, 84, 85, 86, 87, 88, 89, 90, 91, 92, 93, 94, 95, 96, 97, 98, 99, 100, 101, 102, 103, 104, 105, 106, 107, 108, 109, 110, 111, 112, 113, 132, 133, 134, 135, 136, 137, 138, 139, 140, 141, 142, 143, 144, 145, 146, 147, 148, 149, 150, 151, 152, 153] (by decide +kernel) (by decide +kernel)
set_option maxRecDepth 20000 in
theorem gX9_orders_X9_doesAll : GoodIn wsX9_orders (wsV RX9 197 RX9 yX9_doesAll wsX9_doesAll) := goodIn_app (goodIn_of _ (by decide +kernel)) ggX9_orders_X9_doesAll
set_option maxRecDepth 20000 in
theorem ggX9_orders_X9_noticesAll : GoodIn wsX9_orders wsX9_noticesAll := goodIn_r _ [117, 3, 2, 110, 111, 112, 9, 113, 54, 60, 61, 62, 63, 55, 56, 57, 58, 59, 83, 84, 85, 118, 119, 120, 121, 122, 123, 124, 125, 132, 133, 134, 135, 136, 137, 138, 139, 140, 141, 142, 143, 144, 145, 146, 147, 148, 149, 150, 151, 152, 153] (by decide +kernel) (by decide +kernel)
set_option maxRecDepth 20000 in
theorem gX9_orders_X9_noticesAll : GoodIn wsX9_orders (wsV RX9 200 RX9 yX9_noticesAll wsX9_noticesAll) := goodIn_app (goodIn_of _ (by decide +kernel)) ggX9_orders_X9_noticesAll
set_option maxRecDepth 20000 in
theorem ggX9_orders_X9_keeps : GoodIn wsX9_orders wsX9_keeps := goodIn_r _ [129, 130, 131, 3, 132, 133, 134, 135, 136, 137, 138, 139, 140, 141, 142, 143, 144, 145, 146, 147, 148, 149, 150, 151, 152, 153] (by decide +kernel) (by decide +kernel)
set_option maxRecDepth 20000 in
theorem gX9_orders_X9_keeps : GoodIn wsX9_orders (wsV RX9 203 RX9 yX9_keeps wsX9_keeps) := goodIn_app (goodIn_of _ (by decide +kernel)) ggX9_orders_X9_keeps
theorem dX9_orders_0 : decode cX9_orders 0 = .ok (.aload_n 0, 1) := by decide +kernel
theorem dX9_orders_1 : decode cX9_orders 1 = .ok (.invokevirtual 191, 3) := by decide +kernel
theorem dX9_orders_4 : decode cX9_orders 4 = .ok (.ifCond .ne 11, 3) := by decide +kernel
theorem dX9_orders_7 : decode cX9_orders 7 = .ok (.bipush (-10), 2) := by decide +kernel
theorem dX9_orders_9 : decode cX9_orders 9 = .ok (.aload_n 0, 1) := by decide +kernel
theorem dX9_orders_10 : decode cX9_orders 10 = .ok (.getfield 95, 3) := by decide +kernel
theorem dX9_orders_13 : decode cX9_orders 13 = .ok (.isub, 1) := by decide +kernel
theorem dX9_orders_14 : decode cX9_orders 14 = .ok (.ireturn, 1) := by decide +kernel
theorem dX9_orders_15 : decode cX9_orders 15 = .ok (.aload_n 0, 1) := by decide +kernel
theorem dX9_orders_16 : decode cX9_orders 16 = .ok (.invokevirtual 194, 3) := by decide +kernel
theorem dX9_orders_19 : decode cX9_orders 19 = .ok (.aload_n 0, 1) := by decide +kernel
theorem dX9_orders_20 : decode cX9_orders 20 = .ok (.invokevirtual 197, 3) := by decide +kernel
theorem dX9_orders_23 : decode cX9_orders 23 = .ok (.istore_n 1, 1) := by decide +kernel
theorem dX9_orders_24 : decode cX9_orders 24 = .ok (.iload_n 1, 1) := by decide +kernel
theorem dX9_orders_25 : decode cX9_orders 25 = .ok (.ifCond .le 35, 3) := by decide +kernel
theorem dX9_orders_28 : decode cX9_orders 28 = .ok (.iconst 0, 1) := by decide +kernel
theorem dX9_orders_29 : decode cX9_orders 29 = .ok (.istore_n 2, 1) := by decide +kernel
theorem dX9_orders_30 : decode cX9_orders 30 = .ok (.iload_n 2, 1) := by decide +kernel
theorem dX9_orders_31 : decode cX9_orders 31 = .ok (.bipush 124, 2) := by decide +kernel
theorem dX9_orders_33 : decode cX9_orders 33 = .ok (.if_icmp .ge 21, 3) := by decide +kernel
theorem dX9_orders_36 : decode cX9_orders 36 = .ok (.aload_n 0, 1) := by decide +kernel
theorem dX9_orders_37 : decode cX9_orders 37 = .ok (.getfield 13, 3) := by decide +kernel
theorem dX9_orders_40 : decode cX9_orders 40 = .ok (.iload_n 2, 1) := by decide +kernel
theorem dX9_orders_41 : decode cX9_orders 41 = .ok (.aload_n 0, 1) := by decide +kernel
theorem dX9_orders_42 : decode cX9_orders 42 = .ok (.getfield 16, 3) := by decide +kernel
theorem dX9_orders_45 : decode cX9_orders 45 = .ok (.iload_n 2, 1) := by decide +kernel
theorem dX9_orders_46 : decode cX9_orders 46 = .ok (.iaload, 1) := by decide +kernel
theorem dX9_orders_47 : decode cX9_orders 47 = .ok (.iastore, 1) := by decide +kernel
theorem dX9_orders_48 : decode cX9_orders 48 = .ok (.iinc 2 1, 3) := by decide +kernel
theorem dX9_orders_51 : decode cX9_orders 51 = .ok (.goto (-21), 3) := by decide +kernel
theorem dX9_orders_54 : decode cX9_orders 54 = .ok (.sipush (-1000), 3) := by decide +kernel
theorem dX9_orders_57 : decode cX9_orders 57 = .ok (.iload_n 1, 1) := by decide +kernel
theorem dX9_orders_58 : decode cX9_orders 58 = .ok (.isub, 1) := by decide +kernel
theorem dX9_orders_59 : decode cX9_orders 59 = .ok (.ireturn, 1) := by decide +kernel
theorem dX9_orders_60 : decode cX9_orders 60 = .ok (.aload_n 0, 1) := by decide +kernel
theorem dX9_orders_61 : decode cX9_orders 61 = .ok (.invokevirtual 200, 3) := by decide +kernel
theorem dX9_orders_64 : decode cX9_orders 64 = .ok (.aload_n 0, 1) := by decide +kernel
theorem dX9_orders_65 : decode cX9_orders 65 = .ok (.invokevirtual 203, 3) := by decide +kernel
theorem dX9_orders_68 : decode cX9_orders 68 = .ok (.aload_n 0, 1) := by decide +kernel
theorem dX9_orders_69 : decode cX9_orders 69 = .ok (.iconst 0, 1) := by decide +kernel
theorem dX9_orders_70 : decode cX9_orders 70 = .ok (.putfield 92, 3) := by decide +kernel
theorem dX9_orders_73 : decode cX9_orders 73 = .ok (.aload_n 0, 1) := by decide +kernel
theorem dX9_orders_74 : decode cX9_orders 74 = .ok (.getfield 147, 3) := by decide +kernel
theorem dX9_orders_77 : decode cX9_orders 77 = .ok (.ireturn, 1) := by decide +kernel
set_option maxRecDepth 20000 in
theorem ggX9_ticksNotices_X9_dropsNotice : GoodIn wsX9_ticksNotices wsX9_dropsNotice := goodIn_r _ [6, 1, 7, 8, 9, 10, 11, 12, 13, 14, 15, 16, 17, 18, 19, 20, 21, 22, 23, 24, 25, 26, 27, 28] (by decide +kernel) (by decide +kernel)
set_option maxRecDepth 20000 in
theorem gX9_ticksNotices_X9_dropsNotice : GoodIn wsX9_ticksNotices (wsV RX9 185 RX9 yX9_dropsNotice wsX9_dropsNotice) := goodIn_app (goodIn_of _ (by decide +kernel)) ggX9_ticksNotices_X9_dropsNotice
theorem dX9_ticksNotices_0 : decode cX9_ticksNotices 0 = .ok (.iconst 0, 1) := by decide +kernel
theorem dX9_ticksNotices_1 : decode cX9_ticksNotices 1 = .ok (.istore_n 1, 1) := by decide +kernel
theorem dX9_ticksNotices_2 : decode cX9_ticksNotices 2 = .ok (.iload_n 1, 1) := by decide +kernel
theorem dX9_ticksNotices_3 : decode cX9_ticksNotices 3 = .ok (.aload_n 0, 1) := by decide +kernel
theorem dX9_ticksNotices_4 : decode cX9_ticksNotices 4 = .ok (.getfield 13, 3) := by decide +kernel
theorem dX9_ticksNotices_7 : decode cX9_ticksNotices 7 = .ok (.bipush 80, 2) := by decide +kernel
theorem dX9_ticksNotices_9 : decode cX9_ticksNotices 9 = .ok (.iaload, 1) := by decide +kernel
theorem dX9_ticksNotices_10 : decode cX9_ticksNotices 10 = .ok (.if_icmp .ge 128, 3) := by decide +kernel
theorem dX9_ticksNotices_13 : decode cX9_ticksNotices 13 = .ok (.bipush 81, 2) := by decide +kernel
theorem dX9_ticksNotices_15 : decode cX9_ticksNotices 15 = .ok (.iconst 5, 1) := by decide +kernel
theorem dX9_ticksNotices_16 : decode cX9_ticksNotices 16 = .ok (.iload_n 1, 1) := by decide +kernel
theorem dX9_ticksNotices_17 : decode cX9_ticksNotices 17 = .ok (.imul, 1) := by decide +kernel
theorem dX9_ticksNotices_18 : decode cX9_ticksNotices 18 = .ok (.iadd, 1) := by decide +kernel
theorem dX9_ticksNotices_19 : decode cX9_ticksNotices 19 = .ok (.istore_n 2, 1) := by decide +kernel
theorem dX9_ticksNotices_20 : decode cX9_ticksNotices 20 = .ok (.aload_n 0, 1) := by decide +kernel
theorem dX9_ticksNotices_21 : decode cX9_ticksNotices 21 = .ok (.getfield 13, 3) := by decide +kernel
theorem dX9_ticksNotices_24 : decode cX9_ticksNotices 24 = .ok (.iload_n 2, 1) := by decide +kernel
theorem dX9_ticksNotices_25 : decode cX9_ticksNotices 25 = .ok (.iconst 4, 1) := by decide +kernel
theorem dX9_ticksNotices_26 : decode cX9_ticksNotices 26 = .ok (.iadd, 1) := by decide +kernel
theorem dX9_ticksNotices_27 : decode cX9_ticksNotices 27 = .ok (.dup2, 1) := by decide +kernel
theorem dX9_ticksNotices_28 : decode cX9_ticksNotices 28 = .ok (.iaload, 1) := by decide +kernel
theorem dX9_ticksNotices_29 : decode cX9_ticksNotices 29 = .ok (.iconst 1, 1) := by decide +kernel
theorem dX9_ticksNotices_30 : decode cX9_ticksNotices 30 = .ok (.isub, 1) := by decide +kernel
theorem dX9_ticksNotices_31 : decode cX9_ticksNotices 31 = .ok (.iastore, 1) := by decide +kernel
theorem dX9_ticksNotices_32 : decode cX9_ticksNotices 32 = .ok (.aload_n 0, 1) := by decide +kernel
theorem dX9_ticksNotices_33 : decode cX9_ticksNotices 33 = .ok (.getfield 13, 3) := by decide +kernel
theorem dX9_ticksNotices_36 : decode cX9_ticksNotices 36 = .ok (.iload_n 2, 1) := by decide +kernel
theorem dX9_ticksNotices_37 : decode cX9_ticksNotices 37 = .ok (.iconst 4, 1) := by decide +kernel
theorem dX9_ticksNotices_38 : decode cX9_ticksNotices 38 = .ok (.iadd, 1) := by decide +kernel
theorem dX9_ticksNotices_39 : decode cX9_ticksNotices 39 = .ok (.iaload, 1) := by decide +kernel
theorem dX9_ticksNotices_40 : decode cX9_ticksNotices 40 = .ok (.ifCond .ne 34, 3) := by decide +kernel
theorem dX9_ticksNotices_43 : decode cX9_ticksNotices 43 = .ok (.aload_n 0, 1) := by decide +kernel
theorem dX9_ticksNotices_44 : decode cX9_ticksNotices 44 = .ok (.getfield 13, 3) := by decide +kernel
theorem dX9_ticksNotices_47 : decode cX9_ticksNotices 47 = .ok (.iload_n 2, 1) := by decide +kernel
theorem dX9_ticksNotices_48 : decode cX9_ticksNotices 48 = .ok (.iconst 3, 1) := by decide +kernel
theorem dX9_ticksNotices_49 : decode cX9_ticksNotices 49 = .ok (.iadd, 1) := by decide +kernel
theorem dX9_ticksNotices_50 : decode cX9_ticksNotices 50 = .ok (.iaload, 1) := by decide +kernel
theorem dX9_ticksNotices_51 : decode cX9_ticksNotices 51 = .ok (.iconst 3, 1) := by decide +kernel
theorem dX9_ticksNotices_52 : decode cX9_ticksNotices 52 = .ok (.if_icmp .ne 22, 3) := by decide +kernel
theorem dX9_ticksNotices_55 : decode cX9_ticksNotices 55 = .ok (.aload_n 0, 1) := by decide +kernel
theorem dX9_ticksNotices_56 : decode cX9_ticksNotices 56 = .ok (.iload_n 1, 1) := by decide +kernel
theorem dX9_ticksNotices_57 : decode cX9_ticksNotices 57 = .ok (.invokevirtual 185, 3) := by decide +kernel
theorem dX9_ticksNotices_60 : decode cX9_ticksNotices 60 = .ok (.aload_n 0, 1) := by decide +kernel
theorem dX9_ticksNotices_61 : decode cX9_ticksNotices 61 = .ok (.getfield 13, 3) := by decide +kernel
theorem dX9_ticksNotices_64 : decode cX9_ticksNotices 64 = .ok (.bipush 123, 2) := by decide +kernel
theorem dX9_ticksNotices_66 : decode cX9_ticksNotices 66 = .ok (.dup2, 1) := by decide +kernel
theorem dX9_ticksNotices_67 : decode cX9_ticksNotices 67 = .ok (.iaload, 1) := by decide +kernel
theorem dX9_ticksNotices_68 : decode cX9_ticksNotices 68 = .ok (.iconst 1, 1) := by decide +kernel
theorem dX9_ticksNotices_69 : decode cX9_ticksNotices 69 = .ok (.iadd, 1) := by decide +kernel
theorem dX9_ticksNotices_70 : decode cX9_ticksNotices 70 = .ok (.iastore, 1) := by decide +kernel
theorem dX9_ticksNotices_71 : decode cX9_ticksNotices 71 = .ok (.goto 64, 3) := by decide +kernel
theorem dX9_ticksNotices_74 : decode cX9_ticksNotices 74 = .ok (.aload_n 0, 1) := by decide +kernel
theorem dX9_ticksNotices_75 : decode cX9_ticksNotices 75 = .ok (.getfield 13, 3) := by decide +kernel
theorem dX9_ticksNotices_78 : decode cX9_ticksNotices 78 = .ok (.iload_n 2, 1) := by decide +kernel
theorem dX9_ticksNotices_79 : decode cX9_ticksNotices 79 = .ok (.iconst 3, 1) := by decide +kernel
theorem dX9_ticksNotices_80 : decode cX9_ticksNotices 80 = .ok (.iadd, 1) := by decide +kernel
theorem dX9_ticksNotices_81 : decode cX9_ticksNotices 81 = .ok (.dup2, 1) := by decide +kernel
theorem dX9_ticksNotices_82 : decode cX9_ticksNotices 82 = .ok (.iaload, 1) := by decide +kernel
theorem dX9_ticksNotices_83 : decode cX9_ticksNotices 83 = .ok (.aload_n 0, 1) := by decide +kernel
theorem dX9_ticksNotices_84 : decode cX9_ticksNotices 84 = .ok (.getfield 13, 3) := by decide +kernel
theorem dX9_ticksNotices_87 : decode cX9_ticksNotices 87 = .ok (.iload_n 2, 1) := by decide +kernel
theorem dX9_ticksNotices_88 : decode cX9_ticksNotices 88 = .ok (.iconst 4, 1) := by decide +kernel
theorem dX9_ticksNotices_89 : decode cX9_ticksNotices 89 = .ok (.iadd, 1) := by decide +kernel
theorem dX9_ticksNotices_90 : decode cX9_ticksNotices 90 = .ok (.iaload, 1) := by decide +kernel
theorem dX9_ticksNotices_91 : decode cX9_ticksNotices 91 = .ok (.ifCond .ne 7, 3) := by decide +kernel
theorem dX9_ticksNotices_94 : decode cX9_ticksNotices 94 = .ok (.iconst 1, 1) := by decide +kernel
theorem dX9_ticksNotices_95 : decode cX9_ticksNotices 95 = .ok (.goto 4, 3) := by decide +kernel
theorem dX9_ticksNotices_98 : decode cX9_ticksNotices 98 = .ok (.iconst 0, 1) := by decide +kernel
theorem dX9_ticksNotices_99 : decode cX9_ticksNotices 99 = .ok (.iadd, 1) := by decide +kernel
theorem dX9_ticksNotices_100 : decode cX9_ticksNotices 100 = .ok (.iastore, 1) := by decide +kernel
theorem dX9_ticksNotices_101 : decode cX9_ticksNotices 101 = .ok (.aload_n 0, 1) := by decide +kernel
theorem dX9_ticksNotices_102 : decode cX9_ticksNotices 102 = .ok (.getfield 13, 3) := by decide +kernel
theorem dX9_ticksNotices_105 : decode cX9_ticksNotices 105 = .ok (.iload_n 2, 1) := by decide +kernel
theorem dX9_ticksNotices_106 : decode cX9_ticksNotices 106 = .ok (.iconst 4, 1) := by decide +kernel
theorem dX9_ticksNotices_107 : decode cX9_ticksNotices 107 = .ok (.iadd, 1) := by decide +kernel
theorem dX9_ticksNotices_108 : decode cX9_ticksNotices 108 = .ok (.aload_n 0, 1) := by decide +kernel
theorem dX9_ticksNotices_109 : decode cX9_ticksNotices 109 = .ok (.getfield 13, 3) := by decide +kernel
theorem dX9_ticksNotices_112 : decode cX9_ticksNotices 112 = .ok (.iload_n 2, 1) := by decide +kernel
theorem dX9_ticksNotices_113 : decode cX9_ticksNotices 113 = .ok (.iconst 4, 1) := by decide +kernel
theorem dX9_ticksNotices_114 : decode cX9_ticksNotices 114 = .ok (.iadd, 1) := by decide +kernel
theorem dX9_ticksNotices_115 : decode cX9_ticksNotices 115 = .ok (.iaload, 1) := by decide +kernel
theorem dX9_ticksNotices_116 : decode cX9_ticksNotices 116 = .ok (.ifCond .ne 7, 3) := by decide +kernel
theorem dX9_ticksNotices_119 : decode cX9_ticksNotices 119 = .ok (.iconst 3, 1) := by decide +kernel
theorem dX9_ticksNotices_120 : decode cX9_ticksNotices 120 = .ok (.goto 11, 3) := by decide +kernel
theorem dX9_ticksNotices_123 : decode cX9_ticksNotices 123 = .ok (.aload_n 0, 1) := by decide +kernel
theorem dX9_ticksNotices_124 : decode cX9_ticksNotices 124 = .ok (.getfield 13, 3) := by decide +kernel
theorem dX9_ticksNotices_127 : decode cX9_ticksNotices 127 = .ok (.iload_n 2, 1) := by decide +kernel
theorem dX9_ticksNotices_128 : decode cX9_ticksNotices 128 = .ok (.iconst 4, 1) := by decide +kernel
theorem dX9_ticksNotices_129 : decode cX9_ticksNotices 129 = .ok (.iadd, 1) := by decide +kernel
theorem dX9_ticksNotices_130 : decode cX9_ticksNotices 130 = .ok (.iaload, 1) := by decide +kernel
theorem dX9_ticksNotices_131 : decode cX9_ticksNotices 131 = .ok (.iastore, 1) := by decide +kernel
theorem dX9_ticksNotices_132 : decode cX9_ticksNotices 132 = .ok (.iinc 1 1, 3) := by decide +kernel
theorem dX9_ticksNotices_135 : decode cX9_ticksNotices 135 = .ok (.goto (-133), 3) := by decide +kernel
theorem dX9_ticksNotices_138 : decode cX9_ticksNotices 138 = .ok (.return_, 1) := by decide +kernel
set_option maxRecDepth 20000 in
theorem ggX9_ticksOnce_X9_part : GoodIn wsX9_ticksOnce wsX9_part := goodIn_r _ [7, 8, 17, 18, 19, 20, 21, 22, 23, 24, 25, 26, 27, 28, 29, 30, 31, 32, 33, 34, 35, 36, 37, 38] (by decide +kernel) (by decide +kernel)
set_option maxRecDepth 20000 in
theorem gX9_ticksOnce_X9_part : GoodIn wsX9_ticksOnce (wsV RX9 50 RX9 yX9_part wsX9_part) := goodIn_app (goodIn_of _ (by decide +kernel)) ggX9_ticksOnce_X9_part
set_option maxRecDepth 20000 in
theorem ggX9_ticksOnce_X9_ticksNotices : GoodIn wsX9_ticksOnce wsX9_ticksNotices := goodIn_r _ [12, 1, 13, 14, 15, 6, 16, 17, 18, 19, 20, 21, 22, 23, 24, 25, 26, 27, 28, 29, 30, 31, 32, 33, 34, 35, 36, 37, 38] (by decide +kernel) (by decide +kernel)
set_option maxRecDepth 20000 in
theorem gX9_ticksOnce_X9_ticksNotices : GoodIn wsX9_ticksOnce (wsV RX9 206 RX9 yX9_ticksNotices wsX9_ticksNotices) := goodIn_app (goodIn_of _ (by decide +kernel)) ggX9_ticksOnce_X9_ticksNotices
theorem dX9_ticksOnce_0 : decode cX9_ticksOnce 0 = .ok (.aload_n 0, 1) := by decide +kernel
theorem dX9_ticksOnce_1 : decode cX9_ticksOnce 1 = .ok (.getfield 13, 3) := by decide +kernel
theorem dX9_ticksOnce_4 : decode cX9_ticksOnce 4 = .ok (.bipush 121, 2) := by decide +kernel
theorem dX9_ticksOnce_6 : decode cX9_ticksOnce 6 = .ok (.dup2, 1) := by decide +kernel
theorem dX9_ticksOnce_7 : decode cX9_ticksOnce 7 = .ok (.iaload, 1) := by decide +kernel
theorem dX9_ticksOnce_8 : decode cX9_ticksOnce 8 = .ok (.iconst 1, 1) := by decide +kernel
theorem dX9_ticksOnce_9 : decode cX9_ticksOnce 9 = .ok (.iadd, 1) := by decide +kernel
theorem dX9_ticksOnce_10 : decode cX9_ticksOnce 10 = .ok (.iastore, 1) := by decide +kernel
theorem dX9_ticksOnce_11 : decode cX9_ticksOnce 11 = .ok (.iconst 0, 1) := by decide +kernel
theorem dX9_ticksOnce_12 : decode cX9_ticksOnce 12 = .ok (.istore_n 1, 1) := by decide +kernel
theorem dX9_ticksOnce_13 : decode cX9_ticksOnce 13 = .ok (.iload_n 1, 1) := by decide +kernel
theorem dX9_ticksOnce_14 : decode cX9_ticksOnce 14 = .ok (.aload_n 0, 1) := by decide +kernel
theorem dX9_ticksOnce_15 : decode cX9_ticksOnce 15 = .ok (.getfield 54, 3) := by decide +kernel
theorem dX9_ticksOnce_18 : decode cX9_ticksOnce 18 = .ok (.if_icmp .ge 51, 3) := by decide +kernel
theorem dX9_ticksOnce_21 : decode cX9_ticksOnce 21 = .ok (.aload_n 0, 1) := by decide +kernel
theorem dX9_ticksOnce_22 : decode cX9_ticksOnce 22 = .ok (.getfield 13, 3) := by decide +kernel
theorem dX9_ticksOnce_25 : decode cX9_ticksOnce 25 = .ok (.iload_n 1, 1) := by decide +kernel
theorem dX9_ticksOnce_26 : decode cX9_ticksOnce 26 = .ok (.aload_n 0, 1) := by decide +kernel
theorem dX9_ticksOnce_27 : decode cX9_ticksOnce 27 = .ok (.iload_n 1, 1) := by decide +kernel
theorem dX9_ticksOnce_28 : decode cX9_ticksOnce 28 = .ok (.iconst 2, 1) := by decide +kernel
theorem dX9_ticksOnce_29 : decode cX9_ticksOnce 29 = .ok (.invokevirtual 50, 3) := by decide +kernel
theorem dX9_ticksOnce_32 : decode cX9_ticksOnce 32 = .ok (.iconst 1, 1) := by decide +kernel
theorem dX9_ticksOnce_33 : decode cX9_ticksOnce 33 = .ok (.if_icmp .ne 23, 3) := by decide +kernel
theorem dX9_ticksOnce_36 : decode cX9_ticksOnce 36 = .ok (.aload_n 0, 1) := by decide +kernel
theorem dX9_ticksOnce_37 : decode cX9_ticksOnce 37 = .ok (.getfield 13, 3) := by decide +kernel
theorem dX9_ticksOnce_40 : decode cX9_ticksOnce 40 = .ok (.iload_n 1, 1) := by decide +kernel
theorem dX9_ticksOnce_41 : decode cX9_ticksOnce 41 = .ok (.iaload, 1) := by decide +kernel
theorem dX9_ticksOnce_42 : decode cX9_ticksOnce 42 = .ok (.aload_n 0, 1) := by decide +kernel
theorem dX9_ticksOnce_43 : decode cX9_ticksOnce 43 = .ok (.iload_n 1, 1) := by decide +kernel
theorem dX9_ticksOnce_44 : decode cX9_ticksOnce 44 = .ok (.iconst 3, 1) := by decide +kernel
theorem dX9_ticksOnce_45 : decode cX9_ticksOnce 45 = .ok (.invokevirtual 50, 3) := by decide +kernel
theorem dX9_ticksOnce_48 : decode cX9_ticksOnce 48 = .ok (.iadd, 1) := by decide +kernel
theorem dX9_ticksOnce_49 : decode cX9_ticksOnce 49 = .ok (.sipush 1000, 3) := by decide +kernel
theorem dX9_ticksOnce_52 : decode cX9_ticksOnce 52 = .ok (.irem, 1) := by decide +kernel
theorem dX9_ticksOnce_53 : decode cX9_ticksOnce 53 = .ok (.goto 9, 3) := by decide +kernel
theorem dX9_ticksOnce_56 : decode cX9_ticksOnce 56 = .ok (.aload_n 0, 1) := by decide +kernel
theorem dX9_ticksOnce_57 : decode cX9_ticksOnce 57 = .ok (.getfield 13, 3) := by decide +kernel
theorem dX9_ticksOnce_60 : decode cX9_ticksOnce 60 = .ok (.iload_n 1, 1) := by decide +kernel
theorem dX9_ticksOnce_61 : decode cX9_ticksOnce 61 = .ok (.iaload, 1) := by decide +kernel
theorem dX9_ticksOnce_62 : decode cX9_ticksOnce 62 = .ok (.iastore, 1) := by decide +kernel
theorem dX9_ticksOnce_63 : decode cX9_ticksOnce 63 = .ok (.iinc 1 1, 3) := by decide +kernel
theorem dX9_ticksOnce_66 : decode cX9_ticksOnce 66 = .ok (.goto (-53), 3) := by decide +kernel
theorem dX9_ticksOnce_69 : decode cX9_ticksOnce 69 = .ok (.aload_n 0, 1) := by decide +kernel
theorem dX9_ticksOnce_70 : decode cX9_ticksOnce 70 = .ok (.invokevirtual 206, 3) := by decide +kernel
theorem dX9_ticksOnce_73 : decode cX9_ticksOnce 73 = .ok (.return_, 1) := by decide +kernel
set_option maxRecDepth 20000 in
theorem ggX9_ticks_X9_within : GoodIn wsX9_ticks wsX9_within := goodIn_r _ [5] (by decide +kernel) (by decide +kernel)
set_option maxRecDepth 20000 in
theorem gX9_ticks_X9_within : GoodIn wsX9_ticks (va_wsS RX9 98 yX9_within wsX9_within) := goodIn_app (goodIn_of _ (by decide +kernel)) ggX9_ticks_X9_within
set_option maxRecDepth 20000 in
theorem ggX9_ticks_X9_laysAside : GoodIn wsX9_ticks wsX9_laysAside := goodIn_r _ [9, 10, 1, 35, 36, 37, 38, 39, 40, 41, 42, 43, 44, 45, 46, 47, 48, 49, 50, 51, 52, 53, 54, 55, 56] (by decide +kernel) (by decide +kernel)
set_option maxRecDepth 20000 in
theorem gX9_ticks_X9_laysAside : GoodIn wsX9_ticks (wsV RX9 194 RX9 yX9_laysAside wsX9_laysAside) := goodIn_app (goodIn_of _ (by decide +kernel)) ggX9_ticks_X9_laysAside
set_option maxRecDepth 20000 in
theorem ggX9_ticks_X9_keeps : GoodIn wsX9_ticks wsX9_keeps := goodIn_r _ [14, 15, 16, 10, 35, 36, 37, 38, 39, 40, 41, 42, 43, 44, 45, 46, 47, 48, 49, 50, 51, 52, 53, 54, 55, 56] (by decide +kernel) (by decide +kernel)
set_option maxRecDepth 20000 in
theorem gX9_ticks_X9_keeps : GoodIn wsX9_ticks (wsV RX9 203 RX9 yX9_keeps wsX9_keeps) := goodIn_app (goodIn_of _ (by decide +kernel)) ggX9_ticks_X9_keeps
set_option maxRecDepth 20000 in
theorem ggX9_ticks_X9_ticksOnce : GoodIn wsX9_ticks wsX9_ticksOnce := goodIn_r _ [20, 1, 21, 22, 23, 24, 4, 25, 26, 27, 28, 29, 30, 31, 32, 33, 34, 35, 36, 37, 38, 39, 40, 41, 42, 43, 44, 45, 46, 47, 48, 49, 50, 51, 52, 53, 54, 55, 56] (by decide +kernel) (by decide +kernel)
set_option maxRecDepth 20000 in
theorem gX9_ticks_X9_ticksOnce : GoodIn wsX9_ticks (wsV RX9 209 RX9 yX9_ticksOnce wsX9_ticksOnce) := goodIn_app (goodIn_of _ (by decide +kernel)) ggX9_ticks_X9_ticksOnce
theorem dX9_ticks_0 : decode cX9_ticks 0 = .ok (.iload_n 1, 1) := by decide +kernel
theorem dX9_ticks_1 : decode cX9_ticks 1 = .ok (.iconst 1, 1) := by decide +kernel
theorem dX9_ticks_2 : decode cX9_ticks 2 = .ok (.bipush 99, 2) := by decide +kernel
theorem dX9_ticks_4 : decode cX9_ticks 4 = .ok (.invokestatic 98, 3) := by decide +kernel
theorem dX9_ticks_7 : decode cX9_ticks 7 = .ok (.ifCond .ne 5, 3) := by decide +kernel
theorem dX9_ticks_10 : decode cX9_ticks 10 = .ok (.iconst (-1), 1) := by decide +kernel
theorem dX9_ticks_11 : decode cX9_ticks 11 = .ok (.ireturn, 1) := by decide +kernel
theorem dX9_ticks_12 : decode cX9_ticks 12 = .ok (.aload_n 0, 1) := by decide +kernel
theorem dX9_ticks_13 : decode cX9_ticks 13 = .ok (.getfield 13, 3) := by decide +kernel
theorem dX9_ticks_16 : decode cX9_ticks 16 = .ok (.bipush 121, 2) := by decide +kernel
theorem dX9_ticks_18 : decode cX9_ticks 18 = .ok (.iaload, 1) := by decide +kernel
theorem dX9_ticks_19 : decode cX9_ticks 19 = .ok (.iload_n 1, 1) := by decide +kernel
theorem dX9_ticks_20 : decode cX9_ticks 20 = .ok (.iadd, 1) := by decide +kernel
theorem dX9_ticks_21 : decode cX9_ticks 21 = .ok (.sipush 999, 3) := by decide +kernel
theorem dX9_ticks_24 : decode cX9_ticks 24 = .ok (.if_icmp .le 6, 3) := by decide +kernel
theorem dX9_ticks_27 : decode cX9_ticks 27 = .ok (.bipush (-2), 2) := by decide +kernel
theorem dX9_ticks_29 : decode cX9_ticks 29 = .ok (.ireturn, 1) := by decide +kernel
theorem dX9_ticks_30 : decode cX9_ticks 30 = .ok (.aload_n 0, 1) := by decide +kernel
theorem dX9_ticks_31 : decode cX9_ticks 31 = .ok (.invokevirtual 194, 3) := by decide +kernel
theorem dX9_ticks_34 : decode cX9_ticks 34 = .ok (.aload_n 0, 1) := by decide +kernel
theorem dX9_ticks_35 : decode cX9_ticks 35 = .ok (.invokevirtual 203, 3) := by decide +kernel
theorem dX9_ticks_38 : decode cX9_ticks 38 = .ok (.iconst 0, 1) := by decide +kernel
theorem dX9_ticks_39 : decode cX9_ticks 39 = .ok (.istore_n 2, 1) := by decide +kernel
theorem dX9_ticks_40 : decode cX9_ticks 40 = .ok (.iload_n 2, 1) := by decide +kernel
theorem dX9_ticks_41 : decode cX9_ticks 41 = .ok (.iload_n 1, 1) := by decide +kernel
theorem dX9_ticks_42 : decode cX9_ticks 42 = .ok (.if_icmp .ge 13, 3) := by decide +kernel
theorem dX9_ticks_45 : decode cX9_ticks 45 = .ok (.aload_n 0, 1) := by decide +kernel
theorem dX9_ticks_46 : decode cX9_ticks 46 = .ok (.invokevirtual 209, 3) := by decide +kernel
theorem dX9_ticks_49 : decode cX9_ticks 49 = .ok (.iinc 2 1, 3) := by decide +kernel
theorem dX9_ticks_52 : decode cX9_ticks 52 = .ok (.goto (-12), 3) := by decide +kernel
theorem dX9_ticks_55 : decode cX9_ticks 55 = .ok (.aload_n 0, 1) := by decide +kernel
theorem dX9_ticks_56 : decode cX9_ticks 56 = .ok (.getfield 13, 3) := by decide +kernel
theorem dX9_ticks_59 : decode cX9_ticks 59 = .ok (.bipush 121, 2) := by decide +kernel
theorem dX9_ticks_61 : decode cX9_ticks 61 = .ok (.iaload, 1) := by decide +kernel
theorem dX9_ticks_62 : decode cX9_ticks 62 = .ok (.ireturn, 1) := by decide +kernel
set_option maxRecDepth 20000 in
theorem ggX9_isNotice_X9_within : GoodIn wsX9_isNotice wsX9_within := goodIn_r _ [5] (by decide +kernel) (by decide +kernel)
set_option maxRecDepth 20000 in
theorem gX9_isNotice_X9_within : GoodIn wsX9_isNotice (va_wsS RX9 98 yX9_within wsX9_within) := goodIn_app (goodIn_of _ (by decide +kernel)) ggX9_isNotice_X9_within
theorem dX9_isNotice_0 : decode cX9_isNotice 0 = .ok (.iload_n 1, 1) := by decide +kernel
theorem dX9_isNotice_1 : decode cX9_isNotice 1 = .ok (.iconst 0, 1) := by decide +kernel
theorem dX9_isNotice_2 : decode cX9_isNotice 2 = .ok (.aload_n 0, 1) := by decide +kernel
theorem dX9_isNotice_3 : decode cX9_isNotice 3 = .ok (.getfield 13, 3) := by decide +kernel
theorem dX9_isNotice_6 : decode cX9_isNotice 6 = .ok (.bipush 80, 2) := by decide +kernel
theorem dX9_isNotice_8 : decode cX9_isNotice 8 = .ok (.iaload, 1) := by decide +kernel
theorem dX9_isNotice_9 : decode cX9_isNotice 9 = .ok (.iconst 1, 1) := by decide +kernel
theorem dX9_isNotice_10 : decode cX9_isNotice 10 = .ok (.isub, 1) := by decide +kernel
theorem dX9_isNotice_11 : decode cX9_isNotice 11 = .ok (.invokestatic 98, 3) := by decide +kernel
theorem dX9_isNotice_14 : decode cX9_isNotice 14 = .ok (.ireturn, 1) := by decide +kernel
set_option maxRecDepth 20000 in
theorem ggX9_answers_X9_isNotice : GoodIn wsX9_answers wsX9_isNotice := goodIn_r _ [6, 1, 7, 8, 5, 9, 25, 26, 27, 28, 29, 30, 31, 32, 33, 34, 35, 36, 37, 38, 39, 40, 41, 42, 43, 44, 45, 46] (by decide +kernel) (by decide +kernel)
set_option maxRecDepth 20000 in
theorem gX9_answers_X9_isNotice : GoodIn wsX9_answers (wsV RX9 212 RX9 yX9_isNotice wsX9_isNotice) := goodIn_app (goodIn_of _ (by decide +kernel)) ggX9_answers_X9_isNotice
set_option maxRecDepth 20000 in
theorem ggX9_answers_X9_laysAside : GoodIn wsX9_answers wsX9_laysAside := goodIn_r _ [13, 14, 1, 25, 26, 27, 28, 29, 30, 31, 32, 33, 34, 35, 36, 37, 38, 39, 40, 41, 42, 43, 44, 45, 46] (by decide +kernel) (by decide +kernel)
set_option maxRecDepth 20000 in
theorem gX9_answers_X9_laysAside : GoodIn wsX9_answers (wsV RX9 194 RX9 yX9_laysAside wsX9_laysAside) := goodIn_app (goodIn_of _ (by decide +kernel)) ggX9_answers_X9_laysAside
set_option maxRecDepth 20000 in
theorem ggX9_answers_X9_keeps : GoodIn wsX9_answers wsX9_keeps := goodIn_r _ [18, 19, 20, 14, 25, 26, 27, 28, 29, 30, 31, 32, 33, 34, 35, 36, 37, 38, 39, 40, 41, 42, 43, 44, 45, 46] (by decide +kernel) (by decide +kernel)
set_option maxRecDepth 20000 in
theorem gX9_answers_X9_keeps : GoodIn wsX9_answers (wsV RX9 203 RX9 yX9_keeps wsX9_keeps) := goodIn_app (goodIn_of _ (by decide +kernel)) ggX9_answers_X9_keeps
set_option maxRecDepth 20000 in
theorem ggX9_answers_X9_dropsNotice : GoodIn wsX9_answers wsX9_dropsNotice := goodIn_r _ [24, 1, 25, 26, 27, 28, 29, 30, 31, 32, 33, 34, 35, 36, 37, 38, 39, 40, 41, 42, 43, 44, 45, 46] (by decide +kernel) (by decide +kernel)
set_option maxRecDepth 20000 in
theorem gX9_answers_X9_dropsNotice : GoodIn wsX9_answers (wsV RX9 185 RX9 yX9_dropsNotice wsX9_dropsNotice) := goodIn_app (goodIn_of _ (by decide +kernel)) ggX9_answers_X9_dropsNotice
theorem dX9_answers_0 : decode cX9_answers 0 = .ok (.aload_n 0, 1) := by decide +kernel
theorem dX9_answers_1 : decode cX9_answers 1 = .ok (.iload_n 1, 1) := by decide +kernel
theorem dX9_answers_2 : decode cX9_answers 2 = .ok (.invokevirtual 212, 3) := by decide +kernel
theorem dX9_answers_5 : decode cX9_answers 5 = .ok (.ifCond .ne 5, 3) := by decide +kernel
theorem dX9_answers_8 : decode cX9_answers 8 = .ok (.iconst (-1), 1) := by decide +kernel
theorem dX9_answers_9 : decode cX9_answers 9 = .ok (.ireturn, 1) := by decide +kernel
theorem dX9_answers_10 : decode cX9_answers 10 = .ok (.aload_n 0, 1) := by decide +kernel
theorem dX9_answers_11 : decode cX9_answers 11 = .ok (.invokevirtual 194, 3) := by decide +kernel
theorem dX9_answers_14 : decode cX9_answers 14 = .ok (.aload_n 0, 1) := by decide +kernel
theorem dX9_answers_15 : decode cX9_answers 15 = .ok (.invokevirtual 203, 3) := by decide +kernel
theorem dX9_answers_18 : decode cX9_answers 18 = .ok (.aload_n 0, 1) := by decide +kernel
theorem dX9_answers_19 : decode cX9_answers 19 = .ok (.getfield 13, 3) := by decide +kernel
theorem dX9_answers_22 : decode cX9_answers 22 = .ok (.bipush 81, 2) := by decide +kernel
theorem dX9_answers_24 : decode cX9_answers 24 = .ok (.iconst 5, 1) := by decide +kernel
theorem dX9_answers_25 : decode cX9_answers 25 = .ok (.iload_n 1, 1) := by decide +kernel
theorem dX9_answers_26 : decode cX9_answers 26 = .ok (.imul, 1) := by decide +kernel
theorem dX9_answers_27 : decode cX9_answers 27 = .ok (.iadd, 1) := by decide +kernel
theorem dX9_answers_28 : decode cX9_answers 28 = .ok (.iconst 3, 1) := by decide +kernel
theorem dX9_answers_29 : decode cX9_answers 29 = .ok (.iadd, 1) := by decide +kernel
theorem dX9_answers_30 : decode cX9_answers 30 = .ok (.iaload, 1) := by decide +kernel
theorem dX9_answers_31 : decode cX9_answers 31 = .ok (.istore_n 2, 1) := by decide +kernel
theorem dX9_answers_32 : decode cX9_answers 32 = .ok (.aload_n 0, 1) := by decide +kernel
theorem dX9_answers_33 : decode cX9_answers 33 = .ok (.iload_n 1, 1) := by decide +kernel
theorem dX9_answers_34 : decode cX9_answers 34 = .ok (.invokevirtual 185, 3) := by decide +kernel
theorem dX9_answers_37 : decode cX9_answers 37 = .ok (.iload_n 2, 1) := by decide +kernel
theorem dX9_answers_38 : decode cX9_answers 38 = .ok (.ireturn, 1) := by decide +kernel
theorem dX9_undo_0 : decode cX9_undo 0 = .ok (.aload_n 0, 1) := by decide +kernel
theorem dX9_undo_1 : decode cX9_undo 1 = .ok (.getfield 144, 3) := by decide +kernel
theorem dX9_undo_4 : decode cX9_undo 4 = .ok (.ifCond .ne 6, 3) := by decide +kernel
theorem dX9_undo_7 : decode cX9_undo 7 = .ok (.bipush (-2), 2) := by decide +kernel
theorem dX9_undo_9 : decode cX9_undo 9 = .ok (.ireturn, 1) := by decide +kernel
theorem dX9_undo_10 : decode cX9_undo 10 = .ok (.aload_n 0, 1) := by decide +kernel
theorem dX9_undo_11 : decode cX9_undo 11 = .ok (.dup, 1) := by decide +kernel
theorem dX9_undo_12 : decode cX9_undo 12 = .ok (.getfield 144, 3) := by decide +kernel
theorem dX9_undo_15 : decode cX9_undo 15 = .ok (.iconst 1, 1) := by decide +kernel
theorem dX9_undo_16 : decode cX9_undo 16 = .ok (.isub, 1) := by decide +kernel
theorem dX9_undo_17 : decode cX9_undo 17 = .ok (.putfield 144, 3) := by decide +kernel
theorem dX9_undo_20 : decode cX9_undo 20 = .ok (.iconst 0, 1) := by decide +kernel
theorem dX9_undo_21 : decode cX9_undo 21 = .ok (.istore_n 1, 1) := by decide +kernel
theorem dX9_undo_22 : decode cX9_undo 22 = .ok (.iload_n 1, 1) := by decide +kernel
theorem dX9_undo_23 : decode cX9_undo 23 = .ok (.bipush 124, 2) := by decide +kernel
theorem dX9_undo_25 : decode cX9_undo 25 = .ok (.if_icmp .ge 29, 3) := by decide +kernel
theorem dX9_undo_28 : decode cX9_undo 28 = .ok (.aload_n 0, 1) := by decide +kernel
theorem dX9_undo_29 : decode cX9_undo 29 = .ok (.getfield 13, 3) := by decide +kernel
theorem dX9_undo_32 : decode cX9_undo 32 = .ok (.iload_n 1, 1) := by decide +kernel
theorem dX9_undo_33 : decode cX9_undo 33 = .ok (.aload_n 0, 1) := by decide +kernel
theorem dX9_undo_34 : decode cX9_undo 34 = .ok (.getfield 19, 3) := by decide +kernel
theorem dX9_undo_37 : decode cX9_undo 37 = .ok (.bipush 124, 2) := by decide +kernel
theorem dX9_undo_39 : decode cX9_undo 39 = .ok (.aload_n 0, 1) := by decide +kernel
theorem dX9_undo_40 : decode cX9_undo 40 = .ok (.getfield 144, 3) := by decide +kernel
theorem dX9_undo_43 : decode cX9_undo 43 = .ok (.imul, 1) := by decide +kernel
theorem dX9_undo_44 : decode cX9_undo 44 = .ok (.iload_n 1, 1) := by decide +kernel
theorem dX9_undo_45 : decode cX9_undo 45 = .ok (.iadd, 1) := by decide +kernel
theorem dX9_undo_46 : decode cX9_undo 46 = .ok (.iaload, 1) := by decide +kernel
theorem dX9_undo_47 : decode cX9_undo 47 = .ok (.iastore, 1) := by decide +kernel
theorem dX9_undo_48 : decode cX9_undo 48 = .ok (.iinc 1 1, 3) := by decide +kernel
theorem dX9_undo_51 : decode cX9_undo 51 = .ok (.goto (-29), 3) := by decide +kernel
theorem dX9_undo_54 : decode cX9_undo 54 = .ok (.aload_n 0, 1) := by decide +kernel
theorem dX9_undo_55 : decode cX9_undo 55 = .ok (.getfield 144, 3) := by decide +kernel
theorem dX9_undo_58 : decode cX9_undo 58 = .ok (.ireturn, 1) := by decide +kernel
theorem dX9_isEnd_0 : decode cX9_isEnd 0 = .ok (.iload_n 0, 1) := by decide +kernel
theorem dX9_isEnd_1 : decode cX9_isEnd 1 = .ok (.iconst (-1), 1) := by decide +kernel
theorem dX9_isEnd_2 : decode cX9_isEnd 2 = .ok (.if_icmp .ne 7, 3) := by decide +kernel
theorem dX9_isEnd_5 : decode cX9_isEnd 5 = .ok (.iconst 1, 1) := by decide +kernel
theorem dX9_isEnd_6 : decode cX9_isEnd 6 = .ok (.goto 4, 3) := by decide +kernel
theorem dX9_isEnd_9 : decode cX9_isEnd 9 = .ok (.iconst 0, 1) := by decide +kernel
theorem dX9_isEnd_10 : decode cX9_isEnd 10 = .ok (.ireturn, 1) := by decide +kernel
set_option maxRecDepth 20000 in
theorem ggX9_isName_X9_within : GoodIn wsX9_isName wsX9_within := goodIn_r _ [4] (by decide +kernel) (by decide +kernel)
set_option maxRecDepth 20000 in
theorem gX9_isName_X9_within : GoodIn wsX9_isName (va_wsS RX9 98 yX9_within wsX9_within) := goodIn_app (goodIn_of _ (by decide +kernel)) ggX9_isName_X9_within
set_option maxRecDepth 20000 in
theorem ggX9_isName_X9_isEnd : GoodIn wsX9_isName wsX9_isEnd := goodIn_r _ [7] (by decide +kernel) (by decide +kernel)
set_option maxRecDepth 20000 in
theorem gX9_isName_X9_isEnd : GoodIn wsX9_isName (va_wsS RX9 215 yX9_isEnd wsX9_isEnd) := goodIn_app (goodIn_of _ (by decide +kernel)) ggX9_isName_X9_isEnd
theorem dX9_isName_0 : decode cX9_isName 0 = .ok (.iload_n 0, 1) := by decide +kernel
theorem dX9_isName_1 : decode cX9_isName 1 = .ok (.iconst 0, 1) := by decide +kernel
theorem dX9_isName_2 : decode cX9_isName 2 = .ok (.bipush 9, 2) := by decide +kernel
theorem dX9_isName_4 : decode cX9_isName 4 = .ok (.invokestatic 98, 3) := by decide +kernel
theorem dX9_isName_7 : decode cX9_isName 7 = .ok (.ifCond .eq 33, 3) := by decide +kernel
theorem dX9_isName_10 : decode cX9_isName 10 = .ok (.iload_n 1, 1) := by decide +kernel
theorem dX9_isName_11 : decode cX9_isName 11 = .ok (.iconst (-1), 1) := by decide +kernel
theorem dX9_isName_12 : decode cX9_isName 12 = .ok (.bipush 9, 2) := by decide +kernel
theorem dX9_isName_14 : decode cX9_isName 14 = .ok (.invokestatic 98, 3) := by decide +kernel
theorem dX9_isName_17 : decode cX9_isName 17 = .ok (.ifCond .eq 23, 3) := by decide +kernel
theorem dX9_isName_20 : decode cX9_isName 20 = .ok (.iload_n 2, 1) := by decide +kernel
theorem dX9_isName_21 : decode cX9_isName 21 = .ok (.iconst (-1), 1) := by decide +kernel
theorem dX9_isName_22 : decode cX9_isName 22 = .ok (.bipush 9, 2) := by decide +kernel
theorem dX9_isName_24 : decode cX9_isName 24 = .ok (.invokestatic 98, 3) := by decide +kernel
theorem dX9_isName_27 : decode cX9_isName 27 = .ok (.ifCond .eq 13, 3) := by decide +kernel
theorem dX9_isName_30 : decode cX9_isName 30 = .ok (.iload_n 3, 1) := by decide +kernel
theorem dX9_isName_31 : decode cX9_isName 31 = .ok (.iconst (-1), 1) := by decide +kernel
theorem dX9_isName_32 : decode cX9_isName 32 = .ok (.bipush 9, 2) := by decide +kernel
theorem dX9_isName_34 : decode cX9_isName 34 = .ok (.invokestatic 98, 3) := by decide +kernel
theorem dX9_isName_37 : decode cX9_isName 37 = .ok (.ifCond .ne 5, 3) := by decide +kernel
theorem dX9_isName_40 : decode cX9_isName 40 = .ok (.iconst 0, 1) := by decide +kernel
theorem dX9_isName_41 : decode cX9_isName 41 = .ok (.ireturn, 1) := by decide +kernel
theorem dX9_isName_42 : decode cX9_isName 42 = .ok (.iload_n 1, 1) := by decide +kernel
theorem dX9_isName_43 : decode cX9_isName 43 = .ok (.invokestatic 215, 3) := by decide +kernel
theorem dX9_isName_46 : decode cX9_isName 46 = .ok (.ifCond .eq 10, 3) := by decide +kernel
theorem dX9_isName_49 : decode cX9_isName 49 = .ok (.iload_n 2, 1) := by decide +kernel
theorem dX9_isName_50 : decode cX9_isName 50 = .ok (.invokestatic 215, 3) := by decide +kernel
theorem dX9_isName_53 : decode cX9_isName 53 = .ok (.ifCond .eq 21, 3) := by decide +kernel
theorem dX9_isName_56 : decode cX9_isName 56 = .ok (.iload_n 2, 1) := by decide +kernel
theorem dX9_isName_57 : decode cX9_isName 57 = .ok (.invokestatic 215, 3) := by decide +kernel
theorem dX9_isName_60 : decode cX9_isName 60 = .ok (.ifCond .eq 10, 3) := by decide +kernel
theorem dX9_isName_63 : decode cX9_isName 63 = .ok (.iload_n 3, 1) := by decide +kernel
theorem dX9_isName_64 : decode cX9_isName 64 = .ok (.invokestatic 215, 3) := by decide +kernel
theorem dX9_isName_67 : decode cX9_isName 67 = .ok (.ifCond .eq 7, 3) := by decide +kernel
theorem dX9_isName_70 : decode cX9_isName 70 = .ok (.iconst 1, 1) := by decide +kernel
theorem dX9_isName_71 : decode cX9_isName 71 = .ok (.goto 4, 3) := by decide +kernel
theorem dX9_isName_74 : decode cX9_isName 74 = .ok (.iconst 0, 1) := by decide +kernel
theorem dX9_isName_75 : decode cX9_isName 75 = .ok (.ireturn, 1) := by decide +kernel
theorem dX9_codeOf_0 : decode cX9_codeOf 0 = .ok (.bipush 11, 2) := by decide +kernel
theorem dX9_codeOf_2 : decode cX9_codeOf 2 = .ok (.iload_n 0, 1) := by decide +kernel
theorem dX9_codeOf_3 : decode cX9_codeOf 3 = .ok (.imul, 1) := by decide +kernel
theorem dX9_codeOf_4 : decode cX9_codeOf 4 = .ok (.iload_n 1, 1) := by decide +kernel
theorem dX9_codeOf_5 : decode cX9_codeOf 5 = .ok (.iadd, 1) := by decide +kernel
theorem dX9_codeOf_6 : decode cX9_codeOf 6 = .ok (.iconst 1, 1) := by decide +kernel
theorem dX9_codeOf_7 : decode cX9_codeOf 7 = .ok (.iadd, 1) := by decide +kernel
theorem dX9_codeOf_8 : decode cX9_codeOf 8 = .ok (.bipush 11, 2) := by decide +kernel
theorem dX9_codeOf_10 : decode cX9_codeOf 10 = .ok (.imul, 1) := by decide +kernel
theorem dX9_codeOf_11 : decode cX9_codeOf 11 = .ok (.iload_n 2, 1) := by decide +kernel
theorem dX9_codeOf_12 : decode cX9_codeOf 12 = .ok (.iadd, 1) := by decide +kernel
theorem dX9_codeOf_13 : decode cX9_codeOf 13 = .ok (.iconst 1, 1) := by decide +kernel
theorem dX9_codeOf_14 : decode cX9_codeOf 14 = .ok (.iadd, 1) := by decide +kernel
theorem dX9_codeOf_15 : decode cX9_codeOf 15 = .ok (.bipush 11, 2) := by decide +kernel
theorem dX9_codeOf_17 : decode cX9_codeOf 17 = .ok (.imul, 1) := by decide +kernel
theorem dX9_codeOf_18 : decode cX9_codeOf 18 = .ok (.iload_n 3, 1) := by decide +kernel
theorem dX9_codeOf_19 : decode cX9_codeOf 19 = .ok (.iadd, 1) := by decide +kernel
theorem dX9_codeOf_20 : decode cX9_codeOf 20 = .ok (.iconst 1, 1) := by decide +kernel
theorem dX9_codeOf_21 : decode cX9_codeOf 21 = .ok (.iadd, 1) := by decide +kernel
theorem dX9_codeOf_22 : decode cX9_codeOf 22 = .ok (.ireturn, 1) := by decide +kernel
set_option maxRecDepth 20000 in
theorem ggX9_codeOfLeaf_X9_codeOf : GoodIn wsX9_codeOfLeaf wsX9_codeOf := goodIn_r _ [5] (by decide +kernel) (by decide +kernel)
set_option maxRecDepth 20000 in
theorem gX9_codeOfLeaf_X9_codeOf : GoodIn wsX9_codeOfLeaf (va_wsS RX9 218 yX9_codeOf wsX9_codeOf) := goodIn_app (goodIn_of _ (by decide +kernel)) ggX9_codeOfLeaf_X9_codeOf
theorem dX9_codeOfLeaf_0 : decode cX9_codeOfLeaf 0 = .ok (.aload_n 0, 1) := by decide +kernel
theorem dX9_codeOfLeaf_1 : decode cX9_codeOfLeaf 1 = .ok (.getfield 32, 3) := by decide +kernel
theorem dX9_codeOfLeaf_4 : decode cX9_codeOfLeaf 4 = .ok (.iconst 4, 1) := by decide +kernel
theorem dX9_codeOfLeaf_5 : decode cX9_codeOfLeaf 5 = .ok (.iload_n 1, 1) := by decide +kernel
theorem dX9_codeOfLeaf_6 : decode cX9_codeOfLeaf 6 = .ok (.imul, 1) := by decide +kernel
theorem dX9_codeOfLeaf_7 : decode cX9_codeOfLeaf 7 = .ok (.iaload, 1) := by decide +kernel
theorem dX9_codeOfLeaf_8 : decode cX9_codeOfLeaf 8 = .ok (.aload_n 0, 1) := by decide +kernel
theorem dX9_codeOfLeaf_9 : decode cX9_codeOfLeaf 9 = .ok (.getfield 32, 3) := by decide +kernel
theorem dX9_codeOfLeaf_12 : decode cX9_codeOfLeaf 12 = .ok (.iconst 4, 1) := by decide +kernel
theorem dX9_codeOfLeaf_13 : decode cX9_codeOfLeaf 13 = .ok (.iload_n 1, 1) := by decide +kernel
theorem dX9_codeOfLeaf_14 : decode cX9_codeOfLeaf 14 = .ok (.imul, 1) := by decide +kernel
theorem dX9_codeOfLeaf_15 : decode cX9_codeOfLeaf 15 = .ok (.iconst 1, 1) := by decide +kernel
theorem dX9_codeOfLeaf_16 : decode cX9_codeOfLeaf 16 = .ok (.iadd, 1) := by decide +kernel
theorem dX9_codeOfLeaf_17 : decode cX9_codeOfLeaf 17 = .ok (.iaload, 1) := by decide +kernel
theorem dX9_codeOfLeaf_18 : decode cX9_codeOfLeaf 18 = .ok (.aload_n 0, 1) := by decide +kernel
theorem dX9_codeOfLeaf_19 : decode cX9_codeOfLeaf 19 = .ok (.getfield 32, 3) := by decide +kernel
theorem dX9_codeOfLeaf_22 : decode cX9_codeOfLeaf 22 = .ok (.iconst 4, 1) := by decide +kernel
theorem dX9_codeOfLeaf_23 : decode cX9_codeOfLeaf 23 = .ok (.iload_n 1, 1) := by decide +kernel
theorem dX9_codeOfLeaf_24 : decode cX9_codeOfLeaf 24 = .ok (.imul, 1) := by decide +kernel
theorem dX9_codeOfLeaf_25 : decode cX9_codeOfLeaf 25 = .ok (.iconst 2, 1) := by decide +kernel
theorem dX9_codeOfLeaf_26 : decode cX9_codeOfLeaf 26 = .ok (.iadd, 1) := by decide +kernel
theorem dX9_codeOfLeaf_27 : decode cX9_codeOfLeaf 27 = .ok (.iaload, 1) := by decide +kernel
theorem dX9_codeOfLeaf_28 : decode cX9_codeOfLeaf 28 = .ok (.aload_n 0, 1) := by decide +kernel
theorem dX9_codeOfLeaf_29 : decode cX9_codeOfLeaf 29 = .ok (.getfield 32, 3) := by decide +kernel
theorem dX9_codeOfLeaf_32 : decode cX9_codeOfLeaf 32 = .ok (.iconst 4, 1) := by decide +kernel
theorem dX9_codeOfLeaf_33 : decode cX9_codeOfLeaf 33 = .ok (.iload_n 1, 1) := by decide +kernel
theorem dX9_codeOfLeaf_34 : decode cX9_codeOfLeaf 34 = .ok (.imul, 1) := by decide +kernel
theorem dX9_codeOfLeaf_35 : decode cX9_codeOfLeaf 35 = .ok (.iconst 3, 1) := by decide +kernel
theorem dX9_codeOfLeaf_36 : decode cX9_codeOfLeaf 36 = .ok (.iadd, 1) := by decide +kernel
theorem dX9_codeOfLeaf_37 : decode cX9_codeOfLeaf 37 = .ok (.iaload, 1) := by decide +kernel
theorem dX9_codeOfLeaf_38 : decode cX9_codeOfLeaf 38 = .ok (.invokestatic 218, 3) := by decide +kernel
theorem dX9_codeOfLeaf_41 : decode cX9_codeOfLeaf 41 = .ok (.ireturn, 1) := by decide +kernel
set_option maxRecDepth 20000 in
theorem ggX9_upTo_X9_codeOfLeaf : GoodIn wsX9_upTo wsX9_codeOfLeaf := goodIn_r _ [6, 7, 8, 9, 5, 10, 11, 12, 13, 14, 15, 16, 17, 18, 19, 20, 21, 22, 23, 24, 25, 26, 27, 28, 29, 30, 31, 32] (by decide +kernel) (by decide +kernel)
set_option maxRecDepth 20000 in
theorem gX9_upTo_X9_codeOfLeaf : GoodIn wsX9_upTo (wsV RX9 221 RX9 yX9_codeOfLeaf wsX9_codeOfLeaf) := goodIn_app (goodIn_of _ (by decide +kernel)) ggX9_upTo_X9_codeOfLeaf
theorem dX9_upTo_0 : decode cX9_upTo 0 = .ok (.iconst 0, 1) := by decide +kernel
theorem dX9_upTo_1 : decode cX9_upTo 1 = .ok (.istore_n 2, 1) := by decide +kernel
theorem dX9_upTo_2 : decode cX9_upTo 2 = .ok (.iconst 0, 1) := by decide +kernel
theorem dX9_upTo_3 : decode cX9_upTo 3 = .ok (.istore_n 3, 1) := by decide +kernel
theorem dX9_upTo_4 : decode cX9_upTo 4 = .ok (.iload_n 3, 1) := by decide +kernel
theorem dX9_upTo_5 : decode cX9_upTo 5 = .ok (.aload_n 0, 1) := by decide +kernel
theorem dX9_upTo_6 : decode cX9_upTo 6 = .ok (.getfield 75, 3) := by decide +kernel
theorem dX9_upTo_9 : decode cX9_upTo 9 = .ok (.if_icmp .ge 26, 3) := by decide +kernel
theorem dX9_upTo_12 : decode cX9_upTo 12 = .ok (.iload_n 2, 1) := by decide +kernel
theorem dX9_upTo_13 : decode cX9_upTo 13 = .ok (.aload_n 0, 1) := by decide +kernel
theorem dX9_upTo_14 : decode cX9_upTo 14 = .ok (.iload_n 3, 1) := by decide +kernel
theorem dX9_upTo_15 : decode cX9_upTo 15 = .ok (.invokevirtual 221, 3) := by decide +kernel
theorem dX9_upTo_18 : decode cX9_upTo 18 = .ok (.iload_n 1, 1) := by decide +kernel
theorem dX9_upTo_19 : decode cX9_upTo 19 = .ok (.if_icmp .gt 7, 3) := by decide +kernel
theorem dX9_upTo_22 : decode cX9_upTo 22 = .ok (.iconst 1, 1) := by decide +kernel
theorem dX9_upTo_23 : decode cX9_upTo 23 = .ok (.goto 4, 3) := by decide +kernel
theorem dX9_upTo_26 : decode cX9_upTo 26 = .ok (.iconst 0, 1) := by decide +kernel
theorem dX9_upTo_27 : decode cX9_upTo 27 = .ok (.iadd, 1) := by decide +kernel
theorem dX9_upTo_28 : decode cX9_upTo 28 = .ok (.istore_n 2, 1) := by decide +kernel
theorem dX9_upTo_29 : decode cX9_upTo 29 = .ok (.iinc 3 1, 3) := by decide +kernel
theorem dX9_upTo_32 : decode cX9_upTo 32 = .ok (.goto (-28), 3) := by decide +kernel
theorem dX9_upTo_35 : decode cX9_upTo 35 = .ok (.iload_n 2, 1) := by decide +kernel
theorem dX9_upTo_36 : decode cX9_upTo 36 = .ok (.ireturn, 1) := by decide +kernel
set_option maxRecDepth 20000 in
theorem ggX9_leaf_X9_isName : GoodIn wsX9_leaf wsX9_isName := goodIn_r _ [4, 5, 6, 3, 7, 8, 9, 10] (by decide +kernel) (by decide +kernel)
set_option maxRecDepth 20000 in
theorem gX9_leaf_X9_isName : GoodIn wsX9_leaf (va_wsS RX9 224 yX9_isName wsX9_isName) := goodIn_app (goodIn_of _ (by decide +kernel)) ggX9_leaf_X9_isName
set_option maxRecDepth 20000 in
theorem ggX9_leaf_X9_laysLeaves : GoodIn wsX9_leaf wsX9_laysLeaves := goodIn_r _ [14, 15, 16, 17, 18, 19, 20, 3, 21, 22, 23, 24, 25, 26, 27, 28, 29, 30, 31, 32, 33, 34, 35, 36, 37, 38, 39, 40, 41, 42, 43, 44, 45, 46, 47, 48, 60, 61, 62, 63, 64, 65, 66, 67, 68, 69, 70, 71, 72, 73, 74, 75, 76, 77, 78, 79, 80, 81] (by decide +kernel) (by decide +kernel)
set_option maxRecDepth 20000 in
theorem gX9_leaf_X9_laysLeaves : GoodIn wsX9_leaf (wsV RX9 228 RX9 yX9_laysLeaves wsX9_laysLeaves) := goodIn_app (goodIn_of _ (by decide +kernel)) ggX9_leaf_X9_laysLeaves
set_option maxRecDepth 20000 in
theorem ggX9_leaf_X9_codeOf : GoodIn wsX9_leaf wsX9_codeOf := goodIn_r _ [51] (by decide +kernel) (by decide +kernel)
set_option maxRecDepth 20000 in
theorem gX9_leaf_X9_codeOf : GoodIn wsX9_leaf (va_wsS RX9 218 yX9_codeOf wsX9_codeOf) := goodIn_app (goodIn_of _ (by decide +kernel)) ggX9_leaf_X9_codeOf
set_option maxRecDepth 20000 in
theorem ggX9_leaf_X9_upTo : GoodIn wsX9_leaf wsX9_upTo := goodIn_r _ [55, 15, 56, 57, 58, 3, 59, 46, 49, 50, 51, 60, 61, 62, 63, 64, 65, 66, 67, 68, 69, 70, 71, 72, 73, 74, 75, 76, 77, 78, 79, 80, 81] (by decide +kernel) (by decide +kernel)
set_option maxRecDepth 20000 in
theorem gX9_leaf_X9_upTo : GoodIn wsX9_leaf (wsV RX9 231 RX9 yX9_upTo wsX9_upTo) := goodIn_app (goodIn_of _ (by decide +kernel)) ggX9_leaf_X9_upTo
set_option maxRecDepth 20000 in
theorem ggX9_leaf_X9_codeOfLeaf : GoodIn wsX9_leaf wsX9_codeOfLeaf := goodIn_r _ [59, 46, 49, 50, 3, 51, 60, 61, 62, 63, 64, 65, 66, 67, 68, 69, 70, 71, 72, 73, 74, 75, 76, 77, 78, 79, 80, 81] (by decide +kernel) (by decide +kernel)
set_option maxRecDepth 20000 in
theorem gX9_leaf_X9_codeOfLeaf : GoodIn wsX9_leaf (wsV RX9 221 RX9 yX9_codeOfLeaf wsX9_codeOfLeaf) := goodIn_app (goodIn_of _ (by decide +kernel)) ggX9_leaf_X9_codeOfLeaf
theorem dX9_leaf_0 : decode cX9_leaf 0 = .ok (.iload_n 1, 1) := by decide +kernel
theorem dX9_leaf_1 : decode cX9_leaf 1 = .ok (.iload_n 2, 1) := by decide +kernel
theorem dX9_leaf_2 : decode cX9_leaf 2 = .ok (.iload_n 3, 1) := by decide +kernel
theorem dX9_leaf_3 : decode cX9_leaf 3 = .ok (.iload 4, 2) := by decide +kernel
theorem dX9_leaf_5 : decode cX9_leaf 5 = .ok (.invokestatic 224, 3) := by decide +kernel
theorem dX9_leaf_8 : decode cX9_leaf 8 = .ok (.ifCond .ne 5, 3) := by decide +kernel
theorem dX9_leaf_11 : decode cX9_leaf 11 = .ok (.iconst (-1), 1) := by decide +kernel
theorem dX9_leaf_12 : decode cX9_leaf 12 = .ok (.ireturn, 1) := by decide +kernel
theorem dX9_leaf_13 : decode cX9_leaf 13 = .ok (.aload_n 0, 1) := by decide +kernel
theorem dX9_leaf_14 : decode cX9_leaf 14 = .ok (.invokevirtual 228, 3) := by decide +kernel
theorem dX9_leaf_17 : decode cX9_leaf 17 = .ok (.aload_n 0, 1) := by decide +kernel
theorem dX9_leaf_18 : decode cX9_leaf 18 = .ok (.iload_n 1, 1) := by decide +kernel
theorem dX9_leaf_19 : decode cX9_leaf 19 = .ok (.iload_n 2, 1) := by decide +kernel
theorem dX9_leaf_20 : decode cX9_leaf 20 = .ok (.iload_n 3, 1) := by decide +kernel
theorem dX9_leaf_21 : decode cX9_leaf 21 = .ok (.iload 4, 2) := by decide +kernel
theorem dX9_leaf_23 : decode cX9_leaf 23 = .ok (.invokestatic 218, 3) := by decide +kernel
theorem dX9_leaf_26 : decode cX9_leaf 26 = .ok (.invokevirtual 231, 3) := by decide +kernel
theorem dX9_leaf_29 : decode cX9_leaf 29 = .ok (.iconst 1, 1) := by decide +kernel
theorem dX9_leaf_30 : decode cX9_leaf 30 = .ok (.isub, 1) := by decide +kernel
theorem dX9_leaf_31 : decode cX9_leaf 31 = .ok (.istore 5, 2) := by decide +kernel
theorem dX9_leaf_33 : decode cX9_leaf 33 = .ok (.iload 5, 2) := by decide +kernel
theorem dX9_leaf_35 : decode cX9_leaf 35 = .ok (.ifCond .lt 25, 3) := by decide +kernel
theorem dX9_leaf_38 : decode cX9_leaf 38 = .ok (.aload_n 0, 1) := by decide +kernel
theorem dX9_leaf_39 : decode cX9_leaf 39 = .ok (.iload 5, 2) := by decide +kernel
theorem dX9_leaf_41 : decode cX9_leaf 41 = .ok (.invokevirtual 221, 3) := by decide +kernel
theorem dX9_leaf_44 : decode cX9_leaf 44 = .ok (.iload_n 1, 1) := by decide +kernel
theorem dX9_leaf_45 : decode cX9_leaf 45 = .ok (.iload_n 2, 1) := by decide +kernel
theorem dX9_leaf_46 : decode cX9_leaf 46 = .ok (.iload_n 3, 1) := by decide +kernel
theorem dX9_leaf_47 : decode cX9_leaf 47 = .ok (.iload 4, 2) := by decide +kernel
theorem dX9_leaf_49 : decode cX9_leaf 49 = .ok (.invokestatic 218, 3) := by decide +kernel
theorem dX9_leaf_52 : decode cX9_leaf 52 = .ok (.if_icmp .ne 8, 3) := by decide +kernel
theorem dX9_leaf_55 : decode cX9_leaf 55 = .ok (.iload 5, 2) := by decide +kernel
theorem dX9_leaf_57 : decode cX9_leaf 57 = .ok (.goto 5, 3) := by decide +kernel
theorem dX9_leaf_60 : decode cX9_leaf 60 = .ok (.bipush (-9), 2) := by decide +kernel
theorem dX9_leaf_62 : decode cX9_leaf 62 = .ok (.ireturn, 1) := by decide +kernel
set_option maxRecDepth 20000 in
theorem ggX9_told_X9_laysLeaves : GoodIn wsX9_told wsX9_laysLeaves := goodIn_r _ [9, 1, 10, 11, 12, 13, 14, 8, 15, 16, 17, 18, 19, 20, 21, 22, 23, 24, 25, 26, 27, 28, 29, 30, 31, 32, 33, 34, 35, 36, 37, 38, 39, 2, 3, 4, 43, 44, 45, 46, 47, 48, 49, 50, 51, 52, 53, 54, 55, 56, 57, 58, 59, 60, 61, 62, 63, 64] (by decide +kernel) (by decide +kernel)
set_option maxRecDepth 20000 in
theorem gX9_told_X9_laysLeaves : GoodIn wsX9_told (wsV RX9 228 RX9 yX9_laysLeaves wsX9_laysLeaves) := goodIn_app (goodIn_of _ (by decide +kernel)) ggX9_told_X9_laysLeaves
set_option maxRecDepth 20000 in
theorem ggX9_told_X9_within : GoodIn wsX9_told wsX9_within := goodIn_r _ [42] (by decide +kernel) (by decide +kernel)
set_option maxRecDepth 20000 in
theorem gX9_told_X9_within : GoodIn wsX9_told (va_wsS RX9 98 yX9_within wsX9_within) := goodIn_app (goodIn_of _ (by decide +kernel)) ggX9_told_X9_within
theorem dX9_told_0 : decode cX9_told 0 = .ok (.aload_n 0, 1) := by decide +kernel
theorem dX9_told_1 : decode cX9_told 1 = .ok (.invokevirtual 228, 3) := by decide +kernel
theorem dX9_told_4 : decode cX9_told 4 = .ok (.iload_n 1, 1) := by decide +kernel
theorem dX9_told_5 : decode cX9_told 5 = .ok (.iconst 0, 1) := by decide +kernel
theorem dX9_told_6 : decode cX9_told 6 = .ok (.aload_n 0, 1) := by decide +kernel
theorem dX9_told_7 : decode cX9_told 7 = .ok (.getfield 75, 3) := by decide +kernel
theorem dX9_told_10 : decode cX9_told 10 = .ok (.iconst 1, 1) := by decide +kernel
theorem dX9_told_11 : decode cX9_told 11 = .ok (.isub, 1) := by decide +kernel
theorem dX9_told_12 : decode cX9_told 12 = .ok (.invokestatic 98, 3) := by decide +kernel
theorem dX9_told_15 : decode cX9_told 15 = .ok (.ifCond .eq 12, 3) := by decide +kernel
theorem dX9_told_18 : decode cX9_told 18 = .ok (.iload_n 2, 1) := by decide +kernel
theorem dX9_told_19 : decode cX9_told 19 = .ok (.iconst 0, 1) := by decide +kernel
theorem dX9_told_20 : decode cX9_told 20 = .ok (.iconst 5, 1) := by decide +kernel
theorem dX9_told_21 : decode cX9_told 21 = .ok (.invokestatic 98, 3) := by decide +kernel
theorem dX9_told_24 : decode cX9_told 24 = .ok (.ifCond .ne 6, 3) := by decide +kernel
theorem dX9_told_27 : decode cX9_told 27 = .ok (.bipush (-5), 2) := by decide +kernel
theorem dX9_told_29 : decode cX9_told 29 = .ok (.ireturn, 1) := by decide +kernel
theorem dX9_told_30 : decode cX9_told 30 = .ok (.iload_n 2, 1) := by decide +kernel
theorem dX9_told_31 : decode cX9_told 31 = .ok (.iconst 4, 1) := by decide +kernel
theorem dX9_told_32 : decode cX9_told 32 = .ok (.if_icmp .ge 16, 3) := by decide +kernel
theorem dX9_told_35 : decode cX9_told 35 = .ok (.aload_n 0, 1) := by decide +kernel
theorem dX9_told_36 : decode cX9_told 36 = .ok (.getfield 32, 3) := by decide +kernel
theorem dX9_told_39 : decode cX9_told 39 = .ok (.iconst 4, 1) := by decide +kernel
theorem dX9_told_40 : decode cX9_told 40 = .ok (.iload_n 1, 1) := by decide +kernel
theorem dX9_told_41 : decode cX9_told 41 = .ok (.imul, 1) := by decide +kernel
theorem dX9_told_42 : decode cX9_told 42 = .ok (.iload_n 2, 1) := by decide +kernel
theorem dX9_told_43 : decode cX9_told 43 = .ok (.iadd, 1) := by decide +kernel
theorem dX9_told_44 : decode cX9_told 44 = .ok (.iaload, 1) := by decide +kernel
theorem dX9_told_45 : decode cX9_told 45 = .ok (.goto 23, 3) := by decide +kernel
theorem dX9_told_48 : decode cX9_told 48 = .ok (.iload_n 2, 1) := by decide +kernel
theorem dX9_told_49 : decode cX9_told 49 = .ok (.iconst 4, 1) := by decide +kernel
theorem dX9_told_50 : decode cX9_told 50 = .ok (.if_icmp .ne 12, 3) := by decide +kernel
theorem dX9_told_53 : decode cX9_told 53 = .ok (.aload_n 0, 1) := by decide +kernel
theorem dX9_told_54 : decode cX9_told 54 = .ok (.getfield 35, 3) := by decide +kernel
theorem dX9_told_57 : decode cX9_told 57 = .ok (.iload_n 1, 1) := by decide +kernel
theorem dX9_told_58 : decode cX9_told 58 = .ok (.iaload, 1) := by decide +kernel
theorem dX9_told_59 : decode cX9_told 59 = .ok (.goto 9, 3) := by decide +kernel
theorem dX9_told_62 : decode cX9_told 62 = .ok (.aload_n 0, 1) := by decide +kernel
theorem dX9_told_63 : decode cX9_told 63 = .ok (.getfield 38, 3) := by decide +kernel
theorem dX9_told_66 : decode cX9_told 66 = .ok (.iload_n 1, 1) := by decide +kernel
theorem dX9_told_67 : decode cX9_told 67 = .ok (.iaload, 1) := by decide +kernel
theorem dX9_told_68 : decode cX9_told 68 = .ok (.ireturn, 1) := by decide +kernel
set_option maxRecDepth 20000 in
theorem ggX9_next_X9_isName : GoodIn wsX9_next wsX9_isName := goodIn_r _ [5, 6, 7, 4, 8, 9, 10, 11] (by decide +kernel) (by decide +kernel)
set_option maxRecDepth 20000 in
theorem gX9_next_X9_isName : GoodIn wsX9_next (va_wsS RX9 224 yX9_isName wsX9_isName) := goodIn_app (goodIn_of _ (by decide +kernel)) ggX9_next_X9_isName
set_option maxRecDepth 20000 in
theorem ggX9_next_X9_laysLeaves : GoodIn wsX9_next wsX9_laysLeaves := goodIn_r _ [15, 1, 16, 17, 18, 19, 20, 4, 21, 22, 23, 24, 25, 26, 27, 28, 29, 30, 31, 32, 33, 34, 35, 36, 37, 38, 39, 40, 41, 42, 43, 44, 45, 46, 47, 48, 60, 61, 62, 63, 64, 65, 66, 67, 68, 69, 70, 71, 72, 73, 74, 75, 76, 77, 78, 79, 80, 81] (by decide +kernel) (by decide +kernel)
set_option maxRecDepth 20000 in
theorem gX9_next_X9_laysLeaves : GoodIn wsX9_next (wsV RX9 228 RX9 yX9_laysLeaves wsX9_laysLeaves) := goodIn_app (goodIn_of _ (by decide +kernel)) ggX9_next_X9_laysLeaves
set_option maxRecDepth 20000 in
theorem ggX9_next_X9_codeOf : GoodIn wsX9_next wsX9_codeOf := goodIn_r _ [51] (by decide +kernel) (by decide +kernel)
set_option maxRecDepth 20000 in
theorem gX9_next_X9_codeOf : GoodIn wsX9_next (va_wsS RX9 218 yX9_codeOf wsX9_codeOf) := goodIn_app (goodIn_of _ (by decide +kernel)) ggX9_next_X9_codeOf
set_option maxRecDepth 20000 in
theorem ggX9_next_X9_upTo : GoodIn wsX9_next wsX9_upTo := goodIn_r _ [55, 1, 56, 57, 58, 4, 59, 46, 49, 50, 51, 60, 61, 62, 63, 64, 65, 66, 67, 68, 69, 70, 71, 72, 73, 74, 75, 76, 77, 78, 79, 80, 81] (by decide +kernel) (by decide +kernel)
set_option maxRecDepth 20000 in
theorem gX9_next_X9_upTo : GoodIn wsX9_next (wsV RX9 231 RX9 yX9_upTo wsX9_upTo) := goodIn_app (goodIn_of _ (by decide +kernel)) ggX9_next_X9_upTo
theorem dX9_next_0 : decode cX9_next 0 = .ok (.iload_n 1, 1) := by decide +kernel
theorem dX9_next_1 : decode cX9_next 1 = .ok (.iload_n 2, 1) := by decide +kernel
theorem dX9_next_2 : decode cX9_next 2 = .ok (.iload_n 3, 1) := by decide +kernel
theorem dX9_next_3 : decode cX9_next 3 = .ok (.iload 4, 2) := by decide +kernel
theorem dX9_next_5 : decode cX9_next 5 = .ok (.invokestatic 224, 3) := by decide +kernel
theorem dX9_next_8 : decode cX9_next 8 = .ok (.ifCond .ne 5, 3) := by decide +kernel
theorem dX9_next_11 : decode cX9_next 11 = .ok (.iconst (-1), 1) := by decide +kernel
theorem dX9_next_12 : decode cX9_next 12 = .ok (.ireturn, 1) := by decide +kernel
theorem dX9_next_13 : decode cX9_next 13 = .ok (.aload_n 0, 1) := by decide +kernel
theorem dX9_next_14 : decode cX9_next 14 = .ok (.invokevirtual 228, 3) := by decide +kernel
theorem dX9_next_17 : decode cX9_next 17 = .ok (.aload_n 0, 1) := by decide +kernel
theorem dX9_next_18 : decode cX9_next 18 = .ok (.iload_n 1, 1) := by decide +kernel
theorem dX9_next_19 : decode cX9_next 19 = .ok (.iload_n 2, 1) := by decide +kernel
theorem dX9_next_20 : decode cX9_next 20 = .ok (.iload_n 3, 1) := by decide +kernel
theorem dX9_next_21 : decode cX9_next 21 = .ok (.iload 4, 2) := by decide +kernel
theorem dX9_next_23 : decode cX9_next 23 = .ok (.invokestatic 218, 3) := by decide +kernel
theorem dX9_next_26 : decode cX9_next 26 = .ok (.invokevirtual 231, 3) := by decide +kernel
theorem dX9_next_29 : decode cX9_next 29 = .ok (.istore 5, 2) := by decide +kernel
theorem dX9_next_31 : decode cX9_next 31 = .ok (.iload 5, 2) := by decide +kernel
theorem dX9_next_33 : decode cX9_next 33 = .ok (.aload_n 0, 1) := by decide +kernel
theorem dX9_next_34 : decode cX9_next 34 = .ok (.getfield 75, 3) := by decide +kernel
theorem dX9_next_37 : decode cX9_next 37 = .ok (.if_icmp .ge 8, 3) := by decide +kernel
theorem dX9_next_40 : decode cX9_next 40 = .ok (.iload 5, 2) := by decide +kernel
theorem dX9_next_42 : decode cX9_next 42 = .ok (.goto 5, 3) := by decide +kernel
theorem dX9_next_45 : decode cX9_next 45 = .ok (.bipush (-9), 2) := by decide +kernel
theorem dX9_next_47 : decode cX9_next 47 = .ok (.ireturn, 1) := by decide +kernel
theorem dX9_roomOf_0 : decode cX9_roomOf 0 = .ok (.aload_n 0, 1) := by decide +kernel
theorem dX9_roomOf_1 : decode cX9_roomOf 1 = .ok (.getfield 32, 3) := by decide +kernel
theorem dX9_roomOf_4 : decode cX9_roomOf 4 = .ok (.iconst 4, 1) := by decide +kernel
theorem dX9_roomOf_5 : decode cX9_roomOf 5 = .ok (.iload_n 1, 1) := by decide +kernel
theorem dX9_roomOf_6 : decode cX9_roomOf 6 = .ok (.imul, 1) := by decide +kernel
theorem dX9_roomOf_7 : decode cX9_roomOf 7 = .ok (.iconst 3, 1) := by decide +kernel
theorem dX9_roomOf_8 : decode cX9_roomOf 8 = .ok (.iadd, 1) := by decide +kernel
theorem dX9_roomOf_9 : decode cX9_roomOf 9 = .ok (.iaload, 1) := by decide +kernel
theorem dX9_roomOf_10 : decode cX9_roomOf 10 = .ok (.ifCond .ge 7, 3) := by decide +kernel
theorem dX9_roomOf_13 : decode cX9_roomOf 13 = .ok (.iconst 3, 1) := by decide +kernel
theorem dX9_roomOf_14 : decode cX9_roomOf 14 = .ok (.goto 4, 3) := by decide +kernel
theorem dX9_roomOf_17 : decode cX9_roomOf 17 = .ok (.iconst 4, 1) := by decide +kernel
theorem dX9_roomOf_18 : decode cX9_roomOf 18 = .ok (.istore_n 2, 1) := by decide +kernel
theorem dX9_roomOf_19 : decode cX9_roomOf 19 = .ok (.iload_n 2, 1) := by decide +kernel
theorem dX9_roomOf_20 : decode cX9_roomOf 20 = .ok (.aload_n 0, 1) := by decide +kernel
theorem dX9_roomOf_21 : decode cX9_roomOf 21 = .ok (.getfield 35, 3) := by decide +kernel
theorem dX9_roomOf_24 : decode cX9_roomOf 24 = .ok (.iload_n 1, 1) := by decide +kernel
theorem dX9_roomOf_25 : decode cX9_roomOf 25 = .ok (.iaload, 1) := by decide +kernel
theorem dX9_roomOf_26 : decode cX9_roomOf 26 = .ok (.bipush 99, 2) := by decide +kernel
theorem dX9_roomOf_28 : decode cX9_roomOf 28 = .ok (.if_icmp .le 7, 3) := by decide +kernel
theorem dX9_roomOf_31 : decode cX9_roomOf 31 = .ok (.iconst 3, 1) := by decide +kernel
theorem dX9_roomOf_32 : decode cX9_roomOf 32 = .ok (.goto 19, 3) := by decide +kernel
theorem dX9_roomOf_35 : decode cX9_roomOf 35 = .ok (.aload_n 0, 1) := by decide +kernel
theorem dX9_roomOf_36 : decode cX9_roomOf 36 = .ok (.getfield 35, 3) := by decide +kernel
theorem dX9_roomOf_39 : decode cX9_roomOf 39 = .ok (.iload_n 1, 1) := by decide +kernel
theorem dX9_roomOf_40 : decode cX9_roomOf 40 = .ok (.iaload, 1) := by decide +kernel
theorem dX9_roomOf_41 : decode cX9_roomOf 41 = .ok (.bipush 9, 2) := by decide +kernel
theorem dX9_roomOf_43 : decode cX9_roomOf 43 = .ok (.if_icmp .le 7, 3) := by decide +kernel
theorem dX9_roomOf_46 : decode cX9_roomOf 46 = .ok (.iconst 2, 1) := by decide +kernel
theorem dX9_roomOf_47 : decode cX9_roomOf 47 = .ok (.goto 4, 3) := by decide +kernel
theorem dX9_roomOf_50 : decode cX9_roomOf 50 = .ok (.iconst 1, 1) := by decide +kernel
theorem dX9_roomOf_51 : decode cX9_roomOf 51 = .ok (.iadd, 1) := by decide +kernel
theorem dX9_roomOf_52 : decode cX9_roomOf 52 = .ok (.ireturn, 1) := by decide +kernel
set_option maxRecDepth 20000 in
theorem ggX9_bulkFrom_X9_roomOf : GoodIn wsX9_bulkFrom wsX9_roomOf := goodIn_r _ [6, 7, 8, 9, 10, 11, 12, 13, 14, 15, 16, 17, 18, 19, 20, 21, 22, 23, 24, 25, 26, 27, 28, 29, 30] (by decide +kernel) (by decide +kernel)
set_option maxRecDepth 20000 in
theorem gX9_bulkFrom_X9_roomOf : GoodIn wsX9_bulkFrom (wsV RX9 234 RX9 yX9_roomOf wsX9_roomOf) := goodIn_app (goodIn_of _ (by decide +kernel)) ggX9_bulkFrom_X9_roomOf
theorem dX9_bulkFrom_0 : decode cX9_bulkFrom 0 = .ok (.iconst 0, 1) := by decide +kernel
theorem dX9_bulkFrom_1 : decode cX9_bulkFrom 1 = .ok (.istore 4, 2) := by decide +kernel
theorem dX9_bulkFrom_3 : decode cX9_bulkFrom 3 = .ok (.iload_n 3, 1) := by decide +kernel
theorem dX9_bulkFrom_4 : decode cX9_bulkFrom 4 = .ok (.istore 5, 2) := by decide +kernel
theorem dX9_bulkFrom_6 : decode cX9_bulkFrom 6 = .ok (.iload 4, 2) := by decide +kernel
theorem dX9_bulkFrom_8 : decode cX9_bulkFrom 8 = .ok (.iload_n 2, 1) := by decide +kernel
theorem dX9_bulkFrom_9 : decode cX9_bulkFrom 9 = .ok (.if_icmp .ge 46, 3) := by decide +kernel
theorem dX9_bulkFrom_12 : decode cX9_bulkFrom 12 = .ok (.iload_n 1, 1) := by decide +kernel
theorem dX9_bulkFrom_13 : decode cX9_bulkFrom 13 = .ok (.iload 4, 2) := by decide +kernel
theorem dX9_bulkFrom_15 : decode cX9_bulkFrom 15 = .ok (.iadd, 1) := by decide +kernel
theorem dX9_bulkFrom_16 : decode cX9_bulkFrom 16 = .ok (.aload_n 0, 1) := by decide +kernel
theorem dX9_bulkFrom_17 : decode cX9_bulkFrom 17 = .ok (.getfield 75, 3) := by decide +kernel
theorem dX9_bulkFrom_20 : decode cX9_bulkFrom 20 = .ok (.if_icmp .ge 35, 3) := by decide +kernel
theorem dX9_bulkFrom_23 : decode cX9_bulkFrom 23 = .ok (.aload_n 0, 1) := by decide +kernel
theorem dX9_bulkFrom_24 : decode cX9_bulkFrom 24 = .ok (.iload_n 1, 1) := by decide +kernel
theorem dX9_bulkFrom_25 : decode cX9_bulkFrom 25 = .ok (.iload 4, 2) := by decide +kernel
theorem dX9_bulkFrom_27 : decode cX9_bulkFrom 27 = .ok (.iadd, 1) := by decide +kernel
theorem dX9_bulkFrom_28 : decode cX9_bulkFrom 28 = .ok (.invokevirtual 234, 3) := by decide +kernel
theorem dX9_bulkFrom_31 : decode cX9_bulkFrom 31 = .ok (.iload 5, 2) := by decide +kernel
theorem dX9_bulkFrom_33 : decode cX9_bulkFrom 33 = .ok (.if_icmp .gt 22, 3) := by decide +kernel
theorem dX9_bulkFrom_36 : decode cX9_bulkFrom 36 = .ok (.iload 5, 2) := by decide +kernel
theorem dX9_bulkFrom_38 : decode cX9_bulkFrom 38 = .ok (.aload_n 0, 1) := by decide +kernel
theorem dX9_bulkFrom_39 : decode cX9_bulkFrom 39 = .ok (.iload_n 1, 1) := by decide +kernel
theorem dX9_bulkFrom_40 : decode cX9_bulkFrom 40 = .ok (.iload 4, 2) := by decide +kernel
theorem dX9_bulkFrom_42 : decode cX9_bulkFrom 42 = .ok (.iadd, 1) := by decide +kernel
theorem dX9_bulkFrom_43 : decode cX9_bulkFrom 43 = .ok (.invokevirtual 234, 3) := by decide +kernel
theorem dX9_bulkFrom_46 : decode cX9_bulkFrom 46 = .ok (.isub, 1) := by decide +kernel
theorem dX9_bulkFrom_47 : decode cX9_bulkFrom 47 = .ok (.istore 5, 2) := by decide +kernel
theorem dX9_bulkFrom_49 : decode cX9_bulkFrom 49 = .ok (.iinc 4 1, 3) := by decide +kernel
theorem dX9_bulkFrom_52 : decode cX9_bulkFrom 52 = .ok (.goto (-46), 3) := by decide +kernel
theorem dX9_bulkFrom_55 : decode cX9_bulkFrom 55 = .ok (.iload 4, 2) := by decide +kernel
theorem dX9_bulkFrom_57 : decode cX9_bulkFrom 57 = .ok (.ireturn, 1) := by decide +kernel
set_option maxRecDepth 20000 in
theorem ggX9_bulk_X9_isName : GoodIn wsX9_bulk wsX9_isName := goodIn_r _ [4, 5, 6, 3, 7, 8, 9, 10] (by decide +kernel) (by decide +kernel)
set_option maxRecDepth 20000 in
theorem gX9_bulk_X9_isName : GoodIn wsX9_bulk (va_wsS RX9 224 yX9_isName wsX9_isName) := goodIn_app (goodIn_of _ (by decide +kernel)) ggX9_bulk_X9_isName
set_option maxRecDepth 20000 in
theorem ggX9_bulk_X9_within : GoodIn wsX9_bulk wsX9_within := goodIn_r _ [7] (by decide +kernel) (by decide +kernel)
set_option maxRecDepth 20000 in
theorem gX9_bulk_X9_within : GoodIn wsX9_bulk (va_wsS RX9 98 yX9_within wsX9_within) := goodIn_app (goodIn_of _ (by decide +kernel)) ggX9_bulk_X9_within
set_option maxRecDepth 20000 in
theorem ggX9_bulk_X9_laysLeaves : GoodIn wsX9_bulk wsX9_laysLeaves := goodIn_r _ [14, 15, 16, 17, 18, 19, 20, 3, 21, 22, 23, 24, 25, 26, 27, 28, 29, 30, 31, 32, 33, 34, 35, 36, 37, 38, 39, 40, 41, 42, 43, 44, 45, 46, 47, 48, 68, 69, 70, 71, 72, 73, 74, 75, 76, 77, 78, 79, 80, 81, 82, 83, 84, 85, 86, 87, 88, 89] (by decide +kernel) (by decide +kernel)
set_option maxRecDepth 20000 in
theorem gX9_bulk_X9_laysLeaves : GoodIn wsX9_bulk (wsV RX9 228 RX9 yX9_laysLeaves wsX9_laysLeaves) := goodIn_app (goodIn_of _ (by decide +kernel)) ggX9_bulk_X9_laysLeaves
set_option maxRecDepth 20000 in
theorem ggX9_bulk_X9_codeOf : GoodIn wsX9_bulk wsX9_codeOf := goodIn_r _ [51] (by decide +kernel) (by decide +kernel)
set_option maxRecDepth 20000 in
theorem gX9_bulk_X9_codeOf : GoodIn wsX9_bulk (va_wsS RX9 218 yX9_codeOf wsX9_codeOf) := goodIn_app (goodIn_of _ (by decide +kernel)) ggX9_bulk_X9_codeOf
set_option maxRecDepth 20000 in
theorem ggX9_bulk_X9_upTo : GoodIn wsX9_bulk wsX9_upTo := goodIn_r _ [55, 15, 56, 57, 58, 3, 59, 46, 49, 50, 51, 68, 69, 70, 71, 72, 73, 74, 75, 76, 77, 78, 79, 80, 81, 82, 83, 84, 85, 86, 87, 88, 89] (by decide +kernel) (by decide +kernel)
set_option maxRecDepth 20000 in
theorem gX9_bulk_X9_upTo : GoodIn wsX9_bulk (wsV RX9 231 RX9 yX9_upTo wsX9_upTo) := goodIn_app (goodIn_of _ (by decide +kernel)) ggX9_bulk_X9_upTo
set_option maxRecDepth 20000 in
theorem ggX9_bulk_X9_bulkFrom : GoodIn wsX9_bulk wsX9_bulkFrom := goodIn_r _ [63, 15, 64, 65, 66, 3, 67, 46, 47, 68, 69, 70, 71, 72, 73, 74, 75, 76, 77, 78, 79, 80, 81, 82, 83, 84, 85, 86, 87, 88, 89] (by decide +kernel) (by decide +kernel)
set_option maxRecDepth 20000 in
theorem gX9_bulk_X9_bulkFrom : GoodIn wsX9_bulk (wsV RX9 237 RX9 yX9_bulkFrom wsX9_bulkFrom) := goodIn_app (goodIn_of _ (by decide +kernel)) ggX9_bulk_X9_bulkFrom
theorem dX9_bulk_0 : decode cX9_bulk 0 = .ok (.iload_n 1, 1) := by decide +kernel
theorem dX9_bulk_1 : decode cX9_bulk 1 = .ok (.iload_n 2, 1) := by decide +kernel
theorem dX9_bulk_2 : decode cX9_bulk 2 = .ok (.iload_n 3, 1) := by decide +kernel
theorem dX9_bulk_3 : decode cX9_bulk 3 = .ok (.iload 4, 2) := by decide +kernel
theorem dX9_bulk_5 : decode cX9_bulk 5 = .ok (.invokestatic 224, 3) := by decide +kernel
theorem dX9_bulk_8 : decode cX9_bulk 8 = .ok (.ifCond .eq 26, 3) := by decide +kernel
theorem dX9_bulk_11 : decode cX9_bulk 11 = .ok (.iload 5, 2) := by decide +kernel
theorem dX9_bulk_13 : decode cX9_bulk 13 = .ok (.iconst 0, 1) := by decide +kernel
theorem dX9_bulk_14 : decode cX9_bulk 14 = .ok (.bipush 99, 2) := by decide +kernel
theorem dX9_bulk_16 : decode cX9_bulk 16 = .ok (.invokestatic 98, 3) := by decide +kernel
theorem dX9_bulk_19 : decode cX9_bulk 19 = .ok (.ifCond .eq 15, 3) := by decide +kernel
theorem dX9_bulk_22 : decode cX9_bulk 22 = .ok (.iload 6, 2) := by decide +kernel
theorem dX9_bulk_24 : decode cX9_bulk 24 = .ok (.iconst 0, 1) := by decide +kernel
theorem dX9_bulk_25 : decode cX9_bulk 25 = .ok (.sipush 999, 3) := by decide +kernel
theorem dX9_bulk_28 : decode cX9_bulk 28 = .ok (.invokestatic 98, 3) := by decide +kernel
theorem dX9_bulk_31 : decode cX9_bulk 31 = .ok (.ifCond .ne 5, 3) := by decide +kernel
theorem dX9_bulk_34 : decode cX9_bulk 34 = .ok (.iconst (-1), 1) := by decide +kernel
theorem dX9_bulk_35 : decode cX9_bulk 35 = .ok (.ireturn, 1) := by decide +kernel
theorem dX9_bulk_36 : decode cX9_bulk 36 = .ok (.aload_n 0, 1) := by decide +kernel
theorem dX9_bulk_37 : decode cX9_bulk 37 = .ok (.invokevirtual 228, 3) := by decide +kernel
theorem dX9_bulk_40 : decode cX9_bulk 40 = .ok (.aload_n 0, 1) := by decide +kernel
theorem dX9_bulk_41 : decode cX9_bulk 41 = .ok (.aload_n 0, 1) := by decide +kernel
theorem dX9_bulk_42 : decode cX9_bulk 42 = .ok (.iload_n 1, 1) := by decide +kernel
theorem dX9_bulk_43 : decode cX9_bulk 43 = .ok (.iload_n 2, 1) := by decide +kernel
theorem dX9_bulk_44 : decode cX9_bulk 44 = .ok (.iload_n 3, 1) := by decide +kernel
theorem dX9_bulk_45 : decode cX9_bulk 45 = .ok (.iload 4, 2) := by decide +kernel
theorem dX9_bulk_47 : decode cX9_bulk 47 = .ok (.invokestatic 218, 3) := by decide +kernel
theorem dX9_bulk_50 : decode cX9_bulk 50 = .ok (.invokevirtual 231, 3) := by decide +kernel
theorem dX9_bulk_53 : decode cX9_bulk 53 = .ok (.iload 5, 2) := by decide +kernel
theorem dX9_bulk_55 : decode cX9_bulk 55 = .ok (.iload 6, 2) := by decide +kernel
theorem dX9_bulk_57 : decode cX9_bulk 57 = .ok (.invokevirtual 237, 3) := by decide +kernel
theorem dX9_bulk_60 : decode cX9_bulk 60 = .ok (.ireturn, 1) := by decide +kernel
set_option maxRecDepth 20000 in
theorem ggX9_walk_X9_within : GoodIn wsX9_walk wsX9_within := goodIn_r _ [5] (by decide +kernel) (by decide +kernel)
set_option maxRecDepth 20000 in
theorem gX9_walk_X9_within : GoodIn wsX9_walk (va_wsS RX9 98 yX9_within wsX9_within) := goodIn_app (goodIn_of _ (by decide +kernel)) ggX9_walk_X9_within
set_option maxRecDepth 20000 in
theorem ggX9_walk_X9_laysLeaves : GoodIn wsX9_walk wsX9_laysLeaves := goodIn_r _ [9, 1, 10, 11, 12, 13, 14, 4, 15, 16, 17, 18, 19, 20, 21, 22, 23, 24, 25, 26, 27, 28, 29, 30, 31, 32, 33, 34, 35, 36, 37, 38, 39, 40, 41, 42, 51, 52, 53, 54, 55, 56, 57, 58, 59, 60, 61, 62, 63, 64, 65, 66, 67, 68, 69, 70, 71, 72] (by decide +kernel) (by decide +kernel)
set_option maxRecDepth 20000 in
theorem gX9_walk_X9_laysLeaves : GoodIn wsX9_walk (wsV RX9 228 RX9 yX9_laysLeaves wsX9_laysLeaves) := goodIn_app (goodIn_of _ (by decide +kernel)) ggX9_walk_X9_laysLeaves
set_option maxRecDepth 20000 in
theorem ggX9_walk_X9_bulkFrom : GoodIn wsX9_walk wsX9_bulkFrom := goodIn_r _ [46, 1, 47, 48, 49, 4, 50, 40, 41, 51, 52, 53, 54, 55, 56, 57, 58, 59, 60, 61, 62, 63, 64, 65, 66, 67, 68, 69, 70, 71, 72] (by decide +kernel) (by decide +kernel)
set_option maxRecDepth 20000 in
theorem gX9_walk_X9_bulkFrom : GoodIn wsX9_walk (wsV RX9 237 RX9 yX9_bulkFrom wsX9_bulkFrom) := goodIn_app (goodIn_of _ (by decide +kernel)) ggX9_walk_X9_bulkFrom
theorem dX9_walk_0 : decode cX9_walk 0 = .ok (.iload_n 1, 1) := by decide +kernel
theorem dX9_walk_1 : decode cX9_walk 1 = .ok (.iconst 0, 1) := by decide +kernel
theorem dX9_walk_2 : decode cX9_walk 2 = .ok (.sipush 999, 3) := by decide +kernel
theorem dX9_walk_5 : decode cX9_walk 5 = .ok (.invokestatic 98, 3) := by decide +kernel
theorem dX9_walk_8 : decode cX9_walk 8 = .ok (.ifCond .ne 5, 3) := by decide +kernel
theorem dX9_walk_11 : decode cX9_walk 11 = .ok (.iconst (-1), 1) := by decide +kernel
theorem dX9_walk_12 : decode cX9_walk 12 = .ok (.ireturn, 1) := by decide +kernel
theorem dX9_walk_13 : decode cX9_walk 13 = .ok (.aload_n 0, 1) := by decide +kernel
theorem dX9_walk_14 : decode cX9_walk 14 = .ok (.invokevirtual 228, 3) := by decide +kernel
theorem dX9_walk_17 : decode cX9_walk 17 = .ok (.iconst 0, 1) := by decide +kernel
theorem dX9_walk_18 : decode cX9_walk 18 = .ok (.istore_n 2, 1) := by decide +kernel
theorem dX9_walk_19 : decode cX9_walk 19 = .ok (.iconst 0, 1) := by decide +kernel
theorem dX9_walk_20 : decode cX9_walk 20 = .ok (.istore_n 3, 1) := by decide +kernel
theorem dX9_walk_21 : decode cX9_walk 21 = .ok (.iload_n 3, 1) := by decide +kernel
theorem dX9_walk_22 : decode cX9_walk 22 = .ok (.aload_n 0, 1) := by decide +kernel
theorem dX9_walk_23 : decode cX9_walk 23 = .ok (.getfield 75, 3) := by decide +kernel
theorem dX9_walk_26 : decode cX9_walk 26 = .ok (.if_icmp .ge 32, 3) := by decide +kernel
theorem dX9_walk_29 : decode cX9_walk 29 = .ok (.aload_n 0, 1) := by decide +kernel
theorem dX9_walk_30 : decode cX9_walk 30 = .ok (.iload_n 3, 1) := by decide +kernel
theorem dX9_walk_31 : decode cX9_walk 31 = .ok (.bipush 99, 2) := by decide +kernel
theorem dX9_walk_33 : decode cX9_walk 33 = .ok (.iload_n 1, 1) := by decide +kernel
theorem dX9_walk_34 : decode cX9_walk 34 = .ok (.invokevirtual 237, 3) := by decide +kernel
theorem dX9_walk_37 : decode cX9_walk 37 = .ok (.istore 4, 2) := by decide +kernel
theorem dX9_walk_39 : decode cX9_walk 39 = .ok (.iload 4, 2) := by decide +kernel
theorem dX9_walk_41 : decode cX9_walk 41 = .ok (.ifCond .ne 6, 3) := by decide +kernel
theorem dX9_walk_44 : decode cX9_walk 44 = .ok (.bipush (-9), 2) := by decide +kernel
theorem dX9_walk_46 : decode cX9_walk 46 = .ok (.ireturn, 1) := by decide +kernel
theorem dX9_walk_47 : decode cX9_walk 47 = .ok (.iload_n 3, 1) := by decide +kernel
theorem dX9_walk_48 : decode cX9_walk 48 = .ok (.iload 4, 2) := by decide +kernel
theorem dX9_walk_50 : decode cX9_walk 50 = .ok (.iadd, 1) := by decide +kernel
theorem dX9_walk_51 : decode cX9_walk 51 = .ok (.istore_n 3, 1) := by decide +kernel
theorem dX9_walk_52 : decode cX9_walk 52 = .ok (.iinc 2 1, 3) := by decide +kernel
theorem dX9_walk_55 : decode cX9_walk 55 = .ok (.goto (-34), 3) := by decide +kernel
theorem dX9_walk_58 : decode cX9_walk 58 = .ok (.iload_n 2, 1) := by decide +kernel
theorem dX9_walk_59 : decode cX9_walk 59 = .ok (.ireturn, 1) := by decide +kernel
set_option maxRecDepth 20000 in
theorem ggX9_having_X9_laysLeaves : GoodIn wsX9_having wsX9_laysLeaves := goodIn_r _ [7, 1, 8, 9, 10, 11, 12, 6, 13, 14, 15, 16, 17, 18, 19, 20, 21, 22, 23, 24, 25, 26, 27, 28, 29, 30, 31, 32, 33, 34, 35, 36, 37, 38, 2, 39, 40, 41, 42, 43, 44, 45, 46, 47, 48, 49, 50, 51, 52, 53, 54, 55, 56, 57, 58, 59, 60, 61] (by decide +kernel) (by decide +kernel)
set_option maxRecDepth 20000 in
theorem gX9_having_X9_laysLeaves : GoodIn wsX9_having (wsV RX9 228 RX9 yX9_laysLeaves wsX9_laysLeaves) := goodIn_app (goodIn_of _ (by decide +kernel)) ggX9_having_X9_laysLeaves
theorem dX9_having_0 : decode cX9_having 0 = .ok (.iload_n 2, 1) := by decide +kernel
theorem dX9_having_1 : decode cX9_having 1 = .ok (.iconst (-1), 1) := by decide +kernel
theorem dX9_having_2 : decode cX9_having 2 = .ok (.if_icmp .ge 5, 3) := by decide +kernel
theorem dX9_having_5 : decode cX9_having 5 = .ok (.iconst (-1), 1) := by decide +kernel
theorem dX9_having_6 : decode cX9_having 6 = .ok (.ireturn, 1) := by decide +kernel
theorem dX9_having_7 : decode cX9_having 7 = .ok (.aload_n 0, 1) := by decide +kernel
theorem dX9_having_8 : decode cX9_having 8 = .ok (.invokevirtual 228, 3) := by decide +kernel
theorem dX9_having_11 : decode cX9_having 11 = .ok (.iconst 0, 1) := by decide +kernel
theorem dX9_having_12 : decode cX9_having 12 = .ok (.istore_n 3, 1) := by decide +kernel
theorem dX9_having_13 : decode cX9_having 13 = .ok (.iconst 0, 1) := by decide +kernel
theorem dX9_having_14 : decode cX9_having 14 = .ok (.istore 4, 2) := by decide +kernel
theorem dX9_having_16 : decode cX9_having 16 = .ok (.iload 4, 2) := by decide +kernel
theorem dX9_having_18 : decode cX9_having 18 = .ok (.aload_n 0, 1) := by decide +kernel
theorem dX9_having_19 : decode cX9_having 19 = .ok (.getfield 75, 3) := by decide +kernel
theorem dX9_having_22 : decode cX9_having 22 = .ok (.if_icmp .ge 31, 3) := by decide +kernel
theorem dX9_having_25 : decode cX9_having 25 = .ok (.aload_n 0, 1) := by decide +kernel
theorem dX9_having_26 : decode cX9_having 26 = .ok (.getfield 35, 3) := by decide +kernel
theorem dX9_having_29 : decode cX9_having 29 = .ok (.iload 4, 2) := by decide +kernel
theorem dX9_having_31 : decode cX9_having 31 = .ok (.iaload, 1) := by decide +kernel
theorem dX9_having_32 : decode cX9_having 32 = .ok (.iload_n 1, 1) := by decide +kernel
theorem dX9_having_33 : decode cX9_having 33 = .ok (.if_icmp .ne 14, 3) := by decide +kernel
theorem dX9_having_36 : decode cX9_having 36 = .ok (.iload_n 3, 1) := by decide +kernel
theorem dX9_having_37 : decode cX9_having 37 = .ok (.iload_n 2, 1) := by decide +kernel
theorem dX9_having_38 : decode cX9_having 38 = .ok (.if_icmp .ne 6, 3) := by decide +kernel
theorem dX9_having_41 : decode cX9_having 41 = .ok (.iload 4, 2) := by decide +kernel
theorem dX9_having_43 : decode cX9_having 43 = .ok (.ireturn, 1) := by decide +kernel
theorem dX9_having_44 : decode cX9_having 44 = .ok (.iinc 3 1, 3) := by decide +kernel
theorem dX9_having_47 : decode cX9_having 47 = .ok (.iinc 4 1, 3) := by decide +kernel
theorem dX9_having_50 : decode cX9_having 50 = .ok (.goto (-34), 3) := by decide +kernel
theorem dX9_having_53 : decode cX9_having 53 = .ok (.iload_n 2, 1) := by decide +kernel
theorem dX9_having_54 : decode cX9_having 54 = .ok (.iconst (-1), 1) := by decide +kernel
theorem dX9_having_55 : decode cX9_having 55 = .ok (.if_icmp .ne 7, 3) := by decide +kernel
theorem dX9_having_58 : decode cX9_having 58 = .ok (.iload_n 3, 1) := by decide +kernel
theorem dX9_having_59 : decode cX9_having 59 = .ok (.goto 5, 3) := by decide +kernel
theorem dX9_having_62 : decode cX9_having 62 = .ok (.bipush (-9), 2) := by decide +kernel
theorem dX9_having_64 : decode cX9_having 64 = .ok (.ireturn, 1) := by decide +kernel
set_option maxRecDepth 20000 in
theorem ggX9_isRow_X9_tables : GoodIn wsX9_isRow wsX9_tables := goodIn_r _ [5, 6, 7, 8, 9, 4, 10, 11, 12, 13, 14, 15, 19, 20, 21, 22, 23, 24, 25, 26, 27, 28, 29, 30, 31, 32, 33, 34, 35, 36, 37, 38, 39, 40] (by decide +kernel) (by decide +kernel)
set_option maxRecDepth 20000 in
theorem gX9_isRow_X9_tables : GoodIn wsX9_isRow (wsV RX9 176 RX9 yX9_tables wsX9_tables) := goodIn_app (goodIn_of _ (by decide +kernel)) ggX9_isRow_X9_tables
set_option maxRecDepth 20000 in
theorem ggX9_isRow_X9_within : GoodIn wsX9_isRow wsX9_within := goodIn_r _ [18] (by decide +kernel) (by decide +kernel)
set_option maxRecDepth 20000 in
theorem gX9_isRow_X9_within : GoodIn wsX9_isRow (va_wsS RX9 98 yX9_within wsX9_within) := goodIn_app (goodIn_of _ (by decide +kernel)) ggX9_isRow_X9_within
theorem dX9_isRow_0 : decode cX9_isRow 0 = .ok (.iload_n 1, 1) := by decide +kernel
theorem dX9_isRow_1 : decode cX9_isRow 1 = .ok (.iconst 0, 1) := by decide +kernel
theorem dX9_isRow_2 : decode cX9_isRow 2 = .ok (.aload_n 0, 1) := by decide +kernel
theorem dX9_isRow_3 : decode cX9_isRow 3 = .ok (.invokevirtual 176, 3) := by decide +kernel
theorem dX9_isRow_6 : decode cX9_isRow 6 = .ok (.iconst 1, 1) := by decide +kernel
theorem dX9_isRow_7 : decode cX9_isRow 7 = .ok (.isub, 1) := by decide +kernel
theorem dX9_isRow_8 : decode cX9_isRow 8 = .ok (.invokestatic 98, 3) := by decide +kernel
theorem dX9_isRow_11 : decode cX9_isRow 11 = .ok (.ifCond .eq 17, 3) := by decide +kernel
theorem dX9_isRow_14 : decode cX9_isRow 14 = .ok (.iload_n 2, 1) := by decide +kernel
theorem dX9_isRow_15 : decode cX9_isRow 15 = .ok (.iconst 1, 1) := by decide +kernel
theorem dX9_isRow_16 : decode cX9_isRow 16 = .ok (.bipush 9, 2) := by decide +kernel
theorem dX9_isRow_18 : decode cX9_isRow 18 = .ok (.invokestatic 98, 3) := by decide +kernel
theorem dX9_isRow_21 : decode cX9_isRow 21 = .ok (.ifCond .eq 7, 3) := by decide +kernel
theorem dX9_isRow_24 : decode cX9_isRow 24 = .ok (.iconst 1, 1) := by decide +kernel
theorem dX9_isRow_25 : decode cX9_isRow 25 = .ok (.goto 4, 3) := by decide +kernel
theorem dX9_isRow_28 : decode cX9_isRow 28 = .ok (.iconst 0, 1) := by decide +kernel
theorem dX9_isRow_29 : decode cX9_isRow 29 = .ok (.ireturn, 1) := by decide +kernel
set_option maxRecDepth 20000 in
theorem ggX9_status_X9_isRow : GoodIn wsX9_status wsX9_isRow := goodIn_r _ [5, 6, 7, 8, 4, 9, 10, 11, 12, 13, 14, 15, 16, 17, 18, 19, 20, 21, 22, 31, 32, 33, 34, 35, 36, 37, 38, 39, 40, 41, 42, 43, 44, 45, 46, 47, 48, 49, 50, 51, 52] (by decide +kernel) (by decide +kernel)
set_option maxRecDepth 20000 in
theorem gX9_status_X9_isRow : GoodIn wsX9_status (wsV RX9 241 RX9 yX9_isRow wsX9_isRow) := goodIn_app (goodIn_of _ (by decide +kernel)) ggX9_status_X9_isRow
set_option maxRecDepth 20000 in
theorem ggX9_status_X9_statusOf : GoodIn wsX9_status wsX9_statusOf := goodIn_r _ [26, 27, 28, 29, 4, 30, 31, 32, 33, 34, 35, 36, 37, 38, 39, 40, 41, 42, 43, 44, 45, 46, 47, 48, 49, 50, 51, 52] (by decide +kernel) (by decide +kernel)
set_option maxRecDepth 20000 in
theorem gX9_status_X9_statusOf : GoodIn wsX9_status (wsV RX9 78 RX9 yX9_statusOf wsX9_statusOf) := goodIn_app (goodIn_of _ (by decide +kernel)) ggX9_status_X9_statusOf
theorem dX9_status_0 : decode cX9_status 0 = .ok (.aload_n 0, 1) := by decide +kernel
theorem dX9_status_1 : decode cX9_status 1 = .ok (.iload_n 1, 1) := by decide +kernel
theorem dX9_status_2 : decode cX9_status 2 = .ok (.iload_n 2, 1) := by decide +kernel
theorem dX9_status_3 : decode cX9_status 3 = .ok (.invokevirtual 241, 3) := by decide +kernel
theorem dX9_status_6 : decode cX9_status 6 = .ok (.ifCond .eq 12, 3) := by decide +kernel
theorem dX9_status_9 : decode cX9_status 9 = .ok (.aload_n 0, 1) := by decide +kernel
theorem dX9_status_10 : decode cX9_status 10 = .ok (.iload_n 1, 1) := by decide +kernel
theorem dX9_status_11 : decode cX9_status 11 = .ok (.iload_n 2, 1) := by decide +kernel
theorem dX9_status_12 : decode cX9_status 12 = .ok (.invokevirtual 78, 3) := by decide +kernel
theorem dX9_status_15 : decode cX9_status 15 = .ok (.goto 4, 3) := by decide +kernel
theorem dX9_status_18 : decode cX9_status 18 = .ok (.iconst (-1), 1) := by decide +kernel
theorem dX9_status_19 : decode cX9_status 19 = .ok (.ireturn, 1) := by decide +kernel
set_option maxRecDepth 20000 in
theorem ggX9_needsOf_X9_statusOf : GoodIn wsX9_needsOf wsX9_statusOf := goodIn_r _ [5, 6, 7, 8, 4, 9, 36, 37, 38, 39, 40, 41, 42, 43, 44, 45, 46, 47, 48, 49, 50, 51, 52, 53, 54, 55, 56, 57] (by decide +kernel) (by decide +kernel)
set_option maxRecDepth 20000 in
theorem gX9_needsOf_X9_statusOf : GoodIn wsX9_needsOf (wsV RX9 78 RX9 yX9_statusOf wsX9_statusOf) := goodIn_app (goodIn_of _ (by decide +kernel)) ggX9_needsOf_X9_statusOf
set_option maxRecDepth 20000 in
theorem ggX9_needsOf_X9_missing : GoodIn wsX9_needsOf wsX9_missing := goodIn_r _ [13, 6, 14, 15, 16, 4, 17, 18, 19, 20, 21, 22, 23, 24, 25, 26, 27, 28, 29, 30, 31, 32, 33, 34, 35, 7, 8, 9, 36, 37, 38, 39, 40, 41, 42, 43, 44, 45, 46, 47, 48, 49, 50, 51, 52, 53, 54, 55, 56, 57] (by decide +kernel) (by decide +kernel)
set_option maxRecDepth 20000 in
theorem gX9_needsOf_X9_missing : GoodIn wsX9_needsOf (wsV RX9 160 RX9 yX9_missing wsX9_missing) := goodIn_app (goodIn_of _ (by decide +kernel)) ggX9_needsOf_X9_missing
set_option maxRecDepth 20000 in
theorem ggX9_needsOf_X9_columns : GoodIn wsX9_needsOf wsX9_columns := goodIn_r _ [17, 18, 19, 20, 4, 21, 22, 23, 24, 25, 26, 27, 28, 29, 30, 31, 32, 33, 34, 35, 36, 37, 38, 39, 40, 41, 42, 43, 44, 45, 46, 47, 48, 49, 50, 51, 52, 53, 54, 55, 56, 57] (by decide +kernel) (by decide +kernel)
set_option maxRecDepth 20000 in
theorem gX9_needsOf_X9_columns : GoodIn wsX9_needsOf (wsV RX9 72 RX9 yX9_columns wsX9_columns) := goodIn_app (goodIn_of _ (by decide +kernel)) ggX9_needsOf_X9_columns
theorem dX9_needsOf_0 : decode cX9_needsOf 0 = .ok (.aload_n 0, 1) := by decide +kernel
theorem dX9_needsOf_1 : decode cX9_needsOf 1 = .ok (.iload_n 1, 1) := by decide +kernel
theorem dX9_needsOf_2 : decode cX9_needsOf 2 = .ok (.iload_n 2, 1) := by decide +kernel
theorem dX9_needsOf_3 : decode cX9_needsOf 3 = .ok (.invokevirtual 78, 3) := by decide +kernel
theorem dX9_needsOf_6 : decode cX9_needsOf 6 = .ok (.tableswitch 39 1 3 #[26, 28, 30], 26) := by decide +kernel
theorem dX9_needsOf_32 : decode cX9_needsOf 32 = .ok (.iconst 0, 1) := by decide +kernel
theorem dX9_needsOf_33 : decode cX9_needsOf 33 = .ok (.ireturn, 1) := by decide +kernel
theorem dX9_needsOf_34 : decode cX9_needsOf 34 = .ok (.iconst 1, 1) := by decide +kernel
theorem dX9_needsOf_35 : decode cX9_needsOf 35 = .ok (.ireturn, 1) := by decide +kernel
theorem dX9_needsOf_36 : decode cX9_needsOf 36 = .ok (.aload_n 0, 1) := by decide +kernel
theorem dX9_needsOf_37 : decode cX9_needsOf 37 = .ok (.iload_n 1, 1) := by decide +kernel
theorem dX9_needsOf_38 : decode cX9_needsOf 38 = .ok (.iload_n 2, 1) := by decide +kernel
theorem dX9_needsOf_39 : decode cX9_needsOf 39 = .ok (.invokevirtual 160, 3) := by decide +kernel
theorem dX9_needsOf_42 : decode cX9_needsOf 42 = .ok (.iconst 1, 1) := by decide +kernel
theorem dX9_needsOf_43 : decode cX9_needsOf 43 = .ok (.iadd, 1) := by decide +kernel
theorem dX9_needsOf_44 : decode cX9_needsOf 44 = .ok (.ireturn, 1) := by decide +kernel
theorem dX9_needsOf_45 : decode cX9_needsOf 45 = .ok (.aload_n 0, 1) := by decide +kernel
theorem dX9_needsOf_46 : decode cX9_needsOf 46 = .ok (.iload_n 1, 1) := by decide +kernel
theorem dX9_needsOf_47 : decode cX9_needsOf 47 = .ok (.invokevirtual 72, 3) := by decide +kernel
theorem dX9_needsOf_50 : decode cX9_needsOf 50 = .ok (.iconst 1, 1) := by decide +kernel
theorem dX9_needsOf_51 : decode cX9_needsOf 51 = .ok (.iadd, 1) := by decide +kernel
theorem dX9_needsOf_52 : decode cX9_needsOf 52 = .ok (.ireturn, 1) := by decide +kernel
set_option maxRecDepth 20000 in
theorem ggX9_needs_X9_isRow : GoodIn wsX9_needs wsX9_isRow := goodIn_r _ [5, 6, 7, 8, 4, 9, 10, 11, 12, 13, 14, 15, 16, 17, 18, 19, 20, 21, 22, 51, 52, 53, 54, 55, 56, 57, 58, 59, 60, 61, 62, 63, 64, 65, 66, 67, 68, 69, 70, 71, 72] (by decide +kernel) (by decide +kernel)
set_option maxRecDepth 20000 in
theorem gX9_needs_X9_isRow : GoodIn wsX9_needs (wsV RX9 241 RX9 yX9_isRow wsX9_isRow) := goodIn_app (goodIn_of _ (by decide +kernel)) ggX9_needs_X9_isRow
set_option maxRecDepth 20000 in
theorem ggX9_needs_X9_needsOf : GoodIn wsX9_needs wsX9_needsOf := goodIn_r _ [26, 27, 28, 29, 4, 30, 31, 32, 33, 34, 35, 36, 37, 38, 39, 40, 41, 42, 43, 44, 45, 46, 10, 11, 12, 13, 14, 15, 16, 17, 18, 19, 47, 48, 49, 50, 51, 52, 53, 54, 55, 56, 57, 58, 59, 60, 61, 62, 63, 64, 65, 66, 67, 68, 69, 70, 71, 72] (by decide +kernel) (by decide +kernel)
set_option maxRecDepth 20000 in
theorem gX9_needs_X9_needsOf : GoodIn wsX9_needs (wsV RX9 244 RX9 yX9_needsOf wsX9_needsOf) := goodIn_app (goodIn_of _ (by decide +kernel)) ggX9_needs_X9_needsOf
theorem dX9_needs_0 : decode cX9_needs 0 = .ok (.aload_n 0, 1) := by decide +kernel
theorem dX9_needs_1 : decode cX9_needs 1 = .ok (.iload_n 1, 1) := by decide +kernel
theorem dX9_needs_2 : decode cX9_needs 2 = .ok (.iload_n 2, 1) := by decide +kernel
theorem dX9_needs_3 : decode cX9_needs 3 = .ok (.invokevirtual 241, 3) := by decide +kernel
theorem dX9_needs_6 : decode cX9_needs 6 = .ok (.ifCond .eq 12, 3) := by decide +kernel
theorem dX9_needs_9 : decode cX9_needs 9 = .ok (.aload_n 0, 1) := by decide +kernel
theorem dX9_needs_10 : decode cX9_needs 10 = .ok (.iload_n 1, 1) := by decide +kernel
theorem dX9_needs_11 : decode cX9_needs 11 = .ok (.iload_n 2, 1) := by decide +kernel
theorem dX9_needs_12 : decode cX9_needs 12 = .ok (.invokevirtual 244, 3) := by decide +kernel
theorem dX9_needs_15 : decode cX9_needs 15 = .ok (.goto 4, 3) := by decide +kernel
theorem dX9_needs_18 : decode cX9_needs 18 = .ok (.iconst (-1), 1) := by decide +kernel
theorem dX9_needs_19 : decode cX9_needs 19 = .ok (.ireturn, 1) := by decide +kernel
set_option maxRecDepth 20000 in
theorem ggX9_notice_X9_isNotice : GoodIn wsX9_notice wsX9_isNotice := goodIn_r _ [6, 1, 7, 8, 5, 9, 10, 11, 12, 13, 14, 15, 16, 17, 18, 19, 20, 21, 22, 23, 24, 25, 26, 27, 28, 29, 30, 31] (by decide +kernel) (by decide +kernel)
set_option maxRecDepth 20000 in
theorem gX9_notice_X9_isNotice : GoodIn wsX9_notice (wsV RX9 212 RX9 yX9_isNotice wsX9_isNotice) := goodIn_app (goodIn_of _ (by decide +kernel)) ggX9_notice_X9_isNotice
set_option maxRecDepth 20000 in
theorem ggX9_notice_X9_within : GoodIn wsX9_notice wsX9_within := goodIn_r _ [9] (by decide +kernel) (by decide +kernel)
set_option maxRecDepth 20000 in
theorem gX9_notice_X9_within : GoodIn wsX9_notice (va_wsS RX9 98 yX9_within wsX9_within) := goodIn_app (goodIn_of _ (by decide +kernel)) ggX9_notice_X9_within
theorem dX9_notice_0 : decode cX9_notice 0 = .ok (.aload_n 0, 1) := by decide +kernel
theorem dX9_notice_1 : decode cX9_notice 1 = .ok (.iload_n 1, 1) := by decide +kernel
theorem dX9_notice_2 : decode cX9_notice 2 = .ok (.invokevirtual 212, 3) := by decide +kernel
theorem dX9_notice_5 : decode cX9_notice 5 = .ok (.ifCond .eq 28, 3) := by decide +kernel
theorem dX9_notice_8 : decode cX9_notice 8 = .ok (.iload_n 2, 1) := by decide +kernel
theorem dX9_notice_9 : decode cX9_notice 9 = .ok (.iconst 0, 1) := by decide +kernel
theorem dX9_notice_10 : decode cX9_notice 10 = .ok (.iconst 4, 1) := by decide +kernel
theorem dX9_notice_11 : decode cX9_notice 11 = .ok (.invokestatic 98, 3) := by decide +kernel
theorem dX9_notice_14 : decode cX9_notice 14 = .ok (.ifCond .eq 19, 3) := by decide +kernel
theorem dX9_notice_17 : decode cX9_notice 17 = .ok (.aload_n 0, 1) := by decide +kernel
theorem dX9_notice_18 : decode cX9_notice 18 = .ok (.getfield 13, 3) := by decide +kernel
theorem dX9_notice_21 : decode cX9_notice 21 = .ok (.bipush 81, 2) := by decide +kernel
theorem dX9_notice_23 : decode cX9_notice 23 = .ok (.iconst 5, 1) := by decide +kernel
theorem dX9_notice_24 : decode cX9_notice 24 = .ok (.iload_n 1, 1) := by decide +kernel
theorem dX9_notice_25 : decode cX9_notice 25 = .ok (.imul, 1) := by decide +kernel
theorem dX9_notice_26 : decode cX9_notice 26 = .ok (.iadd, 1) := by decide +kernel
theorem dX9_notice_27 : decode cX9_notice 27 = .ok (.iload_n 2, 1) := by decide +kernel
theorem dX9_notice_28 : decode cX9_notice 28 = .ok (.iadd, 1) := by decide +kernel
theorem dX9_notice_29 : decode cX9_notice 29 = .ok (.iaload, 1) := by decide +kernel
theorem dX9_notice_30 : decode cX9_notice 30 = .ok (.goto 4, 3) := by decide +kernel
theorem dX9_notice_33 : decode cX9_notice 33 = .ok (.iconst (-1), 1) := by decide +kernel
theorem dX9_notice_34 : decode cX9_notice 34 = .ok (.ireturn, 1) := by decide +kernel
set_option maxRecDepth 20000 in
theorem ggX9_keep_X9_within : GoodIn wsX9_keep wsX9_within := goodIn_r _ [7] (by decide +kernel) (by decide +kernel)
set_option maxRecDepth 20000 in
theorem gX9_keep_X9_within : GoodIn wsX9_keep (va_wsS RX9 98 yX9_within wsX9_within) := goodIn_app (goodIn_of _ (by decide +kernel)) ggX9_keep_X9_within
theorem dX9_keep_0 : decode cX9_keep 0 = .ok (.iload_n 1, 1) := by decide +kernel
theorem dX9_keep_1 : decode cX9_keep 1 = .ok (.iconst 0, 1) := by decide +kernel
theorem dX9_keep_2 : decode cX9_keep 2 = .ok (.iconst 1, 1) := by decide +kernel
theorem dX9_keep_3 : decode cX9_keep 3 = .ok (.invokestatic 98, 3) := by decide +kernel
theorem dX9_keep_6 : decode cX9_keep 6 = .ok (.ifCond .ne 5, 3) := by decide +kernel
theorem dX9_keep_9 : decode cX9_keep 9 = .ok (.iconst (-1), 1) := by decide +kernel
theorem dX9_keep_10 : decode cX9_keep 10 = .ok (.ireturn, 1) := by decide +kernel
theorem dX9_keep_11 : decode cX9_keep 11 = .ok (.iconst 0, 1) := by decide +kernel
theorem dX9_keep_12 : decode cX9_keep 12 = .ok (.istore_n 2, 1) := by decide +kernel
theorem dX9_keep_13 : decode cX9_keep 13 = .ok (.iload_n 2, 1) := by decide +kernel
theorem dX9_keep_14 : decode cX9_keep 14 = .ok (.bipush 124, 2) := by decide +kernel
theorem dX9_keep_16 : decode cX9_keep 16 = .ok (.if_icmp .ge 26, 3) := by decide +kernel
theorem dX9_keep_19 : decode cX9_keep 19 = .ok (.aload_n 0, 1) := by decide +kernel
theorem dX9_keep_20 : decode cX9_keep 20 = .ok (.getfield 22, 3) := by decide +kernel
theorem dX9_keep_23 : decode cX9_keep 23 = .ok (.bipush 124, 2) := by decide +kernel
theorem dX9_keep_25 : decode cX9_keep 25 = .ok (.iload_n 1, 1) := by decide +kernel
theorem dX9_keep_26 : decode cX9_keep 26 = .ok (.imul, 1) := by decide +kernel
theorem dX9_keep_27 : decode cX9_keep 27 = .ok (.iload_n 2, 1) := by decide +kernel
theorem dX9_keep_28 : decode cX9_keep 28 = .ok (.iadd, 1) := by decide +kernel
theorem dX9_keep_29 : decode cX9_keep 29 = .ok (.aload_n 0, 1) := by decide +kernel
theorem dX9_keep_30 : decode cX9_keep 30 = .ok (.getfield 13, 3) := by decide +kernel
theorem dX9_keep_33 : decode cX9_keep 33 = .ok (.iload_n 2, 1) := by decide +kernel
theorem dX9_keep_34 : decode cX9_keep 34 = .ok (.iaload, 1) := by decide +kernel
theorem dX9_keep_35 : decode cX9_keep 35 = .ok (.iastore, 1) := by decide +kernel
theorem dX9_keep_36 : decode cX9_keep 36 = .ok (.iinc 2 1, 3) := by decide +kernel
theorem dX9_keep_39 : decode cX9_keep 39 = .ok (.goto (-26), 3) := by decide +kernel
theorem dX9_keep_42 : decode cX9_keep 42 = .ok (.aload_n 0, 1) := by decide +kernel
theorem dX9_keep_43 : decode cX9_keep 43 = .ok (.getfield 25, 3) := by decide +kernel
theorem dX9_keep_46 : decode cX9_keep 46 = .ok (.iload_n 1, 1) := by decide +kernel
theorem dX9_keep_47 : decode cX9_keep 47 = .ok (.iconst 1, 1) := by decide +kernel
theorem dX9_keep_48 : decode cX9_keep 48 = .ok (.bastore, 1) := by decide +kernel
theorem dX9_keep_49 : decode cX9_keep 49 = .ok (.aload_n 0, 1) := by decide +kernel
theorem dX9_keep_50 : decode cX9_keep 50 = .ok (.getfield 13, 3) := by decide +kernel
theorem dX9_keep_53 : decode cX9_keep 53 = .ok (.bipush 121, 2) := by decide +kernel
theorem dX9_keep_55 : decode cX9_keep 55 = .ok (.iaload, 1) := by decide +kernel
theorem dX9_keep_56 : decode cX9_keep 56 = .ok (.ireturn, 1) := by decide +kernel
set_option maxRecDepth 20000 in
theorem ggX9_back_X9_within : GoodIn wsX9_back wsX9_within := goodIn_r _ [8] (by decide +kernel) (by decide +kernel)
set_option maxRecDepth 20000 in
theorem gX9_back_X9_within : GoodIn wsX9_back (va_wsS RX9 98 yX9_within wsX9_within) := goodIn_app (goodIn_of _ (by decide +kernel)) ggX9_back_X9_within
theorem dX9_back_0 : decode cX9_back 0 = .ok (.iload_n 1, 1) := by decide +kernel
theorem dX9_back_1 : decode cX9_back 1 = .ok (.iconst 0, 1) := by decide +kernel
theorem dX9_back_2 : decode cX9_back 2 = .ok (.iconst 1, 1) := by decide +kernel
theorem dX9_back_3 : decode cX9_back 3 = .ok (.invokestatic 98, 3) := by decide +kernel
theorem dX9_back_6 : decode cX9_back 6 = .ok (.ifCond .ne 5, 3) := by decide +kernel
theorem dX9_back_9 : decode cX9_back 9 = .ok (.iconst (-1), 1) := by decide +kernel
theorem dX9_back_10 : decode cX9_back 10 = .ok (.ireturn, 1) := by decide +kernel
theorem dX9_back_11 : decode cX9_back 11 = .ok (.aload_n 0, 1) := by decide +kernel
theorem dX9_back_12 : decode cX9_back 12 = .ok (.getfield 25, 3) := by decide +kernel
theorem dX9_back_15 : decode cX9_back 15 = .ok (.iload_n 1, 1) := by decide +kernel
theorem dX9_back_16 : decode cX9_back 16 = .ok (.baload, 1) := by decide +kernel
theorem dX9_back_17 : decode cX9_back 17 = .ok (.ifCond .ne 6, 3) := by decide +kernel
theorem dX9_back_20 : decode cX9_back 20 = .ok (.bipush (-2), 2) := by decide +kernel
theorem dX9_back_22 : decode cX9_back 22 = .ok (.ireturn, 1) := by decide +kernel
theorem dX9_back_23 : decode cX9_back 23 = .ok (.iconst 0, 1) := by decide +kernel
theorem dX9_back_24 : decode cX9_back 24 = .ok (.istore_n 2, 1) := by decide +kernel
theorem dX9_back_25 : decode cX9_back 25 = .ok (.iload_n 2, 1) := by decide +kernel
theorem dX9_back_26 : decode cX9_back 26 = .ok (.bipush 124, 2) := by decide +kernel
theorem dX9_back_28 : decode cX9_back 28 = .ok (.if_icmp .ge 26, 3) := by decide +kernel
theorem dX9_back_31 : decode cX9_back 31 = .ok (.aload_n 0, 1) := by decide +kernel
theorem dX9_back_32 : decode cX9_back 32 = .ok (.getfield 13, 3) := by decide +kernel
theorem dX9_back_35 : decode cX9_back 35 = .ok (.iload_n 2, 1) := by decide +kernel
theorem dX9_back_36 : decode cX9_back 36 = .ok (.aload_n 0, 1) := by decide +kernel
theorem dX9_back_37 : decode cX9_back 37 = .ok (.getfield 22, 3) := by decide +kernel
theorem dX9_back_40 : decode cX9_back 40 = .ok (.bipush 124, 2) := by decide +kernel
theorem dX9_back_42 : decode cX9_back 42 = .ok (.iload_n 1, 1) := by decide +kernel
theorem dX9_back_43 : decode cX9_back 43 = .ok (.imul, 1) := by decide +kernel
theorem dX9_back_44 : decode cX9_back 44 = .ok (.iload_n 2, 1) := by decide +kernel
theorem dX9_back_45 : decode cX9_back 45 = .ok (.iadd, 1) := by decide +kernel
theorem dX9_back_46 : decode cX9_back 46 = .ok (.iaload, 1) := by decide +kernel
theorem dX9_back_47 : decode cX9_back 47 = .ok (.iastore, 1) := by decide +kernel
theorem dX9_back_48 : decode cX9_back 48 = .ok (.iinc 2 1, 3) := by decide +kernel
theorem dX9_back_51 : decode cX9_back 51 = .ok (.goto (-26), 3) := by decide +kernel
theorem dX9_back_54 : decode cX9_back 54 = .ok (.aload_n 0, 1) := by decide +kernel
theorem dX9_back_55 : decode cX9_back 55 = .ok (.iconst 0, 1) := by decide +kernel
theorem dX9_back_56 : decode cX9_back 56 = .ok (.putfield 144, 3) := by decide +kernel
theorem dX9_back_59 : decode cX9_back 59 = .ok (.aload_n 0, 1) := by decide +kernel
theorem dX9_back_60 : decode cX9_back 60 = .ok (.getfield 13, 3) := by decide +kernel
theorem dX9_back_63 : decode cX9_back 63 = .ok (.bipush 121, 2) := by decide +kernel
theorem dX9_back_65 : decode cX9_back 65 = .ok (.iaload, 1) := by decide +kernel
theorem dX9_back_66 : decode cX9_back 66 = .ok (.ireturn, 1) := by decide +kernel
set_option maxRecDepth 20000 in
theorem ggX9_leavesNow_X9_laysLeaves : GoodIn wsX9_leavesNow wsX9_laysLeaves := goodIn_r _ [6, 1, 7, 8, 9, 10, 11, 5, 12, 13, 14, 15, 16, 17, 18, 19, 20, 21, 22, 23, 24, 25, 26, 27, 28, 29, 30, 31, 32, 33, 34, 35, 36, 37, 38, 39, 40, 41, 42, 43, 44, 45, 46, 47, 48, 49, 50, 51, 52, 53, 54, 55, 56, 57, 58, 59, 60, 61] (by decide +kernel) (by decide +kernel)
set_option maxRecDepth 20000 in
theorem gX9_leavesNow_X9_laysLeaves : GoodIn wsX9_leavesNow (wsV RX9 228 RX9 yX9_laysLeaves wsX9_laysLeaves) := goodIn_app (goodIn_of _ (by decide +kernel)) ggX9_leavesNow_X9_laysLeaves
theorem dX9_leavesNow_0 : decode cX9_leavesNow 0 = .ok (.aload_n 0, 1) := by decide +kernel
theorem dX9_leavesNow_1 : decode cX9_leavesNow 1 = .ok (.invokevirtual 228, 3) := by decide +kernel
theorem dX9_leavesNow_4 : decode cX9_leavesNow 4 = .ok (.aload_n 0, 1) := by decide +kernel
theorem dX9_leavesNow_5 : decode cX9_leavesNow 5 = .ok (.getfield 75, 3) := by decide +kernel
theorem dX9_leavesNow_8 : decode cX9_leavesNow 8 = .ok (.ireturn, 1) := by decide +kernel
set_option maxRecDepth 20000 in
theorem ggX9_count_X9_tables : GoodIn wsX9_count wsX9_tables := goodIn_r _ [9, 1, 10, 11, 12, 8, 13, 14, 15, 16, 17, 18, 50, 51, 52, 53, 54, 55, 56, 57, 58, 59, 60, 61, 62, 63, 64, 65, 66, 67, 68, 69, 70, 71] (by decide +kernel) (by decide +kernel)
set_option maxRecDepth 20000 in
theorem gX9_count_X9_tables : GoodIn wsX9_count (wsV RX9 176 RX9 yX9_tables wsX9_tables) := goodIn_app (goodIn_of _ (by decide +kernel)) ggX9_count_X9_tables
set_option maxRecDepth 20000 in
theorem ggX9_count_X9_leavesNow : GoodIn wsX9_count wsX9_leavesNow := goodIn_r _ [22, 23, 24, 25, 26, 8, 27, 1, 2, 10, 11, 12, 13, 14, 15, 16, 17, 18, 28, 29, 30, 31, 32, 33, 34, 35, 36, 37, 38, 39, 40, 41, 42, 43, 44, 45, 46, 47, 48, 49, 50, 51, 52, 53, 54, 55, 56, 57, 58, 59, 60, 61, 62, 63, 64, 65, 66, 67, 68, 69, 70, 71] (by decide +kernel) (by decide +kernel)
set_option maxRecDepth 20000 in
theorem gX9_count_X9_leavesNow : GoodIn wsX9_count (wsV RX9 247 RX9 yX9_leavesNow wsX9_leavesNow) := goodIn_app (goodIn_of _ (by decide +kernel)) ggX9_count_X9_leavesNow
theorem dX9_count_0 : decode cX9_count 0 = .ok (.iload_n 1, 1) := by decide +kernel
theorem dX9_count_1 : decode cX9_count 1 = .ok (.tableswitch 108 0 8 #[51, 56, 61, 66, 74, 82, 90, 98, 103], 51) := by decide +kernel
theorem dX9_count_52 : decode cX9_count 52 = .ok (.aload_n 0, 1) := by decide +kernel
theorem dX9_count_53 : decode cX9_count 53 = .ok (.getfield 54, 3) := by decide +kernel
theorem dX9_count_56 : decode cX9_count 56 = .ok (.ireturn, 1) := by decide +kernel
theorem dX9_count_57 : decode cX9_count 57 = .ok (.aload_n 0, 1) := by decide +kernel
theorem dX9_count_58 : decode cX9_count 58 = .ok (.invokevirtual 176, 3) := by decide +kernel
theorem dX9_count_61 : decode cX9_count 61 = .ok (.ireturn, 1) := by decide +kernel
theorem dX9_count_62 : decode cX9_count 62 = .ok (.aload_n 0, 1) := by decide +kernel
theorem dX9_count_63 : decode cX9_count 63 = .ok (.invokevirtual 247, 3) := by decide +kernel
theorem dX9_count_66 : decode cX9_count 66 = .ok (.ireturn, 1) := by decide +kernel
theorem dX9_count_67 : decode cX9_count 67 = .ok (.aload_n 0, 1) := by decide +kernel
theorem dX9_count_68 : decode cX9_count 68 = .ok (.getfield 13, 3) := by decide +kernel
theorem dX9_count_71 : decode cX9_count 71 = .ok (.bipush 121, 2) := by decide +kernel
theorem dX9_count_73 : decode cX9_count 73 = .ok (.iaload, 1) := by decide +kernel
theorem dX9_count_74 : decode cX9_count 74 = .ok (.ireturn, 1) := by decide +kernel
theorem dX9_count_75 : decode cX9_count 75 = .ok (.aload_n 0, 1) := by decide +kernel
theorem dX9_count_76 : decode cX9_count 76 = .ok (.getfield 13, 3) := by decide +kernel
theorem dX9_count_79 : decode cX9_count 79 = .ok (.bipush 80, 2) := by decide +kernel
theorem dX9_count_81 : decode cX9_count 81 = .ok (.iaload, 1) := by decide +kernel
theorem dX9_count_82 : decode cX9_count 82 = .ok (.ireturn, 1) := by decide +kernel
theorem dX9_count_83 : decode cX9_count 83 = .ok (.aload_n 0, 1) := by decide +kernel
theorem dX9_count_84 : decode cX9_count 84 = .ok (.getfield 13, 3) := by decide +kernel
theorem dX9_count_87 : decode cX9_count 87 = .ok (.bipush 122, 2) := by decide +kernel
theorem dX9_count_89 : decode cX9_count 89 = .ok (.iaload, 1) := by decide +kernel
theorem dX9_count_90 : decode cX9_count 90 = .ok (.ireturn, 1) := by decide +kernel
theorem dX9_count_91 : decode cX9_count 91 = .ok (.aload_n 0, 1) := by decide +kernel
theorem dX9_count_92 : decode cX9_count 92 = .ok (.getfield 13, 3) := by decide +kernel
theorem dX9_count_95 : decode cX9_count 95 = .ok (.bipush 123, 2) := by decide +kernel
theorem dX9_count_97 : decode cX9_count 97 = .ok (.iaload, 1) := by decide +kernel
theorem dX9_count_98 : decode cX9_count 98 = .ok (.ireturn, 1) := by decide +kernel
theorem dX9_count_99 : decode cX9_count 99 = .ok (.aload_n 0, 1) := by decide +kernel
theorem dX9_count_100 : decode cX9_count 100 = .ok (.getfield 92, 3) := by decide +kernel
theorem dX9_count_103 : decode cX9_count 103 = .ok (.ireturn, 1) := by decide +kernel
theorem dX9_count_104 : decode cX9_count 104 = .ok (.aload_n 0, 1) := by decide +kernel
theorem dX9_count_105 : decode cX9_count 105 = .ok (.getfield 144, 3) := by decide +kernel
theorem dX9_count_108 : decode cX9_count 108 = .ok (.ireturn, 1) := by decide +kernel
theorem dX9_count_109 : decode cX9_count 109 = .ok (.iconst (-1), 1) := by decide +kernel
theorem dX9_count_110 : decode cX9_count 110 = .ok (.ireturn, 1) := by decide +kernel
theorem dJ9_max_7cf53_0 : decode cJ9_max_7cf53 0 = .ok (.iload_n 0, 1) := by decide +kernel
theorem dJ9_max_7cf53_1 : decode cJ9_max_7cf53 1 = .ok (.iload_n 1, 1) := by decide +kernel
theorem dJ9_max_7cf53_2 : decode cJ9_max_7cf53 2 = .ok (.if_icmp .lt 7, 3) := by decide +kernel
theorem dJ9_max_7cf53_5 : decode cJ9_max_7cf53 5 = .ok (.iload_n 0, 1) := by decide +kernel
theorem dJ9_max_7cf53_6 : decode cJ9_max_7cf53 6 = .ok (.goto 4, 3) := by decide +kernel
theorem dJ9_max_7cf53_9 : decode cJ9_max_7cf53 9 = .ok (.iload_n 1, 1) := by decide +kernel
theorem dJ9_max_7cf53_10 : decode cJ9_max_7cf53 10 = .ok (.ireturn, 1) := by decide +kernel
theorem dJ9_min_7cf53_0 : decode cJ9_min_7cf53 0 = .ok (.iload_n 0, 1) := by decide +kernel
theorem dJ9_min_7cf53_1 : decode cJ9_min_7cf53 1 = .ok (.iload_n 1, 1) := by decide +kernel
theorem dJ9_min_7cf53_2 : decode cJ9_min_7cf53 2 = .ok (.if_icmp .gt 7, 3) := by decide +kernel
theorem dJ9_min_7cf53_5 : decode cJ9_min_7cf53 5 = .ok (.iload_n 0, 1) := by decide +kernel
theorem dJ9_min_7cf53_6 : decode cJ9_min_7cf53 6 = .ok (.goto 4, 3) := by decide +kernel
theorem dJ9_min_7cf53_9 : decode cJ9_min_7cf53 9 = .ok (.iload_n 1, 1) := by decide +kernel
theorem dJ9_min_7cf53_10 : decode cJ9_min_7cf53 10 = .ok (.ireturn, 1) := by decide +kernel
theorem dJ7_fill_53178_0 : decode cJ7_fill_53178 0 = .ok (.iconst 0, 1) := by decide +kernel
theorem dJ7_fill_53178_1 : decode cJ7_fill_53178 1 = .ok (.istore_n 2, 1) := by decide +kernel
theorem dJ7_fill_53178_2 : decode cJ7_fill_53178 2 = .ok (.aload_n 0, 1) := by decide +kernel
theorem dJ7_fill_53178_3 : decode cJ7_fill_53178 3 = .ok (.arraylength, 1) := by decide +kernel
theorem dJ7_fill_53178_4 : decode cJ7_fill_53178 4 = .ok (.istore_n 3, 1) := by decide +kernel
theorem dJ7_fill_53178_5 : decode cJ7_fill_53178 5 = .ok (.iload_n 2, 1) := by decide +kernel
theorem dJ7_fill_53178_6 : decode cJ7_fill_53178 6 = .ok (.iload_n 3, 1) := by decide +kernel
theorem dJ7_fill_53178_7 : decode cJ7_fill_53178 7 = .ok (.if_icmp .ge 13, 3) := by decide +kernel
theorem dJ7_fill_53178_10 : decode cJ7_fill_53178 10 = .ok (.aload_n 0, 1) := by decide +kernel
theorem dJ7_fill_53178_11 : decode cJ7_fill_53178 11 = .ok (.iload_n 2, 1) := by decide +kernel
theorem dJ7_fill_53178_12 : decode cJ7_fill_53178 12 = .ok (.iload_n 1, 1) := by decide +kernel
theorem dJ7_fill_53178_13 : decode cJ7_fill_53178 13 = .ok (.iastore, 1) := by decide +kernel
theorem dJ7_fill_53178_14 : decode cJ7_fill_53178 14 = .ok (.iinc 2 1, 3) := by decide +kernel
theorem dJ7_fill_53178_17 : decode cJ7_fill_53178 17 = .ok (.goto (-12), 3) := by decide +kernel
theorem dJ7_fill_53178_20 : decode cJ7_fill_53178 20 = .ok (.return_, 1) := by decide +kernel
abbrev vwCl : List vw_C := [(RX0, TX0, 4), (RX1, TX1, 3), (RX2, TX2, 3), (RX3, TX3, 2), (RX4, TX4, 1), (RX5, TX5, 10), (RX6, TX6, 3), (RX7, TX7, 1), (RX8, TX8, 10), (RX9, TX9, 22)]
