theorem dX0_init_0 : decode cX0_init 0 = .ok (.aload_n 0, 1) := by decide +kernel
theorem dX0_init_1 : decode cX0_init 1 = .ok (.invokespecial 3, 3) := by decide +kernel
theorem dX0_init_4 : decode cX0_init 4 = .ok (.aload_n 0, 1) := by decide +kernel
theorem dX0_init_5 : decode cX0_init 5 = .ok (.bipush 80, 2) := by decide +kernel
theorem dX0_init_7 : decode cX0_init 7 = .ok (.newarray .int, 2) := by decide +kernel
theorem dX0_init_9 : decode cX0_init 9 = .ok (.putfield 11, 3) := by decide +kernel
theorem dX0_init_12 : decode cX0_init 12 = .ok (.aload_n 0, 1) := by decide +kernel
theorem dX0_init_13 : decode cX0_init 13 = .ok (.bipush 80, 2) := by decide +kernel
theorem dX0_init_15 : decode cX0_init 15 = .ok (.newarray .int, 2) := by decide +kernel
theorem dX0_init_17 : decode cX0_init 17 = .ok (.putfield 15, 3) := by decide +kernel
theorem dX0_init_20 : decode cX0_init 20 = .ok (.aload_n 0, 1) := by decide +kernel
theorem dX0_init_21 : decode cX0_init 21 = .ok (.bipush 80, 2) := by decide +kernel
theorem dX0_init_23 : decode cX0_init 23 = .ok (.newarray .int, 2) := by decide +kernel
theorem dX0_init_25 : decode cX0_init 25 = .ok (.putfield 18, 3) := by decide +kernel
theorem dX0_init_28 : decode cX0_init 28 = .ok (.return_, 1) := by decide +kernel
set_option maxRecDepth 20000 in
theorem ggX0_listAll_X6_field : GoodIn wsX0_listAll wsX6_field := goodIn_r _ [7, 8, 64, 65, 66] (by decide +kernel) (by decide +kernel)
set_option maxRecDepth 20000 in
theorem gX0_listAll_X6_field : GoodIn wsX0_listAll (wsV RX0 28 RX6 yX6_field wsX6_field) := goodIn_app (goodIn_of _ (by decide +kernel)) ggX0_listAll_X6_field
set_option maxRecDepth 20000 in
theorem ggX0_listAll_X6_tablesAhead : GoodIn wsX0_listAll wsX6_tablesAhead := goodIn_r _ [12, 13, 14, 4, 5, 6, 7, 8, 64, 65, 66] (by decide +kernel) (by decide +kernel)
set_option maxRecDepth 20000 in
theorem gX0_listAll_X6_tablesAhead : GoodIn wsX0_listAll (wsV RX0 32 RX6 yX6_tablesAhead wsX6_tablesAhead) := goodIn_app (goodIn_of _ (by decide +kernel)) ggX0_listAll_X6_tablesAhead
set_option maxRecDepth 20000 in
theorem ggX0_listAll_X0_listCells : GoodIn wsX0_listAll wsX0_listCells := goodIn_r _ [19, 20, 21, 22, 23, 24, 25, 26, 27, 28, 29, 30, 31, 32, 33, 34, 18, 35, 36, 37, 38, 39, 40, 41, 42, 43, 44, 45, 46, 47, 48, 1, 49, 50, 51, 52, 53, 54, 55, 67, 60, 61, 62, 63] (by decide +kernel) (by decide +kernel)
set_option maxRecDepth 20000 in
theorem gX0_listAll_X0_listCells : GoodIn wsX0_listAll (wsV RX0 36 RX0 yX0_listCells wsX0_listCells) := goodIn_app (goodIn_of _ (by decide +kernel)) ggX0_listAll_X0_listCells
set_option maxRecDepth 20000 in
theorem ggX0_listAll_X0_behind : GoodIn wsX0_listAll wsX0_behind := goodIn_r _ [35, 36, 37, 38, 39, 40] (by decide +kernel) (by decide +kernel)
set_option maxRecDepth 20000 in
theorem gX0_listAll_X0_behind : GoodIn wsX0_listAll (va_wsS RX0 40 yX0_behind wsX0_behind) := goodIn_app (goodIn_of _ (by decide +kernel)) ggX0_listAll_X0_behind
set_option maxRecDepth 20000 in
theorem ggX0_listAll_X4_valueOf : GoodIn wsX0_listAll wsX4_valueOf := goodIn_r _ [59, 28, 29, 30, 23, 31, 32, 67] (by decide +kernel) (by decide +kernel)
set_option maxRecDepth 20000 in
theorem gX0_listAll_X4_valueOf : GoodIn wsX0_listAll (wsV RX0 44 RX4 yX4_valueOf wsX4_valueOf) := goodIn_app (goodIn_of _ (by decide +kernel)) ggX0_listAll_X4_valueOf
set_option maxRecDepth 20000 in
theorem ggX0_listAll_X0_add : GoodIn wsX0_listAll wsX0_add := goodIn_r _ [48, 1, 49, 50, 51, 60, 61, 62, 63] (by decide +kernel) (by decide +kernel)
set_option maxRecDepth 20000 in
theorem gX0_listAll_X0_add : GoodIn wsX0_listAll (wsV RX0 49 RX0 yX0_add wsX0_add) := goodIn_app (goodIn_of _ (by decide +kernel)) ggX0_listAll_X0_add
theorem dX0_listAll_0 : decode cX0_listAll 0 = .ok (.aload_n 0, 1) := by decide +kernel
theorem dX0_listAll_1 : decode cX0_listAll 1 = .ok (.iconst 0, 1) := by decide +kernel
theorem dX0_listAll_2 : decode cX0_listAll 2 = .ok (.putfield 21, 3) := by decide +kernel
theorem dX0_listAll_5 : decode cX0_listAll 5 = .ok (.iconst 0, 1) := by decide +kernel
theorem dX0_listAll_6 : decode cX0_listAll 6 = .ok (.istore_n 3, 1) := by decide +kernel
theorem dX0_listAll_7 : decode cX0_listAll 7 = .ok (.iload_n 3, 1) := by decide +kernel
theorem dX0_listAll_8 : decode cX0_listAll 8 = .ok (.aload_n 1, 1) := by decide +kernel
theorem dX0_listAll_9 : decode cX0_listAll 9 = .ok (.getfield 25, 3) := by decide +kernel
theorem dX0_listAll_12 : decode cX0_listAll 12 = .ok (.if_icmp .ge 70, 3) := by decide +kernel
theorem dX0_listAll_15 : decode cX0_listAll 15 = .ok (.aload_n 1, 1) := by decide +kernel
theorem dX0_listAll_16 : decode cX0_listAll 16 = .ok (.iload_n 3, 1) := by decide +kernel
theorem dX0_listAll_17 : decode cX0_listAll 17 = .ok (.iconst 1, 1) := by decide +kernel
theorem dX0_listAll_18 : decode cX0_listAll 18 = .ok (.invokevirtual 28, 3) := by decide +kernel
theorem dX0_listAll_21 : decode cX0_listAll 21 = .ok (.istore 4, 2) := by decide +kernel
theorem dX0_listAll_23 : decode cX0_listAll 23 = .ok (.aload_n 1, 1) := by decide +kernel
theorem dX0_listAll_24 : decode cX0_listAll 24 = .ok (.iload_n 3, 1) := by decide +kernel
theorem dX0_listAll_25 : decode cX0_listAll 25 = .ok (.iconst 0, 1) := by decide +kernel
theorem dX0_listAll_26 : decode cX0_listAll 26 = .ok (.invokevirtual 28, 3) := by decide +kernel
theorem dX0_listAll_29 : decode cX0_listAll 29 = .ok (.istore 5, 2) := by decide +kernel
theorem dX0_listAll_31 : decode cX0_listAll 31 = .ok (.iload 5, 2) := by decide +kernel
theorem dX0_listAll_33 : decode cX0_listAll 33 = .ok (.iconst 2, 1) := by decide +kernel
theorem dX0_listAll_34 : decode cX0_listAll 34 = .ok (.if_icmp .ne 24, 3) := by decide +kernel
theorem dX0_listAll_37 : decode cX0_listAll 37 = .ok (.aload_n 0, 1) := by decide +kernel
theorem dX0_listAll_38 : decode cX0_listAll 38 = .ok (.iload 4, 2) := by decide +kernel
theorem dX0_listAll_40 : decode cX0_listAll 40 = .ok (.aload_n 1, 1) := by decide +kernel
theorem dX0_listAll_41 : decode cX0_listAll 41 = .ok (.iload_n 3, 1) := by decide +kernel
theorem dX0_listAll_42 : decode cX0_listAll 42 = .ok (.invokevirtual 32, 3) := by decide +kernel
theorem dX0_listAll_45 : decode cX0_listAll 45 = .ok (.aload_n 1, 1) := by decide +kernel
theorem dX0_listAll_46 : decode cX0_listAll 46 = .ok (.iload_n 3, 1) := by decide +kernel
theorem dX0_listAll_47 : decode cX0_listAll 47 = .ok (.iconst 3, 1) := by decide +kernel
theorem dX0_listAll_48 : decode cX0_listAll 48 = .ok (.invokevirtual 28, 3) := by decide +kernel
theorem dX0_listAll_51 : decode cX0_listAll 51 = .ok (.aload_n 2, 1) := by decide +kernel
theorem dX0_listAll_52 : decode cX0_listAll 52 = .ok (.invokevirtual 36, 3) := by decide +kernel
theorem dX0_listAll_55 : decode cX0_listAll 55 = .ok (.goto 21, 3) := by decide +kernel
theorem dX0_listAll_58 : decode cX0_listAll 58 = .ok (.aload_n 0, 1) := by decide +kernel
theorem dX0_listAll_59 : decode cX0_listAll 59 = .ok (.iload 4, 2) := by decide +kernel
theorem dX0_listAll_61 : decode cX0_listAll 61 = .ok (.iconst 0, 1) := by decide +kernel
theorem dX0_listAll_62 : decode cX0_listAll 62 = .ok (.iconst (-1), 1) := by decide +kernel
theorem dX0_listAll_63 : decode cX0_listAll 63 = .ok (.invokestatic 40, 3) := by decide +kernel
theorem dX0_listAll_66 : decode cX0_listAll 66 = .ok (.aload_n 2, 1) := by decide +kernel
theorem dX0_listAll_67 : decode cX0_listAll 67 = .ok (.iload_n 3, 1) := by decide +kernel
theorem dX0_listAll_68 : decode cX0_listAll 68 = .ok (.invokevirtual 44, 3) := by decide +kernel
theorem dX0_listAll_71 : decode cX0_listAll 71 = .ok (.iload 5, 2) := by decide +kernel
theorem dX0_listAll_73 : decode cX0_listAll 73 = .ok (.invokevirtual 49, 3) := by decide +kernel
theorem dX0_listAll_76 : decode cX0_listAll 76 = .ok (.iinc 3 1, 3) := by decide +kernel
theorem dX0_listAll_79 : decode cX0_listAll 79 = .ok (.goto (-72), 3) := by decide +kernel
theorem dX0_listAll_82 : decode cX0_listAll 82 = .ok (.return_, 1) := by decide +kernel
theorem dX0_name_0 : decode cX0_name 0 = .ok (.iload_n 1, 1) := by decide +kernel
theorem dX0_name_1 : decode cX0_name 1 = .ok (.ifCond .lt 18, 3) := by decide +kernel
theorem dX0_name_4 : decode cX0_name 4 = .ok (.iload_n 1, 1) := by decide +kernel
theorem dX0_name_5 : decode cX0_name 5 = .ok (.bipush 80, 2) := by decide +kernel
theorem dX0_name_7 : decode cX0_name 7 = .ok (.if_icmp .ge 12, 3) := by decide +kernel
theorem dX0_name_10 : decode cX0_name 10 = .ok (.aload_n 0, 1) := by decide +kernel
theorem dX0_name_11 : decode cX0_name 11 = .ok (.getfield 11, 3) := by decide +kernel
theorem dX0_name_14 : decode cX0_name 14 = .ok (.iload_n 1, 1) := by decide +kernel
theorem dX0_name_15 : decode cX0_name 15 = .ok (.iaload, 1) := by decide +kernel
theorem dX0_name_16 : decode cX0_name 16 = .ok (.goto 4, 3) := by decide +kernel
theorem dX0_name_19 : decode cX0_name 19 = .ok (.iconst 0, 1) := by decide +kernel
theorem dX0_name_20 : decode cX0_name 20 = .ok (.ireturn, 1) := by decide +kernel
theorem dX0_value_0 : decode cX0_value 0 = .ok (.iload_n 1, 1) := by decide +kernel
theorem dX0_value_1 : decode cX0_value 1 = .ok (.ifCond .lt 18, 3) := by decide +kernel
theorem dX0_value_4 : decode cX0_value 4 = .ok (.iload_n 1, 1) := by decide +kernel
theorem dX0_value_5 : decode cX0_value 5 = .ok (.bipush 80, 2) := by decide +kernel
theorem dX0_value_7 : decode cX0_value 7 = .ok (.if_icmp .ge 12, 3) := by decide +kernel
theorem dX0_value_10 : decode cX0_value 10 = .ok (.aload_n 0, 1) := by decide +kernel
theorem dX0_value_11 : decode cX0_value 11 = .ok (.getfield 15, 3) := by decide +kernel
theorem dX0_value_14 : decode cX0_value 14 = .ok (.iload_n 1, 1) := by decide +kernel
theorem dX0_value_15 : decode cX0_value 15 = .ok (.iaload, 1) := by decide +kernel
theorem dX0_value_16 : decode cX0_value 16 = .ok (.goto 4, 3) := by decide +kernel
theorem dX0_value_19 : decode cX0_value 19 = .ok (.iconst 0, 1) := by decide +kernel
theorem dX0_value_20 : decode cX0_value 20 = .ok (.ireturn, 1) := by decide +kernel
theorem dX0_kind_0 : decode cX0_kind 0 = .ok (.iload_n 1, 1) := by decide +kernel
theorem dX0_kind_1 : decode cX0_kind 1 = .ok (.ifCond .lt 18, 3) := by decide +kernel
theorem dX0_kind_4 : decode cX0_kind 4 = .ok (.iload_n 1, 1) := by decide +kernel
theorem dX0_kind_5 : decode cX0_kind 5 = .ok (.bipush 80, 2) := by decide +kernel
theorem dX0_kind_7 : decode cX0_kind 7 = .ok (.if_icmp .ge 12, 3) := by decide +kernel
theorem dX0_kind_10 : decode cX0_kind 10 = .ok (.aload_n 0, 1) := by decide +kernel
theorem dX0_kind_11 : decode cX0_kind 11 = .ok (.getfield 18, 3) := by decide +kernel
theorem dX0_kind_14 : decode cX0_kind 14 = .ok (.iload_n 1, 1) := by decide +kernel
theorem dX0_kind_15 : decode cX0_kind 15 = .ok (.iaload, 1) := by decide +kernel
theorem dX0_kind_16 : decode cX0_kind 16 = .ok (.goto 4, 3) := by decide +kernel
theorem dX0_kind_19 : decode cX0_kind 19 = .ok (.iconst 0, 1) := by decide +kernel
theorem dX0_kind_20 : decode cX0_kind 20 = .ok (.ireturn, 1) := by decide +kernel
set_option maxRecDepth 20000 in
theorem ggX0_firstFrom_X0_name : GoodIn wsX0_firstFrom wsX0_name := goodIn_r _ [6, 7, 8, 9, 10, 11] (by decide +kernel) (by decide +kernel)
set_option maxRecDepth 20000 in
theorem gX0_firstFrom_X0_name : GoodIn wsX0_firstFrom (wsV RX0 53 RX0 yX0_name wsX0_name) := goodIn_app (goodIn_of _ (by decide +kernel)) ggX0_firstFrom_X0_name
theorem dX0_firstFrom_0 : decode cX0_firstFrom 0 = .ok (.iconst 0, 1) := by decide +kernel
theorem dX0_firstFrom_1 : decode cX0_firstFrom 1 = .ok (.istore_n 2, 1) := by decide +kernel
theorem dX0_firstFrom_2 : decode cX0_firstFrom 2 = .ok (.iload_n 2, 1) := by decide +kernel
theorem dX0_firstFrom_3 : decode cX0_firstFrom 3 = .ok (.aload_n 0, 1) := by decide +kernel
theorem dX0_firstFrom_4 : decode cX0_firstFrom 4 = .ok (.getfield 21, 3) := by decide +kernel
theorem dX0_firstFrom_7 : decode cX0_firstFrom 7 = .ok (.if_icmp .ge 20, 3) := by decide +kernel
theorem dX0_firstFrom_10 : decode cX0_firstFrom 10 = .ok (.aload_n 0, 1) := by decide +kernel
theorem dX0_firstFrom_11 : decode cX0_firstFrom 11 = .ok (.iload_n 2, 1) := by decide +kernel
theorem dX0_firstFrom_12 : decode cX0_firstFrom 12 = .ok (.invokevirtual 53, 3) := by decide +kernel
theorem dX0_firstFrom_15 : decode cX0_firstFrom 15 = .ok (.iload_n 1, 1) := by decide +kernel
theorem dX0_firstFrom_16 : decode cX0_firstFrom 16 = .ok (.if_icmp .lt 5, 3) := by decide +kernel
theorem dX0_firstFrom_19 : decode cX0_firstFrom 19 = .ok (.iload_n 2, 1) := by decide +kernel
theorem dX0_firstFrom_20 : decode cX0_firstFrom 20 = .ok (.ireturn, 1) := by decide +kernel
theorem dX0_firstFrom_21 : decode cX0_firstFrom 21 = .ok (.iinc 2 1, 3) := by decide +kernel
theorem dX0_firstFrom_24 : decode cX0_firstFrom 24 = .ok (.goto (-22), 3) := by decide +kernel
theorem dX0_firstFrom_27 : decode cX0_firstFrom 27 = .ok (.bipush (-9), 2) := by decide +kernel
theorem dX0_firstFrom_29 : decode cX0_firstFrom 29 = .ok (.ireturn, 1) := by decide +kernel
set_option maxRecDepth 20000 in
theorem ggX0_fitting_X0_roomOf : GoodIn wsX0_fitting wsX0_roomOf := goodIn_r _ [6, 7, 8, 9, 5, 10, 11, 12, 13, 14, 15, 16, 17, 18, 19, 20, 21, 22, 23] (by decide +kernel) (by decide +kernel)
set_option maxRecDepth 20000 in
theorem gX0_fitting_X0_roomOf : GoodIn wsX0_fitting (wsV RX0 56 RX0 yX0_roomOf wsX0_roomOf) := goodIn_app (goodIn_of _ (by decide +kernel)) ggX0_fitting_X0_roomOf
theorem dX0_fitting_0 : decode cX0_fitting 0 = .ok (.iconst 0, 1) := by decide +kernel
theorem dX0_fitting_1 : decode cX0_fitting 1 = .ok (.istore 4, 2) := by decide +kernel
theorem dX0_fitting_3 : decode cX0_fitting 3 = .ok (.iconst 0, 1) := by decide +kernel
theorem dX0_fitting_4 : decode cX0_fitting 4 = .ok (.istore 5, 2) := by decide +kernel
theorem dX0_fitting_6 : decode cX0_fitting 6 = .ok (.iload_n 1, 1) := by decide +kernel
theorem dX0_fitting_7 : decode cX0_fitting 7 = .ok (.istore 6, 2) := by decide +kernel
theorem dX0_fitting_9 : decode cX0_fitting 9 = .ok (.iload 6, 2) := by decide +kernel
theorem dX0_fitting_11 : decode cX0_fitting 11 = .ok (.aload_n 0, 1) := by decide +kernel
theorem dX0_fitting_12 : decode cX0_fitting 12 = .ok (.getfield 21, 3) := by decide +kernel
theorem dX0_fitting_15 : decode cX0_fitting 15 = .ok (.if_icmp .ge 38, 3) := by decide +kernel
theorem dX0_fitting_18 : decode cX0_fitting 18 = .ok (.iload 4, 2) := by decide +kernel
theorem dX0_fitting_20 : decode cX0_fitting 20 = .ok (.iload_n 2, 1) := by decide +kernel
theorem dX0_fitting_21 : decode cX0_fitting 21 = .ok (.if_icmp .ge 32, 3) := by decide +kernel
theorem dX0_fitting_24 : decode cX0_fitting 24 = .ok (.iload 5, 2) := by decide +kernel
theorem dX0_fitting_26 : decode cX0_fitting 26 = .ok (.aload_n 0, 1) := by decide +kernel
theorem dX0_fitting_27 : decode cX0_fitting 27 = .ok (.iload 6, 2) := by decide +kernel
theorem dX0_fitting_29 : decode cX0_fitting 29 = .ok (.invokevirtual 56, 3) := by decide +kernel
theorem dX0_fitting_32 : decode cX0_fitting 32 = .ok (.iadd, 1) := by decide +kernel
theorem dX0_fitting_33 : decode cX0_fitting 33 = .ok (.istore 5, 2) := by decide +kernel
theorem dX0_fitting_35 : decode cX0_fitting 35 = .ok (.iload 5, 2) := by decide +kernel
theorem dX0_fitting_37 : decode cX0_fitting 37 = .ok (.iload_n 3, 1) := by decide +kernel
theorem dX0_fitting_38 : decode cX0_fitting 38 = .ok (.if_icmp .le 6, 3) := by decide +kernel
theorem dX0_fitting_41 : decode cX0_fitting 41 = .ok (.goto 12, 3) := by decide +kernel
theorem dX0_fitting_44 : decode cX0_fitting 44 = .ok (.iinc 4 1, 3) := by decide +kernel
theorem dX0_fitting_47 : decode cX0_fitting 47 = .ok (.iinc 6 1, 3) := by decide +kernel
theorem dX0_fitting_50 : decode cX0_fitting 50 = .ok (.goto (-41), 3) := by decide +kernel
theorem dX0_fitting_53 : decode cX0_fitting 53 = .ok (.iload 4, 2) := by decide +kernel
theorem dX0_fitting_55 : decode cX0_fitting 55 = .ok (.ireturn, 1) := by decide +kernel
set_option maxRecDepth 20000 in
theorem ggX0_howManyHave_X0_value : GoodIn wsX0_howManyHave wsX0_value := goodIn_r _ [6, 7, 8, 9, 10, 11] (by decide +kernel) (by decide +kernel)
set_option maxRecDepth 20000 in
theorem gX0_howManyHave_X0_value : GoodIn wsX0_howManyHave (wsV RX0 59 RX0 yX0_value wsX0_value) := goodIn_app (goodIn_of _ (by decide +kernel)) ggX0_howManyHave_X0_value
theorem dX0_howManyHave_0 : decode cX0_howManyHave 0 = .ok (.iconst 0, 1) := by decide +kernel
theorem dX0_howManyHave_1 : decode cX0_howManyHave 1 = .ok (.istore_n 2, 1) := by decide +kernel
theorem dX0_howManyHave_2 : decode cX0_howManyHave 2 = .ok (.iconst 0, 1) := by decide +kernel
theorem dX0_howManyHave_3 : decode cX0_howManyHave 3 = .ok (.istore_n 3, 1) := by decide +kernel
theorem dX0_howManyHave_4 : decode cX0_howManyHave 4 = .ok (.iload_n 3, 1) := by decide +kernel
theorem dX0_howManyHave_5 : decode cX0_howManyHave 5 = .ok (.aload_n 0, 1) := by decide +kernel
theorem dX0_howManyHave_6 : decode cX0_howManyHave 6 = .ok (.getfield 21, 3) := by decide +kernel
theorem dX0_howManyHave_9 : decode cX0_howManyHave 9 = .ok (.if_icmp .ge 21, 3) := by decide +kernel
theorem dX0_howManyHave_12 : decode cX0_howManyHave 12 = .ok (.aload_n 0, 1) := by decide +kernel
theorem dX0_howManyHave_13 : decode cX0_howManyHave 13 = .ok (.iload_n 3, 1) := by decide +kernel
theorem dX0_howManyHave_14 : decode cX0_howManyHave 14 = .ok (.invokevirtual 59, 3) := by decide +kernel
theorem dX0_howManyHave_17 : decode cX0_howManyHave 17 = .ok (.iload_n 1, 1) := by decide +kernel
theorem dX0_howManyHave_18 : decode cX0_howManyHave 18 = .ok (.if_icmp .ne 6, 3) := by decide +kernel
theorem dX0_howManyHave_21 : decode cX0_howManyHave 21 = .ok (.iinc 2 1, 3) := by decide +kernel
theorem dX0_howManyHave_24 : decode cX0_howManyHave 24 = .ok (.iinc 3 1, 3) := by decide +kernel
theorem dX0_howManyHave_27 : decode cX0_howManyHave 27 = .ok (.goto (-23), 3) := by decide +kernel
theorem dX0_howManyHave_30 : decode cX0_howManyHave 30 = .ok (.iload_n 2, 1) := by decide +kernel
theorem dX0_howManyHave_31 : decode cX0_howManyHave 31 = .ok (.ireturn, 1) := by decide +kernel
set_option maxRecDepth 20000 in
theorem ggX0_withValue_X0_value : GoodIn wsX0_withValue wsX0_value := goodIn_r _ [6, 7, 8, 9, 10, 11] (by decide +kernel) (by decide +kernel)
set_option maxRecDepth 20000 in
theorem gX0_withValue_X0_value : GoodIn wsX0_withValue (wsV RX0 59 RX0 yX0_value wsX0_value) := goodIn_app (goodIn_of _ (by decide +kernel)) ggX0_withValue_X0_value
theorem dX0_withValue_0 : decode cX0_withValue 0 = .ok (.iconst 0, 1) := by decide +kernel
theorem dX0_withValue_1 : decode cX0_withValue 1 = .ok (.istore_n 3, 1) := by decide +kernel
theorem dX0_withValue_2 : decode cX0_withValue 2 = .ok (.iconst 0, 1) := by decide +kernel
theorem dX0_withValue_3 : decode cX0_withValue 3 = .ok (.istore 4, 2) := by decide +kernel
theorem dX0_withValue_5 : decode cX0_withValue 5 = .ok (.iload 4, 2) := by decide +kernel
theorem dX0_withValue_7 : decode cX0_withValue 7 = .ok (.aload_n 0, 1) := by decide +kernel
theorem dX0_withValue_8 : decode cX0_withValue 8 = .ok (.getfield 21, 3) := by decide +kernel
theorem dX0_withValue_11 : decode cX0_withValue 11 = .ok (.if_icmp .ge 30, 3) := by decide +kernel
theorem dX0_withValue_14 : decode cX0_withValue 14 = .ok (.aload_n 0, 1) := by decide +kernel
theorem dX0_withValue_15 : decode cX0_withValue 15 = .ok (.iload 4, 2) := by decide +kernel
theorem dX0_withValue_17 : decode cX0_withValue 17 = .ok (.invokevirtual 59, 3) := by decide +kernel
theorem dX0_withValue_20 : decode cX0_withValue 20 = .ok (.iload_n 1, 1) := by decide +kernel
theorem dX0_withValue_21 : decode cX0_withValue 21 = .ok (.if_icmp .ne 14, 3) := by decide +kernel
theorem dX0_withValue_24 : decode cX0_withValue 24 = .ok (.iload_n 3, 1) := by decide +kernel
theorem dX0_withValue_25 : decode cX0_withValue 25 = .ok (.iload_n 2, 1) := by decide +kernel
theorem dX0_withValue_26 : decode cX0_withValue 26 = .ok (.if_icmp .ne 6, 3) := by decide +kernel
theorem dX0_withValue_29 : decode cX0_withValue 29 = .ok (.iload 4, 2) := by decide +kernel
theorem dX0_withValue_31 : decode cX0_withValue 31 = .ok (.ireturn, 1) := by decide +kernel
theorem dX0_withValue_32 : decode cX0_withValue 32 = .ok (.iinc 3 1, 3) := by decide +kernel
theorem dX0_withValue_35 : decode cX0_withValue 35 = .ok (.iinc 4 1, 3) := by decide +kernel
theorem dX0_withValue_38 : decode cX0_withValue 38 = .ok (.goto (-33), 3) := by decide +kernel
theorem dX0_withValue_41 : decode cX0_withValue 41 = .ok (.bipush (-9), 2) := by decide +kernel
theorem dX0_withValue_43 : decode cX0_withValue 43 = .ok (.ireturn, 1) := by decide +kernel
set_option maxRecDepth 20000 in
theorem ggX0_listCells_X4_isLeaf : GoodIn wsX0_listCells wsX4_isLeaf := goodIn_r _ [5, 6, 7, 4, 8, 9, 10, 11, 12, 13, 39] (by decide +kernel) (by decide +kernel)
set_option maxRecDepth 20000 in
theorem gX0_listCells_X4_isLeaf : GoodIn wsX0_listCells (wsV RX0 62 RX4 yX4_isLeaf wsX4_isLeaf) := goodIn_app (goodIn_of _ (by decide +kernel)) ggX0_listCells_X4_isLeaf
set_option maxRecDepth 20000 in
theorem ggX0_listCells_X0_behind : GoodIn wsX0_listCells wsX0_behind := goodIn_r _ [17, 18, 19, 20, 21, 22] (by decide +kernel) (by decide +kernel)
set_option maxRecDepth 20000 in
theorem gX0_listCells_X0_behind : GoodIn wsX0_listCells (va_wsS RX0 40 yX0_behind wsX0_behind) := goodIn_app (goodIn_of _ (by decide +kernel)) ggX0_listCells_X0_behind
set_option maxRecDepth 20000 in
theorem ggX0_listCells_X4_statusOf : GoodIn wsX0_listCells wsX4_statusOf := goodIn_r _ [26, 6, 7, 4, 8, 9, 10, 11, 12, 13, 39] (by decide +kernel) (by decide +kernel)
set_option maxRecDepth 20000 in
theorem gX0_listCells_X4_statusOf : GoodIn wsX0_listCells (wsV RX0 66 RX4 yX4_statusOf wsX4_statusOf) := goodIn_app (goodIn_of _ (by decide +kernel)) ggX0_listCells_X4_statusOf
set_option maxRecDepth 20000 in
theorem ggX0_listCells_X0_add : GoodIn wsX0_listCells wsX0_add := goodIn_r _ [30, 31, 32, 33, 34, 40, 41, 42, 43] (by decide +kernel) (by decide +kernel)
set_option maxRecDepth 20000 in
theorem gX0_listCells_X0_add : GoodIn wsX0_listCells (wsV RX0 49 RX0 yX0_add wsX0_add) := goodIn_app (goodIn_of _ (by decide +kernel)) ggX0_listCells_X0_add
set_option maxRecDepth 20000 in
theorem ggX0_listCells_X4_cell : GoodIn wsX0_listCells wsX4_cell := goodIn_r _ [38, 6, 7, 4, 8, 9, 10, 11, 12, 13, 39] (by decide +kernel) (by decide +kernel)
set_option maxRecDepth 20000 in
theorem gX0_listCells_X4_cell : GoodIn wsX0_listCells (wsV RX0 69 RX4 yX4_cell wsX4_cell) := goodIn_app (goodIn_of _ (by decide +kernel)) ggX0_listCells_X4_cell
theorem dX0_listCells_0 : decode cX0_listCells 0 = .ok (.iconst 0, 1) := by decide +kernel
theorem dX0_listCells_1 : decode cX0_listCells 1 = .ok (.istore 5, 2) := by decide +kernel
theorem dX0_listCells_3 : decode cX0_listCells 3 = .ok (.iload 5, 2) := by decide +kernel
theorem dX0_listCells_5 : decode cX0_listCells 5 = .ok (.iload_n 3, 1) := by decide +kernel
theorem dX0_listCells_6 : decode cX0_listCells 6 = .ok (.if_icmp .gt 99, 3) := by decide +kernel
theorem dX0_listCells_9 : decode cX0_listCells 9 = .ok (.iload 5, 2) := by decide +kernel
theorem dX0_listCells_11 : decode cX0_listCells 11 = .ok (.iconst 3, 1) := by decide +kernel
theorem dX0_listCells_12 : decode cX0_listCells 12 = .ok (.if_icmp .gt 93, 3) := by decide +kernel
theorem dX0_listCells_15 : decode cX0_listCells 15 = .ok (.iconst 1, 1) := by decide +kernel
theorem dX0_listCells_16 : decode cX0_listCells 16 = .ok (.istore 6, 2) := by decide +kernel
theorem dX0_listCells_18 : decode cX0_listCells 18 = .ok (.iload 6, 2) := by decide +kernel
theorem dX0_listCells_20 : decode cX0_listCells 20 = .ok (.bipush 9, 2) := by decide +kernel
theorem dX0_listCells_22 : decode cX0_listCells 22 = .ok (.if_icmp .gt 77, 3) := by decide +kernel
theorem dX0_listCells_25 : decode cX0_listCells 25 = .ok (.aload 4, 2) := by decide +kernel
theorem dX0_listCells_27 : decode cX0_listCells 27 = .ok (.iload_n 2, 1) := by decide +kernel
theorem dX0_listCells_28 : decode cX0_listCells 28 = .ok (.iload 5, 2) := by decide +kernel
theorem dX0_listCells_30 : decode cX0_listCells 30 = .ok (.iload 6, 2) := by decide +kernel
theorem dX0_listCells_32 : decode cX0_listCells 32 = .ok (.invokevirtual 62, 3) := by decide +kernel
theorem dX0_listCells_35 : decode cX0_listCells 35 = .ok (.ifCond .ne 6, 3) := by decide +kernel
theorem dX0_listCells_38 : decode cX0_listCells 38 = .ok (.goto 55, 3) := by decide +kernel
theorem dX0_listCells_41 : decode cX0_listCells 41 = .ok (.iload 5, 2) := by decide +kernel
theorem dX0_listCells_43 : decode cX0_listCells 43 = .ok (.ifCond .ne 27, 3) := by decide +kernel
theorem dX0_listCells_46 : decode cX0_listCells 46 = .ok (.aload_n 0, 1) := by decide +kernel
theorem dX0_listCells_47 : decode cX0_listCells 47 = .ok (.iload_n 1, 1) := by decide +kernel
theorem dX0_listCells_48 : decode cX0_listCells 48 = .ok (.iload 5, 2) := by decide +kernel
theorem dX0_listCells_50 : decode cX0_listCells 50 = .ok (.iload 6, 2) := by decide +kernel
theorem dX0_listCells_52 : decode cX0_listCells 52 = .ok (.invokestatic 40, 3) := by decide +kernel
theorem dX0_listCells_55 : decode cX0_listCells 55 = .ok (.aload 4, 2) := by decide +kernel
theorem dX0_listCells_57 : decode cX0_listCells 57 = .ok (.iload_n 2, 1) := by decide +kernel
theorem dX0_listCells_58 : decode cX0_listCells 58 = .ok (.iload 6, 2) := by decide +kernel
theorem dX0_listCells_60 : decode cX0_listCells 60 = .ok (.invokevirtual 66, 3) := by decide +kernel
theorem dX0_listCells_63 : decode cX0_listCells 63 = .ok (.iconst 2, 1) := by decide +kernel
theorem dX0_listCells_64 : decode cX0_listCells 64 = .ok (.invokevirtual 49, 3) := by decide +kernel
theorem dX0_listCells_67 : decode cX0_listCells 67 = .ok (.goto 26, 3) := by decide +kernel
theorem dX0_listCells_70 : decode cX0_listCells 70 = .ok (.aload_n 0, 1) := by decide +kernel
theorem dX0_listCells_71 : decode cX0_listCells 71 = .ok (.iload_n 1, 1) := by decide +kernel
theorem dX0_listCells_72 : decode cX0_listCells 72 = .ok (.iload 5, 2) := by decide +kernel
theorem dX0_listCells_74 : decode cX0_listCells 74 = .ok (.iload 6, 2) := by decide +kernel
theorem dX0_listCells_76 : decode cX0_listCells 76 = .ok (.invokestatic 40, 3) := by decide +kernel
theorem dX0_listCells_79 : decode cX0_listCells 79 = .ok (.aload 4, 2) := by decide +kernel
theorem dX0_listCells_81 : decode cX0_listCells 81 = .ok (.iload_n 2, 1) := by decide +kernel
theorem dX0_listCells_82 : decode cX0_listCells 82 = .ok (.iload 5, 2) := by decide +kernel
theorem dX0_listCells_84 : decode cX0_listCells 84 = .ok (.iload 6, 2) := by decide +kernel
theorem dX0_listCells_86 : decode cX0_listCells 86 = .ok (.invokevirtual 69, 3) := by decide +kernel
theorem dX0_listCells_89 : decode cX0_listCells 89 = .ok (.iconst 3, 1) := by decide +kernel
theorem dX0_listCells_90 : decode cX0_listCells 90 = .ok (.invokevirtual 49, 3) := by decide +kernel
theorem dX0_listCells_93 : decode cX0_listCells 93 = .ok (.iinc 6 1, 3) := by decide +kernel
theorem dX0_listCells_96 : decode cX0_listCells 96 = .ok (.goto (-78), 3) := by decide +kernel
theorem dX0_listCells_99 : decode cX0_listCells 99 = .ok (.iinc 5 1, 3) := by decide +kernel
theorem dX0_listCells_102 : decode cX0_listCells 102 = .ok (.goto (-99), 3) := by decide +kernel
theorem dX0_listCells_105 : decode cX0_listCells 105 = .ok (.return_, 1) := by decide +kernel
set_option maxRecDepth 20000 in
theorem ggX0_behind_X8_numberOf : GoodIn wsX0_behind wsX8_numberOf := goodIn_r _ [3] (by decide +kernel) (by decide +kernel)
set_option maxRecDepth 20000 in
theorem gX0_behind_X8_numberOf_n72 : GoodIn wsX0_behind (wsX8_numberOf) := ggX0_behind_X8_numberOf
set_option maxRecDepth 20000 in
theorem ggX0_behind_X8_nameOf : GoodIn wsX0_behind wsX8_nameOf := goodIn_r _ [5] (by decide +kernel) (by decide +kernel)
set_option maxRecDepth 20000 in
theorem gX0_behind_X8_nameOf_n75 : GoodIn wsX0_behind (wsX8_nameOf) := ggX0_behind_X8_nameOf
theorem dX0_behind_0 : decode cX0_behind 0 = .ok (.iload_n 0, 1) := by decide +kernel
theorem dX0_behind_1 : decode cX0_behind 1 = .ok (.iconst 0, 1) := by decide +kernel
theorem dX0_behind_2 : decode cX0_behind 2 = .ok (.invokestatic 72, 3) := by decide +kernel
theorem dX0_behind_5 : decode cX0_behind 5 = .ok (.iload_n 0, 1) := by decide +kernel
theorem dX0_behind_6 : decode cX0_behind 6 = .ok (.iconst 1, 1) := by decide +kernel
theorem dX0_behind_7 : decode cX0_behind 7 = .ok (.invokestatic 72, 3) := by decide +kernel
theorem dX0_behind_10 : decode cX0_behind 10 = .ok (.iload_n 1, 1) := by decide +kernel
theorem dX0_behind_11 : decode cX0_behind 11 = .ok (.iload_n 2, 1) := by decide +kernel
theorem dX0_behind_12 : decode cX0_behind 12 = .ok (.invokestatic 75, 3) := by decide +kernel
theorem dX0_behind_15 : decode cX0_behind 15 = .ok (.ireturn, 1) := by decide +kernel
theorem dX0_add_0 : decode cX0_add 0 = .ok (.aload_n 0, 1) := by decide +kernel
theorem dX0_add_1 : decode cX0_add 1 = .ok (.getfield 21, 3) := by decide +kernel
theorem dX0_add_4 : decode cX0_add 4 = .ok (.ifCond .lt 12, 3) := by decide +kernel
theorem dX0_add_7 : decode cX0_add 7 = .ok (.aload_n 0, 1) := by decide +kernel
theorem dX0_add_8 : decode cX0_add 8 = .ok (.getfield 21, 3) := by decide +kernel
theorem dX0_add_11 : decode cX0_add 11 = .ok (.bipush 80, 2) := by decide +kernel
theorem dX0_add_13 : decode cX0_add 13 = .ok (.if_icmp .lt 4, 3) := by decide +kernel
theorem dX0_add_16 : decode cX0_add 16 = .ok (.return_, 1) := by decide +kernel
theorem dX0_add_17 : decode cX0_add 17 = .ok (.aload_n 0, 1) := by decide +kernel
theorem dX0_add_18 : decode cX0_add 18 = .ok (.getfield 11, 3) := by decide +kernel
theorem dX0_add_21 : decode cX0_add 21 = .ok (.aload_n 0, 1) := by decide +kernel
theorem dX0_add_22 : decode cX0_add 22 = .ok (.getfield 21, 3) := by decide +kernel
theorem dX0_add_25 : decode cX0_add 25 = .ok (.iload_n 1, 1) := by decide +kernel
theorem dX0_add_26 : decode cX0_add 26 = .ok (.iastore, 1) := by decide +kernel
theorem dX0_add_27 : decode cX0_add 27 = .ok (.aload_n 0, 1) := by decide +kernel
theorem dX0_add_28 : decode cX0_add 28 = .ok (.getfield 15, 3) := by decide +kernel
theorem dX0_add_31 : decode cX0_add 31 = .ok (.aload_n 0, 1) := by decide +kernel
theorem dX0_add_32 : decode cX0_add 32 = .ok (.getfield 21, 3) := by decide +kernel
theorem dX0_add_35 : decode cX0_add 35 = .ok (.iload_n 2, 1) := by decide +kernel
theorem dX0_add_36 : decode cX0_add 36 = .ok (.iastore, 1) := by decide +kernel
theorem dX0_add_37 : decode cX0_add 37 = .ok (.aload_n 0, 1) := by decide +kernel
theorem dX0_add_38 : decode cX0_add 38 = .ok (.getfield 18, 3) := by decide +kernel
theorem dX0_add_41 : decode cX0_add 41 = .ok (.aload_n 0, 1) := by decide +kernel
theorem dX0_add_42 : decode cX0_add 42 = .ok (.getfield 21, 3) := by decide +kernel
theorem dX0_add_45 : decode cX0_add 45 = .ok (.iload_n 3, 1) := by decide +kernel
theorem dX0_add_46 : decode cX0_add 46 = .ok (.iastore, 1) := by decide +kernel
theorem dX0_add_47 : decode cX0_add 47 = .ok (.aload_n 0, 1) := by decide +kernel
theorem dX0_add_48 : decode cX0_add 48 = .ok (.dup, 1) := by decide +kernel
theorem dX0_add_49 : decode cX0_add 49 = .ok (.getfield 21, 3) := by decide +kernel
theorem dX0_add_52 : decode cX0_add 52 = .ok (.iconst 1, 1) := by decide +kernel
theorem dX0_add_53 : decode cX0_add 53 = .ok (.iadd, 1) := by decide +kernel
theorem dX0_add_54 : decode cX0_add 54 = .ok (.putfield 21, 3) := by decide +kernel
theorem dX0_add_57 : decode cX0_add 57 = .ok (.return_, 1) := by decide +kernel
set_option maxRecDepth 20000 in
theorem ggX0_roomOf_X0_name : GoodIn wsX0_roomOf wsX0_name := goodIn_r _ [5, 6, 15, 16, 17, 18] (by decide +kernel) (by decide +kernel)
set_option maxRecDepth 20000 in
theorem gX0_roomOf_X0_name : GoodIn wsX0_roomOf (wsV RX0 53 RX0 yX0_name wsX0_name) := goodIn_app (goodIn_of _ (by decide +kernel)) ggX0_roomOf_X0_name
set_option maxRecDepth 20000 in
theorem ggX0_roomOf_X8_numberOf : GoodIn wsX0_roomOf wsX8_numberOf := goodIn_r _ [9] (by decide +kernel) (by decide +kernel)
set_option maxRecDepth 20000 in
theorem gX0_roomOf_X8_numberOf_n72 : GoodIn wsX0_roomOf (wsX8_numberOf) := ggX0_roomOf_X8_numberOf
set_option maxRecDepth 20000 in
theorem ggX0_roomOf_X0_value : GoodIn wsX0_roomOf wsX0_value := goodIn_r _ [13, 14, 15, 16, 17, 18] (by decide +kernel) (by decide +kernel)
set_option maxRecDepth 20000 in
theorem gX0_roomOf_X0_value : GoodIn wsX0_roomOf (wsV RX0 59 RX0 yX0_value wsX0_value) := goodIn_app (goodIn_of _ (by decide +kernel)) ggX0_roomOf_X0_value
theorem dX0_roomOf_0 : decode cX0_roomOf 0 = .ok (.aload_n 0, 1) := by decide +kernel
theorem dX0_roomOf_1 : decode cX0_roomOf 1 = .ok (.iload_n 1, 1) := by decide +kernel
theorem dX0_roomOf_2 : decode cX0_roomOf 2 = .ok (.invokevirtual 53, 3) := by decide +kernel
theorem dX0_roomOf_5 : decode cX0_roomOf 5 = .ok (.iconst 3, 1) := by decide +kernel
theorem dX0_roomOf_6 : decode cX0_roomOf 6 = .ok (.invokestatic 72, 3) := by decide +kernel
theorem dX0_roomOf_9 : decode cX0_roomOf 9 = .ok (.iconst (-1), 1) := by decide +kernel
theorem dX0_roomOf_10 : decode cX0_roomOf 10 = .ok (.if_icmp .ne 7, 3) := by decide +kernel
theorem dX0_roomOf_13 : decode cX0_roomOf 13 = .ok (.iconst 3, 1) := by decide +kernel
theorem dX0_roomOf_14 : decode cX0_roomOf 14 = .ok (.goto 4, 3) := by decide +kernel
theorem dX0_roomOf_17 : decode cX0_roomOf 17 = .ok (.iconst 4, 1) := by decide +kernel
theorem dX0_roomOf_18 : decode cX0_roomOf 18 = .ok (.istore_n 2, 1) := by decide +kernel
theorem dX0_roomOf_19 : decode cX0_roomOf 19 = .ok (.aload_n 0, 1) := by decide +kernel
theorem dX0_roomOf_20 : decode cX0_roomOf 20 = .ok (.iload_n 1, 1) := by decide +kernel
theorem dX0_roomOf_21 : decode cX0_roomOf 21 = .ok (.invokevirtual 59, 3) := by decide +kernel
theorem dX0_roomOf_24 : decode cX0_roomOf 24 = .ok (.istore_n 3, 1) := by decide +kernel
theorem dX0_roomOf_25 : decode cX0_roomOf 25 = .ok (.iload_n 3, 1) := by decide +kernel
theorem dX0_roomOf_26 : decode cX0_roomOf 26 = .ok (.bipush 10, 2) := by decide +kernel
theorem dX0_roomOf_28 : decode cX0_roomOf 28 = .ok (.if_icmp .ge 7, 3) := by decide +kernel
theorem dX0_roomOf_31 : decode cX0_roomOf 31 = .ok (.iconst 1, 1) := by decide +kernel
theorem dX0_roomOf_32 : decode cX0_roomOf 32 = .ok (.goto 14, 3) := by decide +kernel
theorem dX0_roomOf_35 : decode cX0_roomOf 35 = .ok (.iload_n 3, 1) := by decide +kernel
theorem dX0_roomOf_36 : decode cX0_roomOf 36 = .ok (.bipush 100, 2) := by decide +kernel
theorem dX0_roomOf_38 : decode cX0_roomOf 38 = .ok (.if_icmp .ge 7, 3) := by decide +kernel
theorem dX0_roomOf_41 : decode cX0_roomOf 41 = .ok (.iconst 2, 1) := by decide +kernel
theorem dX0_roomOf_42 : decode cX0_roomOf 42 = .ok (.goto 4, 3) := by decide +kernel
theorem dX0_roomOf_45 : decode cX0_roomOf 45 = .ok (.iconst 3, 1) := by decide +kernel
theorem dX0_roomOf_46 : decode cX0_roomOf 46 = .ok (.istore 4, 2) := by decide +kernel
theorem dX0_roomOf_48 : decode cX0_roomOf 48 = .ok (.iload_n 2, 1) := by decide +kernel
theorem dX0_roomOf_49 : decode cX0_roomOf 49 = .ok (.iload 4, 2) := by decide +kernel
theorem dX0_roomOf_51 : decode cX0_roomOf 51 = .ok (.iadd, 1) := by decide +kernel
theorem dX0_roomOf_52 : decode cX0_roomOf 52 = .ok (.ireturn, 1) := by decide +kernel
theorem dX1_init_0 : decode cX1_init 0 = .ok (.aload_n 0, 1) := by decide +kernel
theorem dX1_init_1 : decode cX1_init 1 = .ok (.invokespecial 3, 3) := by decide +kernel
theorem dX1_init_4 : decode cX1_init 4 = .ok (.aload_n 0, 1) := by decide +kernel
theorem dX1_init_5 : decode cX1_init 5 = .ok (.bipush 8, 2) := by decide +kernel
theorem dX1_init_7 : decode cX1_init 7 = .ok (.newarray .int, 2) := by decide +kernel
theorem dX1_init_9 : decode cX1_init 9 = .ok (.putfield 11, 3) := by decide +kernel
theorem dX1_init_12 : decode cX1_init 12 = .ok (.aload_n 0, 1) := by decide +kernel
theorem dX1_init_13 : decode cX1_init 13 = .ok (.bipush 8, 2) := by decide +kernel
theorem dX1_init_15 : decode cX1_init 15 = .ok (.newarray .int, 2) := by decide +kernel
theorem dX1_init_17 : decode cX1_init 17 = .ok (.putfield 15, 3) := by decide +kernel
theorem dX1_init_20 : decode cX1_init 20 = .ok (.return_, 1) := by decide +kernel
set_option maxRecDepth 20000 in
theorem ggX1_readFrom_X5_rewind : GoodIn wsX1_readFrom wsX5_rewind := goodIn_r _ [7, 8, 9, 10, 11, 12, 13, 14, 6, 15, 16, 17, 18, 19, 20, 21, 22, 23, 24, 25, 26, 64, 65, 66, 67, 68, 69, 70, 71, 72, 73] (by decide +kernel) (by decide +kernel)
set_option maxRecDepth 20000 in
theorem gX1_readFrom_X5_rewind : GoodIn wsX1_readFrom (wsV RX1 22 RX5 yX5_rewind wsX5_rewind) := goodIn_app (goodIn_of _ (by decide +kernel)) ggX1_readFrom_X5_rewind
set_option maxRecDepth 20000 in
theorem ggX1_readFrom_X5_takes : GoodIn wsX1_readFrom wsX5_takes := goodIn_r _ [30, 31, 32, 33, 34, 6, 35, 8, 9, 10, 36, 25, 26, 16, 37, 64, 65, 66, 67, 68, 69, 70, 71, 72, 73] (by decide +kernel) (by decide +kernel)
set_option maxRecDepth 20000 in
theorem gX1_readFrom_X5_takes : GoodIn wsX1_readFrom (wsV RX1 27 RX5 yX5_takes wsX5_takes) := goodIn_app (goodIn_of _ (by decide +kernel)) ggX1_readFrom_X5_takes
set_option maxRecDepth 20000 in
theorem ggX1_readFrom_X1_readOrder : GoodIn wsX1_readFrom wsX1_readOrder := goodIn_r _ [42, 43, 44, 45, 46, 47, 6, 48, 31, 37, 27, 28, 29, 30, 32, 33, 34, 35, 8, 9, 10, 36, 25, 26, 16, 49, 50, 51, 41, 52, 1, 53, 54, 55, 56, 57, 58, 59, 60, 64, 65, 66, 67, 68, 69, 70, 71, 72, 73, 61, 62, 63] (by decide +kernel) (by decide +kernel)
set_option maxRecDepth 20000 in
theorem gX1_readFrom_X1_readOrder : GoodIn wsX1_readFrom (wsV RX1 34 RX1 yX1_readOrder wsX1_readOrder) := goodIn_app (goodIn_of _ (by decide +kernel)) ggX1_readFrom_X1_readOrder
theorem dX1_readFrom_0 : decode cX1_readFrom 0 = .ok (.aload_n 0, 1) := by decide +kernel
theorem dX1_readFrom_1 : decode cX1_readFrom 1 = .ok (.iconst 0, 1) := by decide +kernel
theorem dX1_readFrom_2 : decode cX1_readFrom 2 = .ok (.putfield 18, 3) := by decide +kernel
theorem dX1_readFrom_5 : decode cX1_readFrom 5 = .ok (.aload_n 1, 1) := by decide +kernel
theorem dX1_readFrom_6 : decode cX1_readFrom 6 = .ok (.invokevirtual 22, 3) := by decide +kernel
theorem dX1_readFrom_9 : decode cX1_readFrom 9 = .ok (.iconst 0, 1) := by decide +kernel
theorem dX1_readFrom_10 : decode cX1_readFrom 10 = .ok (.istore_n 2, 1) := by decide +kernel
theorem dX1_readFrom_11 : decode cX1_readFrom 11 = .ok (.iload_n 2, 1) := by decide +kernel
theorem dX1_readFrom_12 : decode cX1_readFrom 12 = .ok (.bipush 8, 2) := by decide +kernel
theorem dX1_readFrom_14 : decode cX1_readFrom 14 = .ok (.if_icmp .ge 48, 3) := by decide +kernel
theorem dX1_readFrom_17 : decode cX1_readFrom 17 = .ok (.aload_n 1, 1) := by decide +kernel
theorem dX1_readFrom_18 : decode cX1_readFrom 18 = .ok (.sipush 257, 3) := by decide +kernel
theorem dX1_readFrom_21 : decode cX1_readFrom 21 = .ok (.invokevirtual 27, 3) := by decide +kernel
theorem dX1_readFrom_24 : decode cX1_readFrom 24 = .ok (.ifCond .eq 19, 3) := by decide +kernel
theorem dX1_readFrom_27 : decode cX1_readFrom 27 = .ok (.aload_n 0, 1) := by decide +kernel
theorem dX1_readFrom_28 : decode cX1_readFrom 28 = .ok (.getfield 18, 3) := by decide +kernel
theorem dX1_readFrom_31 : decode cX1_readFrom 31 = .ok (.ifCond .le 7, 3) := by decide +kernel
theorem dX1_readFrom_34 : decode cX1_readFrom 34 = .ok (.iconst (-1), 1) := by decide +kernel
theorem dX1_readFrom_35 : decode cX1_readFrom 35 = .ok (.goto 7, 3) := by decide +kernel
theorem dX1_readFrom_38 : decode cX1_readFrom 38 = .ok (.aload_n 1, 1) := by decide +kernel
theorem dX1_readFrom_39 : decode cX1_readFrom 39 = .ok (.getfield 31, 3) := by decide +kernel
theorem dX1_readFrom_42 : decode cX1_readFrom 42 = .ok (.ireturn, 1) := by decide +kernel
theorem dX1_readFrom_43 : decode cX1_readFrom 43 = .ok (.aload_n 0, 1) := by decide +kernel
theorem dX1_readFrom_44 : decode cX1_readFrom 44 = .ok (.aload_n 1, 1) := by decide +kernel
theorem dX1_readFrom_45 : decode cX1_readFrom 45 = .ok (.invokevirtual 34, 3) := by decide +kernel
theorem dX1_readFrom_48 : decode cX1_readFrom 48 = .ok (.ifCond .ne 8, 3) := by decide +kernel
theorem dX1_readFrom_51 : decode cX1_readFrom 51 = .ok (.aload_n 1, 1) := by decide +kernel
theorem dX1_readFrom_52 : decode cX1_readFrom 52 = .ok (.getfield 31, 3) := by decide +kernel
theorem dX1_readFrom_55 : decode cX1_readFrom 55 = .ok (.ireturn, 1) := by decide +kernel
theorem dX1_readFrom_56 : decode cX1_readFrom 56 = .ok (.iinc 2 1, 3) := by decide +kernel
theorem dX1_readFrom_59 : decode cX1_readFrom 59 = .ok (.goto (-48), 3) := by decide +kernel
theorem dX1_readFrom_62 : decode cX1_readFrom 62 = .ok (.aload_n 1, 1) := by decide +kernel
theorem dX1_readFrom_63 : decode cX1_readFrom 63 = .ok (.sipush 257, 3) := by decide +kernel
theorem dX1_readFrom_66 : decode cX1_readFrom 66 = .ok (.invokevirtual 27, 3) := by decide +kernel
theorem dX1_readFrom_69 : decode cX1_readFrom 69 = .ok (.ifCond .eq 7, 3) := by decide +kernel
theorem dX1_readFrom_72 : decode cX1_readFrom 72 = .ok (.iconst (-1), 1) := by decide +kernel
theorem dX1_readFrom_73 : decode cX1_readFrom 73 = .ok (.goto 7, 3) := by decide +kernel
theorem dX1_readFrom_76 : decode cX1_readFrom 76 = .ok (.aload_n 1, 1) := by decide +kernel
theorem dX1_readFrom_77 : decode cX1_readFrom 77 = .ok (.getfield 31, 3) := by decide +kernel
theorem dX1_readFrom_80 : decode cX1_readFrom 80 = .ok (.ireturn, 1) := by decide +kernel
theorem dX1_name_0 : decode cX1_name 0 = .ok (.iload_n 1, 1) := by decide +kernel
theorem dX1_name_1 : decode cX1_name 1 = .ok (.ifCond .lt 18, 3) := by decide +kernel
theorem dX1_name_4 : decode cX1_name 4 = .ok (.iload_n 1, 1) := by decide +kernel
theorem dX1_name_5 : decode cX1_name 5 = .ok (.bipush 8, 2) := by decide +kernel
theorem dX1_name_7 : decode cX1_name 7 = .ok (.if_icmp .ge 12, 3) := by decide +kernel
theorem dX1_name_10 : decode cX1_name 10 = .ok (.aload_n 0, 1) := by decide +kernel
theorem dX1_name_11 : decode cX1_name 11 = .ok (.getfield 11, 3) := by decide +kernel
theorem dX1_name_14 : decode cX1_name 14 = .ok (.iload_n 1, 1) := by decide +kernel
theorem dX1_name_15 : decode cX1_name 15 = .ok (.iaload, 1) := by decide +kernel
theorem dX1_name_16 : decode cX1_name 16 = .ok (.goto 4, 3) := by decide +kernel
theorem dX1_name_19 : decode cX1_name 19 = .ok (.iconst 0, 1) := by decide +kernel
theorem dX1_name_20 : decode cX1_name 20 = .ok (.ireturn, 1) := by decide +kernel
theorem dX1_value_0 : decode cX1_value 0 = .ok (.iload_n 1, 1) := by decide +kernel
theorem dX1_value_1 : decode cX1_value 1 = .ok (.ifCond .lt 18, 3) := by decide +kernel
theorem dX1_value_4 : decode cX1_value 4 = .ok (.iload_n 1, 1) := by decide +kernel
theorem dX1_value_5 : decode cX1_value 5 = .ok (.bipush 8, 2) := by decide +kernel
theorem dX1_value_7 : decode cX1_value 7 = .ok (.if_icmp .ge 12, 3) := by decide +kernel
theorem dX1_value_10 : decode cX1_value 10 = .ok (.aload_n 0, 1) := by decide +kernel
theorem dX1_value_11 : decode cX1_value 11 = .ok (.getfield 15, 3) := by decide +kernel
theorem dX1_value_14 : decode cX1_value 14 = .ok (.iload_n 1, 1) := by decide +kernel
theorem dX1_value_15 : decode cX1_value 15 = .ok (.iaload, 1) := by decide +kernel
theorem dX1_value_16 : decode cX1_value 16 = .ok (.goto 4, 3) := by decide +kernel
theorem dX1_value_19 : decode cX1_value 19 = .ok (.iconst 0, 1) := by decide +kernel
theorem dX1_value_20 : decode cX1_value 20 = .ok (.ireturn, 1) := by decide +kernel
set_option maxRecDepth 20000 in
theorem ggX1_readOrder_X5_isNumber : GoodIn wsX1_readOrder wsX5_isNumber := goodIn_r _ [7, 8, 9, 39, 40, 41, 42, 43, 44, 45, 46, 47, 48] (by decide +kernel) (by decide +kernel)
set_option maxRecDepth 20000 in
theorem gX1_readOrder_X5_isNumber : GoodIn wsX1_readOrder (wsV RX1 38 RX5 yX5_isNumber wsX5_isNumber) := goodIn_app (goodIn_of _ (by decide +kernel)) ggX1_readOrder_X5_isNumber
set_option maxRecDepth 20000 in
theorem ggX1_readOrder_X5_takes : GoodIn wsX1_readOrder wsX5_takes := goodIn_r _ [13, 8, 14, 15, 16, 6, 17, 18, 19, 20, 21, 22, 23, 24, 9, 39, 40, 41, 42, 43, 44, 45, 46, 47, 48] (by decide +kernel) (by decide +kernel)
set_option maxRecDepth 20000 in
theorem gX1_readOrder_X5_takes : GoodIn wsX1_readOrder (wsV RX1 27 RX5 yX5_takes wsX5_takes) := goodIn_app (goodIn_of _ (by decide +kernel)) ggX1_readOrder_X5_takes
set_option maxRecDepth 20000 in
theorem ggX1_readOrder_X1_readValue : GoodIn wsX1_readOrder wsX1_readValue := goodIn_r _ [29, 30, 31, 32, 1, 33, 34, 35, 6, 36, 14, 15, 16, 17, 18, 19, 8, 20, 21, 22, 23, 24, 9, 37, 4, 5, 7, 10, 11, 12, 13, 49, 50, 51, 39, 40, 41, 42, 43, 44, 45, 46, 47, 48] (by decide +kernel) (by decide +kernel)
set_option maxRecDepth 20000 in
theorem gX1_readOrder_X1_readValue : GoodIn wsX1_readOrder (wsV RX1 45 RX1 yX1_readValue wsX1_readValue) := goodIn_app (goodIn_of _ (by decide +kernel)) ggX1_readOrder_X1_readValue
set_option maxRecDepth 20000 in
theorem ggX1_readOrder_X5_advance : GoodIn wsX1_readOrder wsX5_advance := goodIn_r _ [17, 18, 19, 8, 20, 21, 22, 23, 24, 9, 39, 40, 41, 42, 43, 44, 45, 46, 47, 48] (by decide +kernel) (by decide +kernel)
set_option maxRecDepth 20000 in
theorem gX1_readOrder_X5_advance : GoodIn wsX1_readOrder (wsV RX1 52 RX5 yX5_advance wsX5_advance) := goodIn_app (goodIn_of _ (by decide +kernel)) ggX1_readOrder_X5_advance
theorem dX1_readOrder_0 : decode cX1_readOrder 0 = .ok (.iconst 0, 1) := by decide +kernel
theorem dX1_readOrder_1 : decode cX1_readOrder 1 = .ok (.istore_n 2, 1) := by decide +kernel
theorem dX1_readOrder_2 : decode cX1_readOrder 2 = .ok (.bipush 12, 2) := by decide +kernel
theorem dX1_readOrder_4 : decode cX1_readOrder 4 = .ok (.istore_n 3, 1) := by decide +kernel
theorem dX1_readOrder_5 : decode cX1_readOrder 5 = .ok (.iload_n 3, 1) := by decide +kernel
theorem dX1_readOrder_6 : decode cX1_readOrder 6 = .ok (.ifCond .lt 67, 3) := by decide +kernel
theorem dX1_readOrder_9 : decode cX1_readOrder 9 = .ok (.aload_n 1, 1) := by decide +kernel
theorem dX1_readOrder_10 : decode cX1_readOrder 10 = .ok (.iconst 0, 1) := by decide +kernel
theorem dX1_readOrder_11 : decode cX1_readOrder 11 = .ok (.bipush 9, 2) := by decide +kernel
theorem dX1_readOrder_13 : decode cX1_readOrder 13 = .ok (.invokevirtual 38, 3) := by decide +kernel
theorem dX1_readOrder_16 : decode cX1_readOrder 16 = .ok (.ifCond .ne 5, 3) := by decide +kernel
theorem dX1_readOrder_19 : decode cX1_readOrder 19 = .ok (.iconst 0, 1) := by decide +kernel
theorem dX1_readOrder_20 : decode cX1_readOrder 20 = .ok (.ireturn, 1) := by decide +kernel
theorem dX1_readOrder_21 : decode cX1_readOrder 21 = .ok (.iload_n 2, 1) := by decide +kernel
theorem dX1_readOrder_22 : decode cX1_readOrder 22 = .ok (.aload_n 1, 1) := by decide +kernel
theorem dX1_readOrder_23 : decode cX1_readOrder 23 = .ok (.getfield 42, 3) := by decide +kernel
theorem dX1_readOrder_26 : decode cX1_readOrder 26 = .ok (.iconst 1, 1) := by decide +kernel
theorem dX1_readOrder_27 : decode cX1_readOrder 27 = .ok (.iadd, 1) := by decide +kernel
theorem dX1_readOrder_28 : decode cX1_readOrder 28 = .ok (.iload_n 3, 1) := by decide +kernel
theorem dX1_readOrder_29 : decode cX1_readOrder 29 = .ok (.ishl, 1) := by decide +kernel
theorem dX1_readOrder_30 : decode cX1_readOrder 30 = .ok (.ior, 1) := by decide +kernel
theorem dX1_readOrder_31 : decode cX1_readOrder 31 = .ok (.istore_n 2, 1) := by decide +kernel
theorem dX1_readOrder_32 : decode cX1_readOrder 32 = .ok (.aload_n 1, 1) := by decide +kernel
theorem dX1_readOrder_33 : decode cX1_readOrder 33 = .ok (.bipush 61, 2) := by decide +kernel
theorem dX1_readOrder_35 : decode cX1_readOrder 35 = .ok (.invokevirtual 27, 3) := by decide +kernel
theorem dX1_readOrder_38 : decode cX1_readOrder 38 = .ok (.ifCond .eq 10, 3) := by decide +kernel
theorem dX1_readOrder_41 : decode cX1_readOrder 41 = .ok (.aload_n 0, 1) := by decide +kernel
theorem dX1_readOrder_42 : decode cX1_readOrder 42 = .ok (.iload_n 2, 1) := by decide +kernel
theorem dX1_readOrder_43 : decode cX1_readOrder 43 = .ok (.aload_n 1, 1) := by decide +kernel
theorem dX1_readOrder_44 : decode cX1_readOrder 44 = .ok (.invokevirtual 45, 3) := by decide +kernel
theorem dX1_readOrder_47 : decode cX1_readOrder 47 = .ok (.ireturn, 1) := by decide +kernel
theorem dX1_readOrder_48 : decode cX1_readOrder 48 = .ok (.aload_n 1, 1) := by decide +kernel
theorem dX1_readOrder_49 : decode cX1_readOrder 49 = .ok (.getfield 49, 3) := by decide +kernel
theorem dX1_readOrder_52 : decode cX1_readOrder 52 = .ok (.bipush 46, 2) := by decide +kernel
theorem dX1_readOrder_54 : decode cX1_readOrder 54 = .ok (.if_icmp .ne 7, 3) := by decide +kernel
theorem dX1_readOrder_57 : decode cX1_readOrder 57 = .ok (.iload_n 3, 1) := by decide +kernel
theorem dX1_readOrder_58 : decode cX1_readOrder 58 = .ok (.ifCond .ne 5, 3) := by decide +kernel
theorem dX1_readOrder_61 : decode cX1_readOrder 61 = .ok (.iconst 0, 1) := by decide +kernel
theorem dX1_readOrder_62 : decode cX1_readOrder 62 = .ok (.ireturn, 1) := by decide +kernel
theorem dX1_readOrder_63 : decode cX1_readOrder 63 = .ok (.aload_n 1, 1) := by decide +kernel
theorem dX1_readOrder_64 : decode cX1_readOrder 64 = .ok (.invokevirtual 52, 3) := by decide +kernel
theorem dX1_readOrder_67 : decode cX1_readOrder 67 = .ok (.iinc 3 (-4), 3) := by decide +kernel
theorem dX1_readOrder_70 : decode cX1_readOrder 70 = .ok (.goto (-65), 3) := by decide +kernel
theorem dX1_readOrder_73 : decode cX1_readOrder 73 = .ok (.iconst 0, 1) := by decide +kernel
theorem dX1_readOrder_74 : decode cX1_readOrder 74 = .ok (.ireturn, 1) := by decide +kernel
set_option maxRecDepth 20000 in
theorem ggX1_readValue_X5_takesNumber : GoodIn wsX1_readValue wsX5_takesNumber := goodIn_r _ [9, 10, 11, 12, 8, 13, 14, 15, 16, 17, 18, 19, 20, 21, 22, 23, 24, 25, 26, 34, 35, 36, 37, 38, 39, 40, 41, 42, 43] (by decide +kernel) (by decide +kernel)
set_option maxRecDepth 20000 in
theorem gX1_readValue_X5_takesNumber : GoodIn wsX1_readValue (wsV RX1 55 RX5 yX5_takesNumber wsX5_takesNumber) := goodIn_app (goodIn_of _ (by decide +kernel)) ggX1_readValue_X5_takesNumber
set_option maxRecDepth 20000 in
theorem ggX1_readValue_X5_takes : GoodIn wsX1_readValue wsX5_takes := goodIn_r _ [30, 16, 10, 11, 12, 8, 13, 14, 15, 17, 18, 19, 20, 21, 22, 34, 35, 36, 37, 38, 39, 40, 41, 42, 43] (by decide +kernel) (by decide +kernel)
set_option maxRecDepth 20000 in
theorem gX1_readValue_X5_takes : GoodIn wsX1_readValue (wsV RX1 27 RX5 yX5_takes wsX5_takes) := goodIn_app (goodIn_of _ (by decide +kernel)) ggX1_readValue_X5_takes
theorem dX1_readValue_0 : decode cX1_readValue 0 = .ok (.aload_n 0, 1) := by decide +kernel
theorem dX1_readValue_1 : decode cX1_readValue 1 = .ok (.getfield 18, 3) := by decide +kernel
theorem dX1_readValue_4 : decode cX1_readValue 4 = .ok (.ifCond .lt 22, 3) := by decide +kernel
theorem dX1_readValue_7 : decode cX1_readValue 7 = .ok (.aload_n 0, 1) := by decide +kernel
theorem dX1_readValue_8 : decode cX1_readValue 8 = .ok (.getfield 18, 3) := by decide +kernel
theorem dX1_readValue_11 : decode cX1_readValue 11 = .ok (.bipush 8, 2) := by decide +kernel
theorem dX1_readValue_13 : decode cX1_readValue 13 = .ok (.if_icmp .ge 13, 3) := by decide +kernel
theorem dX1_readValue_16 : decode cX1_readValue 16 = .ok (.aload_n 2, 1) := by decide +kernel
theorem dX1_readValue_17 : decode cX1_readValue 17 = .ok (.iconst 0, 1) := by decide +kernel
theorem dX1_readValue_18 : decode cX1_readValue 18 = .ok (.bipush 99, 2) := by decide +kernel
theorem dX1_readValue_20 : decode cX1_readValue 20 = .ok (.invokevirtual 55, 3) := by decide +kernel
theorem dX1_readValue_23 : decode cX1_readValue 23 = .ok (.ifCond .ne 5, 3) := by decide +kernel
theorem dX1_readValue_26 : decode cX1_readValue 26 = .ok (.iconst 0, 1) := by decide +kernel
theorem dX1_readValue_27 : decode cX1_readValue 27 = .ok (.ireturn, 1) := by decide +kernel
theorem dX1_readValue_28 : decode cX1_readValue 28 = .ok (.aload_n 0, 1) := by decide +kernel
theorem dX1_readValue_29 : decode cX1_readValue 29 = .ok (.getfield 11, 3) := by decide +kernel
theorem dX1_readValue_32 : decode cX1_readValue 32 = .ok (.aload_n 0, 1) := by decide +kernel
theorem dX1_readValue_33 : decode cX1_readValue 33 = .ok (.getfield 18, 3) := by decide +kernel
theorem dX1_readValue_36 : decode cX1_readValue 36 = .ok (.iload_n 1, 1) := by decide +kernel
theorem dX1_readValue_37 : decode cX1_readValue 37 = .ok (.iastore, 1) := by decide +kernel
theorem dX1_readValue_38 : decode cX1_readValue 38 = .ok (.aload_n 0, 1) := by decide +kernel
theorem dX1_readValue_39 : decode cX1_readValue 39 = .ok (.getfield 15, 3) := by decide +kernel
theorem dX1_readValue_42 : decode cX1_readValue 42 = .ok (.aload_n 0, 1) := by decide +kernel
theorem dX1_readValue_43 : decode cX1_readValue 43 = .ok (.getfield 18, 3) := by decide +kernel
theorem dX1_readValue_46 : decode cX1_readValue 46 = .ok (.aload_n 2, 1) := by decide +kernel
theorem dX1_readValue_47 : decode cX1_readValue 47 = .ok (.getfield 42, 3) := by decide +kernel
theorem dX1_readValue_50 : decode cX1_readValue 50 = .ok (.iastore, 1) := by decide +kernel
theorem dX1_readValue_51 : decode cX1_readValue 51 = .ok (.aload_n 0, 1) := by decide +kernel
theorem dX1_readValue_52 : decode cX1_readValue 52 = .ok (.dup, 1) := by decide +kernel
theorem dX1_readValue_53 : decode cX1_readValue 53 = .ok (.getfield 18, 3) := by decide +kernel
theorem dX1_readValue_56 : decode cX1_readValue 56 = .ok (.iconst 1, 1) := by decide +kernel
theorem dX1_readValue_57 : decode cX1_readValue 57 = .ok (.iadd, 1) := by decide +kernel
theorem dX1_readValue_58 : decode cX1_readValue 58 = .ok (.putfield 18, 3) := by decide +kernel
theorem dX1_readValue_61 : decode cX1_readValue 61 = .ok (.aload_n 2, 1) := by decide +kernel
theorem dX1_readValue_62 : decode cX1_readValue 62 = .ok (.bipush 59, 2) := by decide +kernel
theorem dX1_readValue_64 : decode cX1_readValue 64 = .ok (.invokevirtual 27, 3) := by decide +kernel
theorem dX1_readValue_67 : decode cX1_readValue 67 = .ok (.ireturn, 1) := by decide +kernel
set_option maxRecDepth 20000 in
theorem ggX2_init_X3_init : GoodIn wsX2_init wsX3_init := goodIn_r _ [10, 11, 2, 3, 12, 13, 14, 15, 16, 17, 18, 19, 20, 21] (by decide +kernel) (by decide +kernel)
set_option maxRecDepth 20000 in
theorem gX2_init_X3_init : GoodIn wsX2_init (wsX3_init) := ggX2_init_X3_init
theorem dX2_init_0 : decode cX2_init 0 = .ok (.aload_n 0, 1) := by decide +kernel
theorem dX2_init_1 : decode cX2_init 1 = .ok (.invokespecial 3, 3) := by decide +kernel
theorem dX2_init_4 : decode cX2_init 4 = .ok (.aload_n 0, 1) := by decide +kernel
theorem dX2_init_5 : decode cX2_init 5 = .ok (.new 9, 3) := by decide +kernel
theorem dX2_init_8 : decode cX2_init 8 = .ok (.dup, 1) := by decide +kernel
theorem dX2_init_9 : decode cX2_init 9 = .ok (.bipush 6, 2) := by decide +kernel
theorem dX2_init_11 : decode cX2_init 11 = .ok (.invokespecial 11, 3) := by decide +kernel
theorem dX2_init_14 : decode cX2_init 14 = .ok (.putfield 14, 3) := by decide +kernel
theorem dX2_init_17 : decode cX2_init 17 = .ok (.return_, 1) := by decide +kernel
set_option maxRecDepth 20000 in
theorem ggX2_push_X3_put : GoodIn wsX2_push wsX3_put := goodIn_r _ [12, 13, 14, 15, 16, 17, 18, 19, 20, 21, 22, 23, 24, 28, 29, 30] (by decide +kernel) (by decide +kernel)
set_option maxRecDepth 20000 in
theorem gX2_push_X3_put : GoodIn wsX2_push (wsV RX2 24 RX3 yX3_put wsX3_put) := goodIn_app (goodIn_of _ (by decide +kernel)) ggX2_push_X3_put
theorem dX2_push_0 : decode cX2_push 0 = .ok (.aload_n 0, 1) := by decide +kernel
theorem dX2_push_1 : decode cX2_push 1 = .ok (.aload_n 0, 1) := by decide +kernel
theorem dX2_push_2 : decode cX2_push 2 = .ok (.getfield 20, 3) := by decide +kernel
theorem dX2_push_5 : decode cX2_push 5 = .ok (.iconst 1, 1) := by decide +kernel
theorem dX2_push_6 : decode cX2_push 6 = .ok (.iadd, 1) := by decide +kernel
theorem dX2_push_7 : decode cX2_push 7 = .ok (.bipush 6, 2) := by decide +kernel
theorem dX2_push_9 : decode cX2_push 9 = .ok (.irem, 1) := by decide +kernel
theorem dX2_push_10 : decode cX2_push 10 = .ok (.putfield 20, 3) := by decide +kernel
theorem dX2_push_13 : decode cX2_push 13 = .ok (.aload_n 0, 1) := by decide +kernel
theorem dX2_push_14 : decode cX2_push 14 = .ok (.getfield 14, 3) := by decide +kernel
theorem dX2_push_17 : decode cX2_push 17 = .ok (.aload_n 0, 1) := by decide +kernel
theorem dX2_push_18 : decode cX2_push 18 = .ok (.getfield 20, 3) := by decide +kernel
theorem dX2_push_21 : decode cX2_push 21 = .ok (.aload_n 1, 1) := by decide +kernel
theorem dX2_push_22 : decode cX2_push 22 = .ok (.invokevirtual 24, 3) := by decide +kernel
theorem dX2_push_25 : decode cX2_push 25 = .ok (.aload_n 0, 1) := by decide +kernel
theorem dX2_push_26 : decode cX2_push 26 = .ok (.aload_n 0, 1) := by decide +kernel
theorem dX2_push_27 : decode cX2_push 27 = .ok (.getfield 28, 3) := by decide +kernel
theorem dX2_push_30 : decode cX2_push 30 = .ok (.iconst 1, 1) := by decide +kernel
theorem dX2_push_31 : decode cX2_push 31 = .ok (.iadd, 1) := by decide +kernel
theorem dX2_push_32 : decode cX2_push 32 = .ok (.bipush 6, 2) := by decide +kernel
theorem dX2_push_34 : decode cX2_push 34 = .ok (.invokestatic 31, 3) := by decide +kernel
theorem dX2_push_37 : decode cX2_push 37 = .ok (.putfield 28, 3) := by decide +kernel
theorem dX2_push_40 : decode cX2_push 40 = .ok (.return_, 1) := by decide +kernel
set_option maxRecDepth 20000 in
theorem ggX2_pop_X3_bring : GoodIn wsX2_pop wsX3_bring := goodIn_r _ [8, 9, 10, 11, 12, 7, 13, 14, 15, 16, 17, 18, 19, 20, 21, 22, 23, 24, 28, 29, 30] (by decide +kernel) (by decide +kernel)
set_option maxRecDepth 20000 in
theorem gX2_pop_X3_bring : GoodIn wsX2_pop (wsV RX2 37 RX3 yX3_bring wsX3_bring) := goodIn_app (goodIn_of _ (by decide +kernel)) ggX2_pop_X3_bring
theorem dX2_pop_0 : decode cX2_pop 0 = .ok (.aload_n 0, 1) := by decide +kernel
theorem dX2_pop_1 : decode cX2_pop 1 = .ok (.getfield 28, 3) := by decide +kernel
theorem dX2_pop_4 : decode cX2_pop 4 = .ok (.ifCond .le 41, 3) := by decide +kernel
theorem dX2_pop_7 : decode cX2_pop 7 = .ok (.aload_n 0, 1) := by decide +kernel
theorem dX2_pop_8 : decode cX2_pop 8 = .ok (.getfield 14, 3) := by decide +kernel
theorem dX2_pop_11 : decode cX2_pop 11 = .ok (.aload_n 0, 1) := by decide +kernel
theorem dX2_pop_12 : decode cX2_pop 12 = .ok (.getfield 20, 3) := by decide +kernel
theorem dX2_pop_15 : decode cX2_pop 15 = .ok (.aload_n 1, 1) := by decide +kernel
theorem dX2_pop_16 : decode cX2_pop 16 = .ok (.invokevirtual 37, 3) := by decide +kernel
theorem dX2_pop_19 : decode cX2_pop 19 = .ok (.aload_n 0, 1) := by decide +kernel
theorem dX2_pop_20 : decode cX2_pop 20 = .ok (.aload_n 0, 1) := by decide +kernel
theorem dX2_pop_21 : decode cX2_pop 21 = .ok (.getfield 20, 3) := by decide +kernel
theorem dX2_pop_24 : decode cX2_pop 24 = .ok (.bipush 6, 2) := by decide +kernel
theorem dX2_pop_26 : decode cX2_pop 26 = .ok (.iadd, 1) := by decide +kernel
theorem dX2_pop_27 : decode cX2_pop 27 = .ok (.iconst 1, 1) := by decide +kernel
theorem dX2_pop_28 : decode cX2_pop 28 = .ok (.isub, 1) := by decide +kernel
theorem dX2_pop_29 : decode cX2_pop 29 = .ok (.bipush 6, 2) := by decide +kernel
theorem dX2_pop_31 : decode cX2_pop 31 = .ok (.irem, 1) := by decide +kernel
theorem dX2_pop_32 : decode cX2_pop 32 = .ok (.putfield 20, 3) := by decide +kernel
theorem dX2_pop_35 : decode cX2_pop 35 = .ok (.aload_n 0, 1) := by decide +kernel
theorem dX2_pop_36 : decode cX2_pop 36 = .ok (.dup, 1) := by decide +kernel
theorem dX2_pop_37 : decode cX2_pop 37 = .ok (.getfield 28, 3) := by decide +kernel
theorem dX2_pop_40 : decode cX2_pop 40 = .ok (.iconst 1, 1) := by decide +kernel
theorem dX2_pop_41 : decode cX2_pop 41 = .ok (.isub, 1) := by decide +kernel
theorem dX2_pop_42 : decode cX2_pop 42 = .ok (.putfield 28, 3) := by decide +kernel
theorem dX2_pop_45 : decode cX2_pop 45 = .ok (.return_, 1) := by decide +kernel
theorem dX2_forget_0 : decode cX2_forget 0 = .ok (.aload_n 0, 1) := by decide +kernel
theorem dX2_forget_1 : decode cX2_forget 1 = .ok (.iconst 0, 1) := by decide +kernel
theorem dX2_forget_2 : decode cX2_forget 2 = .ok (.putfield 28, 3) := by decide +kernel
theorem dX2_forget_5 : decode cX2_forget 5 = .ok (.return_, 1) := by decide +kernel
theorem dX3_init_0 : decode cX3_init 0 = .ok (.aload_n 0, 1) := by decide +kernel
theorem dX3_init_1 : decode cX3_init 1 = .ok (.invokespecial 1, 3) := by decide +kernel
theorem dX3_init_4 : decode cX3_init 4 = .ok (.iload_n 1, 1) := by decide +kernel
theorem dX3_init_5 : decode cX3_init 5 = .ok (.iconst 0, 1) := by decide +kernel
theorem dX3_init_6 : decode cX3_init 6 = .ok (.invokestatic 7, 3) := by decide +kernel
theorem dX3_init_9 : decode cX3_init 9 = .ok (.istore_n 2, 1) := by decide +kernel
theorem dX3_init_10 : decode cX3_init 10 = .ok (.aload_n 0, 1) := by decide +kernel
theorem dX3_init_11 : decode cX3_init 11 = .ok (.iload_n 2, 1) := by decide +kernel
theorem dX3_init_12 : decode cX3_init 12 = .ok (.bipush 124, 2) := by decide +kernel
theorem dX3_init_14 : decode cX3_init 14 = .ok (.imul, 1) := by decide +kernel
theorem dX3_init_15 : decode cX3_init 15 = .ok (.newarray .int, 2) := by decide +kernel
theorem dX3_init_17 : decode cX3_init 17 = .ok (.putfield 15, 3) := by decide +kernel
theorem dX3_init_20 : decode cX3_init 20 = .ok (.aload_n 0, 1) := by decide +kernel
theorem dX3_init_21 : decode cX3_init 21 = .ok (.iload_n 2, 1) := by decide +kernel
theorem dX3_init_22 : decode cX3_init 22 = .ok (.newarray .boolean, 2) := by decide +kernel
theorem dX3_init_24 : decode cX3_init 24 = .ok (.putfield 21, 3) := by decide +kernel
theorem dX3_init_27 : decode cX3_init 27 = .ok (.return_, 1) := by decide +kernel
theorem dX3_has_0 : decode cX3_has 0 = .ok (.iload_n 1, 1) := by decide +kernel
theorem dX3_has_1 : decode cX3_has 1 = .ok (.ifCond .lt 25, 3) := by decide +kernel
theorem dX3_has_4 : decode cX3_has 4 = .ok (.iload_n 1, 1) := by decide +kernel
theorem dX3_has_5 : decode cX3_has 5 = .ok (.aload_n 0, 1) := by decide +kernel
theorem dX3_has_6 : decode cX3_has 6 = .ok (.getfield 21, 3) := by decide +kernel
theorem dX3_has_9 : decode cX3_has 9 = .ok (.arraylength, 1) := by decide +kernel
theorem dX3_has_10 : decode cX3_has 10 = .ok (.if_icmp .ge 16, 3) := by decide +kernel
theorem dX3_has_13 : decode cX3_has 13 = .ok (.aload_n 0, 1) := by decide +kernel
theorem dX3_has_14 : decode cX3_has 14 = .ok (.getfield 21, 3) := by decide +kernel
theorem dX3_has_17 : decode cX3_has 17 = .ok (.iload_n 1, 1) := by decide +kernel
theorem dX3_has_18 : decode cX3_has 18 = .ok (.baload, 1) := by decide +kernel
theorem dX3_has_19 : decode cX3_has 19 = .ok (.ifCond .eq 7, 3) := by decide +kernel
theorem dX3_has_22 : decode cX3_has 22 = .ok (.iconst 1, 1) := by decide +kernel
theorem dX3_has_23 : decode cX3_has 23 = .ok (.goto 4, 3) := by decide +kernel
theorem dX3_has_26 : decode cX3_has 26 = .ok (.iconst 0, 1) := by decide +kernel
theorem dX3_has_27 : decode cX3_has 27 = .ok (.ireturn, 1) := by decide +kernel
set_option maxRecDepth 20000 in
theorem ggX3_put_X4_storeInto : GoodIn wsX3_put wsX4_storeInto := goodIn_r _ [7, 8, 9, 10, 11, 12, 15] (by decide +kernel) (by decide +kernel)
set_option maxRecDepth 20000 in
theorem gX3_put_X4_storeInto : GoodIn wsX3_put (wsV RX3 25 RX4 yX4_storeInto wsX4_storeInto) := goodIn_app (goodIn_of _ (by decide +kernel)) ggX3_put_X4_storeInto
theorem dX3_put_0 : decode cX3_put 0 = .ok (.iload_n 1, 1) := by decide +kernel
theorem dX3_put_1 : decode cX3_put 1 = .ok (.ifCond .lt 31, 3) := by decide +kernel
theorem dX3_put_4 : decode cX3_put 4 = .ok (.iload_n 1, 1) := by decide +kernel
theorem dX3_put_5 : decode cX3_put 5 = .ok (.aload_n 0, 1) := by decide +kernel
theorem dX3_put_6 : decode cX3_put 6 = .ok (.getfield 21, 3) := by decide +kernel
theorem dX3_put_9 : decode cX3_put 9 = .ok (.arraylength, 1) := by decide +kernel
theorem dX3_put_10 : decode cX3_put 10 = .ok (.if_icmp .ge 22, 3) := by decide +kernel
theorem dX3_put_13 : decode cX3_put 13 = .ok (.aload_n 2, 1) := by decide +kernel
theorem dX3_put_14 : decode cX3_put 14 = .ok (.aload_n 0, 1) := by decide +kernel
theorem dX3_put_15 : decode cX3_put 15 = .ok (.getfield 15, 3) := by decide +kernel
theorem dX3_put_18 : decode cX3_put 18 = .ok (.iload_n 1, 1) := by decide +kernel
theorem dX3_put_19 : decode cX3_put 19 = .ok (.bipush 124, 2) := by decide +kernel
theorem dX3_put_21 : decode cX3_put 21 = .ok (.imul, 1) := by decide +kernel
theorem dX3_put_22 : decode cX3_put 22 = .ok (.invokevirtual 25, 3) := by decide +kernel
theorem dX3_put_25 : decode cX3_put 25 = .ok (.aload_n 0, 1) := by decide +kernel
theorem dX3_put_26 : decode cX3_put 26 = .ok (.getfield 21, 3) := by decide +kernel
theorem dX3_put_29 : decode cX3_put 29 = .ok (.iload_n 1, 1) := by decide +kernel
theorem dX3_put_30 : decode cX3_put 30 = .ok (.iconst 1, 1) := by decide +kernel
theorem dX3_put_31 : decode cX3_put 31 = .ok (.bastore, 1) := by decide +kernel
theorem dX3_put_32 : decode cX3_put 32 = .ok (.return_, 1) := by decide +kernel
set_option maxRecDepth 20000 in
theorem ggX3_bring_X3_has : GoodIn wsX3_bring wsX3_has := goodIn_r _ [6, 7, 18, 19] (by decide +kernel) (by decide +kernel)
set_option maxRecDepth 20000 in
theorem gX3_bring_X3_has : GoodIn wsX3_bring (wsV RX3 29 RX3 yX3_has wsX3_has) := goodIn_app (goodIn_of _ (by decide +kernel)) ggX3_bring_X3_has
set_option maxRecDepth 20000 in
theorem ggX3_bring_X4_loadFrom : GoodIn wsX3_bring wsX4_loadFrom := goodIn_r _ [12, 13, 14, 15, 16, 17, 20] (by decide +kernel) (by decide +kernel)
set_option maxRecDepth 20000 in
theorem gX3_bring_X4_loadFrom : GoodIn wsX3_bring (wsV RX3 33 RX4 yX4_loadFrom wsX4_loadFrom) := goodIn_app (goodIn_of _ (by decide +kernel)) ggX3_bring_X4_loadFrom
theorem dX3_bring_0 : decode cX3_bring 0 = .ok (.aload_n 0, 1) := by decide +kernel
theorem dX3_bring_1 : decode cX3_bring 1 = .ok (.iload_n 1, 1) := by decide +kernel
theorem dX3_bring_2 : decode cX3_bring 2 = .ok (.invokevirtual 29, 3) := by decide +kernel
theorem dX3_bring_5 : decode cX3_bring 5 = .ok (.ifCond .eq 15, 3) := by decide +kernel
theorem dX3_bring_8 : decode cX3_bring 8 = .ok (.aload_n 2, 1) := by decide +kernel
theorem dX3_bring_9 : decode cX3_bring 9 = .ok (.aload_n 0, 1) := by decide +kernel
theorem dX3_bring_10 : decode cX3_bring 10 = .ok (.getfield 15, 3) := by decide +kernel
theorem dX3_bring_13 : decode cX3_bring 13 = .ok (.iload_n 1, 1) := by decide +kernel
theorem dX3_bring_14 : decode cX3_bring 14 = .ok (.bipush 124, 2) := by decide +kernel
theorem dX3_bring_16 : decode cX3_bring 16 = .ok (.imul, 1) := by decide +kernel
theorem dX3_bring_17 : decode cX3_bring 17 = .ok (.invokevirtual 33, 3) := by decide +kernel
theorem dX3_bring_20 : decode cX3_bring 20 = .ok (.return_, 1) := by decide +kernel
theorem dX3_forget_0 : decode cX3_forget 0 = .ok (.iconst 0, 1) := by decide +kernel
theorem dX3_forget_1 : decode cX3_forget 1 = .ok (.istore_n 1, 1) := by decide +kernel
theorem dX3_forget_2 : decode cX3_forget 2 = .ok (.iload_n 1, 1) := by decide +kernel
theorem dX3_forget_3 : decode cX3_forget 3 = .ok (.aload_n 0, 1) := by decide +kernel
theorem dX3_forget_4 : decode cX3_forget 4 = .ok (.getfield 21, 3) := by decide +kernel
theorem dX3_forget_7 : decode cX3_forget 7 = .ok (.arraylength, 1) := by decide +kernel
theorem dX3_forget_8 : decode cX3_forget 8 = .ok (.if_icmp .ge 16, 3) := by decide +kernel
theorem dX3_forget_11 : decode cX3_forget 11 = .ok (.aload_n 0, 1) := by decide +kernel
theorem dX3_forget_12 : decode cX3_forget 12 = .ok (.getfield 21, 3) := by decide +kernel
theorem dX3_forget_15 : decode cX3_forget 15 = .ok (.iload_n 1, 1) := by decide +kernel
theorem dX3_forget_16 : decode cX3_forget 16 = .ok (.iconst 0, 1) := by decide +kernel
theorem dX3_forget_17 : decode cX3_forget 17 = .ok (.bastore, 1) := by decide +kernel
theorem dX3_forget_18 : decode cX3_forget 18 = .ok (.iinc 1 1, 3) := by decide +kernel
theorem dX3_forget_21 : decode cX3_forget 21 = .ok (.goto (-19), 3) := by decide +kernel
theorem dX3_forget_24 : decode cX3_forget 24 = .ok (.return_, 1) := by decide +kernel
theorem dX4_init_0 : decode cX4_init 0 = .ok (.aload_n 0, 1) := by decide +kernel
theorem dX4_init_1 : decode cX4_init 1 = .ok (.invokespecial 5, 3) := by decide +kernel
theorem dX4_init_4 : decode cX4_init 4 = .ok (.aload_n 0, 1) := by decide +kernel
theorem dX4_init_5 : decode cX4_init 5 = .ok (.bipush 124, 2) := by decide +kernel
theorem dX4_init_7 : decode cX4_init 7 = .ok (.newarray .int, 2) := by decide +kernel
theorem dX4_init_9 : decode cX4_init 9 = .ok (.putfield 11, 3) := by decide +kernel
theorem dX4_init_12 : decode cX4_init 12 = .ok (.return_, 1) := by decide +kernel
set_option maxRecDepth 20000 in
theorem ggX4_begin_J7_fill_53178 : GoodIn wsX4_begin wsJ7_fill_53178 := goodIn_r _ [6] (by decide +kernel) (by decide +kernel)
set_option maxRecDepth 20000 in
theorem gX4_begin_J7_fill_53178 : GoodIn wsX4_begin (va_wsS RX4 15 yJ7_fill_53178 wsJ7_fill_53178) := goodIn_app (goodIn_of _ (by decide +kernel)) ggX4_begin_J7_fill_53178
set_option maxRecDepth 20000 in
theorem ggX4_begin_X6_field : GoodIn wsX4_begin wsX6_field := goodIn_r _ [11, 12, 23, 24, 25] (by decide +kernel) (by decide +kernel)
set_option maxRecDepth 20000 in
theorem gX4_begin_X6_field : GoodIn wsX4_begin (wsV RX4 27 RX6 yX6_field wsX6_field) := goodIn_app (goodIn_of _ (by decide +kernel)) ggX4_begin_X6_field
set_option maxRecDepth 20000 in
theorem ggX4_begin_X4_setValue : GoodIn wsX4_begin wsX4_setValue := goodIn_r _ [17, 18, 19, 20, 16, 21, 1, 22] (by decide +kernel) (by decide +kernel)
set_option maxRecDepth 20000 in
theorem gX4_begin_X4_setValue : GoodIn wsX4_begin (wsV RX4 31 RX4 yX4_setValue wsX4_setValue) := goodIn_app (goodIn_of _ (by decide +kernel)) ggX4_begin_X4_setValue
theorem dX4_begin_0 : decode cX4_begin 0 = .ok (.aload_n 0, 1) := by decide +kernel
theorem dX4_begin_1 : decode cX4_begin 1 = .ok (.getfield 11, 3) := by decide +kernel
theorem dX4_begin_4 : decode cX4_begin 4 = .ok (.iconst 0, 1) := by decide +kernel
theorem dX4_begin_5 : decode cX4_begin 5 = .ok (.invokestatic 15, 3) := by decide +kernel
theorem dX4_begin_8 : decode cX4_begin 8 = .ok (.iconst 0, 1) := by decide +kernel
theorem dX4_begin_9 : decode cX4_begin 9 = .ok (.istore_n 2, 1) := by decide +kernel
theorem dX4_begin_10 : decode cX4_begin 10 = .ok (.iload_n 2, 1) := by decide +kernel
theorem dX4_begin_11 : decode cX4_begin 11 = .ok (.aload_n 1, 1) := by decide +kernel
theorem dX4_begin_12 : decode cX4_begin 12 = .ok (.getfield 21, 3) := by decide +kernel
theorem dX4_begin_15 : decode cX4_begin 15 = .ok (.if_icmp .ge 21, 3) := by decide +kernel
theorem dX4_begin_18 : decode cX4_begin 18 = .ok (.aload_n 0, 1) := by decide +kernel
theorem dX4_begin_19 : decode cX4_begin 19 = .ok (.iload_n 2, 1) := by decide +kernel
theorem dX4_begin_20 : decode cX4_begin 20 = .ok (.aload_n 1, 1) := by decide +kernel
theorem dX4_begin_21 : decode cX4_begin 21 = .ok (.iload_n 2, 1) := by decide +kernel
theorem dX4_begin_22 : decode cX4_begin 22 = .ok (.bipush 6, 2) := by decide +kernel
theorem dX4_begin_24 : decode cX4_begin 24 = .ok (.invokevirtual 27, 3) := by decide +kernel
theorem dX4_begin_27 : decode cX4_begin 27 = .ok (.invokevirtual 31, 3) := by decide +kernel
theorem dX4_begin_30 : decode cX4_begin 30 = .ok (.iinc 2 1, 3) := by decide +kernel
theorem dX4_begin_33 : decode cX4_begin 33 = .ok (.goto (-23), 3) := by decide +kernel
theorem dX4_begin_36 : decode cX4_begin 36 = .ok (.return_, 1) := by decide +kernel
set_option maxRecDepth 20000 in
theorem ggX4_takeFrom_X4_loadFrom : GoodIn wsX4_takeFrom wsX4_loadFrom := goodIn_r _ [6, 1, 7, 8, 9, 10, 11] (by decide +kernel) (by decide +kernel)
set_option maxRecDepth 20000 in
theorem gX4_takeFrom_X4_loadFrom : GoodIn wsX4_takeFrom (wsV RX4 35 RX4 yX4_loadFrom wsX4_loadFrom) := goodIn_app (goodIn_of _ (by decide +kernel)) ggX4_takeFrom_X4_loadFrom
theorem dX4_takeFrom_0 : decode cX4_takeFrom 0 = .ok (.aload_n 0, 1) := by decide +kernel
theorem dX4_takeFrom_1 : decode cX4_takeFrom 1 = .ok (.aload_n 1, 1) := by decide +kernel
theorem dX4_takeFrom_2 : decode cX4_takeFrom 2 = .ok (.getfield 11, 3) := by decide +kernel
theorem dX4_takeFrom_5 : decode cX4_takeFrom 5 = .ok (.iconst 0, 1) := by decide +kernel
theorem dX4_takeFrom_6 : decode cX4_takeFrom 6 = .ok (.invokevirtual 35, 3) := by decide +kernel
theorem dX4_takeFrom_9 : decode cX4_takeFrom 9 = .ok (.return_, 1) := by decide +kernel
theorem dX4_storeInto_0 : decode cX4_storeInto 0 = .ok (.iload_n 2, 1) := by decide +kernel
theorem dX4_storeInto_1 : decode cX4_storeInto 1 = .ok (.ifCond .lt 24, 3) := by decide +kernel
theorem dX4_storeInto_4 : decode cX4_storeInto 4 = .ok (.iload_n 2, 1) := by decide +kernel
theorem dX4_storeInto_5 : decode cX4_storeInto 5 = .ok (.aload_n 1, 1) := by decide +kernel
theorem dX4_storeInto_6 : decode cX4_storeInto 6 = .ok (.arraylength, 1) := by decide +kernel
theorem dX4_storeInto_7 : decode cX4_storeInto 7 = .ok (.bipush 124, 2) := by decide +kernel
theorem dX4_storeInto_9 : decode cX4_storeInto 9 = .ok (.isub, 1) := by decide +kernel
theorem dX4_storeInto_10 : decode cX4_storeInto 10 = .ok (.if_icmp .gt 15, 3) := by decide +kernel
theorem dX4_storeInto_13 : decode cX4_storeInto 13 = .ok (.aload_n 0, 1) := by decide +kernel
theorem dX4_storeInto_14 : decode cX4_storeInto 14 = .ok (.getfield 11, 3) := by decide +kernel
theorem dX4_storeInto_17 : decode cX4_storeInto 17 = .ok (.iconst 0, 1) := by decide +kernel
theorem dX4_storeInto_18 : decode cX4_storeInto 18 = .ok (.aload_n 1, 1) := by decide +kernel
theorem dX4_storeInto_19 : decode cX4_storeInto 19 = .ok (.iload_n 2, 1) := by decide +kernel
theorem dX4_storeInto_20 : decode cX4_storeInto 20 = .ok (.bipush 124, 2) := by decide +kernel
theorem dX4_storeInto_22 : decode cX4_storeInto 22 = .ok (.invokestatic 38, 3) := by decide +kernel
theorem dX4_storeInto_25 : decode cX4_storeInto 25 = .ok (.return_, 1) := by decide +kernel
theorem dX4_loadFrom_0 : decode cX4_loadFrom 0 = .ok (.iload_n 2, 1) := by decide +kernel
theorem dX4_loadFrom_1 : decode cX4_loadFrom 1 = .ok (.ifCond .lt 24, 3) := by decide +kernel
theorem dX4_loadFrom_4 : decode cX4_loadFrom 4 = .ok (.iload_n 2, 1) := by decide +kernel
theorem dX4_loadFrom_5 : decode cX4_loadFrom 5 = .ok (.aload_n 1, 1) := by decide +kernel
theorem dX4_loadFrom_6 : decode cX4_loadFrom 6 = .ok (.arraylength, 1) := by decide +kernel
theorem dX4_loadFrom_7 : decode cX4_loadFrom 7 = .ok (.bipush 124, 2) := by decide +kernel
theorem dX4_loadFrom_9 : decode cX4_loadFrom 9 = .ok (.isub, 1) := by decide +kernel
theorem dX4_loadFrom_10 : decode cX4_loadFrom 10 = .ok (.if_icmp .gt 15, 3) := by decide +kernel
theorem dX4_loadFrom_13 : decode cX4_loadFrom 13 = .ok (.aload_n 1, 1) := by decide +kernel
theorem dX4_loadFrom_14 : decode cX4_loadFrom 14 = .ok (.iload_n 2, 1) := by decide +kernel
theorem dX4_loadFrom_15 : decode cX4_loadFrom 15 = .ok (.aload_n 0, 1) := by decide +kernel
theorem dX4_loadFrom_16 : decode cX4_loadFrom 16 = .ok (.getfield 11, 3) := by decide +kernel
theorem dX4_loadFrom_19 : decode cX4_loadFrom 19 = .ok (.iconst 0, 1) := by decide +kernel
theorem dX4_loadFrom_20 : decode cX4_loadFrom 20 = .ok (.bipush 124, 2) := by decide +kernel
theorem dX4_loadFrom_22 : decode cX4_loadFrom 22 = .ok (.invokestatic 38, 3) := by decide +kernel
theorem dX4_loadFrom_25 : decode cX4_loadFrom 25 = .ok (.return_, 1) := by decide +kernel
set_option maxRecDepth 20000 in
theorem ggX4_time_X4_read : GoodIn wsX4_time wsX4_read := goodIn_r _ [5, 6, 7] (by decide +kernel) (by decide +kernel)
set_option maxRecDepth 20000 in
theorem gX4_time_X4_read : GoodIn wsX4_time (wsV RX4 44 RX4 yX4_read wsX4_read) := goodIn_app (goodIn_of _ (by decide +kernel)) ggX4_time_X4_read
theorem dX4_time_0 : decode cX4_time 0 = .ok (.aload_n 0, 1) := by decide +kernel
theorem dX4_time_1 : decode cX4_time 1 = .ok (.iconst 0, 1) := by decide +kernel
theorem dX4_time_2 : decode cX4_time 2 = .ok (.invokevirtual 44, 3) := by decide +kernel
theorem dX4_time_5 : decode cX4_time 5 = .ok (.ireturn, 1) := by decide +kernel
set_option maxRecDepth 20000 in
theorem ggX4_waiting_X4_read : GoodIn wsX4_waiting wsX4_read := goodIn_r _ [5, 6, 7] (by decide +kernel) (by decide +kernel)
set_option maxRecDepth 20000 in
theorem gX4_waiting_X4_read : GoodIn wsX4_waiting (wsV RX4 44 RX4 yX4_read wsX4_read) := goodIn_app (goodIn_of _ (by decide +kernel)) ggX4_waiting_X4_read
theorem dX4_waiting_0 : decode cX4_waiting 0 = .ok (.aload_n 0, 1) := by decide +kernel
theorem dX4_waiting_1 : decode cX4_waiting 1 = .ok (.iconst 3, 1) := by decide +kernel
theorem dX4_waiting_2 : decode cX4_waiting 2 = .ok (.invokevirtual 44, 3) := by decide +kernel
theorem dX4_waiting_5 : decode cX4_waiting 5 = .ok (.ireturn, 1) := by decide +kernel
set_option maxRecDepth 20000 in
theorem ggX4_dropped_X4_read : GoodIn wsX4_dropped wsX4_read := goodIn_r _ [5, 6, 7] (by decide +kernel) (by decide +kernel)
set_option maxRecDepth 20000 in
theorem gX4_dropped_X4_read : GoodIn wsX4_dropped (wsV RX4 44 RX4 yX4_read wsX4_read) := goodIn_app (goodIn_of _ (by decide +kernel)) ggX4_dropped_X4_read
theorem dX4_dropped_0 : decode cX4_dropped 0 = .ok (.aload_n 0, 1) := by decide +kernel
theorem dX4_dropped_1 : decode cX4_dropped 1 = .ok (.iconst 1, 1) := by decide +kernel
theorem dX4_dropped_2 : decode cX4_dropped 2 = .ok (.invokevirtual 44, 3) := by decide +kernel
theorem dX4_dropped_5 : decode cX4_dropped 5 = .ok (.ireturn, 1) := by decide +kernel
set_option maxRecDepth 20000 in
theorem ggX4_givenUp_X4_read : GoodIn wsX4_givenUp wsX4_read := goodIn_r _ [5, 6, 7] (by decide +kernel) (by decide +kernel)
set_option maxRecDepth 20000 in
theorem gX4_givenUp_X4_read : GoodIn wsX4_givenUp (wsV RX4 44 RX4 yX4_read wsX4_read) := goodIn_app (goodIn_of _ (by decide +kernel)) ggX4_givenUp_X4_read
theorem dX4_givenUp_0 : decode cX4_givenUp 0 = .ok (.aload_n 0, 1) := by decide +kernel
theorem dX4_givenUp_1 : decode cX4_givenUp 1 = .ok (.iconst 2, 1) := by decide +kernel
theorem dX4_givenUp_2 : decode cX4_givenUp 2 = .ok (.invokevirtual 44, 3) := by decide +kernel
theorem dX4_givenUp_5 : decode cX4_givenUp 5 = .ok (.ireturn, 1) := by decide +kernel
set_option maxRecDepth 20000 in
theorem ggX4_valueOf_X4_read : GoodIn wsX4_valueOf wsX4_read := goodIn_r _ [5, 6, 7] (by decide +kernel) (by decide +kernel)
set_option maxRecDepth 20000 in
theorem gX4_valueOf_X4_read : GoodIn wsX4_valueOf (wsV RX4 44 RX4 yX4_read wsX4_read) := goodIn_app (goodIn_of _ (by decide +kernel)) ggX4_valueOf_X4_read
theorem dX4_valueOf_0 : decode cX4_valueOf 0 = .ok (.aload_n 0, 1) := by decide +kernel
theorem dX4_valueOf_1 : decode cX4_valueOf 1 = .ok (.iconst 4, 1) := by decide +kernel
theorem dX4_valueOf_2 : decode cX4_valueOf 2 = .ok (.iload_n 1, 1) := by decide +kernel
theorem dX4_valueOf_3 : decode cX4_valueOf 3 = .ok (.iadd, 1) := by decide +kernel
theorem dX4_valueOf_4 : decode cX4_valueOf 4 = .ok (.invokevirtual 44, 3) := by decide +kernel
theorem dX4_valueOf_7 : decode cX4_valueOf 7 = .ok (.ireturn, 1) := by decide +kernel
set_option maxRecDepth 20000 in
theorem ggX4_setValue_X4_write : GoodIn wsX4_setValue wsX4_write := goodIn_r _ [5, 6, 7] (by decide +kernel) (by decide +kernel)
set_option maxRecDepth 20000 in
theorem gX4_setValue_X4_write : GoodIn wsX4_setValue (wsV RX4 48 RX4 yX4_write wsX4_write) := goodIn_app (goodIn_of _ (by decide +kernel)) ggX4_setValue_X4_write
theorem dX4_setValue_0 : decode cX4_setValue 0 = .ok (.aload_n 0, 1) := by decide +kernel
theorem dX4_setValue_1 : decode cX4_setValue 1 = .ok (.iconst 4, 1) := by decide +kernel
theorem dX4_setValue_2 : decode cX4_setValue 2 = .ok (.iload_n 1, 1) := by decide +kernel
theorem dX4_setValue_3 : decode cX4_setValue 3 = .ok (.iadd, 1) := by decide +kernel
theorem dX4_setValue_4 : decode cX4_setValue 4 = .ok (.iload_n 2, 1) := by decide +kernel
theorem dX4_setValue_5 : decode cX4_setValue 5 = .ok (.invokevirtual 48, 3) := by decide +kernel
theorem dX4_setValue_8 : decode cX4_setValue 8 = .ok (.return_, 1) := by decide +kernel
set_option maxRecDepth 20000 in
theorem ggX4_statusOf_X4_cellPlace : GoodIn wsX4_statusOf wsX4_cellPlace := goodIn_r _ [4] (by decide +kernel) (by decide +kernel)
set_option maxRecDepth 20000 in
theorem gX4_statusOf_X4_cellPlace : GoodIn wsX4_statusOf (va_wsS RX4 51 yX4_cellPlace wsX4_cellPlace) := goodIn_app (goodIn_of _ (by decide +kernel)) ggX4_statusOf_X4_cellPlace
set_option maxRecDepth 20000 in
theorem ggX4_statusOf_X4_read : GoodIn wsX4_statusOf wsX4_read := goodIn_r _ [8, 9, 10] (by decide +kernel) (by decide +kernel)
set_option maxRecDepth 20000 in
theorem gX4_statusOf_X4_read : GoodIn wsX4_statusOf (wsV RX4 44 RX4 yX4_read wsX4_read) := goodIn_app (goodIn_of _ (by decide +kernel)) ggX4_statusOf_X4_read
theorem dX4_statusOf_0 : decode cX4_statusOf 0 = .ok (.aload_n 0, 1) := by decide +kernel
theorem dX4_statusOf_1 : decode cX4_statusOf 1 = .ok (.iload_n 1, 1) := by decide +kernel
theorem dX4_statusOf_2 : decode cX4_statusOf 2 = .ok (.iconst 0, 1) := by decide +kernel
theorem dX4_statusOf_3 : decode cX4_statusOf 3 = .ok (.iload_n 2, 1) := by decide +kernel
theorem dX4_statusOf_4 : decode cX4_statusOf 4 = .ok (.invokestatic 51, 3) := by decide +kernel
theorem dX4_statusOf_7 : decode cX4_statusOf 7 = .ok (.invokevirtual 44, 3) := by decide +kernel
theorem dX4_statusOf_10 : decode cX4_statusOf 10 = .ok (.ireturn, 1) := by decide +kernel
set_option maxRecDepth 20000 in
theorem ggX4_setStatus_X4_cellPlace : GoodIn wsX4_setStatus wsX4_cellPlace := goodIn_r _ [4] (by decide +kernel) (by decide +kernel)
set_option maxRecDepth 20000 in
theorem gX4_setStatus_X4_cellPlace : GoodIn wsX4_setStatus (va_wsS RX4 51 yX4_cellPlace wsX4_cellPlace) := goodIn_app (goodIn_of _ (by decide +kernel)) ggX4_setStatus_X4_cellPlace
set_option maxRecDepth 20000 in
theorem ggX4_setStatus_X4_write : GoodIn wsX4_setStatus wsX4_write := goodIn_r _ [8, 9, 10] (by decide +kernel) (by decide +kernel)
set_option maxRecDepth 20000 in
theorem gX4_setStatus_X4_write : GoodIn wsX4_setStatus (wsV RX4 48 RX4 yX4_write wsX4_write) := goodIn_app (goodIn_of _ (by decide +kernel)) ggX4_setStatus_X4_write
theorem dX4_setStatus_0 : decode cX4_setStatus 0 = .ok (.aload_n 0, 1) := by decide +kernel
theorem dX4_setStatus_1 : decode cX4_setStatus 1 = .ok (.iload_n 1, 1) := by decide +kernel
theorem dX4_setStatus_2 : decode cX4_setStatus 2 = .ok (.iconst 0, 1) := by decide +kernel
theorem dX4_setStatus_3 : decode cX4_setStatus 3 = .ok (.iload_n 2, 1) := by decide +kernel
theorem dX4_setStatus_4 : decode cX4_setStatus 4 = .ok (.invokestatic 51, 3) := by decide +kernel
theorem dX4_setStatus_7 : decode cX4_setStatus 7 = .ok (.iload_n 3, 1) := by decide +kernel
theorem dX4_setStatus_8 : decode cX4_setStatus 8 = .ok (.invokevirtual 48, 3) := by decide +kernel
theorem dX4_setStatus_11 : decode cX4_setStatus 11 = .ok (.return_, 1) := by decide +kernel
set_option maxRecDepth 20000 in
theorem ggX4_cell_X4_cellPlace : GoodIn wsX4_cell wsX4_cellPlace := goodIn_r _ [4] (by decide +kernel) (by decide +kernel)
set_option maxRecDepth 20000 in
theorem gX4_cell_X4_cellPlace : GoodIn wsX4_cell (va_wsS RX4 51 yX4_cellPlace wsX4_cellPlace) := goodIn_app (goodIn_of _ (by decide +kernel)) ggX4_cell_X4_cellPlace
set_option maxRecDepth 20000 in
theorem ggX4_cell_X4_read : GoodIn wsX4_cell wsX4_read := goodIn_r _ [8, 9, 10] (by decide +kernel) (by decide +kernel)
set_option maxRecDepth 20000 in
theorem gX4_cell_X4_read : GoodIn wsX4_cell (wsV RX4 44 RX4 yX4_read wsX4_read) := goodIn_app (goodIn_of _ (by decide +kernel)) ggX4_cell_X4_read
theorem dX4_cell_0 : decode cX4_cell 0 = .ok (.aload_n 0, 1) := by decide +kernel
theorem dX4_cell_1 : decode cX4_cell 1 = .ok (.iload_n 1, 1) := by decide +kernel
theorem dX4_cell_2 : decode cX4_cell 2 = .ok (.iload_n 2, 1) := by decide +kernel
theorem dX4_cell_3 : decode cX4_cell 3 = .ok (.iload_n 3, 1) := by decide +kernel
theorem dX4_cell_4 : decode cX4_cell 4 = .ok (.invokestatic 51, 3) := by decide +kernel
theorem dX4_cell_7 : decode cX4_cell 7 = .ok (.invokevirtual 44, 3) := by decide +kernel
theorem dX4_cell_10 : decode cX4_cell 10 = .ok (.iconst 1, 1) := by decide +kernel
theorem dX4_cell_11 : decode cX4_cell 11 = .ok (.isub, 1) := by decide +kernel
theorem dX4_cell_12 : decode cX4_cell 12 = .ok (.ireturn, 1) := by decide +kernel
set_option maxRecDepth 20000 in
theorem ggX4_setCell_X4_cellPlace : GoodIn wsX4_setCell wsX4_cellPlace := goodIn_r _ [4] (by decide +kernel) (by decide +kernel)
set_option maxRecDepth 20000 in
theorem gX4_setCell_X4_cellPlace : GoodIn wsX4_setCell (va_wsS RX4 51 yX4_cellPlace wsX4_cellPlace) := goodIn_app (goodIn_of _ (by decide +kernel)) ggX4_setCell_X4_cellPlace
set_option maxRecDepth 20000 in
theorem ggX4_setCell_X4_write : GoodIn wsX4_setCell wsX4_write := goodIn_r _ [8, 9, 10] (by decide +kernel) (by decide +kernel)
set_option maxRecDepth 20000 in
theorem gX4_setCell_X4_write : GoodIn wsX4_setCell (wsV RX4 48 RX4 yX4_write wsX4_write) := goodIn_app (goodIn_of _ (by decide +kernel)) ggX4_setCell_X4_write
theorem dX4_setCell_0 : decode cX4_setCell 0 = .ok (.aload_n 0, 1) := by decide +kernel
theorem dX4_setCell_1 : decode cX4_setCell 1 = .ok (.iload_n 1, 1) := by decide +kernel
theorem dX4_setCell_2 : decode cX4_setCell 2 = .ok (.iload_n 2, 1) := by decide +kernel
theorem dX4_setCell_3 : decode cX4_setCell 3 = .ok (.iload_n 3, 1) := by decide +kernel
theorem dX4_setCell_4 : decode cX4_setCell 4 = .ok (.invokestatic 51, 3) := by decide +kernel
theorem dX4_setCell_7 : decode cX4_setCell 7 = .ok (.iload 4, 2) := by decide +kernel
theorem dX4_setCell_9 : decode cX4_setCell 9 = .ok (.iconst 1, 1) := by decide +kernel
theorem dX4_setCell_10 : decode cX4_setCell 10 = .ok (.iadd, 1) := by decide +kernel
theorem dX4_setCell_11 : decode cX4_setCell 11 = .ok (.invokevirtual 48, 3) := by decide +kernel
theorem dX4_setCell_14 : decode cX4_setCell 14 = .ok (.return_, 1) := by decide +kernel
set_option maxRecDepth 20000 in
theorem ggX4_isLeaf_X4_cellPlace : GoodIn wsX4_isLeaf wsX4_cellPlace := goodIn_r _ [4] (by decide +kernel) (by decide +kernel)
set_option maxRecDepth 20000 in
theorem gX4_isLeaf_X4_cellPlace : GoodIn wsX4_isLeaf (va_wsS RX4 51 yX4_cellPlace wsX4_cellPlace) := goodIn_app (goodIn_of _ (by decide +kernel)) ggX4_isLeaf_X4_cellPlace
set_option maxRecDepth 20000 in
theorem ggX4_isLeaf_X4_read : GoodIn wsX4_isLeaf wsX4_read := goodIn_r _ [8, 9, 10] (by decide +kernel) (by decide +kernel)
set_option maxRecDepth 20000 in
theorem gX4_isLeaf_X4_read : GoodIn wsX4_isLeaf (wsV RX4 44 RX4 yX4_read wsX4_read) := goodIn_app (goodIn_of _ (by decide +kernel)) ggX4_isLeaf_X4_read
theorem dX4_isLeaf_0 : decode cX4_isLeaf 0 = .ok (.aload_n 0, 1) := by decide +kernel
theorem dX4_isLeaf_1 : decode cX4_isLeaf 1 = .ok (.iload_n 1, 1) := by decide +kernel
theorem dX4_isLeaf_2 : decode cX4_isLeaf 2 = .ok (.iload_n 2, 1) := by decide +kernel
theorem dX4_isLeaf_3 : decode cX4_isLeaf 3 = .ok (.iload_n 3, 1) := by decide +kernel
theorem dX4_isLeaf_4 : decode cX4_isLeaf 4 = .ok (.invokestatic 51, 3) := by decide +kernel
theorem dX4_isLeaf_7 : decode cX4_isLeaf 7 = .ok (.invokevirtual 44, 3) := by decide +kernel
theorem dX4_isLeaf_10 : decode cX4_isLeaf 10 = .ok (.iload_n 2, 1) := by decide +kernel
theorem dX4_isLeaf_11 : decode cX4_isLeaf 11 = .ok (.ifCond .ne 7, 3) := by decide +kernel
theorem dX4_isLeaf_14 : decode cX4_isLeaf 14 = .ok (.iconst 0, 1) := by decide +kernel
theorem dX4_isLeaf_15 : decode cX4_isLeaf 15 = .ok (.goto 4, 3) := by decide +kernel
theorem dX4_isLeaf_18 : decode cX4_isLeaf 18 = .ok (.iconst 0, 1) := by decide +kernel
theorem dX4_isLeaf_19 : decode cX4_isLeaf 19 = .ok (.if_icmp .eq 7, 3) := by decide +kernel
theorem dX4_isLeaf_22 : decode cX4_isLeaf 22 = .ok (.iconst 1, 1) := by decide +kernel
theorem dX4_isLeaf_23 : decode cX4_isLeaf 23 = .ok (.goto 4, 3) := by decide +kernel
theorem dX4_isLeaf_26 : decode cX4_isLeaf 26 = .ok (.iconst 0, 1) := by decide +kernel
theorem dX4_isLeaf_27 : decode cX4_isLeaf 27 = .ok (.ireturn, 1) := by decide +kernel
set_option maxRecDepth 20000 in
theorem ggX4_unfilled_X4_isLeaf : GoodIn wsX4_unfilled wsX4_isLeaf := goodIn_r _ [5, 6, 7, 4, 8, 9, 10, 11, 12, 13, 14] (by decide +kernel) (by decide +kernel)
set_option maxRecDepth 20000 in
theorem gX4_unfilled_X4_isLeaf : GoodIn wsX4_unfilled (wsV RX4 55 RX4 yX4_isLeaf wsX4_isLeaf) := goodIn_app (goodIn_of _ (by decide +kernel)) ggX4_unfilled_X4_isLeaf
theorem dX4_unfilled_0 : decode cX4_unfilled 0 = .ok (.iconst 0, 1) := by decide +kernel
theorem dX4_unfilled_1 : decode cX4_unfilled 1 = .ok (.istore 4, 2) := by decide +kernel
theorem dX4_unfilled_3 : decode cX4_unfilled 3 = .ok (.iconst 1, 1) := by decide +kernel
theorem dX4_unfilled_4 : decode cX4_unfilled 4 = .ok (.istore 5, 2) := by decide +kernel
theorem dX4_unfilled_6 : decode cX4_unfilled 6 = .ok (.iload 5, 2) := by decide +kernel
theorem dX4_unfilled_8 : decode cX4_unfilled 8 = .ok (.iload_n 3, 1) := by decide +kernel
theorem dX4_unfilled_9 : decode cX4_unfilled 9 = .ok (.if_icmp .gt 29, 3) := by decide +kernel
theorem dX4_unfilled_12 : decode cX4_unfilled 12 = .ok (.iload 5, 2) := by decide +kernel
theorem dX4_unfilled_14 : decode cX4_unfilled 14 = .ok (.iconst 3, 1) := by decide +kernel
theorem dX4_unfilled_15 : decode cX4_unfilled 15 = .ok (.if_icmp .gt 23, 3) := by decide +kernel
theorem dX4_unfilled_18 : decode cX4_unfilled 18 = .ok (.aload_n 0, 1) := by decide +kernel
theorem dX4_unfilled_19 : decode cX4_unfilled 19 = .ok (.iload_n 1, 1) := by decide +kernel
theorem dX4_unfilled_20 : decode cX4_unfilled 20 = .ok (.iload 5, 2) := by decide +kernel
theorem dX4_unfilled_22 : decode cX4_unfilled 22 = .ok (.iload_n 2, 1) := by decide +kernel
theorem dX4_unfilled_23 : decode cX4_unfilled 23 = .ok (.invokevirtual 55, 3) := by decide +kernel
theorem dX4_unfilled_26 : decode cX4_unfilled 26 = .ok (.ifCond .ne 6, 3) := by decide +kernel
theorem dX4_unfilled_29 : decode cX4_unfilled 29 = .ok (.iinc 4 1, 3) := by decide +kernel
theorem dX4_unfilled_32 : decode cX4_unfilled 32 = .ok (.iinc 5 1, 3) := by decide +kernel
theorem dX4_unfilled_35 : decode cX4_unfilled 35 = .ok (.goto (-29), 3) := by decide +kernel
theorem dX4_unfilled_38 : decode cX4_unfilled 38 = .ok (.iload 4, 2) := by decide +kernel
theorem dX4_unfilled_40 : decode cX4_unfilled 40 = .ok (.ireturn, 1) := by decide +kernel
set_option maxRecDepth 20000 in
theorem ggX4_emptyRow_X4_setStatus : GoodIn wsX4_emptyRow wsX4_setStatus := goodIn_r _ [5, 6, 7, 4, 8, 9, 10, 11, 12, 13, 14] (by decide +kernel) (by decide +kernel)
set_option maxRecDepth 20000 in
theorem gX4_emptyRow_X4_setStatus : GoodIn wsX4_emptyRow (wsV RX4 59 RX4 yX4_setStatus wsX4_setStatus) := goodIn_app (goodIn_of _ (by decide +kernel)) ggX4_emptyRow_X4_setStatus
set_option maxRecDepth 20000 in
theorem ggX4_emptyRow_X4_cellPlace : GoodIn wsX4_emptyRow wsX4_cellPlace := goodIn_r _ [8] (by decide +kernel) (by decide +kernel)
set_option maxRecDepth 20000 in
theorem gX4_emptyRow_X4_cellPlace : GoodIn wsX4_emptyRow (va_wsS RX4 51 yX4_cellPlace wsX4_cellPlace) := goodIn_app (goodIn_of _ (by decide +kernel)) ggX4_emptyRow_X4_cellPlace
set_option maxRecDepth 20000 in
theorem ggX4_emptyRow_X4_write : GoodIn wsX4_emptyRow wsX4_write := goodIn_r _ [12, 13, 14] (by decide +kernel) (by decide +kernel)
set_option maxRecDepth 20000 in
theorem gX4_emptyRow_X4_write : GoodIn wsX4_emptyRow (wsV RX4 48 RX4 yX4_write wsX4_write) := goodIn_app (goodIn_of _ (by decide +kernel)) ggX4_emptyRow_X4_write
theorem dX4_emptyRow_0 : decode cX4_emptyRow 0 = .ok (.aload_n 0, 1) := by decide +kernel
theorem dX4_emptyRow_1 : decode cX4_emptyRow 1 = .ok (.iload_n 1, 1) := by decide +kernel
theorem dX4_emptyRow_2 : decode cX4_emptyRow 2 = .ok (.iload_n 2, 1) := by decide +kernel
theorem dX4_emptyRow_3 : decode cX4_emptyRow 3 = .ok (.iconst 0, 1) := by decide +kernel
theorem dX4_emptyRow_4 : decode cX4_emptyRow 4 = .ok (.invokevirtual 59, 3) := by decide +kernel
theorem dX4_emptyRow_7 : decode cX4_emptyRow 7 = .ok (.iconst 1, 1) := by decide +kernel
theorem dX4_emptyRow_8 : decode cX4_emptyRow 8 = .ok (.istore_n 3, 1) := by decide +kernel
theorem dX4_emptyRow_9 : decode cX4_emptyRow 9 = .ok (.iload_n 3, 1) := by decide +kernel
theorem dX4_emptyRow_10 : decode cX4_emptyRow 10 = .ok (.iconst 3, 1) := by decide +kernel
theorem dX4_emptyRow_11 : decode cX4_emptyRow 11 = .ok (.if_icmp .gt 20, 3) := by decide +kernel
theorem dX4_emptyRow_14 : decode cX4_emptyRow 14 = .ok (.aload_n 0, 1) := by decide +kernel
theorem dX4_emptyRow_15 : decode cX4_emptyRow 15 = .ok (.iload_n 1, 1) := by decide +kernel
theorem dX4_emptyRow_16 : decode cX4_emptyRow 16 = .ok (.iload_n 3, 1) := by decide +kernel
theorem dX4_emptyRow_17 : decode cX4_emptyRow 17 = .ok (.iload_n 2, 1) := by decide +kernel
theorem dX4_emptyRow_18 : decode cX4_emptyRow 18 = .ok (.invokestatic 51, 3) := by decide +kernel
theorem dX4_emptyRow_21 : decode cX4_emptyRow 21 = .ok (.iconst 0, 1) := by decide +kernel
theorem dX4_emptyRow_22 : decode cX4_emptyRow 22 = .ok (.invokevirtual 48, 3) := by decide +kernel
theorem dX4_emptyRow_25 : decode cX4_emptyRow 25 = .ok (.iinc 3 1, 3) := by decide +kernel
theorem dX4_emptyRow_28 : decode cX4_emptyRow 28 = .ok (.goto (-19), 3) := by decide +kernel
theorem dX4_emptyRow_31 : decode cX4_emptyRow 31 = .ok (.return_, 1) := by decide +kernel
set_option maxRecDepth 20000 in
theorem ggX4_noteChanges_X4_statusOf : GoodIn wsX4_noteChanges wsX4_statusOf := goodIn_r _ [5, 6, 7, 4, 8, 9, 10, 11, 12, 13, 41] (by decide +kernel) (by decide +kernel)
set_option maxRecDepth 20000 in
theorem gX4_noteChanges_X4_statusOf : GoodIn wsX4_noteChanges (wsV RX4 63 RX4 yX4_statusOf wsX4_statusOf) := goodIn_app (goodIn_of _ (by decide +kernel)) ggX4_noteChanges_X4_statusOf
set_option maxRecDepth 20000 in
theorem ggX4_noteChanges_X4_addNotice : GoodIn wsX4_noteChanges wsX4_addNotice := goodIn_r _ [17, 18, 19, 20, 4, 21, 9, 10, 11, 12, 13, 22, 23, 24, 25, 26, 27, 28, 29, 30, 31, 32, 33, 34, 35, 36, 37, 38, 39, 40, 41] (by decide +kernel) (by decide +kernel)
set_option maxRecDepth 20000 in
theorem gX4_noteChanges_X4_addNotice : GoodIn wsX4_noteChanges (wsV RX4 66 RX4 yX4_addNotice wsX4_addNotice) := goodIn_app (goodIn_of _ (by decide +kernel)) ggX4_noteChanges_X4_addNotice
theorem dX4_noteChanges_0 : decode cX4_noteChanges 0 = .ok (.iconst 0, 1) := by decide +kernel
theorem dX4_noteChanges_1 : decode cX4_noteChanges 1 = .ok (.istore_n 2, 1) := by decide +kernel
theorem dX4_noteChanges_2 : decode cX4_noteChanges 2 = .ok (.iload_n 2, 1) := by decide +kernel
theorem dX4_noteChanges_3 : decode cX4_noteChanges 3 = .ok (.iconst 2, 1) := by decide +kernel
theorem dX4_noteChanges_4 : decode cX4_noteChanges 4 = .ok (.if_icmp .ge 80, 3) := by decide +kernel
theorem dX4_noteChanges_7 : decode cX4_noteChanges 7 = .ok (.iconst 1, 1) := by decide +kernel
theorem dX4_noteChanges_8 : decode cX4_noteChanges 8 = .ok (.istore_n 3, 1) := by decide +kernel
theorem dX4_noteChanges_9 : decode cX4_noteChanges 9 = .ok (.iload_n 3, 1) := by decide +kernel
theorem dX4_noteChanges_10 : decode cX4_noteChanges 10 = .ok (.bipush 9, 2) := by decide +kernel
theorem dX4_noteChanges_12 : decode cX4_noteChanges 12 = .ok (.if_icmp .gt 66, 3) := by decide +kernel
theorem dX4_noteChanges_15 : decode cX4_noteChanges 15 = .ok (.aload_n 1, 1) := by decide +kernel
theorem dX4_noteChanges_16 : decode cX4_noteChanges 16 = .ok (.iload_n 2, 1) := by decide +kernel
theorem dX4_noteChanges_17 : decode cX4_noteChanges 17 = .ok (.iload_n 3, 1) := by decide +kernel
theorem dX4_noteChanges_18 : decode cX4_noteChanges 18 = .ok (.invokevirtual 63, 3) := by decide +kernel
theorem dX4_noteChanges_21 : decode cX4_noteChanges 21 = .ok (.iconst 1, 1) := by decide +kernel
theorem dX4_noteChanges_22 : decode cX4_noteChanges 22 = .ok (.if_icmp .ne 7, 3) := by decide +kernel
theorem dX4_noteChanges_25 : decode cX4_noteChanges 25 = .ok (.iconst 1, 1) := by decide +kernel
theorem dX4_noteChanges_26 : decode cX4_noteChanges 26 = .ok (.goto 4, 3) := by decide +kernel
theorem dX4_noteChanges_29 : decode cX4_noteChanges 29 = .ok (.iconst 0, 1) := by decide +kernel
theorem dX4_noteChanges_30 : decode cX4_noteChanges 30 = .ok (.istore 4, 2) := by decide +kernel
theorem dX4_noteChanges_32 : decode cX4_noteChanges 32 = .ok (.aload_n 0, 1) := by decide +kernel
theorem dX4_noteChanges_33 : decode cX4_noteChanges 33 = .ok (.iload_n 2, 1) := by decide +kernel
theorem dX4_noteChanges_34 : decode cX4_noteChanges 34 = .ok (.iload_n 3, 1) := by decide +kernel
theorem dX4_noteChanges_35 : decode cX4_noteChanges 35 = .ok (.invokevirtual 63, 3) := by decide +kernel
theorem dX4_noteChanges_38 : decode cX4_noteChanges 38 = .ok (.iconst 1, 1) := by decide +kernel
theorem dX4_noteChanges_39 : decode cX4_noteChanges 39 = .ok (.if_icmp .ne 7, 3) := by decide +kernel
theorem dX4_noteChanges_42 : decode cX4_noteChanges 42 = .ok (.iconst 1, 1) := by decide +kernel
theorem dX4_noteChanges_43 : decode cX4_noteChanges 43 = .ok (.goto 4, 3) := by decide +kernel
theorem dX4_noteChanges_46 : decode cX4_noteChanges 46 = .ok (.iconst 0, 1) := by decide +kernel
theorem dX4_noteChanges_47 : decode cX4_noteChanges 47 = .ok (.istore 5, 2) := by decide +kernel
theorem dX4_noteChanges_49 : decode cX4_noteChanges 49 = .ok (.iload 4, 2) := by decide +kernel
theorem dX4_noteChanges_51 : decode cX4_noteChanges 51 = .ok (.iload 5, 2) := by decide +kernel
theorem dX4_noteChanges_53 : decode cX4_noteChanges 53 = .ok (.if_icmp .eq 19, 3) := by decide +kernel
theorem dX4_noteChanges_56 : decode cX4_noteChanges 56 = .ok (.aload_n 0, 1) := by decide +kernel
theorem dX4_noteChanges_57 : decode cX4_noteChanges 57 = .ok (.iload 5, 2) := by decide +kernel
theorem dX4_noteChanges_59 : decode cX4_noteChanges 59 = .ok (.ifCond .eq 7, 3) := by decide +kernel
theorem dX4_noteChanges_62 : decode cX4_noteChanges 62 = .ok (.iconst 0, 1) := by decide +kernel
theorem dX4_noteChanges_63 : decode cX4_noteChanges 63 = .ok (.goto 4, 3) := by decide +kernel
theorem dX4_noteChanges_66 : decode cX4_noteChanges 66 = .ok (.iconst 1, 1) := by decide +kernel
theorem dX4_noteChanges_67 : decode cX4_noteChanges 67 = .ok (.iload_n 2, 1) := by decide +kernel
theorem dX4_noteChanges_68 : decode cX4_noteChanges 68 = .ok (.iload_n 3, 1) := by decide +kernel
theorem dX4_noteChanges_69 : decode cX4_noteChanges 69 = .ok (.invokevirtual 66, 3) := by decide +kernel
theorem dX4_noteChanges_72 : decode cX4_noteChanges 72 = .ok (.iinc 3 1, 3) := by decide +kernel
theorem dX4_noteChanges_75 : decode cX4_noteChanges 75 = .ok (.goto (-66), 3) := by decide +kernel
theorem dX4_noteChanges_78 : decode cX4_noteChanges 78 = .ok (.iinc 2 1, 3) := by decide +kernel
theorem dX4_noteChanges_81 : decode cX4_noteChanges 81 = .ok (.goto (-79), 3) := by decide +kernel
theorem dX4_noteChanges_84 : decode cX4_noteChanges 84 = .ok (.return_, 1) := by decide +kernel
set_option maxRecDepth 20000 in
theorem ggX4_tick_X4_time : GoodIn wsX4_tick wsX4_time := goodIn_r _ [6, 7, 8, 9, 5, 10, 11, 60] (by decide +kernel) (by decide +kernel)
set_option maxRecDepth 20000 in
theorem gX4_tick_X4_time : GoodIn wsX4_tick (wsV RX4 69 RX4 yX4_time wsX4_time) := goodIn_app (goodIn_of _ (by decide +kernel)) ggX4_tick_X4_time
set_option maxRecDepth 20000 in
theorem ggX4_tick_X4_write : GoodIn wsX4_tick wsX4_write := goodIn_r _ [15, 11, 60] (by decide +kernel) (by decide +kernel)
set_option maxRecDepth 20000 in
theorem gX4_tick_X4_write : GoodIn wsX4_tick (wsV RX4 48 RX4 yX4_write wsX4_write) := goodIn_app (goodIn_of _ (by decide +kernel)) ggX4_tick_X4_write
set_option maxRecDepth 20000 in
theorem ggX4_tick_X6_field : GoodIn wsX4_tick wsX6_field := goodIn_r _ [20, 21, 57, 58, 59] (by decide +kernel) (by decide +kernel)
set_option maxRecDepth 20000 in
theorem gX4_tick_X6_field : GoodIn wsX4_tick (wsV RX4 27 RX6 yX6_field wsX6_field) := goodIn_app (goodIn_of _ (by decide +kernel)) ggX4_tick_X6_field
set_option maxRecDepth 20000 in
theorem ggX4_tick_X4_valueOf : GoodIn wsX4_tick wsX4_valueOf := goodIn_r _ [25, 7, 8, 9, 5, 10, 11, 60] (by decide +kernel) (by decide +kernel)
set_option maxRecDepth 20000 in
theorem gX4_tick_X4_valueOf : GoodIn wsX4_tick (wsV RX4 73 RX4 yX4_valueOf wsX4_valueOf) := goodIn_app (goodIn_of _ (by decide +kernel)) ggX4_tick_X4_valueOf
set_option maxRecDepth 20000 in
theorem ggX4_tick_X4_setValue : GoodIn wsX4_tick wsX4_setValue := goodIn_r _ [29, 12, 13, 14, 5, 15, 11, 60] (by decide +kernel) (by decide +kernel)
set_option maxRecDepth 20000 in
theorem gX4_tick_X4_setValue : GoodIn wsX4_tick (wsV RX4 31 RX4 yX4_setValue wsX4_setValue) := goodIn_app (goodIn_of _ (by decide +kernel)) ggX4_tick_X4_setValue
set_option maxRecDepth 20000 in
theorem ggX4_tick_X4_waiting : GoodIn wsX4_tick wsX4_waiting := goodIn_r _ [33, 7, 8, 9, 5, 10, 11, 60] (by decide +kernel) (by decide +kernel)
set_option maxRecDepth 20000 in
theorem gX4_tick_X4_waiting : GoodIn wsX4_tick (wsV RX4 76 RX4 yX4_waiting wsX4_waiting) := goodIn_app (goodIn_of _ (by decide +kernel)) ggX4_tick_X4_waiting
set_option maxRecDepth 20000 in
theorem ggX4_tick_X4_staysAfterTick : GoodIn wsX4_tick wsX4_staysAfterTick := goodIn_r _ [37, 38, 39, 40, 5, 41, 42, 43, 44, 7, 8, 9, 10, 11, 12, 13, 14, 15, 60] (by decide +kernel) (by decide +kernel)
set_option maxRecDepth 20000 in
theorem gX4_tick_X4_staysAfterTick : GoodIn wsX4_tick (wsV RX4 79 RX4 yX4_staysAfterTick wsX4_staysAfterTick) := goodIn_app (goodIn_of _ (by decide +kernel)) ggX4_tick_X4_staysAfterTick
set_option maxRecDepth 20000 in
theorem ggX4_tick_X4_removeNotice : GoodIn wsX4_tick wsX4_removeNotice := goodIn_r _ [48, 11, 49, 50, 51, 52, 30, 31, 32, 5, 33, 7, 8, 9, 10, 42, 43, 44, 12, 13, 14, 15, 60] (by decide +kernel) (by decide +kernel)
set_option maxRecDepth 20000 in
theorem gX4_tick_X4_removeNotice : GoodIn wsX4_tick (wsV RX4 83 RX4 yX4_removeNotice wsX4_removeNotice) := goodIn_app (goodIn_of _ (by decide +kernel)) ggX4_tick_X4_removeNotice
set_option maxRecDepth 20000 in
theorem ggX4_tick_X4_givenUp : GoodIn wsX4_tick wsX4_givenUp := goodIn_r _ [56, 7, 8, 9, 5, 10, 11, 60] (by decide +kernel) (by decide +kernel)
set_option maxRecDepth 20000 in
theorem gX4_tick_X4_givenUp : GoodIn wsX4_tick (wsV RX4 87 RX4 yX4_givenUp wsX4_givenUp) := goodIn_app (goodIn_of _ (by decide +kernel)) ggX4_tick_X4_givenUp
theorem dX4_tick_0 : decode cX4_tick 0 = .ok (.aload_n 0, 1) := by decide +kernel
theorem dX4_tick_1 : decode cX4_tick 1 = .ok (.iconst 0, 1) := by decide +kernel
theorem dX4_tick_2 : decode cX4_tick 2 = .ok (.aload_n 0, 1) := by decide +kernel
theorem dX4_tick_3 : decode cX4_tick 3 = .ok (.invokevirtual 69, 3) := by decide +kernel
theorem dX4_tick_6 : decode cX4_tick 6 = .ok (.iconst 1, 1) := by decide +kernel
theorem dX4_tick_7 : decode cX4_tick 7 = .ok (.iadd, 1) := by decide +kernel
theorem dX4_tick_8 : decode cX4_tick 8 = .ok (.invokevirtual 48, 3) := by decide +kernel
theorem dX4_tick_11 : decode cX4_tick 11 = .ok (.iconst 0, 1) := by decide +kernel
theorem dX4_tick_12 : decode cX4_tick 12 = .ok (.istore_n 2, 1) := by decide +kernel
theorem dX4_tick_13 : decode cX4_tick 13 = .ok (.iload_n 2, 1) := by decide +kernel
theorem dX4_tick_14 : decode cX4_tick 14 = .ok (.aload_n 1, 1) := by decide +kernel
theorem dX4_tick_15 : decode cX4_tick 15 = .ok (.getfield 21, 3) := by decide +kernel
theorem dX4_tick_18 : decode cX4_tick 18 = .ok (.if_icmp .ge 40, 3) := by decide +kernel
theorem dX4_tick_21 : decode cX4_tick 21 = .ok (.aload_n 1, 1) := by decide +kernel
theorem dX4_tick_22 : decode cX4_tick 22 = .ok (.iload_n 2, 1) := by decide +kernel
theorem dX4_tick_23 : decode cX4_tick 23 = .ok (.iconst 0, 1) := by decide +kernel
theorem dX4_tick_24 : decode cX4_tick 24 = .ok (.invokevirtual 27, 3) := by decide +kernel
theorem dX4_tick_27 : decode cX4_tick 27 = .ok (.iconst 1, 1) := by decide +kernel
theorem dX4_tick_28 : decode cX4_tick 28 = .ok (.if_icmp .ne 24, 3) := by decide +kernel
theorem dX4_tick_31 : decode cX4_tick 31 = .ok (.aload_n 0, 1) := by decide +kernel
theorem dX4_tick_32 : decode cX4_tick 32 = .ok (.iload_n 2, 1) := by decide +kernel
theorem dX4_tick_33 : decode cX4_tick 33 = .ok (.aload_n 0, 1) := by decide +kernel
theorem dX4_tick_34 : decode cX4_tick 34 = .ok (.iload_n 2, 1) := by decide +kernel
theorem dX4_tick_35 : decode cX4_tick 35 = .ok (.invokevirtual 73, 3) := by decide +kernel
theorem dX4_tick_38 : decode cX4_tick 38 = .ok (.aload_n 1, 1) := by decide +kernel
theorem dX4_tick_39 : decode cX4_tick 39 = .ok (.iload_n 2, 1) := by decide +kernel
theorem dX4_tick_40 : decode cX4_tick 40 = .ok (.iconst 2, 1) := by decide +kernel
theorem dX4_tick_41 : decode cX4_tick 41 = .ok (.invokevirtual 27, 3) := by decide +kernel
theorem dX4_tick_44 : decode cX4_tick 44 = .ok (.iadd, 1) := by decide +kernel
theorem dX4_tick_45 : decode cX4_tick 45 = .ok (.sipush 1000, 3) := by decide +kernel
theorem dX4_tick_48 : decode cX4_tick 48 = .ok (.irem, 1) := by decide +kernel
theorem dX4_tick_49 : decode cX4_tick 49 = .ok (.invokevirtual 31, 3) := by decide +kernel
theorem dX4_tick_52 : decode cX4_tick 52 = .ok (.iinc 2 1, 3) := by decide +kernel
theorem dX4_tick_55 : decode cX4_tick 55 = .ok (.goto (-42), 3) := by decide +kernel
theorem dX4_tick_58 : decode cX4_tick 58 = .ok (.iconst 0, 1) := by decide +kernel
theorem dX4_tick_59 : decode cX4_tick 59 = .ok (.istore_n 2, 1) := by decide +kernel
theorem dX4_tick_60 : decode cX4_tick 60 = .ok (.aload_n 0, 1) := by decide +kernel
theorem dX4_tick_61 : decode cX4_tick 61 = .ok (.invokevirtual 76, 3) := by decide +kernel
theorem dX4_tick_64 : decode cX4_tick 64 = .ok (.istore_n 3, 1) := by decide +kernel
theorem dX4_tick_65 : decode cX4_tick 65 = .ok (.iload_n 3, 1) := by decide +kernel
theorem dX4_tick_66 : decode cX4_tick 66 = .ok (.ifCond .le 39, 3) := by decide +kernel
theorem dX4_tick_69 : decode cX4_tick 69 = .ok (.aload_n 0, 1) := by decide +kernel
theorem dX4_tick_70 : decode cX4_tick 70 = .ok (.iload_n 2, 1) := by decide +kernel
theorem dX4_tick_71 : decode cX4_tick 71 = .ok (.invokevirtual 79, 3) := by decide +kernel
theorem dX4_tick_74 : decode cX4_tick 74 = .ok (.ifCond .eq 9, 3) := by decide +kernel
theorem dX4_tick_77 : decode cX4_tick 77 = .ok (.iinc 2 1, 3) := by decide +kernel
theorem dX4_tick_80 : decode cX4_tick 80 = .ok (.goto 19, 3) := by decide +kernel
theorem dX4_tick_83 : decode cX4_tick 83 = .ok (.aload_n 0, 1) := by decide +kernel
theorem dX4_tick_84 : decode cX4_tick 84 = .ok (.iload_n 2, 1) := by decide +kernel
theorem dX4_tick_85 : decode cX4_tick 85 = .ok (.invokevirtual 83, 3) := by decide +kernel
theorem dX4_tick_88 : decode cX4_tick 88 = .ok (.aload_n 0, 1) := by decide +kernel
theorem dX4_tick_89 : decode cX4_tick 89 = .ok (.iconst 2, 1) := by decide +kernel
theorem dX4_tick_90 : decode cX4_tick 90 = .ok (.aload_n 0, 1) := by decide +kernel
theorem dX4_tick_91 : decode cX4_tick 91 = .ok (.invokevirtual 87, 3) := by decide +kernel
theorem dX4_tick_94 : decode cX4_tick 94 = .ok (.iconst 1, 1) := by decide +kernel
theorem dX4_tick_95 : decode cX4_tick 95 = .ok (.iadd, 1) := by decide +kernel
theorem dX4_tick_96 : decode cX4_tick 96 = .ok (.invokevirtual 48, 3) := by decide +kernel
theorem dX4_tick_99 : decode cX4_tick 99 = .ok (.iinc 3 (-1), 3) := by decide +kernel
theorem dX4_tick_102 : decode cX4_tick 102 = .ok (.goto (-37), 3) := by decide +kernel
theorem dX4_tick_105 : decode cX4_tick 105 = .ok (.return_, 1) := by decide +kernel
set_option maxRecDepth 20000 in
theorem ggX4_noticeField_X4_noticePlace : GoodIn wsX4_noticeField wsX4_noticePlace := goodIn_r _ [4] (by decide +kernel) (by decide +kernel)
set_option maxRecDepth 20000 in
theorem gX4_noticeField_X4_noticePlace : GoodIn wsX4_noticeField (va_wsS RX4 90 yX4_noticePlace wsX4_noticePlace) := goodIn_app (goodIn_of _ (by decide +kernel)) ggX4_noticeField_X4_noticePlace
set_option maxRecDepth 20000 in
theorem ggX4_noticeField_X4_read : GoodIn wsX4_noticeField wsX4_read := goodIn_r _ [8, 9, 10] (by decide +kernel) (by decide +kernel)
set_option maxRecDepth 20000 in
theorem gX4_noticeField_X4_read : GoodIn wsX4_noticeField (wsV RX4 44 RX4 yX4_read wsX4_read) := goodIn_app (goodIn_of _ (by decide +kernel)) ggX4_noticeField_X4_read
theorem dX4_noticeField_0 : decode cX4_noticeField 0 = .ok (.aload_n 0, 1) := by decide +kernel
theorem dX4_noticeField_1 : decode cX4_noticeField 1 = .ok (.iload_n 1, 1) := by decide +kernel
theorem dX4_noticeField_2 : decode cX4_noticeField 2 = .ok (.invokestatic 90, 3) := by decide +kernel
theorem dX4_noticeField_5 : decode cX4_noticeField 5 = .ok (.iload_n 2, 1) := by decide +kernel
theorem dX4_noticeField_6 : decode cX4_noticeField 6 = .ok (.iadd, 1) := by decide +kernel
theorem dX4_noticeField_7 : decode cX4_noticeField 7 = .ok (.invokevirtual 44, 3) := by decide +kernel
theorem dX4_noticeField_10 : decode cX4_noticeField 10 = .ok (.ireturn, 1) := by decide +kernel
set_option maxRecDepth 20000 in
theorem ggX4_removeNotice_X4_waiting : GoodIn wsX4_removeNotice wsX4_waiting := goodIn_r _ [10, 11, 12, 13, 9, 14, 1, 22] (by decide +kernel) (by decide +kernel)
set_option maxRecDepth 20000 in
theorem gX4_removeNotice_X4_waiting : GoodIn wsX4_removeNotice (wsV RX4 76 RX4 yX4_waiting wsX4_waiting) := goodIn_app (goodIn_of _ (by decide +kernel)) ggX4_removeNotice_X4_waiting
set_option maxRecDepth 20000 in
theorem ggX4_removeNotice_X4_noticePlace : GoodIn wsX4_removeNotice wsX4_noticePlace := goodIn_r _ [17] (by decide +kernel) (by decide +kernel)
set_option maxRecDepth 20000 in
theorem gX4_removeNotice_X4_noticePlace : GoodIn wsX4_removeNotice (va_wsS RX4 90 yX4_noticePlace wsX4_noticePlace) := goodIn_app (goodIn_of _ (by decide +kernel)) ggX4_removeNotice_X4_noticePlace
set_option maxRecDepth 20000 in
theorem ggX4_removeNotice_X4_write : GoodIn wsX4_removeNotice wsX4_write := goodIn_r _ [21, 1, 22] (by decide +kernel) (by decide +kernel)
set_option maxRecDepth 20000 in
theorem gX4_removeNotice_X4_write : GoodIn wsX4_removeNotice (wsV RX4 48 RX4 yX4_write wsX4_write) := goodIn_app (goodIn_of _ (by decide +kernel)) ggX4_removeNotice_X4_write
theorem dX4_removeNotice_0 : decode cX4_removeNotice 0 = .ok (.aload_n 0, 1) := by decide +kernel
theorem dX4_removeNotice_1 : decode cX4_removeNotice 1 = .ok (.invokevirtual 76, 3) := by decide +kernel
theorem dX4_removeNotice_4 : decode cX4_removeNotice 4 = .ok (.istore_n 2, 1) := by decide +kernel
theorem dX4_removeNotice_5 : decode cX4_removeNotice 5 = .ok (.iload_n 1, 1) := by decide +kernel
theorem dX4_removeNotice_6 : decode cX4_removeNotice 6 = .ok (.ifCond .lt 14, 3) := by decide +kernel
theorem dX4_removeNotice_9 : decode cX4_removeNotice 9 = .ok (.iload_n 1, 1) := by decide +kernel
theorem dX4_removeNotice_10 : decode cX4_removeNotice 10 = .ok (.iload_n 2, 1) := by decide +kernel
theorem dX4_removeNotice_11 : decode cX4_removeNotice 11 = .ok (.if_icmp .ge 9, 3) := by decide +kernel
theorem dX4_removeNotice_14 : decode cX4_removeNotice 14 = .ok (.iload_n 2, 1) := by decide +kernel
theorem dX4_removeNotice_15 : decode cX4_removeNotice 15 = .ok (.bipush 8, 2) := by decide +kernel
theorem dX4_removeNotice_17 : decode cX4_removeNotice 17 = .ok (.if_icmp .le 4, 3) := by decide +kernel
theorem dX4_removeNotice_20 : decode cX4_removeNotice 20 = .ok (.return_, 1) := by decide +kernel
theorem dX4_removeNotice_21 : decode cX4_removeNotice 21 = .ok (.iload_n 1, 1) := by decide +kernel
theorem dX4_removeNotice_22 : decode cX4_removeNotice 22 = .ok (.invokestatic 90, 3) := by decide +kernel
theorem dX4_removeNotice_25 : decode cX4_removeNotice 25 = .ok (.istore_n 3, 1) := by decide +kernel
theorem dX4_removeNotice_26 : decode cX4_removeNotice 26 = .ok (.aload_n 0, 1) := by decide +kernel
theorem dX4_removeNotice_27 : decode cX4_removeNotice 27 = .ok (.getfield 11, 3) := by decide +kernel
theorem dX4_removeNotice_30 : decode cX4_removeNotice 30 = .ok (.iload_n 3, 1) := by decide +kernel
theorem dX4_removeNotice_31 : decode cX4_removeNotice 31 = .ok (.iconst 5, 1) := by decide +kernel
theorem dX4_removeNotice_32 : decode cX4_removeNotice 32 = .ok (.iadd, 1) := by decide +kernel
theorem dX4_removeNotice_33 : decode cX4_removeNotice 33 = .ok (.aload_n 0, 1) := by decide +kernel
theorem dX4_removeNotice_34 : decode cX4_removeNotice 34 = .ok (.getfield 11, 3) := by decide +kernel
theorem dX4_removeNotice_37 : decode cX4_removeNotice 37 = .ok (.iload_n 3, 1) := by decide +kernel
theorem dX4_removeNotice_38 : decode cX4_removeNotice 38 = .ok (.iload_n 2, 1) := by decide +kernel
theorem dX4_removeNotice_39 : decode cX4_removeNotice 39 = .ok (.iconst 1, 1) := by decide +kernel
theorem dX4_removeNotice_40 : decode cX4_removeNotice 40 = .ok (.isub, 1) := by decide +kernel
theorem dX4_removeNotice_41 : decode cX4_removeNotice 41 = .ok (.iload_n 1, 1) := by decide +kernel
theorem dX4_removeNotice_42 : decode cX4_removeNotice 42 = .ok (.isub, 1) := by decide +kernel
theorem dX4_removeNotice_43 : decode cX4_removeNotice 43 = .ok (.iconst 5, 1) := by decide +kernel
theorem dX4_removeNotice_44 : decode cX4_removeNotice 44 = .ok (.imul, 1) := by decide +kernel
theorem dX4_removeNotice_45 : decode cX4_removeNotice 45 = .ok (.invokestatic 38, 3) := by decide +kernel
theorem dX4_removeNotice_48 : decode cX4_removeNotice 48 = .ok (.aload_n 0, 1) := by decide +kernel
theorem dX4_removeNotice_49 : decode cX4_removeNotice 49 = .ok (.iconst 3, 1) := by decide +kernel
theorem dX4_removeNotice_50 : decode cX4_removeNotice 50 = .ok (.iload_n 2, 1) := by decide +kernel
theorem dX4_removeNotice_51 : decode cX4_removeNotice 51 = .ok (.iconst 1, 1) := by decide +kernel
theorem dX4_removeNotice_52 : decode cX4_removeNotice 52 = .ok (.isub, 1) := by decide +kernel
theorem dX4_removeNotice_53 : decode cX4_removeNotice 53 = .ok (.invokevirtual 48, 3) := by decide +kernel
theorem dX4_removeNotice_56 : decode cX4_removeNotice 56 = .ok (.return_, 1) := by decide +kernel
set_option maxRecDepth 20000 in
theorem ggX4_addNotice_X4_waiting : GoodIn wsX4_addNotice wsX4_waiting := goodIn_r _ [5, 6, 7, 8, 4, 9, 10, 30] (by decide +kernel) (by decide +kernel)
set_option maxRecDepth 20000 in
theorem gX4_addNotice_X4_waiting : GoodIn wsX4_addNotice (wsV RX4 76 RX4 yX4_waiting wsX4_waiting) := goodIn_app (goodIn_of _ (by decide +kernel)) ggX4_addNotice_X4_waiting
set_option maxRecDepth 20000 in
theorem ggX4_addNotice_X4_removeNotice : GoodIn wsX4_addNotice wsX4_removeNotice := goodIn_r _ [14, 10, 15, 16, 17, 18, 1, 2, 3, 4, 5, 6, 7, 8, 9, 19, 20, 21, 22, 23, 24, 25, 30] (by decide +kernel) (by decide +kernel)
set_option maxRecDepth 20000 in
theorem gX4_addNotice_X4_removeNotice : GoodIn wsX4_addNotice (wsV RX4 83 RX4 yX4_removeNotice wsX4_removeNotice) := goodIn_app (goodIn_of _ (by decide +kernel)) ggX4_addNotice_X4_removeNotice
set_option maxRecDepth 20000 in
theorem ggX4_addNotice_X4_dropped : GoodIn wsX4_addNotice wsX4_dropped := goodIn_r _ [29, 6, 7, 8, 4, 9, 10, 30] (by decide +kernel) (by decide +kernel)
set_option maxRecDepth 20000 in
theorem gX4_addNotice_X4_dropped : GoodIn wsX4_addNotice (wsV RX4 93 RX4 yX4_dropped wsX4_dropped) := goodIn_app (goodIn_of _ (by decide +kernel)) ggX4_addNotice_X4_dropped
set_option maxRecDepth 20000 in
theorem ggX4_addNotice_X4_write : GoodIn wsX4_addNotice wsX4_write := goodIn_r _ [25, 10, 30] (by decide +kernel) (by decide +kernel)
set_option maxRecDepth 20000 in
theorem gX4_addNotice_X4_write : GoodIn wsX4_addNotice (wsV RX4 48 RX4 yX4_write wsX4_write) := goodIn_app (goodIn_of _ (by decide +kernel)) ggX4_addNotice_X4_write
set_option maxRecDepth 20000 in
theorem ggX4_addNotice_X4_noticePlace : GoodIn wsX4_addNotice wsX4_noticePlace := goodIn_r _ [21] (by decide +kernel) (by decide +kernel)
set_option maxRecDepth 20000 in
theorem gX4_addNotice_X4_noticePlace : GoodIn wsX4_addNotice (va_wsS RX4 90 yX4_noticePlace wsX4_noticePlace) := goodIn_app (goodIn_of _ (by decide +kernel)) ggX4_addNotice_X4_noticePlace
theorem dX4_addNotice_0 : decode cX4_addNotice 0 = .ok (.aload_n 0, 1) := by decide +kernel
theorem dX4_addNotice_1 : decode cX4_addNotice 1 = .ok (.invokevirtual 76, 3) := by decide +kernel
theorem dX4_addNotice_4 : decode cX4_addNotice 4 = .ok (.bipush 8, 2) := by decide +kernel
theorem dX4_addNotice_6 : decode cX4_addNotice 6 = .ok (.if_icmp .lt 19, 3) := by decide +kernel
theorem dX4_addNotice_9 : decode cX4_addNotice 9 = .ok (.aload_n 0, 1) := by decide +kernel
theorem dX4_addNotice_10 : decode cX4_addNotice 10 = .ok (.iconst 0, 1) := by decide +kernel
theorem dX4_addNotice_11 : decode cX4_addNotice 11 = .ok (.invokevirtual 83, 3) := by decide +kernel
theorem dX4_addNotice_14 : decode cX4_addNotice 14 = .ok (.aload_n 0, 1) := by decide +kernel
theorem dX4_addNotice_15 : decode cX4_addNotice 15 = .ok (.iconst 1, 1) := by decide +kernel
theorem dX4_addNotice_16 : decode cX4_addNotice 16 = .ok (.aload_n 0, 1) := by decide +kernel
theorem dX4_addNotice_17 : decode cX4_addNotice 17 = .ok (.invokevirtual 93, 3) := by decide +kernel
theorem dX4_addNotice_20 : decode cX4_addNotice 20 = .ok (.iconst 1, 1) := by decide +kernel
theorem dX4_addNotice_21 : decode cX4_addNotice 21 = .ok (.iadd, 1) := by decide +kernel
theorem dX4_addNotice_22 : decode cX4_addNotice 22 = .ok (.invokevirtual 48, 3) := by decide +kernel
theorem dX4_addNotice_25 : decode cX4_addNotice 25 = .ok (.aload_n 0, 1) := by decide +kernel
theorem dX4_addNotice_26 : decode cX4_addNotice 26 = .ok (.invokevirtual 76, 3) := by decide +kernel
theorem dX4_addNotice_29 : decode cX4_addNotice 29 = .ok (.invokestatic 90, 3) := by decide +kernel
theorem dX4_addNotice_32 : decode cX4_addNotice 32 = .ok (.istore 4, 2) := by decide +kernel
theorem dX4_addNotice_34 : decode cX4_addNotice 34 = .ok (.aload_n 0, 1) := by decide +kernel
theorem dX4_addNotice_35 : decode cX4_addNotice 35 = .ok (.iload 4, 2) := by decide +kernel
theorem dX4_addNotice_37 : decode cX4_addNotice 37 = .ok (.iconst 0, 1) := by decide +kernel
theorem dX4_addNotice_38 : decode cX4_addNotice 38 = .ok (.iadd, 1) := by decide +kernel
theorem dX4_addNotice_39 : decode cX4_addNotice 39 = .ok (.iload_n 1, 1) := by decide +kernel
theorem dX4_addNotice_40 : decode cX4_addNotice 40 = .ok (.invokevirtual 48, 3) := by decide +kernel
theorem dX4_addNotice_43 : decode cX4_addNotice 43 = .ok (.aload_n 0, 1) := by decide +kernel
theorem dX4_addNotice_44 : decode cX4_addNotice 44 = .ok (.iload 4, 2) := by decide +kernel
theorem dX4_addNotice_46 : decode cX4_addNotice 46 = .ok (.iconst 1, 1) := by decide +kernel
theorem dX4_addNotice_47 : decode cX4_addNotice 47 = .ok (.iadd, 1) := by decide +kernel
theorem dX4_addNotice_48 : decode cX4_addNotice 48 = .ok (.iload_n 2, 1) := by decide +kernel
theorem dX4_addNotice_49 : decode cX4_addNotice 49 = .ok (.invokevirtual 48, 3) := by decide +kernel
theorem dX4_addNotice_52 : decode cX4_addNotice 52 = .ok (.aload_n 0, 1) := by decide +kernel
theorem dX4_addNotice_53 : decode cX4_addNotice 53 = .ok (.iload 4, 2) := by decide +kernel
theorem dX4_addNotice_55 : decode cX4_addNotice 55 = .ok (.iconst 2, 1) := by decide +kernel
theorem dX4_addNotice_56 : decode cX4_addNotice 56 = .ok (.iadd, 1) := by decide +kernel
theorem dX4_addNotice_57 : decode cX4_addNotice 57 = .ok (.iload_n 3, 1) := by decide +kernel
theorem dX4_addNotice_58 : decode cX4_addNotice 58 = .ok (.invokevirtual 48, 3) := by decide +kernel
theorem dX4_addNotice_61 : decode cX4_addNotice 61 = .ok (.aload_n 0, 1) := by decide +kernel
theorem dX4_addNotice_62 : decode cX4_addNotice 62 = .ok (.iload 4, 2) := by decide +kernel
theorem dX4_addNotice_64 : decode cX4_addNotice 64 = .ok (.iconst 3, 1) := by decide +kernel
theorem dX4_addNotice_65 : decode cX4_addNotice 65 = .ok (.iadd, 1) := by decide +kernel
theorem dX4_addNotice_66 : decode cX4_addNotice 66 = .ok (.iconst 1, 1) := by decide +kernel
theorem dX4_addNotice_67 : decode cX4_addNotice 67 = .ok (.invokevirtual 48, 3) := by decide +kernel
theorem dX4_addNotice_70 : decode cX4_addNotice 70 = .ok (.aload_n 0, 1) := by decide +kernel
theorem dX4_addNotice_71 : decode cX4_addNotice 71 = .ok (.iload 4, 2) := by decide +kernel
theorem dX4_addNotice_73 : decode cX4_addNotice 73 = .ok (.iconst 4, 1) := by decide +kernel
theorem dX4_addNotice_74 : decode cX4_addNotice 74 = .ok (.iadd, 1) := by decide +kernel
theorem dX4_addNotice_75 : decode cX4_addNotice 75 = .ok (.iconst 3, 1) := by decide +kernel
theorem dX4_addNotice_76 : decode cX4_addNotice 76 = .ok (.invokevirtual 48, 3) := by decide +kernel
theorem dX4_addNotice_79 : decode cX4_addNotice 79 = .ok (.aload_n 0, 1) := by decide +kernel
theorem dX4_addNotice_80 : decode cX4_addNotice 80 = .ok (.iconst 3, 1) := by decide +kernel
theorem dX4_addNotice_81 : decode cX4_addNotice 81 = .ok (.aload_n 0, 1) := by decide +kernel
theorem dX4_addNotice_82 : decode cX4_addNotice 82 = .ok (.invokevirtual 76, 3) := by decide +kernel
theorem dX4_addNotice_85 : decode cX4_addNotice 85 = .ok (.iconst 1, 1) := by decide +kernel
theorem dX4_addNotice_86 : decode cX4_addNotice 86 = .ok (.iadd, 1) := by decide +kernel
theorem dX4_addNotice_87 : decode cX4_addNotice 87 = .ok (.invokevirtual 48, 3) := by decide +kernel
theorem dX4_addNotice_90 : decode cX4_addNotice 90 = .ok (.return_, 1) := by decide +kernel
set_option maxRecDepth 20000 in
theorem ggX4_staysAfterTick_X4_noticeField : GoodIn wsX4_staysAfterTick wsX4_noticeField := goodIn_r _ [5, 6, 7, 4, 8, 9, 10, 11, 12, 13, 18] (by decide +kernel) (by decide +kernel)
set_option maxRecDepth 20000 in
theorem gX4_staysAfterTick_X4_noticeField : GoodIn wsX4_staysAfterTick (wsV RX4 96 RX4 yX4_noticeField wsX4_noticeField) := goodIn_app (goodIn_of _ (by decide +kernel)) ggX4_staysAfterTick_X4_noticeField
set_option maxRecDepth 20000 in
theorem ggX4_staysAfterTick_X4_noticePlace : GoodIn wsX4_staysAfterTick wsX4_noticePlace := goodIn_r _ [8] (by decide +kernel) (by decide +kernel)
set_option maxRecDepth 20000 in
theorem gX4_staysAfterTick_X4_noticePlace : GoodIn wsX4_staysAfterTick (va_wsS RX4 90 yX4_noticePlace wsX4_noticePlace) := goodIn_app (goodIn_of _ (by decide +kernel)) ggX4_staysAfterTick_X4_noticePlace
set_option maxRecDepth 20000 in
theorem ggX4_staysAfterTick_X4_write : GoodIn wsX4_staysAfterTick wsX4_write := goodIn_r _ [17, 13, 18] (by decide +kernel) (by decide +kernel)
set_option maxRecDepth 20000 in
theorem gX4_staysAfterTick_X4_write : GoodIn wsX4_staysAfterTick (wsV RX4 48 RX4 yX4_write wsX4_write) := goodIn_app (goodIn_of _ (by decide +kernel)) ggX4_staysAfterTick_X4_write
theorem dX4_staysAfterTick_0 : decode cX4_staysAfterTick 0 = .ok (.aload_n 0, 1) := by decide +kernel
theorem dX4_staysAfterTick_1 : decode cX4_staysAfterTick 1 = .ok (.iload_n 1, 1) := by decide +kernel
theorem dX4_staysAfterTick_2 : decode cX4_staysAfterTick 2 = .ok (.iconst 4, 1) := by decide +kernel
theorem dX4_staysAfterTick_3 : decode cX4_staysAfterTick 3 = .ok (.invokevirtual 96, 3) := by decide +kernel
theorem dX4_staysAfterTick_6 : decode cX4_staysAfterTick 6 = .ok (.iconst 1, 1) := by decide +kernel
theorem dX4_staysAfterTick_7 : decode cX4_staysAfterTick 7 = .ok (.isub, 1) := by decide +kernel
theorem dX4_staysAfterTick_8 : decode cX4_staysAfterTick 8 = .ok (.istore_n 2, 1) := by decide +kernel
theorem dX4_staysAfterTick_9 : decode cX4_staysAfterTick 9 = .ok (.aload_n 0, 1) := by decide +kernel
theorem dX4_staysAfterTick_10 : decode cX4_staysAfterTick 10 = .ok (.iload_n 1, 1) := by decide +kernel
theorem dX4_staysAfterTick_11 : decode cX4_staysAfterTick 11 = .ok (.iconst 3, 1) := by decide +kernel
theorem dX4_staysAfterTick_12 : decode cX4_staysAfterTick 12 = .ok (.invokevirtual 96, 3) := by decide +kernel
theorem dX4_staysAfterTick_15 : decode cX4_staysAfterTick 15 = .ok (.istore_n 3, 1) := by decide +kernel
theorem dX4_staysAfterTick_16 : decode cX4_staysAfterTick 16 = .ok (.iload_n 2, 1) := by decide +kernel
theorem dX4_staysAfterTick_17 : decode cX4_staysAfterTick 17 = .ok (.ifCond .le 16, 3) := by decide +kernel
theorem dX4_staysAfterTick_20 : decode cX4_staysAfterTick 20 = .ok (.aload_n 0, 1) := by decide +kernel
theorem dX4_staysAfterTick_21 : decode cX4_staysAfterTick 21 = .ok (.iload_n 1, 1) := by decide +kernel
theorem dX4_staysAfterTick_22 : decode cX4_staysAfterTick 22 = .ok (.invokestatic 90, 3) := by decide +kernel
theorem dX4_staysAfterTick_25 : decode cX4_staysAfterTick 25 = .ok (.iconst 4, 1) := by decide +kernel
theorem dX4_staysAfterTick_26 : decode cX4_staysAfterTick 26 = .ok (.iadd, 1) := by decide +kernel
theorem dX4_staysAfterTick_27 : decode cX4_staysAfterTick 27 = .ok (.iload_n 2, 1) := by decide +kernel
theorem dX4_staysAfterTick_28 : decode cX4_staysAfterTick 28 = .ok (.invokevirtual 48, 3) := by decide +kernel
theorem dX4_staysAfterTick_31 : decode cX4_staysAfterTick 31 = .ok (.iconst 1, 1) := by decide +kernel
theorem dX4_staysAfterTick_32 : decode cX4_staysAfterTick 32 = .ok (.ireturn, 1) := by decide +kernel
theorem dX4_staysAfterTick_33 : decode cX4_staysAfterTick 33 = .ok (.iload_n 3, 1) := by decide +kernel
theorem dX4_staysAfterTick_34 : decode cX4_staysAfterTick 34 = .ok (.iconst 3, 1) := by decide +kernel
theorem dX4_staysAfterTick_35 : decode cX4_staysAfterTick 35 = .ok (.if_icmp .lt 5, 3) := by decide +kernel
theorem dX4_staysAfterTick_38 : decode cX4_staysAfterTick 38 = .ok (.iconst 0, 1) := by decide +kernel
theorem dX4_staysAfterTick_39 : decode cX4_staysAfterTick 39 = .ok (.ireturn, 1) := by decide +kernel
theorem dX4_staysAfterTick_40 : decode cX4_staysAfterTick 40 = .ok (.aload_n 0, 1) := by decide +kernel
theorem dX4_staysAfterTick_41 : decode cX4_staysAfterTick 41 = .ok (.iload_n 1, 1) := by decide +kernel
theorem dX4_staysAfterTick_42 : decode cX4_staysAfterTick 42 = .ok (.invokestatic 90, 3) := by decide +kernel
theorem dX4_staysAfterTick_45 : decode cX4_staysAfterTick 45 = .ok (.iconst 3, 1) := by decide +kernel
theorem dX4_staysAfterTick_46 : decode cX4_staysAfterTick 46 = .ok (.iadd, 1) := by decide +kernel
theorem dX4_staysAfterTick_47 : decode cX4_staysAfterTick 47 = .ok (.iload_n 3, 1) := by decide +kernel
theorem dX4_staysAfterTick_48 : decode cX4_staysAfterTick 48 = .ok (.iconst 1, 1) := by decide +kernel
theorem dX4_staysAfterTick_49 : decode cX4_staysAfterTick 49 = .ok (.iadd, 1) := by decide +kernel
theorem dX4_staysAfterTick_50 : decode cX4_staysAfterTick 50 = .ok (.invokevirtual 48, 3) := by decide +kernel
theorem dX4_staysAfterTick_53 : decode cX4_staysAfterTick 53 = .ok (.aload_n 0, 1) := by decide +kernel
theorem dX4_staysAfterTick_54 : decode cX4_staysAfterTick 54 = .ok (.iload_n 1, 1) := by decide +kernel
theorem dX4_staysAfterTick_55 : decode cX4_staysAfterTick 55 = .ok (.invokestatic 90, 3) := by decide +kernel
theorem dX4_staysAfterTick_58 : decode cX4_staysAfterTick 58 = .ok (.iconst 4, 1) := by decide +kernel
theorem dX4_staysAfterTick_59 : decode cX4_staysAfterTick 59 = .ok (.iadd, 1) := by decide +kernel
theorem dX4_staysAfterTick_60 : decode cX4_staysAfterTick 60 = .ok (.iconst 3, 1) := by decide +kernel
theorem dX4_staysAfterTick_61 : decode cX4_staysAfterTick 61 = .ok (.invokevirtual 48, 3) := by decide +kernel
theorem dX4_staysAfterTick_64 : decode cX4_staysAfterTick 64 = .ok (.iconst 1, 1) := by decide +kernel
theorem dX4_staysAfterTick_65 : decode cX4_staysAfterTick 65 = .ok (.ireturn, 1) := by decide +kernel
theorem dX4_noticePlace_0 : decode cX4_noticePlace 0 = .ok (.bipush 84, 2) := by decide +kernel
theorem dX4_noticePlace_2 : decode cX4_noticePlace 2 = .ok (.iload_n 0, 1) := by decide +kernel
theorem dX4_noticePlace_3 : decode cX4_noticePlace 3 = .ok (.iconst 5, 1) := by decide +kernel
theorem dX4_noticePlace_4 : decode cX4_noticePlace 4 = .ok (.imul, 1) := by decide +kernel
theorem dX4_noticePlace_5 : decode cX4_noticePlace 5 = .ok (.iadd, 1) := by decide +kernel
theorem dX4_noticePlace_6 : decode cX4_noticePlace 6 = .ok (.ireturn, 1) := by decide +kernel
theorem dX4_cellPlace_0 : decode cX4_cellPlace 0 = .ok (.bipush 12, 2) := by decide +kernel
theorem dX4_cellPlace_2 : decode cX4_cellPlace 2 = .ok (.iload_n 0, 1) := by decide +kernel
theorem dX4_cellPlace_3 : decode cX4_cellPlace 3 = .ok (.bipush 9, 2) := by decide +kernel
theorem dX4_cellPlace_5 : decode cX4_cellPlace 5 = .ok (.imul, 1) := by decide +kernel
theorem dX4_cellPlace_6 : decode cX4_cellPlace 6 = .ok (.iload_n 2, 1) := by decide +kernel
theorem dX4_cellPlace_7 : decode cX4_cellPlace 7 = .ok (.iadd, 1) := by decide +kernel
theorem dX4_cellPlace_8 : decode cX4_cellPlace 8 = .ok (.iconst 1, 1) := by decide +kernel
theorem dX4_cellPlace_9 : decode cX4_cellPlace 9 = .ok (.isub, 1) := by decide +kernel
theorem dX4_cellPlace_10 : decode cX4_cellPlace 10 = .ok (.iconst 4, 1) := by decide +kernel
theorem dX4_cellPlace_11 : decode cX4_cellPlace 11 = .ok (.imul, 1) := by decide +kernel
theorem dX4_cellPlace_12 : decode cX4_cellPlace 12 = .ok (.iadd, 1) := by decide +kernel
theorem dX4_cellPlace_13 : decode cX4_cellPlace 13 = .ok (.iload_n 1, 1) := by decide +kernel
theorem dX4_cellPlace_14 : decode cX4_cellPlace 14 = .ok (.iadd, 1) := by decide +kernel
theorem dX4_cellPlace_15 : decode cX4_cellPlace 15 = .ok (.ireturn, 1) := by decide +kernel
theorem dX4_read_0 : decode cX4_read 0 = .ok (.iload_n 1, 1) := by decide +kernel
theorem dX4_read_1 : decode cX4_read 1 = .ok (.ifCond .lt 18, 3) := by decide +kernel
theorem dX4_read_4 : decode cX4_read 4 = .ok (.iload_n 1, 1) := by decide +kernel
theorem dX4_read_5 : decode cX4_read 5 = .ok (.bipush 124, 2) := by decide +kernel
theorem dX4_read_7 : decode cX4_read 7 = .ok (.if_icmp .ge 12, 3) := by decide +kernel
theorem dX4_read_10 : decode cX4_read 10 = .ok (.aload_n 0, 1) := by decide +kernel
theorem dX4_read_11 : decode cX4_read 11 = .ok (.getfield 11, 3) := by decide +kernel
theorem dX4_read_14 : decode cX4_read 14 = .ok (.iload_n 1, 1) := by decide +kernel
theorem dX4_read_15 : decode cX4_read 15 = .ok (.iaload, 1) := by decide +kernel
theorem dX4_read_16 : decode cX4_read 16 = .ok (.goto 4, 3) := by decide +kernel
theorem dX4_read_19 : decode cX4_read 19 = .ok (.iconst 0, 1) := by decide +kernel
theorem dX4_read_20 : decode cX4_read 20 = .ok (.ireturn, 1) := by decide +kernel
theorem dX4_write_0 : decode cX4_write 0 = .ok (.iload_n 1, 1) := by decide +kernel
theorem dX4_write_1 : decode cX4_write 1 = .ok (.ifCond .lt 16, 3) := by decide +kernel
theorem dX4_write_4 : decode cX4_write 4 = .ok (.iload_n 1, 1) := by decide +kernel
theorem dX4_write_5 : decode cX4_write 5 = .ok (.bipush 124, 2) := by decide +kernel
theorem dX4_write_7 : decode cX4_write 7 = .ok (.if_icmp .ge 10, 3) := by decide +kernel
theorem dX4_write_10 : decode cX4_write 10 = .ok (.aload_n 0, 1) := by decide +kernel
theorem dX4_write_11 : decode cX4_write 11 = .ok (.getfield 11, 3) := by decide +kernel
theorem dX4_write_14 : decode cX4_write 14 = .ok (.iload_n 1, 1) := by decide +kernel
theorem dX4_write_15 : decode cX4_write 15 = .ok (.iload_n 2, 1) := by decide +kernel
theorem dX4_write_16 : decode cX4_write 16 = .ok (.iastore, 1) := by decide +kernel
theorem dX4_write_17 : decode cX4_write 17 = .ok (.return_, 1) := by decide +kernel
theorem dX5_init_0 : decode cX5_init 0 = .ok (.aload_n 0, 1) := by decide +kernel
theorem dX5_init_1 : decode cX5_init 1 = .ok (.invokespecial 3, 3) := by decide +kernel
theorem dX5_init_4 : decode cX5_init 4 = .ok (.aload_n 0, 1) := by decide +kernel
theorem dX5_init_5 : decode cX5_init 5 = .ok (.sipush 160, 3) := by decide +kernel
theorem dX5_init_8 : decode cX5_init 8 = .ok (.newarray .int, 2) := by decide +kernel
theorem dX5_init_10 : decode cX5_init 10 = .ok (.putfield 11, 3) := by decide +kernel
theorem dX5_init_13 : decode cX5_init 13 = .ok (.aload_n 0, 1) := by decide +kernel
theorem dX5_init_14 : decode cX5_init 14 = .ok (.sipush 160, 3) := by decide +kernel
theorem dX5_init_17 : decode cX5_init 17 = .ok (.newarray .int, 2) := by decide +kernel
theorem dX5_init_19 : decode cX5_init 19 = .ok (.putfield 15, 3) := by decide +kernel
theorem dX5_init_22 : decode cX5_init 22 = .ok (.aload_n 0, 1) := by decide +kernel
theorem dX5_init_23 : decode cX5_init 23 = .ok (.sipush 160, 3) := by decide +kernel
theorem dX5_init_26 : decode cX5_init 26 = .ok (.newarray .int, 2) := by decide +kernel
theorem dX5_init_28 : decode cX5_init 28 = .ok (.putfield 18, 3) := by decide +kernel
theorem dX5_init_31 : decode cX5_init 31 = .ok (.aload_n 0, 1) := by decide +kernel
theorem dX5_init_32 : decode cX5_init 32 = .ok (.sipush 160, 3) := by decide +kernel
theorem dX5_init_35 : decode cX5_init 35 = .ok (.newarray .int, 2) := by decide +kernel
theorem dX5_init_37 : decode cX5_init 37 = .ok (.putfield 21, 3) := by decide +kernel
theorem dX5_init_40 : decode cX5_init 40 = .ok (.return_, 1) := by decide +kernel
theorem dX5_append_0 : decode cX5_append 0 = .ok (.aload_n 0, 1) := by decide +kernel
theorem dX5_append_1 : decode cX5_append 1 = .ok (.getfield 24, 3) := by decide +kernel
theorem dX5_append_4 : decode cX5_append 4 = .ok (.ifCond .lt 13, 3) := by decide +kernel
theorem dX5_append_7 : decode cX5_append 7 = .ok (.aload_n 0, 1) := by decide +kernel
theorem dX5_append_8 : decode cX5_append 8 = .ok (.getfield 24, 3) := by decide +kernel
theorem dX5_append_11 : decode cX5_append 11 = .ok (.sipush 160, 3) := by decide +kernel
theorem dX5_append_14 : decode cX5_append 14 = .ok (.if_icmp .lt 5, 3) := by decide +kernel
theorem dX5_append_17 : decode cX5_append 17 = .ok (.iconst 0, 1) := by decide +kernel
theorem dX5_append_18 : decode cX5_append 18 = .ok (.ireturn, 1) := by decide +kernel
theorem dX5_append_19 : decode cX5_append 19 = .ok (.aload_n 0, 1) := by decide +kernel
theorem dX5_append_20 : decode cX5_append 20 = .ok (.getfield 11, 3) := by decide +kernel
theorem dX5_append_23 : decode cX5_append 23 = .ok (.aload_n 0, 1) := by decide +kernel
theorem dX5_append_24 : decode cX5_append 24 = .ok (.getfield 24, 3) := by decide +kernel
theorem dX5_append_27 : decode cX5_append 27 = .ok (.iload_n 1, 1) := by decide +kernel
theorem dX5_append_28 : decode cX5_append 28 = .ok (.iastore, 1) := by decide +kernel
theorem dX5_append_29 : decode cX5_append 29 = .ok (.aload_n 0, 1) := by decide +kernel
theorem dX5_append_30 : decode cX5_append 30 = .ok (.dup, 1) := by decide +kernel
theorem dX5_append_31 : decode cX5_append 31 = .ok (.getfield 24, 3) := by decide +kernel
theorem dX5_append_34 : decode cX5_append 34 = .ok (.iconst 1, 1) := by decide +kernel
theorem dX5_append_35 : decode cX5_append 35 = .ok (.iadd, 1) := by decide +kernel
theorem dX5_append_36 : decode cX5_append 36 = .ok (.putfield 24, 3) := by decide +kernel
theorem dX5_append_39 : decode cX5_append 39 = .ok (.iconst 1, 1) := by decide +kernel
theorem dX5_append_40 : decode cX5_append 40 = .ok (.ireturn, 1) := by decide +kernel
theorem dX5_drop_0 : decode cX5_drop 0 = .ok (.aload_n 0, 1) := by decide +kernel
theorem dX5_drop_1 : decode cX5_drop 1 = .ok (.iconst 0, 1) := by decide +kernel
theorem dX5_drop_2 : decode cX5_drop 2 = .ok (.putfield 24, 3) := by decide +kernel
theorem dX5_drop_5 : decode cX5_drop 5 = .ok (.return_, 1) := by decide +kernel
set_option maxRecDepth 20000 in
theorem ggX5_rewind_X5_addFigure : GoodIn wsX5_rewind wsX5_addFigure := goodIn_r _ [9, 2, 10, 11, 12, 13, 14, 21, 22, 23, 24, 25, 26, 27, 28, 29, 30] (by decide +kernel) (by decide +kernel)
set_option maxRecDepth 20000 in
theorem gX5_rewind_X5_addFigure : GoodIn wsX5_rewind (wsV RX5 34 RX5 yX5_addFigure wsX5_addFigure) := goodIn_app (goodIn_of _ (by decide +kernel)) ggX5_rewind_X5_addFigure
set_option maxRecDepth 20000 in
theorem ggX5_rewind_X5_addToken : GoodIn wsX5_rewind wsX5_addToken := goodIn_r _ [18, 2, 19, 20, 10, 21, 22, 23, 24, 25, 26, 27, 28, 29, 30] (by decide +kernel) (by decide +kernel)
set_option maxRecDepth 20000 in
theorem gX5_rewind_X5_addToken : GoodIn wsX5_rewind (wsV RX5 38 RX5 yX5_addToken wsX5_addToken) := goodIn_app (goodIn_of _ (by decide +kernel)) ggX5_rewind_X5_addToken
theorem dX5_rewind_0 : decode cX5_rewind 0 = .ok (.aload_n 0, 1) := by decide +kernel
theorem dX5_rewind_1 : decode cX5_rewind 1 = .ok (.iconst 0, 1) := by decide +kernel
theorem dX5_rewind_2 : decode cX5_rewind 2 = .ok (.putfield 28, 3) := by decide +kernel
theorem dX5_rewind_5 : decode cX5_rewind 5 = .ok (.aload_n 0, 1) := by decide +kernel
theorem dX5_rewind_6 : decode cX5_rewind 6 = .ok (.iconst 0, 1) := by decide +kernel
theorem dX5_rewind_7 : decode cX5_rewind 7 = .ok (.putfield 31, 3) := by decide +kernel
theorem dX5_rewind_10 : decode cX5_rewind 10 = .ok (.iconst 0, 1) := by decide +kernel
theorem dX5_rewind_11 : decode cX5_rewind 11 = .ok (.istore_n 1, 1) := by decide +kernel
theorem dX5_rewind_12 : decode cX5_rewind 12 = .ok (.iconst 0, 1) := by decide +kernel
theorem dX5_rewind_13 : decode cX5_rewind 13 = .ok (.istore_n 2, 1) := by decide +kernel
theorem dX5_rewind_14 : decode cX5_rewind 14 = .ok (.iload_n 2, 1) := by decide +kernel
theorem dX5_rewind_15 : decode cX5_rewind 15 = .ok (.aload_n 0, 1) := by decide +kernel
theorem dX5_rewind_16 : decode cX5_rewind 16 = .ok (.getfield 24, 3) := by decide +kernel
theorem dX5_rewind_19 : decode cX5_rewind 19 = .ok (.if_icmp .ge 98, 3) := by decide +kernel
theorem dX5_rewind_22 : decode cX5_rewind 22 = .ok (.iload_n 2, 1) := by decide +kernel
theorem dX5_rewind_23 : decode cX5_rewind 23 = .ok (.sipush 160, 3) := by decide +kernel
theorem dX5_rewind_26 : decode cX5_rewind 26 = .ok (.if_icmp .ge 91, 3) := by decide +kernel
theorem dX5_rewind_29 : decode cX5_rewind 29 = .ok (.aload_n 0, 1) := by decide +kernel
theorem dX5_rewind_30 : decode cX5_rewind 30 = .ok (.getfield 11, 3) := by decide +kernel
theorem dX5_rewind_33 : decode cX5_rewind 33 = .ok (.iload_n 2, 1) := by decide +kernel
theorem dX5_rewind_34 : decode cX5_rewind 34 = .ok (.iaload, 1) := by decide +kernel
theorem dX5_rewind_35 : decode cX5_rewind 35 = .ok (.istore_n 3, 1) := by decide +kernel
theorem dX5_rewind_36 : decode cX5_rewind 36 = .ok (.iload_n 3, 1) := by decide +kernel
theorem dX5_rewind_37 : decode cX5_rewind 37 = .ok (.bipush 48, 2) := by decide +kernel
theorem dX5_rewind_39 : decode cX5_rewind 39 = .ok (.if_icmp .lt 13, 3) := by decide +kernel
theorem dX5_rewind_42 : decode cX5_rewind 42 = .ok (.iload_n 3, 1) := by decide +kernel
theorem dX5_rewind_43 : decode cX5_rewind 43 = .ok (.bipush 57, 2) := by decide +kernel
theorem dX5_rewind_45 : decode cX5_rewind 45 = .ok (.if_icmp .gt 7, 3) := by decide +kernel
theorem dX5_rewind_48 : decode cX5_rewind 48 = .ok (.iconst 1, 1) := by decide +kernel
theorem dX5_rewind_49 : decode cX5_rewind 49 = .ok (.goto 4, 3) := by decide +kernel
theorem dX5_rewind_52 : decode cX5_rewind 52 = .ok (.iconst 0, 1) := by decide +kernel
theorem dX5_rewind_53 : decode cX5_rewind 53 = .ok (.istore 4, 2) := by decide +kernel
theorem dX5_rewind_55 : decode cX5_rewind 55 = .ok (.iload 4, 2) := by decide +kernel
theorem dX5_rewind_57 : decode cX5_rewind 57 = .ok (.ifCond .eq 18, 3) := by decide +kernel
theorem dX5_rewind_60 : decode cX5_rewind 60 = .ok (.iload_n 1, 1) := by decide +kernel
theorem dX5_rewind_61 : decode cX5_rewind 61 = .ok (.ifCond .eq 14, 3) := by decide +kernel
theorem dX5_rewind_64 : decode cX5_rewind 64 = .ok (.aload_n 0, 1) := by decide +kernel
theorem dX5_rewind_65 : decode cX5_rewind 65 = .ok (.iload_n 3, 1) := by decide +kernel
theorem dX5_rewind_66 : decode cX5_rewind 66 = .ok (.bipush 48, 2) := by decide +kernel
theorem dX5_rewind_68 : decode cX5_rewind 68 = .ok (.isub, 1) := by decide +kernel
theorem dX5_rewind_69 : decode cX5_rewind 69 = .ok (.invokevirtual 34, 3) := by decide +kernel
theorem dX5_rewind_72 : decode cX5_rewind 72 = .ok (.goto 36, 3) := by decide +kernel
theorem dX5_rewind_75 : decode cX5_rewind 75 = .ok (.iload 4, 2) := by decide +kernel
theorem dX5_rewind_77 : decode cX5_rewind 77 = .ok (.ifCond .eq 18, 3) := by decide +kernel
theorem dX5_rewind_80 : decode cX5_rewind 80 = .ok (.aload_n 0, 1) := by decide +kernel
theorem dX5_rewind_81 : decode cX5_rewind 81 = .ok (.sipush 256, 3) := by decide +kernel
theorem dX5_rewind_84 : decode cX5_rewind 84 = .ok (.iload_n 2, 1) := by decide +kernel
theorem dX5_rewind_85 : decode cX5_rewind 85 = .ok (.iload_n 3, 1) := by decide +kernel
theorem dX5_rewind_86 : decode cX5_rewind 86 = .ok (.bipush 48, 2) := by decide +kernel
theorem dX5_rewind_88 : decode cX5_rewind 88 = .ok (.isub, 1) := by decide +kernel
theorem dX5_rewind_89 : decode cX5_rewind 89 = .ok (.invokevirtual 38, 3) := by decide +kernel
theorem dX5_rewind_92 : decode cX5_rewind 92 = .ok (.goto 16, 3) := by decide +kernel
theorem dX5_rewind_95 : decode cX5_rewind 95 = .ok (.iload_n 3, 1) := by decide +kernel
theorem dX5_rewind_96 : decode cX5_rewind 96 = .ok (.bipush 32, 2) := by decide +kernel
theorem dX5_rewind_98 : decode cX5_rewind 98 = .ok (.if_icmp .eq 10, 3) := by decide +kernel
theorem dX5_rewind_101 : decode cX5_rewind 101 = .ok (.aload_n 0, 1) := by decide +kernel
theorem dX5_rewind_102 : decode cX5_rewind 102 = .ok (.iload_n 3, 1) := by decide +kernel
theorem dX5_rewind_103 : decode cX5_rewind 103 = .ok (.iload_n 2, 1) := by decide +kernel
theorem dX5_rewind_104 : decode cX5_rewind 104 = .ok (.iconst 0, 1) := by decide +kernel
theorem dX5_rewind_105 : decode cX5_rewind 105 = .ok (.invokevirtual 38, 3) := by decide +kernel
theorem dX5_rewind_108 : decode cX5_rewind 108 = .ok (.iload 4, 2) := by decide +kernel
theorem dX5_rewind_110 : decode cX5_rewind 110 = .ok (.istore_n 1, 1) := by decide +kernel
theorem dX5_rewind_111 : decode cX5_rewind 111 = .ok (.iinc 2 1, 3) := by decide +kernel
theorem dX5_rewind_114 : decode cX5_rewind 114 = .ok (.goto (-100), 3) := by decide +kernel
theorem dX5_rewind_117 : decode cX5_rewind 117 = .ok (.return_, 1) := by decide +kernel
theorem dX5_advance_0 : decode cX5_advance 0 = .ok (.aload_n 0, 1) := by decide +kernel
theorem dX5_advance_1 : decode cX5_advance 1 = .ok (.getfield 28, 3) := by decide +kernel
theorem dX5_advance_4 : decode cX5_advance 4 = .ok (.ifCond .lt 24, 3) := by decide +kernel
theorem dX5_advance_7 : decode cX5_advance 7 = .ok (.aload_n 0, 1) := by decide +kernel
theorem dX5_advance_8 : decode cX5_advance 8 = .ok (.getfield 28, 3) := by decide +kernel
theorem dX5_advance_11 : decode cX5_advance 11 = .ok (.aload_n 0, 1) := by decide +kernel
theorem dX5_advance_12 : decode cX5_advance 12 = .ok (.getfield 31, 3) := by decide +kernel
theorem dX5_advance_15 : decode cX5_advance 15 = .ok (.if_icmp .ge 13, 3) := by decide +kernel
theorem dX5_advance_18 : decode cX5_advance 18 = .ok (.aload_n 0, 1) := by decide +kernel
theorem dX5_advance_19 : decode cX5_advance 19 = .ok (.getfield 28, 3) := by decide +kernel
theorem dX5_advance_22 : decode cX5_advance 22 = .ok (.sipush 160, 3) := by decide +kernel
theorem dX5_advance_25 : decode cX5_advance 25 = .ok (.if_icmp .lt 19, 3) := by decide +kernel
theorem dX5_advance_28 : decode cX5_advance 28 = .ok (.aload_n 0, 1) := by decide +kernel
theorem dX5_advance_29 : decode cX5_advance 29 = .ok (.sipush 257, 3) := by decide +kernel
theorem dX5_advance_32 : decode cX5_advance 32 = .ok (.putfield 42, 3) := by decide +kernel
theorem dX5_advance_35 : decode cX5_advance 35 = .ok (.aload_n 0, 1) := by decide +kernel
theorem dX5_advance_36 : decode cX5_advance 36 = .ok (.aload_n 0, 1) := by decide +kernel
theorem dX5_advance_37 : decode cX5_advance 37 = .ok (.getfield 24, 3) := by decide +kernel
theorem dX5_advance_40 : decode cX5_advance 40 = .ok (.putfield 45, 3) := by decide +kernel
theorem dX5_advance_43 : decode cX5_advance 43 = .ok (.return_, 1) := by decide +kernel
theorem dX5_advance_44 : decode cX5_advance 44 = .ok (.aload_n 0, 1) := by decide +kernel
theorem dX5_advance_45 : decode cX5_advance 45 = .ok (.aload_n 0, 1) := by decide +kernel
theorem dX5_advance_46 : decode cX5_advance 46 = .ok (.getfield 15, 3) := by decide +kernel
theorem dX5_advance_49 : decode cX5_advance 49 = .ok (.aload_n 0, 1) := by decide +kernel
theorem dX5_advance_50 : decode cX5_advance 50 = .ok (.getfield 28, 3) := by decide +kernel
theorem dX5_advance_53 : decode cX5_advance 53 = .ok (.iaload, 1) := by decide +kernel
theorem dX5_advance_54 : decode cX5_advance 54 = .ok (.putfield 42, 3) := by decide +kernel
theorem dX5_advance_57 : decode cX5_advance 57 = .ok (.aload_n 0, 1) := by decide +kernel
theorem dX5_advance_58 : decode cX5_advance 58 = .ok (.aload_n 0, 1) := by decide +kernel
theorem dX5_advance_59 : decode cX5_advance 59 = .ok (.getfield 18, 3) := by decide +kernel
theorem dX5_advance_62 : decode cX5_advance 62 = .ok (.aload_n 0, 1) := by decide +kernel
theorem dX5_advance_63 : decode cX5_advance 63 = .ok (.getfield 28, 3) := by decide +kernel
theorem dX5_advance_66 : decode cX5_advance 66 = .ok (.iaload, 1) := by decide +kernel
theorem dX5_advance_67 : decode cX5_advance 67 = .ok (.putfield 45, 3) := by decide +kernel
theorem dX5_advance_70 : decode cX5_advance 70 = .ok (.aload_n 0, 1) := by decide +kernel
theorem dX5_advance_71 : decode cX5_advance 71 = .ok (.aload_n 0, 1) := by decide +kernel
theorem dX5_advance_72 : decode cX5_advance 72 = .ok (.getfield 21, 3) := by decide +kernel
theorem dX5_advance_75 : decode cX5_advance 75 = .ok (.aload_n 0, 1) := by decide +kernel
theorem dX5_advance_76 : decode cX5_advance 76 = .ok (.getfield 28, 3) := by decide +kernel
theorem dX5_advance_79 : decode cX5_advance 79 = .ok (.iaload, 1) := by decide +kernel
theorem dX5_advance_80 : decode cX5_advance 80 = .ok (.putfield 48, 3) := by decide +kernel
theorem dX5_advance_83 : decode cX5_advance 83 = .ok (.aload_n 0, 1) := by decide +kernel
theorem dX5_advance_84 : decode cX5_advance 84 = .ok (.dup, 1) := by decide +kernel
theorem dX5_advance_85 : decode cX5_advance 85 = .ok (.getfield 28, 3) := by decide +kernel
theorem dX5_advance_88 : decode cX5_advance 88 = .ok (.iconst 1, 1) := by decide +kernel
theorem dX5_advance_89 : decode cX5_advance 89 = .ok (.iadd, 1) := by decide +kernel
theorem dX5_advance_90 : decode cX5_advance 90 = .ok (.putfield 28, 3) := by decide +kernel
theorem dX5_advance_93 : decode cX5_advance 93 = .ok (.return_, 1) := by decide +kernel
set_option maxRecDepth 20000 in
theorem ggX5_takes_X5_advance : GoodIn wsX5_takes wsX5_advance := goodIn_r _ [6, 7, 8, 1, 9, 10, 11, 12, 13, 14, 15, 16, 17, 18, 19, 20, 21, 22, 23, 24] (by decide +kernel) (by decide +kernel)
set_option maxRecDepth 20000 in
theorem gX5_takes_X5_advance : GoodIn wsX5_takes (wsV RX5 51 RX5 yX5_advance wsX5_advance) := goodIn_app (goodIn_of _ (by decide +kernel)) ggX5_takes_X5_advance
theorem dX5_takes_0 : decode cX5_takes 0 = .ok (.aload_n 0, 1) := by decide +kernel
theorem dX5_takes_1 : decode cX5_takes 1 = .ok (.invokevirtual 51, 3) := by decide +kernel
theorem dX5_takes_4 : decode cX5_takes 4 = .ok (.aload_n 0, 1) := by decide +kernel
theorem dX5_takes_5 : decode cX5_takes 5 = .ok (.getfield 42, 3) := by decide +kernel
theorem dX5_takes_8 : decode cX5_takes 8 = .ok (.iload_n 1, 1) := by decide +kernel
theorem dX5_takes_9 : decode cX5_takes 9 = .ok (.if_icmp .ne 7, 3) := by decide +kernel
theorem dX5_takes_12 : decode cX5_takes 12 = .ok (.iconst 1, 1) := by decide +kernel
theorem dX5_takes_13 : decode cX5_takes 13 = .ok (.goto 4, 3) := by decide +kernel
theorem dX5_takes_16 : decode cX5_takes 16 = .ok (.iconst 0, 1) := by decide +kernel
theorem dX5_takes_17 : decode cX5_takes 17 = .ok (.ireturn, 1) := by decide +kernel
set_option maxRecDepth 20000 in
theorem ggX5_takesNumber_X5_advance : GoodIn wsX5_takesNumber wsX5_advance := goodIn_r _ [5, 6, 7, 8, 9, 10, 11, 12, 13, 14, 19, 20, 21, 22, 23, 24, 25, 26, 27, 28] (by decide +kernel) (by decide +kernel)
set_option maxRecDepth 20000 in
theorem gX5_takesNumber_X5_advance : GoodIn wsX5_takesNumber (wsV RX5 51 RX5 yX5_advance wsX5_advance) := goodIn_app (goodIn_of _ (by decide +kernel)) ggX5_takesNumber_X5_advance
set_option maxRecDepth 20000 in
theorem ggX5_takesNumber_X5_isNumber : GoodIn wsX5_takesNumber wsX5_isNumber := goodIn_r _ [18, 8, 14, 19, 20, 21, 22, 23, 24, 25, 26, 27, 28] (by decide +kernel) (by decide +kernel)
set_option maxRecDepth 20000 in
theorem gX5_takesNumber_X5_isNumber : GoodIn wsX5_takesNumber (wsV RX5 54 RX5 yX5_isNumber wsX5_isNumber) := goodIn_app (goodIn_of _ (by decide +kernel)) ggX5_takesNumber_X5_isNumber
theorem dX5_takesNumber_0 : decode cX5_takesNumber 0 = .ok (.aload_n 0, 1) := by decide +kernel
theorem dX5_takesNumber_1 : decode cX5_takesNumber 1 = .ok (.invokevirtual 51, 3) := by decide +kernel
theorem dX5_takesNumber_4 : decode cX5_takesNumber 4 = .ok (.aload_n 0, 1) := by decide +kernel
theorem dX5_takesNumber_5 : decode cX5_takesNumber 5 = .ok (.iload_n 1, 1) := by decide +kernel
theorem dX5_takesNumber_6 : decode cX5_takesNumber 6 = .ok (.iload_n 2, 1) := by decide +kernel
theorem dX5_takesNumber_7 : decode cX5_takesNumber 7 = .ok (.invokevirtual 54, 3) := by decide +kernel
theorem dX5_takesNumber_10 : decode cX5_takesNumber 10 = .ok (.ireturn, 1) := by decide +kernel
theorem dX5_isNumber_0 : decode cX5_isNumber 0 = .ok (.aload_n 0, 1) := by decide +kernel
theorem dX5_isNumber_1 : decode cX5_isNumber 1 = .ok (.getfield 42, 3) := by decide +kernel
theorem dX5_isNumber_4 : decode cX5_isNumber 4 = .ok (.sipush 256, 3) := by decide +kernel
theorem dX5_isNumber_7 : decode cX5_isNumber 7 = .ok (.if_icmp .ne 23, 3) := by decide +kernel
theorem dX5_isNumber_10 : decode cX5_isNumber 10 = .ok (.aload_n 0, 1) := by decide +kernel
theorem dX5_isNumber_11 : decode cX5_isNumber 11 = .ok (.getfield 48, 3) := by decide +kernel
theorem dX5_isNumber_14 : decode cX5_isNumber 14 = .ok (.iload_n 1, 1) := by decide +kernel
theorem dX5_isNumber_15 : decode cX5_isNumber 15 = .ok (.if_icmp .lt 15, 3) := by decide +kernel
theorem dX5_isNumber_18 : decode cX5_isNumber 18 = .ok (.aload_n 0, 1) := by decide +kernel
theorem dX5_isNumber_19 : decode cX5_isNumber 19 = .ok (.getfield 48, 3) := by decide +kernel
theorem dX5_isNumber_22 : decode cX5_isNumber 22 = .ok (.iload_n 2, 1) := by decide +kernel
theorem dX5_isNumber_23 : decode cX5_isNumber 23 = .ok (.if_icmp .gt 7, 3) := by decide +kernel
theorem dX5_isNumber_26 : decode cX5_isNumber 26 = .ok (.iconst 1, 1) := by decide +kernel
theorem dX5_isNumber_27 : decode cX5_isNumber 27 = .ok (.goto 4, 3) := by decide +kernel
theorem dX5_isNumber_30 : decode cX5_isNumber 30 = .ok (.iconst 0, 1) := by decide +kernel
theorem dX5_isNumber_31 : decode cX5_isNumber 31 = .ok (.ireturn, 1) := by decide +kernel
theorem dX5_addToken_0 : decode cX5_addToken 0 = .ok (.aload_n 0, 1) := by decide +kernel
theorem dX5_addToken_1 : decode cX5_addToken 1 = .ok (.getfield 31, 3) := by decide +kernel
theorem dX5_addToken_4 : decode cX5_addToken 4 = .ok (.ifCond .lt 13, 3) := by decide +kernel
theorem dX5_addToken_7 : decode cX5_addToken 7 = .ok (.aload_n 0, 1) := by decide +kernel
theorem dX5_addToken_8 : decode cX5_addToken 8 = .ok (.getfield 31, 3) := by decide +kernel
theorem dX5_addToken_11 : decode cX5_addToken 11 = .ok (.sipush 160, 3) := by decide +kernel
theorem dX5_addToken_14 : decode cX5_addToken 14 = .ok (.if_icmp .lt 4, 3) := by decide +kernel
theorem dX5_addToken_17 : decode cX5_addToken 17 = .ok (.return_, 1) := by decide +kernel
theorem dX5_addToken_18 : decode cX5_addToken 18 = .ok (.aload_n 0, 1) := by decide +kernel
theorem dX5_addToken_19 : decode cX5_addToken 19 = .ok (.getfield 15, 3) := by decide +kernel
theorem dX5_addToken_22 : decode cX5_addToken 22 = .ok (.aload_n 0, 1) := by decide +kernel
theorem dX5_addToken_23 : decode cX5_addToken 23 = .ok (.getfield 31, 3) := by decide +kernel
theorem dX5_addToken_26 : decode cX5_addToken 26 = .ok (.iload_n 1, 1) := by decide +kernel
theorem dX5_addToken_27 : decode cX5_addToken 27 = .ok (.iastore, 1) := by decide +kernel
theorem dX5_addToken_28 : decode cX5_addToken 28 = .ok (.aload_n 0, 1) := by decide +kernel
theorem dX5_addToken_29 : decode cX5_addToken 29 = .ok (.getfield 18, 3) := by decide +kernel
theorem dX5_addToken_32 : decode cX5_addToken 32 = .ok (.aload_n 0, 1) := by decide +kernel
theorem dX5_addToken_33 : decode cX5_addToken 33 = .ok (.getfield 31, 3) := by decide +kernel
theorem dX5_addToken_36 : decode cX5_addToken 36 = .ok (.iload_n 2, 1) := by decide +kernel
theorem dX5_addToken_37 : decode cX5_addToken 37 = .ok (.iastore, 1) := by decide +kernel
theorem dX5_addToken_38 : decode cX5_addToken 38 = .ok (.aload_n 0, 1) := by decide +kernel
theorem dX5_addToken_39 : decode cX5_addToken 39 = .ok (.getfield 21, 3) := by decide +kernel
theorem dX5_addToken_42 : decode cX5_addToken 42 = .ok (.aload_n 0, 1) := by decide +kernel
theorem dX5_addToken_43 : decode cX5_addToken 43 = .ok (.getfield 31, 3) := by decide +kernel
theorem dX5_addToken_46 : decode cX5_addToken 46 = .ok (.iload_n 3, 1) := by decide +kernel
theorem dX5_addToken_47 : decode cX5_addToken 47 = .ok (.iastore, 1) := by decide +kernel
theorem dX5_addToken_48 : decode cX5_addToken 48 = .ok (.aload_n 0, 1) := by decide +kernel
theorem dX5_addToken_49 : decode cX5_addToken 49 = .ok (.dup, 1) := by decide +kernel
theorem dX5_addToken_50 : decode cX5_addToken 50 = .ok (.getfield 31, 3) := by decide +kernel
theorem dX5_addToken_53 : decode cX5_addToken 53 = .ok (.iconst 1, 1) := by decide +kernel
theorem dX5_addToken_54 : decode cX5_addToken 54 = .ok (.iadd, 1) := by decide +kernel
theorem dX5_addToken_55 : decode cX5_addToken 55 = .ok (.putfield 31, 3) := by decide +kernel
theorem dX5_addToken_58 : decode cX5_addToken 58 = .ok (.return_, 1) := by decide +kernel
theorem dX5_addFigure_0 : decode cX5_addFigure 0 = .ok (.aload_n 0, 1) := by decide +kernel
theorem dX5_addFigure_1 : decode cX5_addFigure 1 = .ok (.getfield 31, 3) := by decide +kernel
theorem dX5_addFigure_4 : decode cX5_addFigure 4 = .ok (.iconst 1, 1) := by decide +kernel
theorem dX5_addFigure_5 : decode cX5_addFigure 5 = .ok (.isub, 1) := by decide +kernel
theorem dX5_addFigure_6 : decode cX5_addFigure 6 = .ok (.istore_n 2, 1) := by decide +kernel
theorem dX5_addFigure_7 : decode cX5_addFigure 7 = .ok (.iload_n 2, 1) := by decide +kernel
theorem dX5_addFigure_8 : decode cX5_addFigure 8 = .ok (.ifCond .lt 10, 3) := by decide +kernel
theorem dX5_addFigure_11 : decode cX5_addFigure 11 = .ok (.iload_n 2, 1) := by decide +kernel
theorem dX5_addFigure_12 : decode cX5_addFigure 12 = .ok (.sipush 160, 3) := by decide +kernel
theorem dX5_addFigure_15 : decode cX5_addFigure 15 = .ok (.if_icmp .lt 4, 3) := by decide +kernel
theorem dX5_addFigure_18 : decode cX5_addFigure 18 = .ok (.return_, 1) := by decide +kernel
theorem dX5_addFigure_19 : decode cX5_addFigure 19 = .ok (.aload_n 0, 1) := by decide +kernel
theorem dX5_addFigure_20 : decode cX5_addFigure 20 = .ok (.getfield 21, 3) := by decide +kernel
theorem dX5_addFigure_23 : decode cX5_addFigure 23 = .ok (.iload_n 2, 1) := by decide +kernel
theorem dX5_addFigure_24 : decode cX5_addFigure 24 = .ok (.iaload, 1) := by decide +kernel
theorem dX5_addFigure_25 : decode cX5_addFigure 25 = .ok (.istore_n 3, 1) := by decide +kernel
theorem dX5_addFigure_26 : decode cX5_addFigure 26 = .ok (.aload_n 0, 1) := by decide +kernel
theorem dX5_addFigure_27 : decode cX5_addFigure 27 = .ok (.getfield 21, 3) := by decide +kernel
theorem dX5_addFigure_30 : decode cX5_addFigure 30 = .ok (.iload_n 2, 1) := by decide +kernel
theorem dX5_addFigure_31 : decode cX5_addFigure 31 = .ok (.iload_n 3, 1) := by decide +kernel
theorem dX5_addFigure_32 : decode cX5_addFigure 32 = .ok (.ifCond .ne 8, 3) := by decide +kernel
theorem dX5_addFigure_35 : decode cX5_addFigure 35 = .ok (.bipush 100, 2) := by decide +kernel
theorem dX5_addFigure_37 : decode cX5_addFigure 37 = .ok (.goto 14, 3) := by decide +kernel
theorem dX5_addFigure_40 : decode cX5_addFigure 40 = .ok (.bipush 100, 2) := by decide +kernel
theorem dX5_addFigure_42 : decode cX5_addFigure 42 = .ok (.bipush 10, 2) := by decide +kernel
theorem dX5_addFigure_44 : decode cX5_addFigure 44 = .ok (.iload_n 3, 1) := by decide +kernel
theorem dX5_addFigure_45 : decode cX5_addFigure 45 = .ok (.imul, 1) := by decide +kernel
theorem dX5_addFigure_46 : decode cX5_addFigure 46 = .ok (.iload_n 1, 1) := by decide +kernel
theorem dX5_addFigure_47 : decode cX5_addFigure 47 = .ok (.iadd, 1) := by decide +kernel
theorem dX5_addFigure_48 : decode cX5_addFigure 48 = .ok (.invokestatic 58, 3) := by decide +kernel
theorem dX5_addFigure_51 : decode cX5_addFigure 51 = .ok (.iastore, 1) := by decide +kernel
theorem dX5_addFigure_52 : decode cX5_addFigure 52 = .ok (.return_, 1) := by decide +kernel
theorem dX6_init_0 : decode cX6_init 0 = .ok (.aload_n 0, 1) := by decide +kernel
theorem dX6_init_1 : decode cX6_init 1 = .ok (.invokespecial 3, 3) := by decide +kernel
theorem dX6_init_4 : decode cX6_init 4 = .ok (.aload_n 0, 1) := by decide +kernel
theorem dX6_init_5 : decode cX6_init 5 = .ok (.bipush 56, 2) := by decide +kernel
theorem dX6_init_7 : decode cX6_init 7 = .ok (.newarray .int, 2) := by decide +kernel
theorem dX6_init_9 : decode cX6_init 9 = .ok (.putfield 11, 3) := by decide +kernel
theorem dX6_init_12 : decode cX6_init 12 = .ok (.aload_n 0, 1) := by decide +kernel
theorem dX6_init_13 : decode cX6_init 13 = .ok (.bipush 7, 2) := by decide +kernel
theorem dX6_init_15 : decode cX6_init 15 = .ok (.newarray .int, 2) := by decide +kernel
theorem dX6_init_17 : decode cX6_init 17 = .ok (.putfield 15, 3) := by decide +kernel
theorem dX6_init_20 : decode cX6_init 20 = .ok (.return_, 1) := by decide +kernel
theorem dX6_takeFrom_0 : decode cX6_takeFrom 0 = .ok (.aload_n 1, 1) := by decide +kernel
theorem dX6_takeFrom_1 : decode cX6_takeFrom 1 = .ok (.getfield 11, 3) := by decide +kernel
theorem dX6_takeFrom_4 : decode cX6_takeFrom 4 = .ok (.iconst 0, 1) := by decide +kernel
theorem dX6_takeFrom_5 : decode cX6_takeFrom 5 = .ok (.aload_n 0, 1) := by decide +kernel
theorem dX6_takeFrom_6 : decode cX6_takeFrom 6 = .ok (.getfield 11, 3) := by decide +kernel
theorem dX6_takeFrom_9 : decode cX6_takeFrom 9 = .ok (.iconst 0, 1) := by decide +kernel
theorem dX6_takeFrom_10 : decode cX6_takeFrom 10 = .ok (.aload_n 0, 1) := by decide +kernel
theorem dX6_takeFrom_11 : decode cX6_takeFrom 11 = .ok (.getfield 11, 3) := by decide +kernel
theorem dX6_takeFrom_14 : decode cX6_takeFrom 14 = .ok (.arraylength, 1) := by decide +kernel
theorem dX6_takeFrom_15 : decode cX6_takeFrom 15 = .ok (.invokestatic 18, 3) := by decide +kernel
theorem dX6_takeFrom_18 : decode cX6_takeFrom 18 = .ok (.aload_n 0, 1) := by decide +kernel
theorem dX6_takeFrom_19 : decode cX6_takeFrom 19 = .ok (.aload_n 1, 1) := by decide +kernel
theorem dX6_takeFrom_20 : decode cX6_takeFrom 20 = .ok (.getfield 24, 3) := by decide +kernel
theorem dX6_takeFrom_23 : decode cX6_takeFrom 23 = .ok (.putfield 24, 3) := by decide +kernel
theorem dX6_takeFrom_26 : decode cX6_takeFrom 26 = .ok (.return_, 1) := by decide +kernel
set_option maxRecDepth 20000 in
theorem ggX6_readFrom_X5_rewind : GoodIn wsX6_readFrom wsX5_rewind := goodIn_r _ [7, 8, 9, 10, 11, 12, 13, 14, 6, 15, 16, 17, 18, 19, 20, 21, 22, 23, 24, 25, 26, 103, 104, 105, 106, 107, 108, 109, 110, 111, 112] (by decide +kernel) (by decide +kernel)
set_option maxRecDepth 20000 in
theorem gX6_readFrom_X5_rewind : GoodIn wsX6_readFrom (wsV RX6 28 RX5 yX5_rewind wsX5_rewind) := goodIn_app (goodIn_of _ (by decide +kernel)) ggX6_readFrom_X5_rewind
set_option maxRecDepth 20000 in
theorem ggX6_readFrom_X5_takes : GoodIn wsX6_readFrom wsX5_takes := goodIn_r _ [30, 31, 32, 33, 34, 6, 35, 8, 9, 10, 36, 25, 26, 16, 37, 103, 104, 105, 106, 107, 108, 109, 110, 111, 112] (by decide +kernel) (by decide +kernel)
set_option maxRecDepth 20000 in
theorem gX6_readFrom_X5_takes : GoodIn wsX6_readFrom (wsV RX6 33 RX5 yX5_takes wsX5_takes) := goodIn_app (goodIn_of _ (by decide +kernel)) ggX6_readFrom_X5_takes
set_option maxRecDepth 20000 in
theorem ggX6_readFrom_X6_readBranch : GoodIn wsX6_readFrom wsX6_readBranch := goodIn_r _ [42, 43, 44, 45, 46, 47, 48, 49, 50, 51, 41, 52, 53, 54, 55, 56, 6, 57, 32, 33, 34, 35, 8, 9, 31, 10, 36, 25, 26, 16, 37, 58, 59, 60, 61, 62, 63, 64, 65, 66, 67, 68, 1, 69, 70, 71, 72, 73, 74, 75, 76, 77, 78, 79, 80, 81, 82, 83, 27, 28, 29, 30, 84, 85, 86, 87, 88, 89, 90, 91, 100, 101, 102, 103, 104, 105, 106, 107, 108, 109, 110, 111, 112] (by decide +kernel) (by decide +kernel)
set_option maxRecDepth 20000 in
theorem gX6_readFrom_X6_readBranch : GoodIn wsX6_readFrom (wsV RX6 37 RX6 yX6_readBranch wsX6_readBranch) := goodIn_app (goodIn_of _ (by decide +kernel)) ggX6_readFrom_X6_readBranch
set_option maxRecDepth 20000 in
theorem ggX6_readFrom_X6_insertFresh : GoodIn wsX6_readFrom wsX6_insertFresh := goodIn_r _ [95, 1, 43, 75, 96, 97, 98, 99, 71, 72, 73, 41, 74, 100, 101, 102] (by decide +kernel) (by decide +kernel)
set_option maxRecDepth 20000 in
theorem gX6_readFrom_X6_insertFresh : GoodIn wsX6_readFrom (wsV RX6 44 RX6 yX6_insertFresh wsX6_insertFresh) := goodIn_app (goodIn_of _ (by decide +kernel)) ggX6_readFrom_X6_insertFresh
theorem dX6_readFrom_0 : decode cX6_readFrom 0 = .ok (.aload_n 0, 1) := by decide +kernel
theorem dX6_readFrom_1 : decode cX6_readFrom 1 = .ok (.iconst 0, 1) := by decide +kernel
theorem dX6_readFrom_2 : decode cX6_readFrom 2 = .ok (.putfield 24, 3) := by decide +kernel
theorem dX6_readFrom_5 : decode cX6_readFrom 5 = .ok (.aload_n 1, 1) := by decide +kernel
theorem dX6_readFrom_6 : decode cX6_readFrom 6 = .ok (.invokevirtual 28, 3) := by decide +kernel
theorem dX6_readFrom_9 : decode cX6_readFrom 9 = .ok (.iconst 0, 1) := by decide +kernel
theorem dX6_readFrom_10 : decode cX6_readFrom 10 = .ok (.istore_n 2, 1) := by decide +kernel
theorem dX6_readFrom_11 : decode cX6_readFrom 11 = .ok (.iload_n 2, 1) := by decide +kernel
theorem dX6_readFrom_12 : decode cX6_readFrom 12 = .ok (.bipush 8, 2) := by decide +kernel
theorem dX6_readFrom_14 : decode cX6_readFrom 14 = .ok (.if_icmp .ge 38, 3) := by decide +kernel
theorem dX6_readFrom_17 : decode cX6_readFrom 17 = .ok (.aload_n 1, 1) := by decide +kernel
theorem dX6_readFrom_18 : decode cX6_readFrom 18 = .ok (.sipush 257, 3) := by decide +kernel
theorem dX6_readFrom_21 : decode cX6_readFrom 21 = .ok (.invokevirtual 33, 3) := by decide +kernel
theorem dX6_readFrom_24 : decode cX6_readFrom 24 = .ok (.ifCond .eq 5, 3) := by decide +kernel
theorem dX6_readFrom_27 : decode cX6_readFrom 27 = .ok (.iconst (-1), 1) := by decide +kernel
theorem dX6_readFrom_28 : decode cX6_readFrom 28 = .ok (.ireturn, 1) := by decide +kernel
theorem dX6_readFrom_29 : decode cX6_readFrom 29 = .ok (.aload_n 0, 1) := by decide +kernel
theorem dX6_readFrom_30 : decode cX6_readFrom 30 = .ok (.aload_n 1, 1) := by decide +kernel
theorem dX6_readFrom_31 : decode cX6_readFrom 31 = .ok (.invokevirtual 37, 3) := by decide +kernel
theorem dX6_readFrom_34 : decode cX6_readFrom 34 = .ok (.ifCond .ne 8, 3) := by decide +kernel
theorem dX6_readFrom_37 : decode cX6_readFrom 37 = .ok (.aload_n 1, 1) := by decide +kernel
theorem dX6_readFrom_38 : decode cX6_readFrom 38 = .ok (.getfield 41, 3) := by decide +kernel
theorem dX6_readFrom_41 : decode cX6_readFrom 41 = .ok (.ireturn, 1) := by decide +kernel
theorem dX6_readFrom_42 : decode cX6_readFrom 42 = .ok (.aload_n 0, 1) := by decide +kernel
theorem dX6_readFrom_43 : decode cX6_readFrom 43 = .ok (.invokevirtual 44, 3) := by decide +kernel
theorem dX6_readFrom_46 : decode cX6_readFrom 46 = .ok (.iinc 2 1, 3) := by decide +kernel
theorem dX6_readFrom_49 : decode cX6_readFrom 49 = .ok (.goto (-38), 3) := by decide +kernel
theorem dX6_readFrom_52 : decode cX6_readFrom 52 = .ok (.aload_n 1, 1) := by decide +kernel
theorem dX6_readFrom_53 : decode cX6_readFrom 53 = .ok (.sipush 257, 3) := by decide +kernel
theorem dX6_readFrom_56 : decode cX6_readFrom 56 = .ok (.invokevirtual 33, 3) := by decide +kernel
theorem dX6_readFrom_59 : decode cX6_readFrom 59 = .ok (.ifCond .eq 7, 3) := by decide +kernel
theorem dX6_readFrom_62 : decode cX6_readFrom 62 = .ok (.iconst (-1), 1) := by decide +kernel
theorem dX6_readFrom_63 : decode cX6_readFrom 63 = .ok (.goto 7, 3) := by decide +kernel
theorem dX6_readFrom_66 : decode cX6_readFrom 66 = .ok (.aload_n 1, 1) := by decide +kernel
theorem dX6_readFrom_67 : decode cX6_readFrom 67 = .ok (.getfield 41, 3) := by decide +kernel
theorem dX6_readFrom_70 : decode cX6_readFrom 70 = .ok (.ireturn, 1) := by decide +kernel
theorem dX6_field_0 : decode cX6_field 0 = .ok (.iload_n 1, 1) := by decide +kernel
theorem dX6_field_1 : decode cX6_field 1 = .ok (.ifCond .lt 23, 3) := by decide +kernel
theorem dX6_field_4 : decode cX6_field 4 = .ok (.iload_n 1, 1) := by decide +kernel
theorem dX6_field_5 : decode cX6_field 5 = .ok (.bipush 8, 2) := by decide +kernel
theorem dX6_field_7 : decode cX6_field 7 = .ok (.if_icmp .ge 17, 3) := by decide +kernel
theorem dX6_field_10 : decode cX6_field 10 = .ok (.iload_n 2, 1) := by decide +kernel
theorem dX6_field_11 : decode cX6_field 11 = .ok (.ifCond .lt 13, 3) := by decide +kernel
theorem dX6_field_14 : decode cX6_field 14 = .ok (.iload_n 2, 1) := by decide +kernel
theorem dX6_field_15 : decode cX6_field 15 = .ok (.bipush 7, 2) := by decide +kernel
theorem dX6_field_17 : decode cX6_field 17 = .ok (.if_icmp .ge 7, 3) := by decide +kernel
theorem dX6_field_20 : decode cX6_field 20 = .ok (.iconst 1, 1) := by decide +kernel
theorem dX6_field_21 : decode cX6_field 21 = .ok (.goto 4, 3) := by decide +kernel
theorem dX6_field_24 : decode cX6_field 24 = .ok (.iconst 0, 1) := by decide +kernel
theorem dX6_field_25 : decode cX6_field 25 = .ok (.istore_n 3, 1) := by decide +kernel
theorem dX6_field_26 : decode cX6_field 26 = .ok (.iload_n 3, 1) := by decide +kernel
theorem dX6_field_27 : decode cX6_field 27 = .ok (.ifCond .eq 17, 3) := by decide +kernel
theorem dX6_field_30 : decode cX6_field 30 = .ok (.aload_n 0, 1) := by decide +kernel
theorem dX6_field_31 : decode cX6_field 31 = .ok (.getfield 11, 3) := by decide +kernel
theorem dX6_field_34 : decode cX6_field 34 = .ok (.iload_n 1, 1) := by decide +kernel
theorem dX6_field_35 : decode cX6_field 35 = .ok (.bipush 7, 2) := by decide +kernel
theorem dX6_field_37 : decode cX6_field 37 = .ok (.imul, 1) := by decide +kernel
theorem dX6_field_38 : decode cX6_field 38 = .ok (.iload_n 2, 1) := by decide +kernel
theorem dX6_field_39 : decode cX6_field 39 = .ok (.iadd, 1) := by decide +kernel
theorem dX6_field_40 : decode cX6_field 40 = .ok (.iaload, 1) := by decide +kernel
theorem dX6_field_41 : decode cX6_field 41 = .ok (.goto 4, 3) := by decide +kernel
theorem dX6_field_44 : decode cX6_field 44 = .ok (.iconst 0, 1) := by decide +kernel
theorem dX6_field_45 : decode cX6_field 45 = .ok (.ireturn, 1) := by decide +kernel
set_option maxRecDepth 20000 in
theorem ggX6_branchOf_X8_numberOf : GoodIn wsX6_branchOf wsX8_numberOf := goodIn_r _ [4] (by decide +kernel) (by decide +kernel)
set_option maxRecDepth 20000 in
theorem gX6_branchOf_X8_numberOf_n47 : GoodIn wsX6_branchOf (wsX8_numberOf) := ggX6_branchOf_X8_numberOf
set_option maxRecDepth 20000 in
theorem ggX6_branchOf_X8_nameOf : GoodIn wsX6_branchOf wsX8_nameOf := goodIn_r _ [6] (by decide +kernel) (by decide +kernel)
set_option maxRecDepth 20000 in
theorem gX6_branchOf_X8_nameOf_n51 : GoodIn wsX6_branchOf (wsX8_nameOf) := ggX6_branchOf_X8_nameOf
set_option maxRecDepth 20000 in
theorem ggX6_branchOf_X6_field : GoodIn wsX6_branchOf wsX6_field := goodIn_r _ [11, 12, 13, 14, 15] (by decide +kernel) (by decide +kernel)
set_option maxRecDepth 20000 in
theorem gX6_branchOf_X6_field : GoodIn wsX6_branchOf (wsV RX6 55 RX6 yX6_field wsX6_field) := goodIn_app (goodIn_of _ (by decide +kernel)) ggX6_branchOf_X6_field
theorem dX6_branchOf_0 : decode cX6_branchOf 0 = .ok (.iload_n 1, 1) := by decide +kernel
theorem dX6_branchOf_1 : decode cX6_branchOf 1 = .ok (.iconst 0, 1) := by decide +kernel
theorem dX6_branchOf_2 : decode cX6_branchOf 2 = .ok (.invokestatic 47, 3) := by decide +kernel
theorem dX6_branchOf_5 : decode cX6_branchOf 5 = .ok (.iload_n 1, 1) := by decide +kernel
theorem dX6_branchOf_6 : decode cX6_branchOf 6 = .ok (.iconst 1, 1) := by decide +kernel
theorem dX6_branchOf_7 : decode cX6_branchOf 7 = .ok (.invokestatic 47, 3) := by decide +kernel
theorem dX6_branchOf_10 : decode cX6_branchOf 10 = .ok (.iconst (-1), 1) := by decide +kernel
theorem dX6_branchOf_11 : decode cX6_branchOf 11 = .ok (.iconst (-1), 1) := by decide +kernel
theorem dX6_branchOf_12 : decode cX6_branchOf 12 = .ok (.invokestatic 51, 3) := by decide +kernel
theorem dX6_branchOf_15 : decode cX6_branchOf 15 = .ok (.istore_n 2, 1) := by decide +kernel
theorem dX6_branchOf_16 : decode cX6_branchOf 16 = .ok (.iconst 0, 1) := by decide +kernel
theorem dX6_branchOf_17 : decode cX6_branchOf 17 = .ok (.istore_n 3, 1) := by decide +kernel
theorem dX6_branchOf_18 : decode cX6_branchOf 18 = .ok (.iload_n 3, 1) := by decide +kernel
theorem dX6_branchOf_19 : decode cX6_branchOf 19 = .ok (.aload_n 0, 1) := by decide +kernel
theorem dX6_branchOf_20 : decode cX6_branchOf 20 = .ok (.getfield 24, 3) := by decide +kernel
theorem dX6_branchOf_23 : decode cX6_branchOf 23 = .ok (.if_icmp .ge 21, 3) := by decide +kernel
theorem dX6_branchOf_26 : decode cX6_branchOf 26 = .ok (.aload_n 0, 1) := by decide +kernel
theorem dX6_branchOf_27 : decode cX6_branchOf 27 = .ok (.iload_n 3, 1) := by decide +kernel
theorem dX6_branchOf_28 : decode cX6_branchOf 28 = .ok (.iconst 1, 1) := by decide +kernel
theorem dX6_branchOf_29 : decode cX6_branchOf 29 = .ok (.invokevirtual 55, 3) := by decide +kernel
theorem dX6_branchOf_32 : decode cX6_branchOf 32 = .ok (.iload_n 2, 1) := by decide +kernel
theorem dX6_branchOf_33 : decode cX6_branchOf 33 = .ok (.if_icmp .ne 5, 3) := by decide +kernel
theorem dX6_branchOf_36 : decode cX6_branchOf 36 = .ok (.iload_n 3, 1) := by decide +kernel
theorem dX6_branchOf_37 : decode cX6_branchOf 37 = .ok (.ireturn, 1) := by decide +kernel
theorem dX6_branchOf_38 : decode cX6_branchOf 38 = .ok (.iinc 3 1, 3) := by decide +kernel
theorem dX6_branchOf_41 : decode cX6_branchOf 41 = .ok (.goto (-23), 3) := by decide +kernel
theorem dX6_branchOf_44 : decode cX6_branchOf 44 = .ok (.bipush (-9), 2) := by decide +kernel
theorem dX6_branchOf_46 : decode cX6_branchOf 46 = .ok (.ireturn, 1) := by decide +kernel
set_option maxRecDepth 20000 in
theorem ggX6_tables_X6_tablesAhead : GoodIn wsX6_tables wsX6_tablesAhead := goodIn_r _ [6, 1, 7, 8, 9, 5, 10, 11, 12, 13, 14] (by decide +kernel) (by decide +kernel)
set_option maxRecDepth 20000 in
theorem gX6_tables_X6_tablesAhead : GoodIn wsX6_tables (wsV RX6 58 RX6 yX6_tablesAhead wsX6_tablesAhead) := goodIn_app (goodIn_of _ (by decide +kernel)) ggX6_tables_X6_tablesAhead
theorem dX6_tables_0 : decode cX6_tables 0 = .ok (.aload_n 0, 1) := by decide +kernel
theorem dX6_tables_1 : decode cX6_tables 1 = .ok (.aload_n 0, 1) := by decide +kernel
theorem dX6_tables_2 : decode cX6_tables 2 = .ok (.getfield 24, 3) := by decide +kernel
theorem dX6_tables_5 : decode cX6_tables 5 = .ok (.invokevirtual 58, 3) := by decide +kernel
theorem dX6_tables_8 : decode cX6_tables 8 = .ok (.ireturn, 1) := by decide +kernel
set_option maxRecDepth 20000 in
theorem ggX6_tablesAhead_X6_field : GoodIn wsX6_tablesAhead wsX6_field := goodIn_r _ [6, 7, 8, 9, 10] (by decide +kernel) (by decide +kernel)
set_option maxRecDepth 20000 in
theorem gX6_tablesAhead_X6_field : GoodIn wsX6_tablesAhead (wsV RX6 55 RX6 yX6_field wsX6_field) := goodIn_app (goodIn_of _ (by decide +kernel)) ggX6_tablesAhead_X6_field
theorem dX6_tablesAhead_0 : decode cX6_tablesAhead 0 = .ok (.iconst 0, 1) := by decide +kernel
theorem dX6_tablesAhead_1 : decode cX6_tablesAhead 1 = .ok (.istore_n 2, 1) := by decide +kernel
theorem dX6_tablesAhead_2 : decode cX6_tablesAhead 2 = .ok (.iconst 0, 1) := by decide +kernel
theorem dX6_tablesAhead_3 : decode cX6_tablesAhead 3 = .ok (.istore_n 3, 1) := by decide +kernel
theorem dX6_tablesAhead_4 : decode cX6_tablesAhead 4 = .ok (.iload_n 3, 1) := by decide +kernel
theorem dX6_tablesAhead_5 : decode cX6_tablesAhead 5 = .ok (.aload_n 0, 1) := by decide +kernel
theorem dX6_tablesAhead_6 : decode cX6_tablesAhead 6 = .ok (.getfield 24, 3) := by decide +kernel
theorem dX6_tablesAhead_9 : decode cX6_tablesAhead 9 = .ok (.if_icmp .ge 27, 3) := by decide +kernel
theorem dX6_tablesAhead_12 : decode cX6_tablesAhead 12 = .ok (.iload_n 3, 1) := by decide +kernel
theorem dX6_tablesAhead_13 : decode cX6_tablesAhead 13 = .ok (.iload_n 1, 1) := by decide +kernel
theorem dX6_tablesAhead_14 : decode cX6_tablesAhead 14 = .ok (.if_icmp .ge 22, 3) := by decide +kernel
theorem dX6_tablesAhead_17 : decode cX6_tablesAhead 17 = .ok (.aload_n 0, 1) := by decide +kernel
theorem dX6_tablesAhead_18 : decode cX6_tablesAhead 18 = .ok (.iload_n 3, 1) := by decide +kernel
theorem dX6_tablesAhead_19 : decode cX6_tablesAhead 19 = .ok (.iconst 0, 1) := by decide +kernel
theorem dX6_tablesAhead_20 : decode cX6_tablesAhead 20 = .ok (.invokevirtual 55, 3) := by decide +kernel
theorem dX6_tablesAhead_23 : decode cX6_tablesAhead 23 = .ok (.iconst 2, 1) := by decide +kernel
theorem dX6_tablesAhead_24 : decode cX6_tablesAhead 24 = .ok (.if_icmp .ne 6, 3) := by decide +kernel
theorem dX6_tablesAhead_27 : decode cX6_tablesAhead 27 = .ok (.iinc 2 1, 3) := by decide +kernel
theorem dX6_tablesAhead_30 : decode cX6_tablesAhead 30 = .ok (.iinc 3 1, 3) := by decide +kernel
theorem dX6_tablesAhead_33 : decode cX6_tablesAhead 33 = .ok (.goto (-29), 3) := by decide +kernel
theorem dX6_tablesAhead_36 : decode cX6_tablesAhead 36 = .ok (.iload_n 2, 1) := by decide +kernel
theorem dX6_tablesAhead_37 : decode cX6_tablesAhead 37 = .ok (.ireturn, 1) := by decide +kernel
set_option maxRecDepth 20000 in
theorem ggX6_columnsOf_X6_field : GoodIn wsX6_columnsOf wsX6_field := goodIn_r _ [6, 7, 12, 13, 14] (by decide +kernel) (by decide +kernel)
set_option maxRecDepth 20000 in
theorem gX6_columnsOf_X6_field : GoodIn wsX6_columnsOf (wsV RX6 55 RX6 yX6_field wsX6_field) := goodIn_app (goodIn_of _ (by decide +kernel)) ggX6_columnsOf_X6_field
set_option maxRecDepth 20000 in
theorem ggX6_columnsOf_X6_tablesAhead : GoodIn wsX6_columnsOf wsX6_tablesAhead := goodIn_r _ [11, 1, 2, 3, 4, 5, 6, 7, 12, 13, 14] (by decide +kernel) (by decide +kernel)
set_option maxRecDepth 20000 in
theorem gX6_columnsOf_X6_tablesAhead : GoodIn wsX6_columnsOf (wsV RX6 58 RX6 yX6_tablesAhead wsX6_tablesAhead) := goodIn_app (goodIn_of _ (by decide +kernel)) ggX6_columnsOf_X6_tablesAhead
theorem dX6_columnsOf_0 : decode cX6_columnsOf 0 = .ok (.iconst 0, 1) := by decide +kernel
theorem dX6_columnsOf_1 : decode cX6_columnsOf 1 = .ok (.istore_n 2, 1) := by decide +kernel
theorem dX6_columnsOf_2 : decode cX6_columnsOf 2 = .ok (.iload_n 2, 1) := by decide +kernel
theorem dX6_columnsOf_3 : decode cX6_columnsOf 3 = .ok (.aload_n 0, 1) := by decide +kernel
theorem dX6_columnsOf_4 : decode cX6_columnsOf 4 = .ok (.getfield 24, 3) := by decide +kernel
theorem dX6_columnsOf_7 : decode cX6_columnsOf 7 = .ok (.if_icmp .ge 35, 3) := by decide +kernel
theorem dX6_columnsOf_10 : decode cX6_columnsOf 10 = .ok (.aload_n 0, 1) := by decide +kernel
theorem dX6_columnsOf_11 : decode cX6_columnsOf 11 = .ok (.iload_n 2, 1) := by decide +kernel
theorem dX6_columnsOf_12 : decode cX6_columnsOf 12 = .ok (.iconst 0, 1) := by decide +kernel
theorem dX6_columnsOf_13 : decode cX6_columnsOf 13 = .ok (.invokevirtual 55, 3) := by decide +kernel
theorem dX6_columnsOf_16 : decode cX6_columnsOf 16 = .ok (.iconst 2, 1) := by decide +kernel
theorem dX6_columnsOf_17 : decode cX6_columnsOf 17 = .ok (.if_icmp .ne 19, 3) := by decide +kernel
theorem dX6_columnsOf_20 : decode cX6_columnsOf 20 = .ok (.aload_n 0, 1) := by decide +kernel
