theorem inJ13 : ∀ w ∈ wsJ130, w ∈ lw_tbl := by decide +kernel
theorem inJ9 : ∀ w ∈ wsJ90, w ∈ lw_tbl := by decide +kernel
theorem inJ0 : ∀ w ∈ wsJ00, w ∈ lw_tbl := by decide +kernel
theorem inJ10 : ∀ w ∈ wsJ100, w ∈ lw_tbl := by decide +kernel
set_option maxRecDepth 20000 in
theorem ggX0_init_X3_init : GoodIn wsX0_init wsX3_init := goodIn_r _ [18, 19, 2, 3, 20, 21, 27, 28] (by decide +kernel) (by decide +kernel)
set_option maxRecDepth 20000 in
theorem gX0_init_X3_init : GoodIn wsX0_init (wsX3_init) := ggX0_init_X3_init
set_option maxRecDepth 20000 in
theorem ggX0_init_X4_init : GoodIn wsX0_init wsX4_init := goodIn_r _ [23, 24, 2, 3, 20, 25, 26, 39, 40, 41] (by decide +kernel) (by decide +kernel)
set_option maxRecDepth 20000 in
theorem gX0_init_X4_init_n25 : GoodIn wsX0_init (wsX4_init) := ggX0_init_X4_init
theorem dX0_init_0 : decode cX0_init 0 = .ok (.aload_n 0, 1) := by decide +kernel
theorem dX0_init_1 : decode cX0_init 1 = .ok (.invokespecial 3, 3) := by decide +kernel
theorem dX0_init_4 : decode cX0_init 4 = .ok (.aload_n 0, 1) := by decide +kernel
theorem dX0_init_5 : decode cX0_init 5 = .ok (.new 9, 3) := by decide +kernel
theorem dX0_init_8 : decode cX0_init 8 = .ok (.dup, 1) := by decide +kernel
theorem dX0_init_9 : decode cX0_init 9 = .ok (.bipush 12, 2) := by decide +kernel
theorem dX0_init_11 : decode cX0_init 11 = .ok (.invokespecial 11, 3) := by decide +kernel
theorem dX0_init_14 : decode cX0_init 14 = .ok (.putfield 14, 3) := by decide +kernel
theorem dX0_init_17 : decode cX0_init 17 = .ok (.aload_n 0, 1) := by decide +kernel
theorem dX0_init_18 : decode cX0_init 18 = .ok (.new 9, 3) := by decide +kernel
theorem dX0_init_21 : decode cX0_init 21 = .ok (.dup, 1) := by decide +kernel
theorem dX0_init_22 : decode cX0_init 22 = .ok (.bipush 12, 2) := by decide +kernel
theorem dX0_init_24 : decode cX0_init 24 = .ok (.invokespecial 11, 3) := by decide +kernel
theorem dX0_init_27 : decode cX0_init 27 = .ok (.putfield 20, 3) := by decide +kernel
theorem dX0_init_30 : decode cX0_init 30 = .ok (.aload_n 0, 1) := by decide +kernel
theorem dX0_init_31 : decode cX0_init 31 = .ok (.new 23, 3) := by decide +kernel
theorem dX0_init_34 : decode cX0_init 34 = .ok (.dup, 1) := by decide +kernel
theorem dX0_init_35 : decode cX0_init 35 = .ok (.invokespecial 25, 3) := by decide +kernel
theorem dX0_init_38 : decode cX0_init 38 = .ok (.putfield 26, 3) := by decide +kernel
theorem dX0_init_41 : decode cX0_init 41 = .ok (.aload_n 0, 1) := by decide +kernel
theorem dX0_init_42 : decode cX0_init 42 = .ok (.iconst (-1), 1) := by decide +kernel
theorem dX0_init_43 : decode cX0_init 43 = .ok (.putfield 30, 3) := by decide +kernel
theorem dX0_init_46 : decode cX0_init 46 = .ok (.aload_n 0, 1) := by decide +kernel
theorem dX0_init_47 : decode cX0_init 47 = .ok (.iconst (-1), 1) := by decide +kernel
theorem dX0_init_48 : decode cX0_init 48 = .ok (.putfield 34, 3) := by decide +kernel
theorem dX0_init_51 : decode cX0_init 51 = .ok (.aload_n 0, 1) := by decide +kernel
theorem dX0_init_52 : decode cX0_init 52 = .ok (.iconst (-1), 1) := by decide +kernel
theorem dX0_init_53 : decode cX0_init 53 = .ok (.putfield 37, 3) := by decide +kernel
theorem dX0_init_56 : decode cX0_init 56 = .ok (.return_, 1) := by decide +kernel
set_option maxRecDepth 20000 in
theorem ggX0_isFirstWordDue_X3_first : GoodIn wsX0_isFirstWordDue wsX3_first := goodIn_r _ [9, 10, 11, 22, 23] (by decide +kernel) (by decide +kernel)
set_option maxRecDepth 20000 in
theorem gX0_isFirstWordDue_X3_first : GoodIn wsX0_isFirstWordDue (wsV RX0 43 RX3 yX3_first wsX3_first) := goodIn_app (goodIn_of _ (by decide +kernel)) ggX0_isFirstWordDue_X3_first
theorem dX0_isFirstWordDue_0 : decode cX0_isFirstWordDue 0 = .ok (.aload_n 0, 1) := by decide +kernel
theorem dX0_isFirstWordDue_1 : decode cX0_isFirstWordDue 1 = .ok (.getfield 14, 3) := by decide +kernel
theorem dX0_isFirstWordDue_4 : decode cX0_isFirstWordDue 4 = .ok (.getfield 40, 3) := by decide +kernel
theorem dX0_isFirstWordDue_7 : decode cX0_isFirstWordDue 7 = .ok (.ifCond .le 23, 3) := by decide +kernel
theorem dX0_isFirstWordDue_10 : decode cX0_isFirstWordDue 10 = .ok (.iload_n 1, 1) := by decide +kernel
theorem dX0_isFirstWordDue_11 : decode cX0_isFirstWordDue 11 = .ok (.aload_n 0, 1) := by decide +kernel
theorem dX0_isFirstWordDue_12 : decode cX0_isFirstWordDue 12 = .ok (.getfield 20, 3) := by decide +kernel
theorem dX0_isFirstWordDue_15 : decode cX0_isFirstWordDue 15 = .ok (.invokevirtual 43, 3) := by decide +kernel
theorem dX0_isFirstWordDue_18 : decode cX0_isFirstWordDue 18 = .ok (.isub, 1) := by decide +kernel
theorem dX0_isFirstWordDue_19 : decode cX0_isFirstWordDue 19 = .ok (.aload_n 0, 1) := by decide +kernel
theorem dX0_isFirstWordDue_20 : decode cX0_isFirstWordDue 20 = .ok (.getfield 47, 3) := by decide +kernel
theorem dX0_isFirstWordDue_23 : decode cX0_isFirstWordDue 23 = .ok (.if_icmp .lt 7, 3) := by decide +kernel
theorem dX0_isFirstWordDue_26 : decode cX0_isFirstWordDue 26 = .ok (.iconst 1, 1) := by decide +kernel
theorem dX0_isFirstWordDue_27 : decode cX0_isFirstWordDue 27 = .ok (.goto 4, 3) := by decide +kernel
theorem dX0_isFirstWordDue_30 : decode cX0_isFirstWordDue 30 = .ok (.iconst 0, 1) := by decide +kernel
theorem dX0_isFirstWordDue_31 : decode cX0_isFirstWordDue 31 = .ok (.ireturn, 1) := by decide +kernel
set_option maxRecDepth 20000 in
theorem ggX0_takeFirstWord_X3_takeFirst : GoodIn wsX0_takeFirstWord wsX3_takeFirst := goodIn_r _ [7, 8, 9, 10, 11, 12, 13, 24, 25] (by decide +kernel) (by decide +kernel)
set_option maxRecDepth 20000 in
theorem gX0_takeFirstWord_X3_takeFirst : GoodIn wsX0_takeFirstWord (wsV RX0 50 RX3 yX3_takeFirst wsX3_takeFirst) := goodIn_app (goodIn_of _ (by decide +kernel)) ggX0_takeFirstWord_X3_takeFirst
theorem dX0_takeFirstWord_0 : decode cX0_takeFirstWord 0 = .ok (.aload_n 0, 1) := by decide +kernel
theorem dX0_takeFirstWord_1 : decode cX0_takeFirstWord 1 = .ok (.getfield 20, 3) := by decide +kernel
theorem dX0_takeFirstWord_4 : decode cX0_takeFirstWord 4 = .ok (.invokevirtual 50, 3) := by decide +kernel
theorem dX0_takeFirstWord_7 : decode cX0_takeFirstWord 7 = .ok (.pop, 1) := by decide +kernel
theorem dX0_takeFirstWord_8 : decode cX0_takeFirstWord 8 = .ok (.aload_n 0, 1) := by decide +kernel
theorem dX0_takeFirstWord_9 : decode cX0_takeFirstWord 9 = .ok (.getfield 14, 3) := by decide +kernel
theorem dX0_takeFirstWord_12 : decode cX0_takeFirstWord 12 = .ok (.invokevirtual 50, 3) := by decide +kernel
theorem dX0_takeFirstWord_15 : decode cX0_takeFirstWord 15 = .ok (.ireturn, 1) := by decide +kernel
set_option maxRecDepth 20000 in
theorem ggX0_hear_X3_add : GoodIn wsX0_hear wsX3_add := goodIn_r _ [10, 11, 12, 23, 24] (by decide +kernel) (by decide +kernel)
set_option maxRecDepth 20000 in
theorem gX0_hear_X3_add : GoodIn wsX0_hear (wsV RX0 59 RX3 yX3_add wsX3_add) := goodIn_app (goodIn_of _ (by decide +kernel)) ggX0_hear_X3_add
theorem dX0_hear_0 : decode cX0_hear 0 = .ok (.aload_n 0, 1) := by decide +kernel
theorem dX0_hear_1 : decode cX0_hear 1 = .ok (.getfield 14, 3) := by decide +kernel
theorem dX0_hear_4 : decode cX0_hear 4 = .ok (.getfield 40, 3) := by decide +kernel
theorem dX0_hear_7 : decode cX0_hear 7 = .ok (.aload_n 0, 1) := by decide +kernel
theorem dX0_hear_8 : decode cX0_hear 8 = .ok (.getfield 53, 3) := by decide +kernel
theorem dX0_hear_11 : decode cX0_hear 11 = .ok (.if_icmp .lt 16, 3) := by decide +kernel
theorem dX0_hear_14 : decode cX0_hear 14 = .ok (.aload_n 0, 1) := by decide +kernel
theorem dX0_hear_15 : decode cX0_hear 15 = .ok (.dup, 1) := by decide +kernel
theorem dX0_hear_16 : decode cX0_hear 16 = .ok (.getfield 56, 3) := by decide +kernel
theorem dX0_hear_19 : decode cX0_hear 19 = .ok (.iconst 1, 1) := by decide +kernel
theorem dX0_hear_20 : decode cX0_hear 20 = .ok (.iadd, 1) := by decide +kernel
theorem dX0_hear_21 : decode cX0_hear 21 = .ok (.putfield 56, 3) := by decide +kernel
theorem dX0_hear_24 : decode cX0_hear 24 = .ok (.goto 19, 3) := by decide +kernel
theorem dX0_hear_27 : decode cX0_hear 27 = .ok (.aload_n 0, 1) := by decide +kernel
theorem dX0_hear_28 : decode cX0_hear 28 = .ok (.getfield 14, 3) := by decide +kernel
theorem dX0_hear_31 : decode cX0_hear 31 = .ok (.iload_n 1, 1) := by decide +kernel
theorem dX0_hear_32 : decode cX0_hear 32 = .ok (.invokevirtual 59, 3) := by decide +kernel
theorem dX0_hear_35 : decode cX0_hear 35 = .ok (.aload_n 0, 1) := by decide +kernel
theorem dX0_hear_36 : decode cX0_hear 36 = .ok (.getfield 20, 3) := by decide +kernel
theorem dX0_hear_39 : decode cX0_hear 39 = .ok (.iload_n 2, 1) := by decide +kernel
theorem dX0_hear_40 : decode cX0_hear 40 = .ok (.invokevirtual 59, 3) := by decide +kernel
theorem dX0_hear_43 : decode cX0_hear 43 = .ok (.return_, 1) := by decide +kernel
set_option maxRecDepth 20000 in
theorem ggX0_copyFrom_X3_copyFrom : GoodIn wsX0_copyFrom wsX3_copyFrom := goodIn_r _ [15, 16, 17, 18, 19, 20, 21, 22, 23, 24, 25, 46, 47] (by decide +kernel) (by decide +kernel)
set_option maxRecDepth 20000 in
theorem gX0_copyFrom_X3_copyFrom : GoodIn wsX0_copyFrom (wsV RX0 62 RX3 yX3_copyFrom wsX3_copyFrom) := goodIn_app (goodIn_of _ (by decide +kernel)) ggX0_copyFrom_X3_copyFrom
set_option maxRecDepth 20000 in
theorem ggX0_copyFrom_X4_copyFrom : GoodIn wsX0_copyFrom wsX4_copyFrom := goodIn_r _ [30, 31, 32, 19, 20, 21, 33, 34, 23, 24, 25, 35, 48, 49, 50] (by decide +kernel) (by decide +kernel)
set_option maxRecDepth 20000 in
theorem gX0_copyFrom_X4_copyFrom : GoodIn wsX0_copyFrom (wsV RX0 66 RX4 yX4_copyFrom wsX4_copyFrom) := goodIn_app (goodIn_of _ (by decide +kernel)) ggX0_copyFrom_X4_copyFrom
theorem dX0_copyFrom_0 : decode cX0_copyFrom 0 = .ok (.aload_n 0, 1) := by decide +kernel
theorem dX0_copyFrom_1 : decode cX0_copyFrom 1 = .ok (.getfield 14, 3) := by decide +kernel
theorem dX0_copyFrom_4 : decode cX0_copyFrom 4 = .ok (.aload_n 1, 1) := by decide +kernel
theorem dX0_copyFrom_5 : decode cX0_copyFrom 5 = .ok (.getfield 14, 3) := by decide +kernel
theorem dX0_copyFrom_8 : decode cX0_copyFrom 8 = .ok (.invokevirtual 62, 3) := by decide +kernel
theorem dX0_copyFrom_11 : decode cX0_copyFrom 11 = .ok (.aload_n 0, 1) := by decide +kernel
theorem dX0_copyFrom_12 : decode cX0_copyFrom 12 = .ok (.getfield 20, 3) := by decide +kernel
theorem dX0_copyFrom_15 : decode cX0_copyFrom 15 = .ok (.aload_n 1, 1) := by decide +kernel
theorem dX0_copyFrom_16 : decode cX0_copyFrom 16 = .ok (.getfield 20, 3) := by decide +kernel
theorem dX0_copyFrom_19 : decode cX0_copyFrom 19 = .ok (.invokevirtual 62, 3) := by decide +kernel
theorem dX0_copyFrom_22 : decode cX0_copyFrom 22 = .ok (.aload_n 0, 1) := by decide +kernel
theorem dX0_copyFrom_23 : decode cX0_copyFrom 23 = .ok (.getfield 26, 3) := by decide +kernel
theorem dX0_copyFrom_26 : decode cX0_copyFrom 26 = .ok (.aload_n 1, 1) := by decide +kernel
theorem dX0_copyFrom_27 : decode cX0_copyFrom 27 = .ok (.getfield 26, 3) := by decide +kernel
theorem dX0_copyFrom_30 : decode cX0_copyFrom 30 = .ok (.invokevirtual 66, 3) := by decide +kernel
theorem dX0_copyFrom_33 : decode cX0_copyFrom 33 = .ok (.aload_n 0, 1) := by decide +kernel
theorem dX0_copyFrom_34 : decode cX0_copyFrom 34 = .ok (.aload_n 1, 1) := by decide +kernel
theorem dX0_copyFrom_35 : decode cX0_copyFrom 35 = .ok (.getfield 69, 3) := by decide +kernel
theorem dX0_copyFrom_38 : decode cX0_copyFrom 38 = .ok (.putfield 69, 3) := by decide +kernel
theorem dX0_copyFrom_41 : decode cX0_copyFrom 41 = .ok (.aload_n 0, 1) := by decide +kernel
theorem dX0_copyFrom_42 : decode cX0_copyFrom 42 = .ok (.aload_n 1, 1) := by decide +kernel
theorem dX0_copyFrom_43 : decode cX0_copyFrom 43 = .ok (.getfield 47, 3) := by decide +kernel
theorem dX0_copyFrom_46 : decode cX0_copyFrom 46 = .ok (.putfield 47, 3) := by decide +kernel
theorem dX0_copyFrom_49 : decode cX0_copyFrom 49 = .ok (.aload_n 0, 1) := by decide +kernel
theorem dX0_copyFrom_50 : decode cX0_copyFrom 50 = .ok (.aload_n 1, 1) := by decide +kernel
theorem dX0_copyFrom_51 : decode cX0_copyFrom 51 = .ok (.getfield 53, 3) := by decide +kernel
theorem dX0_copyFrom_54 : decode cX0_copyFrom 54 = .ok (.putfield 53, 3) := by decide +kernel
theorem dX0_copyFrom_57 : decode cX0_copyFrom 57 = .ok (.aload_n 0, 1) := by decide +kernel
theorem dX0_copyFrom_58 : decode cX0_copyFrom 58 = .ok (.aload_n 1, 1) := by decide +kernel
theorem dX0_copyFrom_59 : decode cX0_copyFrom 59 = .ok (.getfield 30, 3) := by decide +kernel
theorem dX0_copyFrom_62 : decode cX0_copyFrom 62 = .ok (.putfield 30, 3) := by decide +kernel
theorem dX0_copyFrom_65 : decode cX0_copyFrom 65 = .ok (.aload_n 0, 1) := by decide +kernel
theorem dX0_copyFrom_66 : decode cX0_copyFrom 66 = .ok (.aload_n 1, 1) := by decide +kernel
theorem dX0_copyFrom_67 : decode cX0_copyFrom 67 = .ok (.getfield 34, 3) := by decide +kernel
theorem dX0_copyFrom_70 : decode cX0_copyFrom 70 = .ok (.putfield 34, 3) := by decide +kernel
theorem dX0_copyFrom_73 : decode cX0_copyFrom 73 = .ok (.aload_n 0, 1) := by decide +kernel
theorem dX0_copyFrom_74 : decode cX0_copyFrom 74 = .ok (.aload_n 1, 1) := by decide +kernel
theorem dX0_copyFrom_75 : decode cX0_copyFrom 75 = .ok (.getfield 37, 3) := by decide +kernel
theorem dX0_copyFrom_78 : decode cX0_copyFrom 78 = .ok (.putfield 37, 3) := by decide +kernel
theorem dX0_copyFrom_81 : decode cX0_copyFrom 81 = .ok (.aload_n 0, 1) := by decide +kernel
theorem dX0_copyFrom_82 : decode cX0_copyFrom 82 = .ok (.aload_n 1, 1) := by decide +kernel
theorem dX0_copyFrom_83 : decode cX0_copyFrom 83 = .ok (.getfield 56, 3) := by decide +kernel
theorem dX0_copyFrom_86 : decode cX0_copyFrom 86 = .ok (.putfield 56, 3) := by decide +kernel
theorem dX0_copyFrom_89 : decode cX0_copyFrom 89 = .ok (.return_, 1) := by decide +kernel
theorem dX1_init_0 : decode cX1_init 0 = .ok (.aload_n 0, 1) := by decide +kernel
theorem dX1_init_1 : decode cX1_init 1 = .ok (.invokespecial 5, 3) := by decide +kernel
theorem dX1_init_4 : decode cX1_init 4 = .ok (.aload_n 0, 1) := by decide +kernel
theorem dX1_init_5 : decode cX1_init 5 = .ok (.bipush 100, 2) := by decide +kernel
theorem dX1_init_7 : decode cX1_init 7 = .ok (.newarray .long, 2) := by decide +kernel
theorem dX1_init_9 : decode cX1_init 9 = .ok (.putfield 11, 3) := by decide +kernel
theorem dX1_init_12 : decode cX1_init 12 = .ok (.aload_n 0, 1) := by decide +kernel
theorem dX1_init_13 : decode cX1_init 13 = .ok (.sipush 400, 3) := by decide +kernel
theorem dX1_init_16 : decode cX1_init 16 = .ok (.newarray .long, 2) := by decide +kernel
theorem dX1_init_18 : decode cX1_init 18 = .ok (.putfield 15, 3) := by decide +kernel
theorem dX1_init_21 : decode cX1_init 21 = .ok (.return_, 1) := by decide +kernel
set_option maxRecDepth 20000 in
theorem ggX1_mostInCommon_X1_markPlaces : GoodIn wsX1_mostInCommon wsX1_markPlaces := goodIn_r _ [7, 8, 2, 9, 10, 11, 12, 13, 14, 15, 16, 17, 18, 32, 33, 34, 35, 36] (by decide +kernel) (by decide +kernel)
set_option maxRecDepth 20000 in
theorem gX1_mostInCommon_X1_markPlaces : GoodIn wsX1_mostInCommon (wsV RX1 24 RX1 yX1_markPlaces wsX1_markPlaces) := goodIn_app (goodIn_of _ (by decide +kernel)) ggX1_mostInCommon_X1_markPlaces
set_option maxRecDepth 20000 in
theorem ggX1_mostInCommon_X1_closedInBlock : GoodIn wsX1_mostInCommon wsX1_closedInBlock := goodIn_r _ [22, 23, 2, 8, 1, 24, 9, 10, 11, 12, 13, 14, 15, 16, 17, 18, 25, 26, 27, 28, 29, 30, 31, 34, 35, 36, 32, 33] (by decide +kernel) (by decide +kernel)
set_option maxRecDepth 20000 in
theorem gX1_mostInCommon_X1_closedInBlock : GoodIn wsX1_mostInCommon (wsV RX1 28 RX1 yX1_closedInBlock wsX1_closedInBlock) := goodIn_app (goodIn_of _ (by decide +kernel)) ggX1_mostInCommon_X1_closedInBlock
theorem dX1_mostInCommon_0 : decode cX1_mostInCommon 0 = .ok (.iconst 0, 1) := by decide +kernel
theorem dX1_mostInCommon_1 : decode cX1_mostInCommon 1 = .ok (.istore_n 3, 1) := by decide +kernel
theorem dX1_mostInCommon_2 : decode cX1_mostInCommon 2 = .ok (.iload_n 3, 1) := by decide +kernel
theorem dX1_mostInCommon_3 : decode cX1_mostInCommon 3 = .ok (.sipush 400, 3) := by decide +kernel
theorem dX1_mostInCommon_6 : decode cX1_mostInCommon 6 = .ok (.if_icmp .ge 16, 3) := by decide +kernel
theorem dX1_mostInCommon_9 : decode cX1_mostInCommon 9 = .ok (.aload_n 0, 1) := by decide +kernel
theorem dX1_mostInCommon_10 : decode cX1_mostInCommon 10 = .ok (.getfield 15, 3) := by decide +kernel
theorem dX1_mostInCommon_13 : decode cX1_mostInCommon 13 = .ok (.iload_n 3, 1) := by decide +kernel
theorem dX1_mostInCommon_14 : decode cX1_mostInCommon 14 = .ok (.lconst 0, 1) := by decide +kernel
theorem dX1_mostInCommon_15 : decode cX1_mostInCommon 15 = .ok (.lastore, 1) := by decide +kernel
theorem dX1_mostInCommon_16 : decode cX1_mostInCommon 16 = .ok (.iinc 3 1, 3) := by decide +kernel
theorem dX1_mostInCommon_19 : decode cX1_mostInCommon 19 = .ok (.goto (-17), 3) := by decide +kernel
theorem dX1_mostInCommon_22 : decode cX1_mostInCommon 22 = .ok (.iconst 0, 1) := by decide +kernel
theorem dX1_mostInCommon_23 : decode cX1_mostInCommon 23 = .ok (.istore_n 3, 1) := by decide +kernel
theorem dX1_mostInCommon_24 : decode cX1_mostInCommon 24 = .ok (.iconst 0, 1) := by decide +kernel
theorem dX1_mostInCommon_25 : decode cX1_mostInCommon 25 = .ok (.istore 4, 2) := by decide +kernel
theorem dX1_mostInCommon_27 : decode cX1_mostInCommon 27 = .ok (.iload 4, 2) := by decide +kernel
theorem dX1_mostInCommon_29 : decode cX1_mostInCommon 29 = .ok (.aload_n 1, 1) := by decide +kernel
theorem dX1_mostInCommon_30 : decode cX1_mostInCommon 30 = .ok (.getfield 18, 3) := by decide +kernel
theorem dX1_mostInCommon_33 : decode cX1_mostInCommon 33 = .ok (.if_icmp .ge 24, 3) := by decide +kernel
theorem dX1_mostInCommon_36 : decode cX1_mostInCommon 36 = .ok (.aload_n 0, 1) := by decide +kernel
theorem dX1_mostInCommon_37 : decode cX1_mostInCommon 37 = .ok (.aload_n 1, 1) := by decide +kernel
theorem dX1_mostInCommon_38 : decode cX1_mostInCommon 38 = .ok (.iload 4, 2) := by decide +kernel
theorem dX1_mostInCommon_40 : decode cX1_mostInCommon 40 = .ok (.invokevirtual 24, 3) := by decide +kernel
theorem dX1_mostInCommon_43 : decode cX1_mostInCommon 43 = .ok (.iload_n 3, 1) := by decide +kernel
theorem dX1_mostInCommon_44 : decode cX1_mostInCommon 44 = .ok (.aload_n 0, 1) := by decide +kernel
theorem dX1_mostInCommon_45 : decode cX1_mostInCommon 45 = .ok (.aload_n 2, 1) := by decide +kernel
theorem dX1_mostInCommon_46 : decode cX1_mostInCommon 46 = .ok (.invokevirtual 28, 3) := by decide +kernel
theorem dX1_mostInCommon_49 : decode cX1_mostInCommon 49 = .ok (.iadd, 1) := by decide +kernel
theorem dX1_mostInCommon_50 : decode cX1_mostInCommon 50 = .ok (.istore_n 3, 1) := by decide +kernel
theorem dX1_mostInCommon_51 : decode cX1_mostInCommon 51 = .ok (.iinc 4 60, 3) := by decide +kernel
theorem dX1_mostInCommon_54 : decode cX1_mostInCommon 54 = .ok (.goto (-27), 3) := by decide +kernel
theorem dX1_mostInCommon_57 : decode cX1_mostInCommon 57 = .ok (.iload_n 3, 1) := by decide +kernel
theorem dX1_mostInCommon_58 : decode cX1_mostInCommon 58 = .ok (.ireturn, 1) := by decide +kernel
set_option maxRecDepth 20000 in
theorem ggX1_markPlaces_X4_wordAt : GoodIn wsX1_markPlaces wsX4_wordAt := goodIn_r _ [7, 8, 9, 10, 11, 12, 15, 16, 17] (by decide +kernel) (by decide +kernel)
set_option maxRecDepth 20000 in
theorem gX1_markPlaces_X4_wordAt : GoodIn wsX1_markPlaces (wsV RX1 32 RX4 yX4_wordAt wsX4_wordAt) := goodIn_app (goodIn_of _ (by decide +kernel)) ggX1_markPlaces_X4_wordAt
set_option maxRecDepth 20000 in
theorem ggX1_markPlaces_X6_isWithin : GoodIn wsX1_markPlaces wsX6_isWithin := goodIn_r _ [12] (by decide +kernel) (by decide +kernel)
set_option maxRecDepth 20000 in
theorem gX1_markPlaces_X6_isWithin_n36 : GoodIn wsX1_markPlaces (wsX6_isWithin) := ggX1_markPlaces_X6_isWithin
theorem dX1_markPlaces_0 : decode cX1_markPlaces 0 = .ok (.iconst 0, 1) := by decide +kernel
theorem dX1_markPlaces_1 : decode cX1_markPlaces 1 = .ok (.istore_n 3, 1) := by decide +kernel
theorem dX1_markPlaces_2 : decode cX1_markPlaces 2 = .ok (.iload_n 3, 1) := by decide +kernel
theorem dX1_markPlaces_3 : decode cX1_markPlaces 3 = .ok (.bipush 100, 2) := by decide +kernel
theorem dX1_markPlaces_5 : decode cX1_markPlaces 5 = .ok (.if_icmp .ge 16, 3) := by decide +kernel
theorem dX1_markPlaces_8 : decode cX1_markPlaces 8 = .ok (.aload_n 0, 1) := by decide +kernel
theorem dX1_markPlaces_9 : decode cX1_markPlaces 9 = .ok (.getfield 11, 3) := by decide +kernel
theorem dX1_markPlaces_12 : decode cX1_markPlaces 12 = .ok (.iload_n 3, 1) := by decide +kernel
theorem dX1_markPlaces_13 : decode cX1_markPlaces 13 = .ok (.lconst 0, 1) := by decide +kernel
theorem dX1_markPlaces_14 : decode cX1_markPlaces 14 = .ok (.lastore, 1) := by decide +kernel
theorem dX1_markPlaces_15 : decode cX1_markPlaces 15 = .ok (.iinc 3 1, 3) := by decide +kernel
theorem dX1_markPlaces_18 : decode cX1_markPlaces 18 = .ok (.goto (-16), 3) := by decide +kernel
theorem dX1_markPlaces_21 : decode cX1_markPlaces 21 = .ok (.iconst 0, 1) := by decide +kernel
theorem dX1_markPlaces_22 : decode cX1_markPlaces 22 = .ok (.istore_n 3, 1) := by decide +kernel
theorem dX1_markPlaces_23 : decode cX1_markPlaces 23 = .ok (.iload_n 3, 1) := by decide +kernel
theorem dX1_markPlaces_24 : decode cX1_markPlaces 24 = .ok (.bipush 60, 2) := by decide +kernel
theorem dX1_markPlaces_26 : decode cX1_markPlaces 26 = .ok (.if_icmp .ge 52, 3) := by decide +kernel
theorem dX1_markPlaces_29 : decode cX1_markPlaces 29 = .ok (.iload_n 2, 1) := by decide +kernel
theorem dX1_markPlaces_30 : decode cX1_markPlaces 30 = .ok (.iload_n 3, 1) := by decide +kernel
theorem dX1_markPlaces_31 : decode cX1_markPlaces 31 = .ok (.iadd, 1) := by decide +kernel
theorem dX1_markPlaces_32 : decode cX1_markPlaces 32 = .ok (.aload_n 1, 1) := by decide +kernel
theorem dX1_markPlaces_33 : decode cX1_markPlaces 33 = .ok (.getfield 18, 3) := by decide +kernel
theorem dX1_markPlaces_36 : decode cX1_markPlaces 36 = .ok (.if_icmp .ge 42, 3) := by decide +kernel
theorem dX1_markPlaces_39 : decode cX1_markPlaces 39 = .ok (.aload_n 1, 1) := by decide +kernel
theorem dX1_markPlaces_40 : decode cX1_markPlaces 40 = .ok (.iload_n 2, 1) := by decide +kernel
theorem dX1_markPlaces_41 : decode cX1_markPlaces 41 = .ok (.iload_n 3, 1) := by decide +kernel
theorem dX1_markPlaces_42 : decode cX1_markPlaces 42 = .ok (.iadd, 1) := by decide +kernel
theorem dX1_markPlaces_43 : decode cX1_markPlaces 43 = .ok (.invokevirtual 32, 3) := by decide +kernel
theorem dX1_markPlaces_46 : decode cX1_markPlaces 46 = .ok (.istore 4, 2) := by decide +kernel
theorem dX1_markPlaces_48 : decode cX1_markPlaces 48 = .ok (.iload 4, 2) := by decide +kernel
theorem dX1_markPlaces_50 : decode cX1_markPlaces 50 = .ok (.iconst 0, 1) := by decide +kernel
theorem dX1_markPlaces_51 : decode cX1_markPlaces 51 = .ok (.bipush 99, 2) := by decide +kernel
theorem dX1_markPlaces_53 : decode cX1_markPlaces 53 = .ok (.invokestatic 36, 3) := by decide +kernel
theorem dX1_markPlaces_56 : decode cX1_markPlaces 56 = .ok (.ifCond .eq 16, 3) := by decide +kernel
theorem dX1_markPlaces_59 : decode cX1_markPlaces 59 = .ok (.aload_n 0, 1) := by decide +kernel
theorem dX1_markPlaces_60 : decode cX1_markPlaces 60 = .ok (.getfield 11, 3) := by decide +kernel
theorem dX1_markPlaces_63 : decode cX1_markPlaces 63 = .ok (.iload 4, 2) := by decide +kernel
theorem dX1_markPlaces_65 : decode cX1_markPlaces 65 = .ok (.dup2, 1) := by decide +kernel
theorem dX1_markPlaces_66 : decode cX1_markPlaces 66 = .ok (.laload, 1) := by decide +kernel
theorem dX1_markPlaces_67 : decode cX1_markPlaces 67 = .ok (.lconst 1, 1) := by decide +kernel
theorem dX1_markPlaces_68 : decode cX1_markPlaces 68 = .ok (.iload_n 3, 1) := by decide +kernel
theorem dX1_markPlaces_69 : decode cX1_markPlaces 69 = .ok (.lshl, 1) := by decide +kernel
theorem dX1_markPlaces_70 : decode cX1_markPlaces 70 = .ok (.lor, 1) := by decide +kernel
theorem dX1_markPlaces_71 : decode cX1_markPlaces 71 = .ok (.lastore, 1) := by decide +kernel
theorem dX1_markPlaces_72 : decode cX1_markPlaces 72 = .ok (.iinc 3 1, 3) := by decide +kernel
theorem dX1_markPlaces_75 : decode cX1_markPlaces 75 = .ok (.goto (-52), 3) := by decide +kernel
theorem dX1_markPlaces_78 : decode cX1_markPlaces 78 = .ok (.return_, 1) := by decide +kernel
set_option maxRecDepth 20000 in
theorem ggX1_closedInBlock_X4_wordAt : GoodIn wsX1_closedInBlock wsX4_wordAt := goodIn_r _ [10, 11, 12, 13, 14, 15, 23, 24, 25] (by decide +kernel) (by decide +kernel)
set_option maxRecDepth 20000 in
theorem gX1_closedInBlock_X4_wordAt : GoodIn wsX1_closedInBlock (wsV RX1 32 RX4 yX4_wordAt wsX4_wordAt) := goodIn_app (goodIn_of _ (by decide +kernel)) ggX1_closedInBlock_X4_wordAt
set_option maxRecDepth 20000 in
theorem ggX1_closedInBlock_X6_isWithin : GoodIn wsX1_closedInBlock wsX6_isWithin := goodIn_r _ [15] (by decide +kernel) (by decide +kernel)
set_option maxRecDepth 20000 in
theorem gX1_closedInBlock_X6_isWithin_n36 : GoodIn wsX1_closedInBlock (wsX6_isWithin) := ggX1_closedInBlock_X6_isWithin
set_option maxRecDepth 20000 in
theorem ggX1_closedInBlock_J13_bitCount_95d88 : GoodIn wsX1_closedInBlock wsJ13_bitCount_95d88 := goodIn_r _ [19, 20, 21, 22] (by decide +kernel) (by decide +kernel)
set_option maxRecDepth 20000 in
theorem gX1_closedInBlock_J13_bitCount_95d88 : GoodIn wsX1_closedInBlock (va_wsS RX1 44 yJ13_bitCount_95d88 wsJ13_bitCount_95d88) := goodIn_app (goodIn_of _ (by decide +kernel)) ggX1_closedInBlock_J13_bitCount_95d88
theorem dX1_closedInBlock_0 : decode cX1_closedInBlock 0 = .ok (.ldc2_w 40, 3) := by decide +kernel
theorem dX1_closedInBlock_3 : decode cX1_closedInBlock 3 = .ok (.lstore_n 2, 1) := by decide +kernel
theorem dX1_closedInBlock_4 : decode cX1_closedInBlock 4 = .ok (.iconst 0, 1) := by decide +kernel
theorem dX1_closedInBlock_5 : decode cX1_closedInBlock 5 = .ok (.istore 4, 2) := by decide +kernel
theorem dX1_closedInBlock_7 : decode cX1_closedInBlock 7 = .ok (.iload 4, 2) := by decide +kernel
theorem dX1_closedInBlock_9 : decode cX1_closedInBlock 9 = .ok (.aload_n 1, 1) := by decide +kernel
theorem dX1_closedInBlock_10 : decode cX1_closedInBlock 10 = .ok (.getfield 18, 3) := by decide +kernel
theorem dX1_closedInBlock_13 : decode cX1_closedInBlock 13 = .ok (.if_icmp .ge 93, 3) := by decide +kernel
theorem dX1_closedInBlock_16 : decode cX1_closedInBlock 16 = .ok (.iload 4, 2) := by decide +kernel
theorem dX1_closedInBlock_18 : decode cX1_closedInBlock 18 = .ok (.sipush 400, 3) := by decide +kernel
theorem dX1_closedInBlock_21 : decode cX1_closedInBlock 21 = .ok (.if_icmp .ge 85, 3) := by decide +kernel
theorem dX1_closedInBlock_24 : decode cX1_closedInBlock 24 = .ok (.aload_n 1, 1) := by decide +kernel
theorem dX1_closedInBlock_25 : decode cX1_closedInBlock 25 = .ok (.iload 4, 2) := by decide +kernel
theorem dX1_closedInBlock_27 : decode cX1_closedInBlock 27 = .ok (.invokevirtual 32, 3) := by decide +kernel
theorem dX1_closedInBlock_30 : decode cX1_closedInBlock 30 = .ok (.istore 5, 2) := by decide +kernel
theorem dX1_closedInBlock_32 : decode cX1_closedInBlock 32 = .ok (.iload 5, 2) := by decide +kernel
theorem dX1_closedInBlock_34 : decode cX1_closedInBlock 34 = .ok (.iconst 0, 1) := by decide +kernel
theorem dX1_closedInBlock_35 : decode cX1_closedInBlock 35 = .ok (.bipush 99, 2) := by decide +kernel
theorem dX1_closedInBlock_37 : decode cX1_closedInBlock 37 = .ok (.invokestatic 36, 3) := by decide +kernel
theorem dX1_closedInBlock_40 : decode cX1_closedInBlock 40 = .ok (.ifCond .eq 15, 3) := by decide +kernel
theorem dX1_closedInBlock_43 : decode cX1_closedInBlock 43 = .ok (.lload_n 2, 1) := by decide +kernel
theorem dX1_closedInBlock_44 : decode cX1_closedInBlock 44 = .ok (.aload_n 0, 1) := by decide +kernel
theorem dX1_closedInBlock_45 : decode cX1_closedInBlock 45 = .ok (.getfield 11, 3) := by decide +kernel
theorem dX1_closedInBlock_48 : decode cX1_closedInBlock 48 = .ok (.iload 5, 2) := by decide +kernel
theorem dX1_closedInBlock_50 : decode cX1_closedInBlock 50 = .ok (.laload, 1) := by decide +kernel
theorem dX1_closedInBlock_51 : decode cX1_closedInBlock 51 = .ok (.land, 1) := by decide +kernel
theorem dX1_closedInBlock_52 : decode cX1_closedInBlock 52 = .ok (.goto 4, 3) := by decide +kernel
theorem dX1_closedInBlock_55 : decode cX1_closedInBlock 55 = .ok (.lconst 0, 1) := by decide +kernel
theorem dX1_closedInBlock_56 : decode cX1_closedInBlock 56 = .ok (.lstore 6, 2) := by decide +kernel
theorem dX1_closedInBlock_58 : decode cX1_closedInBlock 58 = .ok (.lload_n 2, 1) := by decide +kernel
theorem dX1_closedInBlock_59 : decode cX1_closedInBlock 59 = .ok (.lload 6, 2) := by decide +kernel
theorem dX1_closedInBlock_61 : decode cX1_closedInBlock 61 = .ok (.ladd, 1) := by decide +kernel
theorem dX1_closedInBlock_62 : decode cX1_closedInBlock 62 = .ok (.aload_n 0, 1) := by decide +kernel
theorem dX1_closedInBlock_63 : decode cX1_closedInBlock 63 = .ok (.getfield 15, 3) := by decide +kernel
theorem dX1_closedInBlock_66 : decode cX1_closedInBlock 66 = .ok (.iload 4, 2) := by decide +kernel
theorem dX1_closedInBlock_68 : decode cX1_closedInBlock 68 = .ok (.laload, 1) := by decide +kernel
theorem dX1_closedInBlock_69 : decode cX1_closedInBlock 69 = .ok (.ladd, 1) := by decide +kernel
theorem dX1_closedInBlock_70 : decode cX1_closedInBlock 70 = .ok (.lstore 8, 2) := by decide +kernel
theorem dX1_closedInBlock_72 : decode cX1_closedInBlock 72 = .ok (.aload_n 0, 1) := by decide +kernel
theorem dX1_closedInBlock_73 : decode cX1_closedInBlock 73 = .ok (.getfield 15, 3) := by decide +kernel
theorem dX1_closedInBlock_76 : decode cX1_closedInBlock 76 = .ok (.iload 4, 2) := by decide +kernel
theorem dX1_closedInBlock_78 : decode cX1_closedInBlock 78 = .ok (.lload 8, 2) := by decide +kernel
theorem dX1_closedInBlock_80 : decode cX1_closedInBlock 80 = .ok (.bipush 60, 2) := by decide +kernel
theorem dX1_closedInBlock_82 : decode cX1_closedInBlock 82 = .ok (.lushr, 1) := by decide +kernel
theorem dX1_closedInBlock_83 : decode cX1_closedInBlock 83 = .ok (.lastore, 1) := by decide +kernel
theorem dX1_closedInBlock_84 : decode cX1_closedInBlock 84 = .ok (.lload 8, 2) := by decide +kernel
theorem dX1_closedInBlock_86 : decode cX1_closedInBlock 86 = .ok (.lload_n 2, 1) := by decide +kernel
theorem dX1_closedInBlock_87 : decode cX1_closedInBlock 87 = .ok (.lload 6, 2) := by decide +kernel
theorem dX1_closedInBlock_89 : decode cX1_closedInBlock 89 = .ok (.ldc2_w 42, 3) := by decide +kernel
theorem dX1_closedInBlock_92 : decode cX1_closedInBlock 92 = .ok (.lxor, 1) := by decide +kernel
theorem dX1_closedInBlock_93 : decode cX1_closedInBlock 93 = .ok (.land, 1) := by decide +kernel
theorem dX1_closedInBlock_94 : decode cX1_closedInBlock 94 = .ok (.lor, 1) := by decide +kernel
theorem dX1_closedInBlock_95 : decode cX1_closedInBlock 95 = .ok (.ldc2_w 40, 3) := by decide +kernel
theorem dX1_closedInBlock_98 : decode cX1_closedInBlock 98 = .ok (.land, 1) := by decide +kernel
theorem dX1_closedInBlock_99 : decode cX1_closedInBlock 99 = .ok (.lstore_n 2, 1) := by decide +kernel
theorem dX1_closedInBlock_100 : decode cX1_closedInBlock 100 = .ok (.iinc 4 1, 3) := by decide +kernel
theorem dX1_closedInBlock_103 : decode cX1_closedInBlock 103 = .ok (.goto (-96), 3) := by decide +kernel
theorem dX1_closedInBlock_106 : decode cX1_closedInBlock 106 = .ok (.bipush 60, 2) := by decide +kernel
theorem dX1_closedInBlock_108 : decode cX1_closedInBlock 108 = .ok (.lload_n 2, 1) := by decide +kernel
theorem dX1_closedInBlock_109 : decode cX1_closedInBlock 109 = .ok (.invokestatic 44, 3) := by decide +kernel
theorem dX1_closedInBlock_112 : decode cX1_closedInBlock 112 = .ok (.isub, 1) := by decide +kernel
theorem dX1_closedInBlock_113 : decode cX1_closedInBlock 113 = .ok (.ireturn, 1) := by decide +kernel
theorem dX2_init_0 : decode cX2_init 0 = .ok (.aload_n 0, 1) := by decide +kernel
theorem dX2_init_1 : decode cX2_init 1 = .ok (.invokespecial 3, 3) := by decide +kernel
theorem dX2_init_4 : decode cX2_init 4 = .ok (.aload_n 0, 1) := by decide +kernel
theorem dX2_init_5 : decode cX2_init 5 = .ok (.iconst (-1), 1) := by decide +kernel
theorem dX2_init_6 : decode cX2_init 6 = .ok (.putfield 9, 3) := by decide +kernel
theorem dX2_init_9 : decode cX2_init 9 = .ok (.return_, 1) := by decide +kernel
theorem dX2_speaks_0 : decode cX2_speaks 0 = .ok (.aload_n 0, 1) := by decide +kernel
theorem dX2_speaks_1 : decode cX2_speaks 1 = .ok (.getfield 15, 3) := by decide +kernel
theorem dX2_speaks_4 : decode cX2_speaks 4 = .ok (.iload_n 1, 1) := by decide +kernel
theorem dX2_speaks_5 : decode cX2_speaks 5 = .ok (.ishr, 1) := by decide +kernel
theorem dX2_speaks_6 : decode cX2_speaks 6 = .ok (.iconst 1, 1) := by decide +kernel
theorem dX2_speaks_7 : decode cX2_speaks 7 = .ok (.iand, 1) := by decide +kernel
theorem dX2_speaks_8 : decode cX2_speaks 8 = .ok (.iconst 1, 1) := by decide +kernel
theorem dX2_speaks_9 : decode cX2_speaks 9 = .ok (.if_icmp .ne 7, 3) := by decide +kernel
theorem dX2_speaks_12 : decode cX2_speaks 12 = .ok (.iconst 1, 1) := by decide +kernel
theorem dX2_speaks_13 : decode cX2_speaks 13 = .ok (.goto 4, 3) := by decide +kernel
theorem dX2_speaks_16 : decode cX2_speaks 16 = .ok (.iconst 0, 1) := by decide +kernel
theorem dX2_speaks_17 : decode cX2_speaks 17 = .ok (.ireturn, 1) := by decide +kernel
theorem dX2_isLostFor_0 : decode cX2_isLostFor 0 = .ok (.iload_n 1, 1) := by decide +kernel
theorem dX2_isLostFor_1 : decode cX2_isLostFor 1 = .ok (.bipush 80, 2) := by decide +kernel
theorem dX2_isLostFor_3 : decode cX2_isLostFor 3 = .ok (.if_icmp .lt 21, 3) := by decide +kernel
theorem dX2_isLostFor_6 : decode cX2_isLostFor 6 = .ok (.aload_n 0, 1) := by decide +kernel
theorem dX2_isLostFor_7 : decode cX2_isLostFor 7 = .ok (.getfield 18, 3) := by decide +kernel
theorem dX2_isLostFor_10 : decode cX2_isLostFor 10 = .ok (.iload_n 1, 1) := by decide +kernel
theorem dX2_isLostFor_11 : decode cX2_isLostFor 11 = .ok (.bipush 80, 2) := by decide +kernel
theorem dX2_isLostFor_13 : decode cX2_isLostFor 13 = .ok (.isub, 1) := by decide +kernel
theorem dX2_isLostFor_14 : decode cX2_isLostFor 14 = .ok (.ishr, 1) := by decide +kernel
theorem dX2_isLostFor_15 : decode cX2_isLostFor 15 = .ok (.iconst 1, 1) := by decide +kernel
theorem dX2_isLostFor_16 : decode cX2_isLostFor 16 = .ok (.iand, 1) := by decide +kernel
theorem dX2_isLostFor_17 : decode cX2_isLostFor 17 = .ok (.ifCond .ne 7, 3) := by decide +kernel
theorem dX2_isLostFor_20 : decode cX2_isLostFor 20 = .ok (.iconst 1, 1) := by decide +kernel
theorem dX2_isLostFor_21 : decode cX2_isLostFor 21 = .ok (.goto 4, 3) := by decide +kernel
theorem dX2_isLostFor_24 : decode cX2_isLostFor 24 = .ok (.iconst 0, 1) := by decide +kernel
theorem dX2_isLostFor_25 : decode cX2_isLostFor 25 = .ok (.ireturn, 1) := by decide +kernel
theorem dX2_utter_0 : decode cX2_utter 0 = .ok (.iload_n 1, 1) := by decide +kernel
theorem dX2_utter_1 : decode cX2_utter 1 = .ok (.istore_n 2, 1) := by decide +kernel
theorem dX2_utter_2 : decode cX2_utter 2 = .ok (.aload_n 0, 1) := by decide +kernel
theorem dX2_utter_3 : decode cX2_utter 3 = .ok (.getfield 21, 3) := by decide +kernel
theorem dX2_utter_6 : decode cX2_utter 6 = .ok (.bipush 20, 2) := by decide +kernel
theorem dX2_utter_8 : decode cX2_utter 8 = .ok (.if_icmp .lt 42, 3) := by decide +kernel
theorem dX2_utter_11 : decode cX2_utter 11 = .ok (.aload_n 0, 1) := by decide +kernel
theorem dX2_utter_12 : decode cX2_utter 12 = .ok (.getfield 24, 3) := by decide +kernel
theorem dX2_utter_15 : decode cX2_utter 15 = .ok (.iconst 3, 1) := by decide +kernel
theorem dX2_utter_16 : decode cX2_utter 16 = .ok (.irem, 1) := by decide +kernel
theorem dX2_utter_17 : decode cX2_utter 17 = .ok (.ifCond .ne 33, 3) := by decide +kernel
theorem dX2_utter_20 : decode cX2_utter 20 = .ok (.iload_n 1, 1) := by decide +kernel
theorem dX2_utter_21 : decode cX2_utter 21 = .ok (.bipush 80, 2) := by decide +kernel
theorem dX2_utter_23 : decode cX2_utter 23 = .ok (.if_icmp .ge 27, 3) := by decide +kernel
theorem dX2_utter_26 : decode cX2_utter 26 = .ok (.iload_n 1, 1) := by decide +kernel
theorem dX2_utter_27 : decode cX2_utter 27 = .ok (.bipush 79, 2) := by decide +kernel
theorem dX2_utter_29 : decode cX2_utter 29 = .ok (.if_icmp .ne 7, 3) := by decide +kernel
theorem dX2_utter_32 : decode cX2_utter 32 = .ok (.iconst 0, 1) := by decide +kernel
theorem dX2_utter_33 : decode cX2_utter 33 = .ok (.goto 6, 3) := by decide +kernel
theorem dX2_utter_36 : decode cX2_utter 36 = .ok (.iload_n 1, 1) := by decide +kernel
theorem dX2_utter_37 : decode cX2_utter 37 = .ok (.iconst 1, 1) := by decide +kernel
theorem dX2_utter_38 : decode cX2_utter 38 = .ok (.iadd, 1) := by decide +kernel
theorem dX2_utter_39 : decode cX2_utter 39 = .ok (.istore_n 2, 1) := by decide +kernel
theorem dX2_utter_40 : decode cX2_utter 40 = .ok (.aload_n 0, 1) := by decide +kernel
theorem dX2_utter_41 : decode cX2_utter 41 = .ok (.dup, 1) := by decide +kernel
theorem dX2_utter_42 : decode cX2_utter 42 = .ok (.getfield 27, 3) := by decide +kernel
theorem dX2_utter_45 : decode cX2_utter 45 = .ok (.iconst 1, 1) := by decide +kernel
theorem dX2_utter_46 : decode cX2_utter 46 = .ok (.iadd, 1) := by decide +kernel
theorem dX2_utter_47 : decode cX2_utter 47 = .ok (.putfield 27, 3) := by decide +kernel
theorem dX2_utter_50 : decode cX2_utter 50 = .ok (.aload_n 0, 1) := by decide +kernel
theorem dX2_utter_51 : decode cX2_utter 51 = .ok (.dup, 1) := by decide +kernel
theorem dX2_utter_52 : decode cX2_utter 52 = .ok (.getfield 24, 3) := by decide +kernel
theorem dX2_utter_55 : decode cX2_utter 55 = .ok (.iconst 1, 1) := by decide +kernel
theorem dX2_utter_56 : decode cX2_utter 56 = .ok (.iadd, 1) := by decide +kernel
theorem dX2_utter_57 : decode cX2_utter 57 = .ok (.putfield 24, 3) := by decide +kernel
theorem dX2_utter_60 : decode cX2_utter 60 = .ok (.aload_n 0, 1) := by decide +kernel
theorem dX2_utter_61 : decode cX2_utter 61 = .ok (.dup, 1) := by decide +kernel
theorem dX2_utter_62 : decode cX2_utter 62 = .ok (.getfield 21, 3) := by decide +kernel
theorem dX2_utter_65 : decode cX2_utter 65 = .ok (.iconst 1, 1) := by decide +kernel
theorem dX2_utter_66 : decode cX2_utter 66 = .ok (.iadd, 1) := by decide +kernel
theorem dX2_utter_67 : decode cX2_utter 67 = .ok (.putfield 21, 3) := by decide +kernel
theorem dX2_utter_70 : decode cX2_utter 70 = .ok (.iload_n 2, 1) := by decide +kernel
theorem dX2_utter_71 : decode cX2_utter 71 = .ok (.ireturn, 1) := by decide +kernel
theorem dX2_recover_0 : decode cX2_recover 0 = .ok (.aload_n 0, 1) := by decide +kernel
theorem dX2_recover_1 : decode cX2_recover 1 = .ok (.iconst 0, 1) := by decide +kernel
theorem dX2_recover_2 : decode cX2_recover 2 = .ok (.aload_n 0, 1) := by decide +kernel
theorem dX2_recover_3 : decode cX2_recover 3 = .ok (.getfield 21, 3) := by decide +kernel
theorem dX2_recover_6 : decode cX2_recover 6 = .ok (.iload_n 1, 1) := by decide +kernel
theorem dX2_recover_7 : decode cX2_recover 7 = .ok (.isub, 1) := by decide +kernel
theorem dX2_recover_8 : decode cX2_recover 8 = .ok (.invokestatic 30, 3) := by decide +kernel
theorem dX2_recover_11 : decode cX2_recover 11 = .ok (.putfield 21, 3) := by decide +kernel
theorem dX2_recover_14 : decode cX2_recover 14 = .ok (.return_, 1) := by decide +kernel
theorem dX2_tell_0 : decode cX2_tell 0 = .ok (.iload_n 1, 1) := by decide +kernel
theorem dX2_tell_1 : decode cX2_tell 1 = .ok (.tableswitch 69 0 5 #[39, 44, 49, 54, 59, 64], 39) := by decide +kernel
theorem dX2_tell_40 : decode cX2_tell 40 = .ok (.aload_n 0, 1) := by decide +kernel
theorem dX2_tell_41 : decode cX2_tell 41 = .ok (.getfield 15, 3) := by decide +kernel
theorem dX2_tell_44 : decode cX2_tell 44 = .ok (.ireturn, 1) := by decide +kernel
theorem dX2_tell_45 : decode cX2_tell 45 = .ok (.aload_n 0, 1) := by decide +kernel
theorem dX2_tell_46 : decode cX2_tell 46 = .ok (.getfield 18, 3) := by decide +kernel
theorem dX2_tell_49 : decode cX2_tell 49 = .ok (.ireturn, 1) := by decide +kernel
theorem dX2_tell_50 : decode cX2_tell 50 = .ok (.aload_n 0, 1) := by decide +kernel
theorem dX2_tell_51 : decode cX2_tell 51 = .ok (.getfield 9, 3) := by decide +kernel
theorem dX2_tell_54 : decode cX2_tell 54 = .ok (.ireturn, 1) := by decide +kernel
theorem dX2_tell_55 : decode cX2_tell 55 = .ok (.aload_n 0, 1) := by decide +kernel
theorem dX2_tell_56 : decode cX2_tell 56 = .ok (.getfield 21, 3) := by decide +kernel
theorem dX2_tell_59 : decode cX2_tell 59 = .ok (.ireturn, 1) := by decide +kernel
theorem dX2_tell_60 : decode cX2_tell 60 = .ok (.aload_n 0, 1) := by decide +kernel
theorem dX2_tell_61 : decode cX2_tell 61 = .ok (.getfield 24, 3) := by decide +kernel
theorem dX2_tell_64 : decode cX2_tell 64 = .ok (.ireturn, 1) := by decide +kernel
theorem dX2_tell_65 : decode cX2_tell 65 = .ok (.aload_n 0, 1) := by decide +kernel
theorem dX2_tell_66 : decode cX2_tell 66 = .ok (.getfield 27, 3) := by decide +kernel
theorem dX2_tell_69 : decode cX2_tell 69 = .ok (.ireturn, 1) := by decide +kernel
theorem dX2_tell_70 : decode cX2_tell 70 = .ok (.aload_n 0, 1) := by decide +kernel
theorem dX2_tell_71 : decode cX2_tell 71 = .ok (.getfield 36, 3) := by decide +kernel
theorem dX2_tell_74 : decode cX2_tell 74 = .ok (.ireturn, 1) := by decide +kernel
theorem dX2_copyFrom_0 : decode cX2_copyFrom 0 = .ok (.aload_n 0, 1) := by decide +kernel
theorem dX2_copyFrom_1 : decode cX2_copyFrom 1 = .ok (.aload_n 1, 1) := by decide +kernel
theorem dX2_copyFrom_2 : decode cX2_copyFrom 2 = .ok (.getfield 15, 3) := by decide +kernel
theorem dX2_copyFrom_5 : decode cX2_copyFrom 5 = .ok (.putfield 15, 3) := by decide +kernel
theorem dX2_copyFrom_8 : decode cX2_copyFrom 8 = .ok (.aload_n 0, 1) := by decide +kernel
theorem dX2_copyFrom_9 : decode cX2_copyFrom 9 = .ok (.aload_n 1, 1) := by decide +kernel
theorem dX2_copyFrom_10 : decode cX2_copyFrom 10 = .ok (.getfield 18, 3) := by decide +kernel
theorem dX2_copyFrom_13 : decode cX2_copyFrom 13 = .ok (.putfield 18, 3) := by decide +kernel
theorem dX2_copyFrom_16 : decode cX2_copyFrom 16 = .ok (.aload_n 0, 1) := by decide +kernel
theorem dX2_copyFrom_17 : decode cX2_copyFrom 17 = .ok (.aload_n 1, 1) := by decide +kernel
theorem dX2_copyFrom_18 : decode cX2_copyFrom 18 = .ok (.getfield 9, 3) := by decide +kernel
theorem dX2_copyFrom_21 : decode cX2_copyFrom 21 = .ok (.putfield 9, 3) := by decide +kernel
theorem dX2_copyFrom_24 : decode cX2_copyFrom 24 = .ok (.aload_n 0, 1) := by decide +kernel
theorem dX2_copyFrom_25 : decode cX2_copyFrom 25 = .ok (.aload_n 1, 1) := by decide +kernel
theorem dX2_copyFrom_26 : decode cX2_copyFrom 26 = .ok (.getfield 21, 3) := by decide +kernel
theorem dX2_copyFrom_29 : decode cX2_copyFrom 29 = .ok (.putfield 21, 3) := by decide +kernel
theorem dX2_copyFrom_32 : decode cX2_copyFrom 32 = .ok (.aload_n 0, 1) := by decide +kernel
theorem dX2_copyFrom_33 : decode cX2_copyFrom 33 = .ok (.aload_n 1, 1) := by decide +kernel
theorem dX2_copyFrom_34 : decode cX2_copyFrom 34 = .ok (.getfield 24, 3) := by decide +kernel
theorem dX2_copyFrom_37 : decode cX2_copyFrom 37 = .ok (.putfield 24, 3) := by decide +kernel
theorem dX2_copyFrom_40 : decode cX2_copyFrom 40 = .ok (.aload_n 0, 1) := by decide +kernel
theorem dX2_copyFrom_41 : decode cX2_copyFrom 41 = .ok (.aload_n 1, 1) := by decide +kernel
theorem dX2_copyFrom_42 : decode cX2_copyFrom 42 = .ok (.getfield 27, 3) := by decide +kernel
theorem dX2_copyFrom_45 : decode cX2_copyFrom 45 = .ok (.putfield 27, 3) := by decide +kernel
theorem dX2_copyFrom_48 : decode cX2_copyFrom 48 = .ok (.aload_n 0, 1) := by decide +kernel
theorem dX2_copyFrom_49 : decode cX2_copyFrom 49 = .ok (.aload_n 1, 1) := by decide +kernel
theorem dX2_copyFrom_50 : decode cX2_copyFrom 50 = .ok (.getfield 36, 3) := by decide +kernel
theorem dX2_copyFrom_53 : decode cX2_copyFrom 53 = .ok (.putfield 36, 3) := by decide +kernel
theorem dX2_copyFrom_56 : decode cX2_copyFrom 56 = .ok (.return_, 1) := by decide +kernel
theorem dX3_init_0 : decode cX3_init 0 = .ok (.aload_n 0, 1) := by decide +kernel
theorem dX3_init_1 : decode cX3_init 1 = .ok (.invokespecial 3, 3) := by decide +kernel
theorem dX3_init_4 : decode cX3_init 4 = .ok (.aload_n 0, 1) := by decide +kernel
theorem dX3_init_5 : decode cX3_init 5 = .ok (.iload_n 1, 1) := by decide +kernel
theorem dX3_init_6 : decode cX3_init 6 = .ok (.ifCond .ge 7, 3) := by decide +kernel
theorem dX3_init_9 : decode cX3_init 9 = .ok (.iconst 0, 1) := by decide +kernel
theorem dX3_init_10 : decode cX3_init 10 = .ok (.goto 4, 3) := by decide +kernel
theorem dX3_init_13 : decode cX3_init 13 = .ok (.iload_n 1, 1) := by decide +kernel
theorem dX3_init_14 : decode cX3_init 14 = .ok (.newarray .int, 2) := by decide +kernel
theorem dX3_init_16 : decode cX3_init 16 = .ok (.putfield 9, 3) := by decide +kernel
theorem dX3_init_19 : decode cX3_init 19 = .ok (.return_, 1) := by decide +kernel
theorem dX3_add_0 : decode cX3_add 0 = .ok (.aload_n 0, 1) := by decide +kernel
theorem dX3_add_1 : decode cX3_add 1 = .ok (.getfield 15, 3) := by decide +kernel
theorem dX3_add_4 : decode cX3_add 4 = .ok (.aload_n 0, 1) := by decide +kernel
theorem dX3_add_5 : decode cX3_add 5 = .ok (.getfield 9, 3) := by decide +kernel
theorem dX3_add_8 : decode cX3_add 8 = .ok (.arraylength, 1) := by decide +kernel
theorem dX3_add_9 : decode cX3_add 9 = .ok (.if_icmp .ge 23, 3) := by decide +kernel
theorem dX3_add_12 : decode cX3_add 12 = .ok (.aload_n 0, 1) := by decide +kernel
theorem dX3_add_13 : decode cX3_add 13 = .ok (.getfield 9, 3) := by decide +kernel
theorem dX3_add_16 : decode cX3_add 16 = .ok (.aload_n 0, 1) := by decide +kernel
theorem dX3_add_17 : decode cX3_add 17 = .ok (.getfield 15, 3) := by decide +kernel
theorem dX3_add_20 : decode cX3_add 20 = .ok (.iload_n 1, 1) := by decide +kernel
theorem dX3_add_21 : decode cX3_add 21 = .ok (.iastore, 1) := by decide +kernel
theorem dX3_add_22 : decode cX3_add 22 = .ok (.aload_n 0, 1) := by decide +kernel
theorem dX3_add_23 : decode cX3_add 23 = .ok (.dup, 1) := by decide +kernel
theorem dX3_add_24 : decode cX3_add 24 = .ok (.getfield 15, 3) := by decide +kernel
theorem dX3_add_27 : decode cX3_add 27 = .ok (.iconst 1, 1) := by decide +kernel
theorem dX3_add_28 : decode cX3_add 28 = .ok (.iadd, 1) := by decide +kernel
theorem dX3_add_29 : decode cX3_add 29 = .ok (.putfield 15, 3) := by decide +kernel
theorem dX3_add_32 : decode cX3_add 32 = .ok (.return_, 1) := by decide +kernel
theorem dX3_first_0 : decode cX3_first 0 = .ok (.aload_n 0, 1) := by decide +kernel
theorem dX3_first_1 : decode cX3_first 1 = .ok (.getfield 15, 3) := by decide +kernel
theorem dX3_first_4 : decode cX3_first 4 = .ok (.ifCond .le 24, 3) := by decide +kernel
theorem dX3_first_7 : decode cX3_first 7 = .ok (.aload_n 0, 1) := by decide +kernel
theorem dX3_first_8 : decode cX3_first 8 = .ok (.getfield 15, 3) := by decide +kernel
theorem dX3_first_11 : decode cX3_first 11 = .ok (.aload_n 0, 1) := by decide +kernel
theorem dX3_first_12 : decode cX3_first 12 = .ok (.getfield 9, 3) := by decide +kernel
theorem dX3_first_15 : decode cX3_first 15 = .ok (.arraylength, 1) := by decide +kernel
theorem dX3_first_16 : decode cX3_first 16 = .ok (.if_icmp .gt 12, 3) := by decide +kernel
theorem dX3_first_19 : decode cX3_first 19 = .ok (.aload_n 0, 1) := by decide +kernel
theorem dX3_first_20 : decode cX3_first 20 = .ok (.getfield 9, 3) := by decide +kernel
theorem dX3_first_23 : decode cX3_first 23 = .ok (.iconst 0, 1) := by decide +kernel
theorem dX3_first_24 : decode cX3_first 24 = .ok (.iaload, 1) := by decide +kernel
theorem dX3_first_25 : decode cX3_first 25 = .ok (.goto 4, 3) := by decide +kernel
theorem dX3_first_28 : decode cX3_first 28 = .ok (.iconst (-1), 1) := by decide +kernel
theorem dX3_first_29 : decode cX3_first 29 = .ok (.ireturn, 1) := by decide +kernel
theorem dX3_takeFirst_0 : decode cX3_takeFirst 0 = .ok (.aload_n 0, 1) := by decide +kernel
theorem dX3_takeFirst_1 : decode cX3_takeFirst 1 = .ok (.getfield 15, 3) := by decide +kernel
theorem dX3_takeFirst_4 : decode cX3_takeFirst 4 = .ok (.ifCond .le 15, 3) := by decide +kernel
theorem dX3_takeFirst_7 : decode cX3_takeFirst 7 = .ok (.aload_n 0, 1) := by decide +kernel
theorem dX3_takeFirst_8 : decode cX3_takeFirst 8 = .ok (.getfield 15, 3) := by decide +kernel
theorem dX3_takeFirst_11 : decode cX3_takeFirst 11 = .ok (.aload_n 0, 1) := by decide +kernel
theorem dX3_takeFirst_12 : decode cX3_takeFirst 12 = .ok (.getfield 9, 3) := by decide +kernel
theorem dX3_takeFirst_15 : decode cX3_takeFirst 15 = .ok (.arraylength, 1) := by decide +kernel
theorem dX3_takeFirst_16 : decode cX3_takeFirst 16 = .ok (.if_icmp .le 5, 3) := by decide +kernel
theorem dX3_takeFirst_19 : decode cX3_takeFirst 19 = .ok (.iconst (-1), 1) := by decide +kernel
theorem dX3_takeFirst_20 : decode cX3_takeFirst 20 = .ok (.ireturn, 1) := by decide +kernel
theorem dX3_takeFirst_21 : decode cX3_takeFirst 21 = .ok (.aload_n 0, 1) := by decide +kernel
theorem dX3_takeFirst_22 : decode cX3_takeFirst 22 = .ok (.getfield 9, 3) := by decide +kernel
theorem dX3_takeFirst_25 : decode cX3_takeFirst 25 = .ok (.iconst 0, 1) := by decide +kernel
theorem dX3_takeFirst_26 : decode cX3_takeFirst 26 = .ok (.iaload, 1) := by decide +kernel
theorem dX3_takeFirst_27 : decode cX3_takeFirst 27 = .ok (.istore_n 1, 1) := by decide +kernel
theorem dX3_takeFirst_28 : decode cX3_takeFirst 28 = .ok (.aload_n 0, 1) := by decide +kernel
theorem dX3_takeFirst_29 : decode cX3_takeFirst 29 = .ok (.dup, 1) := by decide +kernel
theorem dX3_takeFirst_30 : decode cX3_takeFirst 30 = .ok (.getfield 15, 3) := by decide +kernel
theorem dX3_takeFirst_33 : decode cX3_takeFirst 33 = .ok (.iconst 1, 1) := by decide +kernel
theorem dX3_takeFirst_34 : decode cX3_takeFirst 34 = .ok (.isub, 1) := by decide +kernel
theorem dX3_takeFirst_35 : decode cX3_takeFirst 35 = .ok (.putfield 15, 3) := by decide +kernel
theorem dX3_takeFirst_38 : decode cX3_takeFirst 38 = .ok (.aload_n 0, 1) := by decide +kernel
theorem dX3_takeFirst_39 : decode cX3_takeFirst 39 = .ok (.getfield 9, 3) := by decide +kernel
theorem dX3_takeFirst_42 : decode cX3_takeFirst 42 = .ok (.iconst 1, 1) := by decide +kernel
theorem dX3_takeFirst_43 : decode cX3_takeFirst 43 = .ok (.aload_n 0, 1) := by decide +kernel
theorem dX3_takeFirst_44 : decode cX3_takeFirst 44 = .ok (.getfield 9, 3) := by decide +kernel
theorem dX3_takeFirst_47 : decode cX3_takeFirst 47 = .ok (.iconst 0, 1) := by decide +kernel
theorem dX3_takeFirst_48 : decode cX3_takeFirst 48 = .ok (.aload_n 0, 1) := by decide +kernel
theorem dX3_takeFirst_49 : decode cX3_takeFirst 49 = .ok (.getfield 15, 3) := by decide +kernel
theorem dX3_takeFirst_52 : decode cX3_takeFirst 52 = .ok (.invokestatic 19, 3) := by decide +kernel
theorem dX3_takeFirst_55 : decode cX3_takeFirst 55 = .ok (.iload_n 1, 1) := by decide +kernel
theorem dX3_takeFirst_56 : decode cX3_takeFirst 56 = .ok (.ireturn, 1) := by decide +kernel
theorem dX3_copyFrom_0 : decode cX3_copyFrom 0 = .ok (.aload_n 0, 1) := by decide +kernel
theorem dX3_copyFrom_1 : decode cX3_copyFrom 1 = .ok (.aload_n 1, 1) := by decide +kernel
theorem dX3_copyFrom_2 : decode cX3_copyFrom 2 = .ok (.getfield 15, 3) := by decide +kernel
theorem dX3_copyFrom_5 : decode cX3_copyFrom 5 = .ok (.aload_n 0, 1) := by decide +kernel
theorem dX3_copyFrom_6 : decode cX3_copyFrom 6 = .ok (.getfield 9, 3) := by decide +kernel
theorem dX3_copyFrom_9 : decode cX3_copyFrom 9 = .ok (.arraylength, 1) := by decide +kernel
theorem dX3_copyFrom_10 : decode cX3_copyFrom 10 = .ok (.invokestatic 25, 3) := by decide +kernel
theorem dX3_copyFrom_13 : decode cX3_copyFrom 13 = .ok (.putfield 15, 3) := by decide +kernel
theorem dX3_copyFrom_16 : decode cX3_copyFrom 16 = .ok (.aload_n 1, 1) := by decide +kernel
theorem dX3_copyFrom_17 : decode cX3_copyFrom 17 = .ok (.getfield 9, 3) := by decide +kernel
theorem dX3_copyFrom_20 : decode cX3_copyFrom 20 = .ok (.iconst 0, 1) := by decide +kernel
theorem dX3_copyFrom_21 : decode cX3_copyFrom 21 = .ok (.aload_n 0, 1) := by decide +kernel
theorem dX3_copyFrom_22 : decode cX3_copyFrom 22 = .ok (.getfield 9, 3) := by decide +kernel
theorem dX3_copyFrom_25 : decode cX3_copyFrom 25 = .ok (.iconst 0, 1) := by decide +kernel
theorem dX3_copyFrom_26 : decode cX3_copyFrom 26 = .ok (.aload_n 0, 1) := by decide +kernel
theorem dX3_copyFrom_27 : decode cX3_copyFrom 27 = .ok (.getfield 15, 3) := by decide +kernel
theorem dX3_copyFrom_30 : decode cX3_copyFrom 30 = .ok (.invokestatic 19, 3) := by decide +kernel
theorem dX3_copyFrom_33 : decode cX3_copyFrom 33 = .ok (.return_, 1) := by decide +kernel
theorem dX4_init_0 : decode cX4_init 0 = .ok (.aload_n 0, 1) := by decide +kernel
theorem dX4_init_1 : decode cX4_init 1 = .ok (.invokespecial 3, 3) := by decide +kernel
theorem dX4_init_4 : decode cX4_init 4 = .ok (.aload_n 0, 1) := by decide +kernel
theorem dX4_init_5 : decode cX4_init 5 = .ok (.sipush 400, 3) := by decide +kernel
theorem dX4_init_8 : decode cX4_init 8 = .ok (.newarray .int, 2) := by decide +kernel
theorem dX4_init_10 : decode cX4_init 10 = .ok (.putfield 9, 3) := by decide +kernel
theorem dX4_init_13 : decode cX4_init 13 = .ok (.aload_n 0, 1) := by decide +kernel
theorem dX4_init_14 : decode cX4_init 14 = .ok (.sipush 400, 3) := by decide +kernel
theorem dX4_init_17 : decode cX4_init 17 = .ok (.newarray .int, 2) := by decide +kernel
theorem dX4_init_19 : decode cX4_init 19 = .ok (.putfield 15, 3) := by decide +kernel
theorem dX4_init_22 : decode cX4_init 22 = .ok (.return_, 1) := by decide +kernel
theorem dX4_add_0 : decode cX4_add 0 = .ok (.aload_n 0, 1) := by decide +kernel
theorem dX4_add_1 : decode cX4_add 1 = .ok (.getfield 18, 3) := by decide +kernel
theorem dX4_add_4 : decode cX4_add 4 = .ok (.sipush 400, 3) := by decide +kernel
theorem dX4_add_7 : decode cX4_add 7 = .ok (.if_icmp .ge 33, 3) := by decide +kernel
theorem dX4_add_10 : decode cX4_add 10 = .ok (.aload_n 0, 1) := by decide +kernel
theorem dX4_add_11 : decode cX4_add 11 = .ok (.getfield 9, 3) := by decide +kernel
theorem dX4_add_14 : decode cX4_add 14 = .ok (.aload_n 0, 1) := by decide +kernel
theorem dX4_add_15 : decode cX4_add 15 = .ok (.getfield 18, 3) := by decide +kernel
theorem dX4_add_18 : decode cX4_add 18 = .ok (.iload_n 1, 1) := by decide +kernel
theorem dX4_add_19 : decode cX4_add 19 = .ok (.iastore, 1) := by decide +kernel
theorem dX4_add_20 : decode cX4_add 20 = .ok (.aload_n 0, 1) := by decide +kernel
theorem dX4_add_21 : decode cX4_add 21 = .ok (.getfield 15, 3) := by decide +kernel
theorem dX4_add_24 : decode cX4_add 24 = .ok (.aload_n 0, 1) := by decide +kernel
theorem dX4_add_25 : decode cX4_add 25 = .ok (.getfield 18, 3) := by decide +kernel
theorem dX4_add_28 : decode cX4_add 28 = .ok (.iload_n 2, 1) := by decide +kernel
theorem dX4_add_29 : decode cX4_add 29 = .ok (.iastore, 1) := by decide +kernel
theorem dX4_add_30 : decode cX4_add 30 = .ok (.aload_n 0, 1) := by decide +kernel
theorem dX4_add_31 : decode cX4_add 31 = .ok (.dup, 1) := by decide +kernel
theorem dX4_add_32 : decode cX4_add 32 = .ok (.getfield 18, 3) := by decide +kernel
theorem dX4_add_35 : decode cX4_add 35 = .ok (.iconst 1, 1) := by decide +kernel
theorem dX4_add_36 : decode cX4_add 36 = .ok (.iadd, 1) := by decide +kernel
theorem dX4_add_37 : decode cX4_add 37 = .ok (.putfield 18, 3) := by decide +kernel
theorem dX4_add_40 : decode cX4_add 40 = .ok (.return_, 1) := by decide +kernel
set_option maxRecDepth 20000 in
theorem ggX4_wordAt_X6_isWithin : GoodIn wsX4_wordAt wsX6_isWithin := goodIn_r _ [5] (by decide +kernel) (by decide +kernel)
set_option maxRecDepth 20000 in
theorem gX4_wordAt_X6_isWithin_n22 : GoodIn wsX4_wordAt (wsX6_isWithin) := ggX4_wordAt_X6_isWithin
theorem dX4_wordAt_0 : decode cX4_wordAt 0 = .ok (.iload_n 1, 1) := by decide +kernel
theorem dX4_wordAt_1 : decode cX4_wordAt 1 = .ok (.iconst 0, 1) := by decide +kernel
theorem dX4_wordAt_2 : decode cX4_wordAt 2 = .ok (.aload_n 0, 1) := by decide +kernel
theorem dX4_wordAt_3 : decode cX4_wordAt 3 = .ok (.getfield 18, 3) := by decide +kernel
theorem dX4_wordAt_6 : decode cX4_wordAt 6 = .ok (.iconst 1, 1) := by decide +kernel
theorem dX4_wordAt_7 : decode cX4_wordAt 7 = .ok (.isub, 1) := by decide +kernel
theorem dX4_wordAt_8 : decode cX4_wordAt 8 = .ok (.invokestatic 22, 3) := by decide +kernel
theorem dX4_wordAt_11 : decode cX4_wordAt 11 = .ok (.ifCond .eq 12, 3) := by decide +kernel
theorem dX4_wordAt_14 : decode cX4_wordAt 14 = .ok (.aload_n 0, 1) := by decide +kernel
theorem dX4_wordAt_15 : decode cX4_wordAt 15 = .ok (.getfield 9, 3) := by decide +kernel
theorem dX4_wordAt_18 : decode cX4_wordAt 18 = .ok (.iload_n 1, 1) := by decide +kernel
theorem dX4_wordAt_19 : decode cX4_wordAt 19 = .ok (.iaload, 1) := by decide +kernel
theorem dX4_wordAt_20 : decode cX4_wordAt 20 = .ok (.goto 4, 3) := by decide +kernel
theorem dX4_wordAt_23 : decode cX4_wordAt 23 = .ok (.iconst (-1), 1) := by decide +kernel
theorem dX4_wordAt_24 : decode cX4_wordAt 24 = .ok (.ireturn, 1) := by decide +kernel
set_option maxRecDepth 20000 in
theorem ggX4_tickAt_X6_isWithin : GoodIn wsX4_tickAt wsX6_isWithin := goodIn_r _ [5] (by decide +kernel) (by decide +kernel)
set_option maxRecDepth 20000 in
theorem gX4_tickAt_X6_isWithin_n22 : GoodIn wsX4_tickAt (wsX6_isWithin) := ggX4_tickAt_X6_isWithin
theorem dX4_tickAt_0 : decode cX4_tickAt 0 = .ok (.iload_n 1, 1) := by decide +kernel
theorem dX4_tickAt_1 : decode cX4_tickAt 1 = .ok (.iconst 0, 1) := by decide +kernel
theorem dX4_tickAt_2 : decode cX4_tickAt 2 = .ok (.aload_n 0, 1) := by decide +kernel
theorem dX4_tickAt_3 : decode cX4_tickAt 3 = .ok (.getfield 18, 3) := by decide +kernel
theorem dX4_tickAt_6 : decode cX4_tickAt 6 = .ok (.iconst 1, 1) := by decide +kernel
theorem dX4_tickAt_7 : decode cX4_tickAt 7 = .ok (.isub, 1) := by decide +kernel
theorem dX4_tickAt_8 : decode cX4_tickAt 8 = .ok (.invokestatic 22, 3) := by decide +kernel
theorem dX4_tickAt_11 : decode cX4_tickAt 11 = .ok (.ifCond .eq 12, 3) := by decide +kernel
theorem dX4_tickAt_14 : decode cX4_tickAt 14 = .ok (.aload_n 0, 1) := by decide +kernel
theorem dX4_tickAt_15 : decode cX4_tickAt 15 = .ok (.getfield 15, 3) := by decide +kernel
theorem dX4_tickAt_18 : decode cX4_tickAt 18 = .ok (.iload_n 1, 1) := by decide +kernel
theorem dX4_tickAt_19 : decode cX4_tickAt 19 = .ok (.iaload, 1) := by decide +kernel
theorem dX4_tickAt_20 : decode cX4_tickAt 20 = .ok (.goto 4, 3) := by decide +kernel
theorem dX4_tickAt_23 : decode cX4_tickAt 23 = .ok (.iconst (-1), 1) := by decide +kernel
theorem dX4_tickAt_24 : decode cX4_tickAt 24 = .ok (.ireturn, 1) := by decide +kernel
set_option maxRecDepth 20000 in
theorem ggX4_wordOfTick_X4_tickAt : GoodIn wsX4_wordOfTick wsX4_tickAt := goodIn_r _ [6, 1, 7, 8, 9, 10, 16, 17, 18] (by decide +kernel) (by decide +kernel)
set_option maxRecDepth 20000 in
theorem gX4_wordOfTick_X4_tickAt : GoodIn wsX4_wordOfTick (wsV RX4 26 RX4 yX4_tickAt wsX4_tickAt) := goodIn_app (goodIn_of _ (by decide +kernel)) ggX4_wordOfTick_X4_tickAt
set_option maxRecDepth 20000 in
theorem ggX4_wordOfTick_X4_wordAt : GoodIn wsX4_wordOfTick wsX4_wordAt := goodIn_r _ [14, 1, 15, 8, 9, 10, 16, 17, 18] (by decide +kernel) (by decide +kernel)
set_option maxRecDepth 20000 in
theorem gX4_wordOfTick_X4_wordAt : GoodIn wsX4_wordOfTick (wsV RX4 30 RX4 yX4_wordAt wsX4_wordAt) := goodIn_app (goodIn_of _ (by decide +kernel)) ggX4_wordOfTick_X4_wordAt
theorem dX4_wordOfTick_0 : decode cX4_wordOfTick 0 = .ok (.aload_n 0, 1) := by decide +kernel
theorem dX4_wordOfTick_1 : decode cX4_wordOfTick 1 = .ok (.getfield 18, 3) := by decide +kernel
theorem dX4_wordOfTick_4 : decode cX4_wordOfTick 4 = .ok (.ifCond .le 30, 3) := by decide +kernel
theorem dX4_wordOfTick_7 : decode cX4_wordOfTick 7 = .ok (.aload_n 0, 1) := by decide +kernel
theorem dX4_wordOfTick_8 : decode cX4_wordOfTick 8 = .ok (.aload_n 0, 1) := by decide +kernel
theorem dX4_wordOfTick_9 : decode cX4_wordOfTick 9 = .ok (.getfield 18, 3) := by decide +kernel
theorem dX4_wordOfTick_12 : decode cX4_wordOfTick 12 = .ok (.iconst 1, 1) := by decide +kernel
theorem dX4_wordOfTick_13 : decode cX4_wordOfTick 13 = .ok (.isub, 1) := by decide +kernel
theorem dX4_wordOfTick_14 : decode cX4_wordOfTick 14 = .ok (.invokevirtual 26, 3) := by decide +kernel
theorem dX4_wordOfTick_17 : decode cX4_wordOfTick 17 = .ok (.iload_n 1, 1) := by decide +kernel
theorem dX4_wordOfTick_18 : decode cX4_wordOfTick 18 = .ok (.if_icmp .ne 16, 3) := by decide +kernel
theorem dX4_wordOfTick_21 : decode cX4_wordOfTick 21 = .ok (.aload_n 0, 1) := by decide +kernel
theorem dX4_wordOfTick_22 : decode cX4_wordOfTick 22 = .ok (.aload_n 0, 1) := by decide +kernel
theorem dX4_wordOfTick_23 : decode cX4_wordOfTick 23 = .ok (.getfield 18, 3) := by decide +kernel
theorem dX4_wordOfTick_26 : decode cX4_wordOfTick 26 = .ok (.iconst 1, 1) := by decide +kernel
theorem dX4_wordOfTick_27 : decode cX4_wordOfTick 27 = .ok (.isub, 1) := by decide +kernel
theorem dX4_wordOfTick_28 : decode cX4_wordOfTick 28 = .ok (.invokevirtual 30, 3) := by decide +kernel
theorem dX4_wordOfTick_31 : decode cX4_wordOfTick 31 = .ok (.goto 4, 3) := by decide +kernel
theorem dX4_wordOfTick_34 : decode cX4_wordOfTick 34 = .ok (.iconst (-1), 1) := by decide +kernel
theorem dX4_wordOfTick_35 : decode cX4_wordOfTick 35 = .ok (.ireturn, 1) := by decide +kernel
set_option maxRecDepth 20000 in
theorem ggX4_mixInto_X4_wordAt : GoodIn wsX4_mixInto wsX4_wordAt := goodIn_r _ [7, 1, 8, 9, 10, 11, 17, 18, 19] (by decide +kernel) (by decide +kernel)
set_option maxRecDepth 20000 in
theorem gX4_mixInto_X4_wordAt : GoodIn wsX4_mixInto (wsV RX4 30 RX4 yX4_wordAt wsX4_wordAt) := goodIn_app (goodIn_of _ (by decide +kernel)) ggX4_mixInto_X4_wordAt
set_option maxRecDepth 20000 in
theorem ggX4_mixInto_X4_tickAt : GoodIn wsX4_mixInto wsX4_tickAt := goodIn_r _ [15, 1, 16, 9, 10, 11, 17, 18, 19] (by decide +kernel) (by decide +kernel)
set_option maxRecDepth 20000 in
theorem gX4_mixInto_X4_tickAt : GoodIn wsX4_mixInto (wsV RX4 26 RX4 yX4_tickAt wsX4_tickAt) := goodIn_app (goodIn_of _ (by decide +kernel)) ggX4_mixInto_X4_tickAt
theorem dX4_mixInto_0 : decode cX4_mixInto 0 = .ok (.lload_n 1, 1) := by decide +kernel
theorem dX4_mixInto_1 : decode cX4_mixInto 1 = .ok (.lstore_n 3, 1) := by decide +kernel
theorem dX4_mixInto_2 : decode cX4_mixInto 2 = .ok (.iconst 0, 1) := by decide +kernel
theorem dX4_mixInto_3 : decode cX4_mixInto 3 = .ok (.istore 5, 2) := by decide +kernel
theorem dX4_mixInto_5 : decode cX4_mixInto 5 = .ok (.iload 5, 2) := by decide +kernel
theorem dX4_mixInto_7 : decode cX4_mixInto 7 = .ok (.aload_n 0, 1) := by decide +kernel
theorem dX4_mixInto_8 : decode cX4_mixInto 8 = .ok (.getfield 18, 3) := by decide +kernel
theorem dX4_mixInto_11 : decode cX4_mixInto 11 = .ok (.if_icmp .ge 37, 3) := by decide +kernel
theorem dX4_mixInto_14 : decode cX4_mixInto 14 = .ok (.lload_n 3, 1) := by decide +kernel
theorem dX4_mixInto_15 : decode cX4_mixInto 15 = .ok (.ldc2_w 33, 3) := by decide +kernel
theorem dX4_mixInto_18 : decode cX4_mixInto 18 = .ok (.lmul, 1) := by decide +kernel
theorem dX4_mixInto_19 : decode cX4_mixInto 19 = .ok (.aload_n 0, 1) := by decide +kernel
theorem dX4_mixInto_20 : decode cX4_mixInto 20 = .ok (.iload 5, 2) := by decide +kernel
theorem dX4_mixInto_22 : decode cX4_mixInto 22 = .ok (.invokevirtual 30, 3) := by decide +kernel
theorem dX4_mixInto_25 : decode cX4_mixInto 25 = .ok (.i2l, 1) := by decide +kernel
theorem dX4_mixInto_26 : decode cX4_mixInto 26 = .ok (.ladd, 1) := by decide +kernel
theorem dX4_mixInto_27 : decode cX4_mixInto 27 = .ok (.lstore_n 3, 1) := by decide +kernel
theorem dX4_mixInto_28 : decode cX4_mixInto 28 = .ok (.lload_n 3, 1) := by decide +kernel
theorem dX4_mixInto_29 : decode cX4_mixInto 29 = .ok (.ldc2_w 33, 3) := by decide +kernel
theorem dX4_mixInto_32 : decode cX4_mixInto 32 = .ok (.lmul, 1) := by decide +kernel
theorem dX4_mixInto_33 : decode cX4_mixInto 33 = .ok (.aload_n 0, 1) := by decide +kernel
theorem dX4_mixInto_34 : decode cX4_mixInto 34 = .ok (.iload 5, 2) := by decide +kernel
theorem dX4_mixInto_36 : decode cX4_mixInto 36 = .ok (.invokevirtual 26, 3) := by decide +kernel
theorem dX4_mixInto_39 : decode cX4_mixInto 39 = .ok (.i2l, 1) := by decide +kernel
theorem dX4_mixInto_40 : decode cX4_mixInto 40 = .ok (.ladd, 1) := by decide +kernel
theorem dX4_mixInto_41 : decode cX4_mixInto 41 = .ok (.lstore_n 3, 1) := by decide +kernel
theorem dX4_mixInto_42 : decode cX4_mixInto 42 = .ok (.iinc 5 1, 3) := by decide +kernel
theorem dX4_mixInto_45 : decode cX4_mixInto 45 = .ok (.goto (-40), 3) := by decide +kernel
theorem dX4_mixInto_48 : decode cX4_mixInto 48 = .ok (.lload_n 3, 1) := by decide +kernel
theorem dX4_mixInto_49 : decode cX4_mixInto 49 = .ok (.lreturn, 1) := by decide +kernel
theorem dX4_copyFrom_0 : decode cX4_copyFrom 0 = .ok (.aload_n 0, 1) := by decide +kernel
theorem dX4_copyFrom_1 : decode cX4_copyFrom 1 = .ok (.aload_n 1, 1) := by decide +kernel
theorem dX4_copyFrom_2 : decode cX4_copyFrom 2 = .ok (.getfield 18, 3) := by decide +kernel
theorem dX4_copyFrom_5 : decode cX4_copyFrom 5 = .ok (.sipush 400, 3) := by decide +kernel
theorem dX4_copyFrom_8 : decode cX4_copyFrom 8 = .ok (.invokestatic 35, 3) := by decide +kernel
theorem dX4_copyFrom_11 : decode cX4_copyFrom 11 = .ok (.putfield 18, 3) := by decide +kernel
theorem dX4_copyFrom_14 : decode cX4_copyFrom 14 = .ok (.aload_n 1, 1) := by decide +kernel
theorem dX4_copyFrom_15 : decode cX4_copyFrom 15 = .ok (.getfield 9, 3) := by decide +kernel
theorem dX4_copyFrom_18 : decode cX4_copyFrom 18 = .ok (.iconst 0, 1) := by decide +kernel
theorem dX4_copyFrom_19 : decode cX4_copyFrom 19 = .ok (.aload_n 0, 1) := by decide +kernel
theorem dX4_copyFrom_20 : decode cX4_copyFrom 20 = .ok (.getfield 9, 3) := by decide +kernel
theorem dX4_copyFrom_23 : decode cX4_copyFrom 23 = .ok (.iconst 0, 1) := by decide +kernel
theorem dX4_copyFrom_24 : decode cX4_copyFrom 24 = .ok (.aload_n 0, 1) := by decide +kernel
theorem dX4_copyFrom_25 : decode cX4_copyFrom 25 = .ok (.getfield 18, 3) := by decide +kernel
theorem dX4_copyFrom_28 : decode cX4_copyFrom 28 = .ok (.invokestatic 41, 3) := by decide +kernel
theorem dX4_copyFrom_31 : decode cX4_copyFrom 31 = .ok (.aload_n 1, 1) := by decide +kernel
theorem dX4_copyFrom_32 : decode cX4_copyFrom 32 = .ok (.getfield 15, 3) := by decide +kernel
theorem dX4_copyFrom_35 : decode cX4_copyFrom 35 = .ok (.iconst 0, 1) := by decide +kernel
theorem dX4_copyFrom_36 : decode cX4_copyFrom 36 = .ok (.aload_n 0, 1) := by decide +kernel
theorem dX4_copyFrom_37 : decode cX4_copyFrom 37 = .ok (.getfield 15, 3) := by decide +kernel
theorem dX4_copyFrom_40 : decode cX4_copyFrom 40 = .ok (.iconst 0, 1) := by decide +kernel
theorem dX4_copyFrom_41 : decode cX4_copyFrom 41 = .ok (.aload_n 0, 1) := by decide +kernel
theorem dX4_copyFrom_42 : decode cX4_copyFrom 42 = .ok (.getfield 18, 3) := by decide +kernel
theorem dX4_copyFrom_45 : decode cX4_copyFrom 45 = .ok (.invokestatic 41, 3) := by decide +kernel
theorem dX4_copyFrom_48 : decode cX4_copyFrom 48 = .ok (.return_, 1) := by decide +kernel
set_option maxRecDepth 20000 in
theorem ggX5_init_X3_init : GoodIn wsX5_init wsX3_init := goodIn_r _ [23, 24, 2, 3, 25, 26, 48, 49] (by decide +kernel) (by decide +kernel)
set_option maxRecDepth 20000 in
theorem gX5_init_X3_init : GoodIn wsX5_init (wsX3_init) := ggX5_init_X3_init
set_option maxRecDepth 20000 in
theorem ggX5_init_X4_init : GoodIn wsX5_init wsX4_init := goodIn_r _ [28, 29, 2, 3, 25, 30, 31, 59, 60, 61] (by decide +kernel) (by decide +kernel)
set_option maxRecDepth 20000 in
theorem gX5_init_X4_init_n22 : GoodIn wsX5_init (wsX4_init) := ggX5_init_X4_init
set_option maxRecDepth 20000 in
theorem ggX5_init_X0_init : GoodIn wsX5_init wsX0_init := goodIn_r _ [33, 34, 2, 3, 35, 5, 6, 36, 37, 38, 9, 10, 39, 40, 41, 42, 43, 22, 23, 24, 25, 26, 27, 28, 29, 30, 31, 48, 49, 62, 63, 64, 65, 66, 67, 68, 69, 70, 71, 59, 60, 61] (by decide +kernel) (by decide +kernel)
set_option maxRecDepth 20000 in
theorem gX5_init_X0_init_n43 : GoodIn wsX5_init (wsX0_init) := ggX5_init_X0_init
set_option maxRecDepth 20000 in
theorem ggX5_init_X2_init : GoodIn wsX5_init wsX2_init := goodIn_r _ [45, 46, 2, 3, 47, 72, 73, 74, 75, 76, 77, 78] (by decide +kernel) (by decide +kernel)
set_option maxRecDepth 20000 in
theorem gX5_init_X2_init_n44 : GoodIn wsX5_init (wsX2_init) := ggX5_init_X2_init
theorem dX5_init_0 : decode cX5_init 0 = .ok (.aload_n 0, 1) := by decide +kernel
theorem dX5_init_1 : decode cX5_init 1 = .ok (.invokespecial 3, 3) := by decide +kernel
theorem dX5_init_4 : decode cX5_init 4 = .ok (.aload_n 0, 1) := by decide +kernel
theorem dX5_init_5 : decode cX5_init 5 = .ok (.new 9, 3) := by decide +kernel
theorem dX5_init_8 : decode cX5_init 8 = .ok (.dup, 1) := by decide +kernel
theorem dX5_init_9 : decode cX5_init 9 = .ok (.bipush 120, 2) := by decide +kernel
theorem dX5_init_11 : decode cX5_init 11 = .ok (.invokespecial 11, 3) := by decide +kernel
theorem dX5_init_14 : decode cX5_init 14 = .ok (.putfield 14, 3) := by decide +kernel
theorem dX5_init_17 : decode cX5_init 17 = .ok (.aload_n 0, 1) := by decide +kernel
theorem dX5_init_18 : decode cX5_init 18 = .ok (.new 20, 3) := by decide +kernel
theorem dX5_init_21 : decode cX5_init 21 = .ok (.dup, 1) := by decide +kernel
theorem dX5_init_22 : decode cX5_init 22 = .ok (.invokespecial 22, 3) := by decide +kernel
theorem dX5_init_25 : decode cX5_init 25 = .ok (.putfield 23, 3) := by decide +kernel
theorem dX5_init_28 : decode cX5_init 28 = .ok (.aload_n 0, 1) := by decide +kernel
theorem dX5_init_29 : decode cX5_init 29 = .ok (.bipush 6, 2) := by decide +kernel
theorem dX5_init_31 : decode cX5_init 31 = .ok (.anewarray 27, 3) := by decide +kernel
theorem dX5_init_34 : decode cX5_init 34 = .ok (.putfield 29, 3) := by decide +kernel
theorem dX5_init_37 : decode cX5_init 37 = .ok (.aload_n 0, 1) := by decide +kernel
theorem dX5_init_38 : decode cX5_init 38 = .ok (.bipush 8, 2) := by decide +kernel
theorem dX5_init_40 : decode cX5_init 40 = .ok (.anewarray 33, 3) := by decide +kernel
theorem dX5_init_43 : decode cX5_init 43 = .ok (.putfield 35, 3) := by decide +kernel
theorem dX5_init_46 : decode cX5_init 46 = .ok (.aload_n 0, 1) := by decide +kernel
theorem dX5_init_47 : decode cX5_init 47 = .ok (.aload_n 1, 1) := by decide +kernel
theorem dX5_init_48 : decode cX5_init 48 = .ok (.putfield 39, 3) := by decide +kernel
theorem dX5_init_51 : decode cX5_init 51 = .ok (.iconst 0, 1) := by decide +kernel
theorem dX5_init_52 : decode cX5_init 52 = .ok (.istore_n 2, 1) := by decide +kernel
theorem dX5_init_53 : decode cX5_init 53 = .ok (.iload_n 2, 1) := by decide +kernel
theorem dX5_init_54 : decode cX5_init 54 = .ok (.bipush 6, 2) := by decide +kernel
theorem dX5_init_56 : decode cX5_init 56 = .ok (.if_icmp .ge 22, 3) := by decide +kernel
theorem dX5_init_59 : decode cX5_init 59 = .ok (.aload_n 0, 1) := by decide +kernel
theorem dX5_init_60 : decode cX5_init 60 = .ok (.getfield 29, 3) := by decide +kernel
theorem dX5_init_63 : decode cX5_init 63 = .ok (.iload_n 2, 1) := by decide +kernel
theorem dX5_init_64 : decode cX5_init 64 = .ok (.new 27, 3) := by decide +kernel
theorem dX5_init_67 : decode cX5_init 67 = .ok (.dup, 1) := by decide +kernel
theorem dX5_init_68 : decode cX5_init 68 = .ok (.invokespecial 43, 3) := by decide +kernel
theorem dX5_init_71 : decode cX5_init 71 = .ok (.aastore, 1) := by decide +kernel
theorem dX5_init_72 : decode cX5_init 72 = .ok (.iinc 2 1, 3) := by decide +kernel
theorem dX5_init_75 : decode cX5_init 75 = .ok (.goto (-22), 3) := by decide +kernel
theorem dX5_init_78 : decode cX5_init 78 = .ok (.iconst 0, 1) := by decide +kernel
theorem dX5_init_79 : decode cX5_init 79 = .ok (.istore_n 2, 1) := by decide +kernel
theorem dX5_init_80 : decode cX5_init 80 = .ok (.iload_n 2, 1) := by decide +kernel
theorem dX5_init_81 : decode cX5_init 81 = .ok (.bipush 8, 2) := by decide +kernel
theorem dX5_init_83 : decode cX5_init 83 = .ok (.if_icmp .ge 22, 3) := by decide +kernel
theorem dX5_init_86 : decode cX5_init 86 = .ok (.aload_n 0, 1) := by decide +kernel
theorem dX5_init_87 : decode cX5_init 87 = .ok (.getfield 35, 3) := by decide +kernel
theorem dX5_init_90 : decode cX5_init 90 = .ok (.iload_n 2, 1) := by decide +kernel
theorem dX5_init_91 : decode cX5_init 91 = .ok (.new 33, 3) := by decide +kernel
theorem dX5_init_94 : decode cX5_init 94 = .ok (.dup, 1) := by decide +kernel
theorem dX5_init_95 : decode cX5_init 95 = .ok (.invokespecial 44, 3) := by decide +kernel
theorem dX5_init_98 : decode cX5_init 98 = .ok (.aastore, 1) := by decide +kernel
theorem dX5_init_99 : decode cX5_init 99 = .ok (.iinc 2 1, 3) := by decide +kernel
theorem dX5_init_102 : decode cX5_init 102 = .ok (.goto (-22), 3) := by decide +kernel
theorem dX5_init_105 : decode cX5_init 105 = .ok (.return_, 1) := by decide +kernel
theorem dX5_hasBooth_0 : decode cX5_hasBooth 0 = .ok (.iload_n 1, 1) := by decide +kernel
theorem dX5_hasBooth_1 : decode cX5_hasBooth 1 = .ok (.ifCond .lt 15, 3) := by decide +kernel
theorem dX5_hasBooth_4 : decode cX5_hasBooth 4 = .ok (.iload_n 1, 1) := by decide +kernel
theorem dX5_hasBooth_5 : decode cX5_hasBooth 5 = .ok (.aload_n 0, 1) := by decide +kernel
theorem dX5_hasBooth_6 : decode cX5_hasBooth 6 = .ok (.getfield 45, 3) := by decide +kernel
theorem dX5_hasBooth_9 : decode cX5_hasBooth 9 = .ok (.if_icmp .ge 7, 3) := by decide +kernel
theorem dX5_hasBooth_12 : decode cX5_hasBooth 12 = .ok (.iconst 1, 1) := by decide +kernel
theorem dX5_hasBooth_13 : decode cX5_hasBooth 13 = .ok (.goto 4, 3) := by decide +kernel
theorem dX5_hasBooth_16 : decode cX5_hasBooth 16 = .ok (.iconst 0, 1) := by decide +kernel
theorem dX5_hasBooth_17 : decode cX5_hasBooth 17 = .ok (.ireturn, 1) := by decide +kernel
theorem dX5_hasInterpreter_0 : decode cX5_hasInterpreter 0 = .ok (.iload_n 1, 1) := by decide +kernel
theorem dX5_hasInterpreter_1 : decode cX5_hasInterpreter 1 = .ok (.ifCond .lt 15, 3) := by decide +kernel
theorem dX5_hasInterpreter_4 : decode cX5_hasInterpreter 4 = .ok (.iload_n 1, 1) := by decide +kernel
theorem dX5_hasInterpreter_5 : decode cX5_hasInterpreter 5 = .ok (.aload_n 0, 1) := by decide +kernel
theorem dX5_hasInterpreter_6 : decode cX5_hasInterpreter 6 = .ok (.getfield 49, 3) := by decide +kernel
theorem dX5_hasInterpreter_9 : decode cX5_hasInterpreter 9 = .ok (.if_icmp .ge 7, 3) := by decide +kernel
theorem dX5_hasInterpreter_12 : decode cX5_hasInterpreter 12 = .ok (.iconst 1, 1) := by decide +kernel
theorem dX5_hasInterpreter_13 : decode cX5_hasInterpreter 13 = .ok (.goto 4, 3) := by decide +kernel
theorem dX5_hasInterpreter_16 : decode cX5_hasInterpreter 16 = .ok (.iconst 0, 1) := by decide +kernel
theorem dX5_hasInterpreter_17 : decode cX5_hasInterpreter 17 = .ok (.ireturn, 1) := by decide +kernel
set_option maxRecDepth 20000 in
theorem ggX5_speechOf_X5_hasBooth : GoodIn wsX5_speechOf wsX5_hasBooth := goodIn_r _ [8, 9, 10, 11, 12, 13, 14, 15, 16, 17, 18] (by decide +kernel) (by decide +kernel)
set_option maxRecDepth 20000 in
theorem gX5_speechOf_X5_hasBooth : GoodIn wsX5_speechOf (wsV RX5 52 RX5 yX5_hasBooth wsX5_hasBooth) := goodIn_app (goodIn_of _ (by decide +kernel)) ggX5_speechOf_X5_hasBooth
theorem dX5_speechOf_0 : decode cX5_speechOf 0 = .ok (.aload_n 0, 1) := by decide +kernel
theorem dX5_speechOf_1 : decode cX5_speechOf 1 = .ok (.iload_n 1, 1) := by decide +kernel
theorem dX5_speechOf_2 : decode cX5_speechOf 2 = .ok (.invokevirtual 52, 3) := by decide +kernel
theorem dX5_speechOf_5 : decode cX5_speechOf 5 = .ok (.ifCond .eq 15, 3) := by decide +kernel
theorem dX5_speechOf_8 : decode cX5_speechOf 8 = .ok (.aload_n 0, 1) := by decide +kernel
theorem dX5_speechOf_9 : decode cX5_speechOf 9 = .ok (.getfield 29, 3) := by decide +kernel
theorem dX5_speechOf_12 : decode cX5_speechOf 12 = .ok (.iload_n 1, 1) := by decide +kernel
theorem dX5_speechOf_13 : decode cX5_speechOf 13 = .ok (.aaload, 1) := by decide +kernel
theorem dX5_speechOf_14 : decode cX5_speechOf 14 = .ok (.getfield 56, 3) := by decide +kernel
theorem dX5_speechOf_17 : decode cX5_speechOf 17 = .ok (.goto 7, 3) := by decide +kernel
theorem dX5_speechOf_20 : decode cX5_speechOf 20 = .ok (.aload_n 0, 1) := by decide +kernel
theorem dX5_speechOf_21 : decode cX5_speechOf 21 = .ok (.getfield 23, 3) := by decide +kernel
theorem dX5_speechOf_24 : decode cX5_speechOf 24 = .ok (.areturn, 1) := by decide +kernel
set_option maxRecDepth 20000 in
theorem ggX5_languageOf_X5_hasBooth : GoodIn wsX5_languageOf wsX5_hasBooth := goodIn_r _ [8, 9, 10, 11, 12, 13, 14, 15, 16, 17, 18] (by decide +kernel) (by decide +kernel)
set_option maxRecDepth 20000 in
theorem gX5_languageOf_X5_hasBooth : GoodIn wsX5_languageOf (wsV RX5 52 RX5 yX5_hasBooth wsX5_hasBooth) := goodIn_app (goodIn_of _ (by decide +kernel)) ggX5_languageOf_X5_hasBooth
theorem dX5_languageOf_0 : decode cX5_languageOf 0 = .ok (.aload_n 0, 1) := by decide +kernel
theorem dX5_languageOf_1 : decode cX5_languageOf 1 = .ok (.iload_n 1, 1) := by decide +kernel
theorem dX5_languageOf_2 : decode cX5_languageOf 2 = .ok (.invokevirtual 52, 3) := by decide +kernel
theorem dX5_languageOf_5 : decode cX5_languageOf 5 = .ok (.ifCond .eq 15, 3) := by decide +kernel
theorem dX5_languageOf_8 : decode cX5_languageOf 8 = .ok (.aload_n 0, 1) := by decide +kernel
theorem dX5_languageOf_9 : decode cX5_languageOf 9 = .ok (.getfield 29, 3) := by decide +kernel
theorem dX5_languageOf_12 : decode cX5_languageOf 12 = .ok (.iload_n 1, 1) := by decide +kernel
theorem dX5_languageOf_13 : decode cX5_languageOf 13 = .ok (.aaload, 1) := by decide +kernel
theorem dX5_languageOf_14 : decode cX5_languageOf 14 = .ok (.getfield 59, 3) := by decide +kernel
theorem dX5_languageOf_17 : decode cX5_languageOf 17 = .ok (.goto 7, 3) := by decide +kernel
theorem dX5_languageOf_20 : decode cX5_languageOf 20 = .ok (.aload_n 0, 1) := by decide +kernel
theorem dX5_languageOf_21 : decode cX5_languageOf 21 = .ok (.getfield 62, 3) := by decide +kernel
theorem dX5_languageOf_24 : decode cX5_languageOf 24 = .ok (.ireturn, 1) := by decide +kernel
set_option maxRecDepth 20000 in
theorem ggX5_isAble_X5_hasInterpreter : GoodIn wsX5_isAble wsX5_hasInterpreter := goodIn_r _ [10, 11, 28, 29, 30, 31, 32, 33, 34, 35, 36] (by decide +kernel) (by decide +kernel)
set_option maxRecDepth 20000 in
theorem gX5_isAble_X5_hasInterpreter : GoodIn wsX5_isAble (wsV RX5 68 RX5 yX5_hasInterpreter wsX5_hasInterpreter) := goodIn_app (goodIn_of _ (by decide +kernel)) ggX5_isAble_X5_hasInterpreter
set_option maxRecDepth 20000 in
theorem ggX5_isAble_X2_speaks : GoodIn wsX5_isAble wsX2_speaks := goodIn_r _ [16, 17, 47, 48, 49, 50, 51, 52, 53] (by decide +kernel) (by decide +kernel)
set_option maxRecDepth 20000 in
theorem gX5_isAble_X2_speaks : GoodIn wsX5_isAble (wsV RX5 71 RX2 yX2_speaks wsX2_speaks) := goodIn_app (goodIn_of _ (by decide +kernel)) ggX5_isAble_X2_speaks
set_option maxRecDepth 20000 in
theorem ggX5_isAble_X5_languageOf : GoodIn wsX5_isAble wsX5_languageOf := goodIn_r _ [21, 1, 4, 22, 23, 24, 25, 9, 26, 27, 28, 29, 30, 31, 32, 33, 34, 35, 36, 37, 38, 39, 40, 41, 42, 43, 44, 45, 46] (by decide +kernel) (by decide +kernel)
set_option maxRecDepth 20000 in
theorem gX5_isAble_X5_languageOf : GoodIn wsX5_isAble (wsV RX5 77 RX5 yX5_languageOf wsX5_languageOf) := goodIn_app (goodIn_of _ (by decide +kernel)) ggX5_isAble_X5_languageOf
theorem dX5_isAble_0 : decode cX5_isAble 0 = .ok (.aload_n 0, 1) := by decide +kernel
theorem dX5_isAble_1 : decode cX5_isAble 1 = .ok (.getfield 29, 3) := by decide +kernel
theorem dX5_isAble_4 : decode cX5_isAble 4 = .ok (.iload_n 1, 1) := by decide +kernel
theorem dX5_isAble_5 : decode cX5_isAble 5 = .ok (.aaload, 1) := by decide +kernel
theorem dX5_isAble_6 : decode cX5_isAble 6 = .ok (.astore_n 2, 1) := by decide +kernel
theorem dX5_isAble_7 : decode cX5_isAble 7 = .ok (.aload_n 0, 1) := by decide +kernel
theorem dX5_isAble_8 : decode cX5_isAble 8 = .ok (.aload_n 2, 1) := by decide +kernel
theorem dX5_isAble_9 : decode cX5_isAble 9 = .ok (.getfield 65, 3) := by decide +kernel
theorem dX5_isAble_12 : decode cX5_isAble 12 = .ok (.invokevirtual 68, 3) := by decide +kernel
theorem dX5_isAble_15 : decode cX5_isAble 15 = .ok (.ifCond .ne 5, 3) := by decide +kernel
theorem dX5_isAble_18 : decode cX5_isAble 18 = .ok (.iconst 0, 1) := by decide +kernel
theorem dX5_isAble_19 : decode cX5_isAble 19 = .ok (.ireturn, 1) := by decide +kernel
theorem dX5_isAble_20 : decode cX5_isAble 20 = .ok (.aload_n 0, 1) := by decide +kernel
theorem dX5_isAble_21 : decode cX5_isAble 21 = .ok (.getfield 35, 3) := by decide +kernel
theorem dX5_isAble_24 : decode cX5_isAble 24 = .ok (.aload_n 2, 1) := by decide +kernel
theorem dX5_isAble_25 : decode cX5_isAble 25 = .ok (.getfield 65, 3) := by decide +kernel
theorem dX5_isAble_28 : decode cX5_isAble 28 = .ok (.aaload, 1) := by decide +kernel
theorem dX5_isAble_29 : decode cX5_isAble 29 = .ok (.astore_n 3, 1) := by decide +kernel
theorem dX5_isAble_30 : decode cX5_isAble 30 = .ok (.aload_n 3, 1) := by decide +kernel
theorem dX5_isAble_31 : decode cX5_isAble 31 = .ok (.aload_n 2, 1) := by decide +kernel
theorem dX5_isAble_32 : decode cX5_isAble 32 = .ok (.getfield 59, 3) := by decide +kernel
theorem dX5_isAble_35 : decode cX5_isAble 35 = .ok (.invokevirtual 71, 3) := by decide +kernel
theorem dX5_isAble_38 : decode cX5_isAble 38 = .ok (.ifCond .eq 22, 3) := by decide +kernel
theorem dX5_isAble_41 : decode cX5_isAble 41 = .ok (.aload_n 3, 1) := by decide +kernel
theorem dX5_isAble_42 : decode cX5_isAble 42 = .ok (.aload_n 0, 1) := by decide +kernel
theorem dX5_isAble_43 : decode cX5_isAble 43 = .ok (.aload_n 2, 1) := by decide +kernel
theorem dX5_isAble_44 : decode cX5_isAble 44 = .ok (.getfield 74, 3) := by decide +kernel
theorem dX5_isAble_47 : decode cX5_isAble 47 = .ok (.invokevirtual 77, 3) := by decide +kernel
theorem dX5_isAble_50 : decode cX5_isAble 50 = .ok (.invokevirtual 71, 3) := by decide +kernel
theorem dX5_isAble_53 : decode cX5_isAble 53 = .ok (.ifCond .eq 7, 3) := by decide +kernel
theorem dX5_isAble_56 : decode cX5_isAble 56 = .ok (.iconst 1, 1) := by decide +kernel
theorem dX5_isAble_57 : decode cX5_isAble 57 = .ok (.goto 4, 3) := by decide +kernel
theorem dX5_isAble_60 : decode cX5_isAble 60 = .ok (.iconst 0, 1) := by decide +kernel
theorem dX5_isAble_61 : decode cX5_isAble 61 = .ok (.ireturn, 1) := by decide +kernel
theorem dX5_enrol_0 : decode cX5_enrol 0 = .ok (.aload_n 0, 1) := by decide +kernel
theorem dX5_enrol_1 : decode cX5_enrol 1 = .ok (.getfield 49, 3) := by decide +kernel
theorem dX5_enrol_4 : decode cX5_enrol 4 = .ok (.bipush 8, 2) := by decide +kernel
theorem dX5_enrol_6 : decode cX5_enrol 6 = .ok (.if_icmp .lt 5, 3) := by decide +kernel
theorem dX5_enrol_9 : decode cX5_enrol 9 = .ok (.iconst (-1), 1) := by decide +kernel
theorem dX5_enrol_10 : decode cX5_enrol 10 = .ok (.ireturn, 1) := by decide +kernel
theorem dX5_enrol_11 : decode cX5_enrol 11 = .ok (.aload_n 0, 1) := by decide +kernel
theorem dX5_enrol_12 : decode cX5_enrol 12 = .ok (.getfield 35, 3) := by decide +kernel
theorem dX5_enrol_15 : decode cX5_enrol 15 = .ok (.aload_n 0, 1) := by decide +kernel
theorem dX5_enrol_16 : decode cX5_enrol 16 = .ok (.getfield 49, 3) := by decide +kernel
theorem dX5_enrol_19 : decode cX5_enrol 19 = .ok (.aaload, 1) := by decide +kernel
theorem dX5_enrol_20 : decode cX5_enrol 20 = .ok (.iload_n 1, 1) := by decide +kernel
theorem dX5_enrol_21 : decode cX5_enrol 21 = .ok (.putfield 81, 3) := by decide +kernel
theorem dX5_enrol_24 : decode cX5_enrol 24 = .ok (.aload_n 0, 1) := by decide +kernel
theorem dX5_enrol_25 : decode cX5_enrol 25 = .ok (.getfield 35, 3) := by decide +kernel
theorem dX5_enrol_28 : decode cX5_enrol 28 = .ok (.aload_n 0, 1) := by decide +kernel
theorem dX5_enrol_29 : decode cX5_enrol 29 = .ok (.getfield 49, 3) := by decide +kernel
theorem dX5_enrol_32 : decode cX5_enrol 32 = .ok (.aaload, 1) := by decide +kernel
theorem dX5_enrol_33 : decode cX5_enrol 33 = .ok (.iload_n 2, 1) := by decide +kernel
theorem dX5_enrol_34 : decode cX5_enrol 34 = .ok (.putfield 84, 3) := by decide +kernel
theorem dX5_enrol_37 : decode cX5_enrol 37 = .ok (.aload_n 0, 1) := by decide +kernel
theorem dX5_enrol_38 : decode cX5_enrol 38 = .ok (.dup, 1) := by decide +kernel
theorem dX5_enrol_39 : decode cX5_enrol 39 = .ok (.getfield 49, 3) := by decide +kernel
theorem dX5_enrol_42 : decode cX5_enrol 42 = .ok (.iconst 1, 1) := by decide +kernel
theorem dX5_enrol_43 : decode cX5_enrol 43 = .ok (.iadd, 1) := by decide +kernel
theorem dX5_enrol_44 : decode cX5_enrol 44 = .ok (.putfield 49, 3) := by decide +kernel
theorem dX5_enrol_47 : decode cX5_enrol 47 = .ok (.aload_n 0, 1) := by decide +kernel
theorem dX5_enrol_48 : decode cX5_enrol 48 = .ok (.getfield 49, 3) := by decide +kernel
theorem dX5_enrol_51 : decode cX5_enrol 51 = .ok (.iconst 1, 1) := by decide +kernel
theorem dX5_enrol_52 : decode cX5_enrol 52 = .ok (.isub, 1) := by decide +kernel
theorem dX5_enrol_53 : decode cX5_enrol 53 = .ok (.ireturn, 1) := by decide +kernel
theorem dX5_build_0 : decode cX5_build 0 = .ok (.aload_n 0, 1) := by decide +kernel
theorem dX5_build_1 : decode cX5_build 1 = .ok (.getfield 45, 3) := by decide +kernel
theorem dX5_build_4 : decode cX5_build 4 = .ok (.bipush 6, 2) := by decide +kernel
theorem dX5_build_6 : decode cX5_build 6 = .ok (.if_icmp .lt 5, 3) := by decide +kernel
theorem dX5_build_9 : decode cX5_build 9 = .ok (.iconst (-1), 1) := by decide +kernel
theorem dX5_build_10 : decode cX5_build 10 = .ok (.ireturn, 1) := by decide +kernel
theorem dX5_build_11 : decode cX5_build 11 = .ok (.aload_n 0, 1) := by decide +kernel
theorem dX5_build_12 : decode cX5_build 12 = .ok (.getfield 29, 3) := by decide +kernel
theorem dX5_build_15 : decode cX5_build 15 = .ok (.aload_n 0, 1) := by decide +kernel
theorem dX5_build_16 : decode cX5_build 16 = .ok (.getfield 45, 3) := by decide +kernel
theorem dX5_build_19 : decode cX5_build 19 = .ok (.aaload, 1) := by decide +kernel
theorem dX5_build_20 : decode cX5_build 20 = .ok (.iload_n 1, 1) := by decide +kernel
theorem dX5_build_21 : decode cX5_build 21 = .ok (.putfield 59, 3) := by decide +kernel
theorem dX5_build_24 : decode cX5_build 24 = .ok (.aload_n 0, 1) := by decide +kernel
theorem dX5_build_25 : decode cX5_build 25 = .ok (.getfield 29, 3) := by decide +kernel
theorem dX5_build_28 : decode cX5_build 28 = .ok (.aload_n 0, 1) := by decide +kernel
theorem dX5_build_29 : decode cX5_build 29 = .ok (.getfield 45, 3) := by decide +kernel
theorem dX5_build_32 : decode cX5_build 32 = .ok (.aaload, 1) := by decide +kernel
theorem dX5_build_33 : decode cX5_build 33 = .ok (.iload_n 2, 1) := by decide +kernel
theorem dX5_build_34 : decode cX5_build 34 = .ok (.putfield 87, 3) := by decide +kernel
theorem dX5_build_37 : decode cX5_build 37 = .ok (.aload_n 0, 1) := by decide +kernel
theorem dX5_build_38 : decode cX5_build 38 = .ok (.getfield 29, 3) := by decide +kernel
theorem dX5_build_41 : decode cX5_build 41 = .ok (.aload_n 0, 1) := by decide +kernel
theorem dX5_build_42 : decode cX5_build 42 = .ok (.getfield 45, 3) := by decide +kernel
theorem dX5_build_45 : decode cX5_build 45 = .ok (.aaload, 1) := by decide +kernel
theorem dX5_build_46 : decode cX5_build 46 = .ok (.iload_n 3, 1) := by decide +kernel
theorem dX5_build_47 : decode cX5_build 47 = .ok (.putfield 90, 3) := by decide +kernel
theorem dX5_build_50 : decode cX5_build 50 = .ok (.aload_n 0, 1) := by decide +kernel
theorem dX5_build_51 : decode cX5_build 51 = .ok (.dup, 1) := by decide +kernel
theorem dX5_build_52 : decode cX5_build 52 = .ok (.getfield 45, 3) := by decide +kernel
theorem dX5_build_55 : decode cX5_build 55 = .ok (.iconst 1, 1) := by decide +kernel
theorem dX5_build_56 : decode cX5_build 56 = .ok (.iadd, 1) := by decide +kernel
theorem dX5_build_57 : decode cX5_build 57 = .ok (.putfield 45, 3) := by decide +kernel
theorem dX5_build_60 : decode cX5_build 60 = .ok (.aload_n 0, 1) := by decide +kernel
theorem dX5_build_61 : decode cX5_build 61 = .ok (.getfield 45, 3) := by decide +kernel
theorem dX5_build_64 : decode cX5_build 64 = .ok (.iconst 1, 1) := by decide +kernel
theorem dX5_build_65 : decode cX5_build 65 = .ok (.isub, 1) := by decide +kernel
theorem dX5_build_66 : decode cX5_build 66 = .ok (.ireturn, 1) := by decide +kernel
set_option maxRecDepth 20000 in
theorem ggX5_seat_X5_hasInterpreter : GoodIn wsX5_seat wsX5_hasInterpreter := goodIn_r _ [9, 10, 16, 17, 18, 19, 20, 21, 22, 23, 24] (by decide +kernel) (by decide +kernel)
set_option maxRecDepth 20000 in
theorem gX5_seat_X5_hasInterpreter : GoodIn wsX5_seat (wsV RX5 68 RX5 yX5_hasInterpreter wsX5_hasInterpreter) := goodIn_app (goodIn_of _ (by decide +kernel)) ggX5_seat_X5_hasInterpreter
set_option maxRecDepth 20000 in
theorem ggX5_seat_X5_hasBooth : GoodIn wsX5_seat wsX5_hasBooth := goodIn_r _ [14, 15, 16, 17, 18, 19, 20, 21, 22, 23, 24] (by decide +kernel) (by decide +kernel)
set_option maxRecDepth 20000 in
theorem gX5_seat_X5_hasBooth : GoodIn wsX5_seat (wsV RX5 52 RX5 yX5_hasBooth wsX5_hasBooth) := goodIn_app (goodIn_of _ (by decide +kernel)) ggX5_seat_X5_hasBooth
theorem dX5_seat_0 : decode cX5_seat 0 = .ok (.aload_n 0, 1) := by decide +kernel
theorem dX5_seat_1 : decode cX5_seat 1 = .ok (.getfield 29, 3) := by decide +kernel
theorem dX5_seat_4 : decode cX5_seat 4 = .ok (.iload_n 1, 1) := by decide +kernel
theorem dX5_seat_5 : decode cX5_seat 5 = .ok (.aaload, 1) := by decide +kernel
theorem dX5_seat_6 : decode cX5_seat 6 = .ok (.getfield 65, 3) := by decide +kernel
theorem dX5_seat_9 : decode cX5_seat 9 = .ok (.istore_n 3, 1) := by decide +kernel
theorem dX5_seat_10 : decode cX5_seat 10 = .ok (.iload_n 3, 1) := by decide +kernel
theorem dX5_seat_11 : decode cX5_seat 11 = .ok (.iload_n 2, 1) := by decide +kernel
theorem dX5_seat_12 : decode cX5_seat 12 = .ok (.if_icmp .ne 5, 3) := by decide +kernel
theorem dX5_seat_15 : decode cX5_seat 15 = .ok (.iload_n 3, 1) := by decide +kernel
theorem dX5_seat_16 : decode cX5_seat 16 = .ok (.ireturn, 1) := by decide +kernel
theorem dX5_seat_17 : decode cX5_seat 17 = .ok (.aload_n 0, 1) := by decide +kernel
theorem dX5_seat_18 : decode cX5_seat 18 = .ok (.iload_n 3, 1) := by decide +kernel
theorem dX5_seat_19 : decode cX5_seat 19 = .ok (.invokevirtual 68, 3) := by decide +kernel
theorem dX5_seat_22 : decode cX5_seat 22 = .ok (.ifCond .eq 13, 3) := by decide +kernel
theorem dX5_seat_25 : decode cX5_seat 25 = .ok (.aload_n 0, 1) := by decide +kernel
theorem dX5_seat_26 : decode cX5_seat 26 = .ok (.getfield 35, 3) := by decide +kernel
theorem dX5_seat_29 : decode cX5_seat 29 = .ok (.iload_n 3, 1) := by decide +kernel
theorem dX5_seat_30 : decode cX5_seat 30 = .ok (.aaload, 1) := by decide +kernel
theorem dX5_seat_31 : decode cX5_seat 31 = .ok (.iconst (-1), 1) := by decide +kernel
theorem dX5_seat_32 : decode cX5_seat 32 = .ok (.putfield 93, 3) := by decide +kernel
theorem dX5_seat_35 : decode cX5_seat 35 = .ok (.aload_n 0, 1) := by decide +kernel
theorem dX5_seat_36 : decode cX5_seat 36 = .ok (.iload_n 2, 1) := by decide +kernel
theorem dX5_seat_37 : decode cX5_seat 37 = .ok (.invokevirtual 68, 3) := by decide +kernel
theorem dX5_seat_40 : decode cX5_seat 40 = .ok (.ifCond .eq 44, 3) := by decide +kernel
theorem dX5_seat_43 : decode cX5_seat 43 = .ok (.aload_n 0, 1) := by decide +kernel
theorem dX5_seat_44 : decode cX5_seat 44 = .ok (.getfield 35, 3) := by decide +kernel
theorem dX5_seat_47 : decode cX5_seat 47 = .ok (.iload_n 2, 1) := by decide +kernel
theorem dX5_seat_48 : decode cX5_seat 48 = .ok (.aaload, 1) := by decide +kernel
theorem dX5_seat_49 : decode cX5_seat 49 = .ok (.getfield 93, 3) := by decide +kernel
theorem dX5_seat_52 : decode cX5_seat 52 = .ok (.istore 4, 2) := by decide +kernel
theorem dX5_seat_54 : decode cX5_seat 54 = .ok (.aload_n 0, 1) := by decide +kernel
theorem dX5_seat_55 : decode cX5_seat 55 = .ok (.iload 4, 2) := by decide +kernel
theorem dX5_seat_57 : decode cX5_seat 57 = .ok (.invokevirtual 52, 3) := by decide +kernel
theorem dX5_seat_60 : decode cX5_seat 60 = .ok (.ifCond .eq 14, 3) := by decide +kernel
theorem dX5_seat_63 : decode cX5_seat 63 = .ok (.aload_n 0, 1) := by decide +kernel
theorem dX5_seat_64 : decode cX5_seat 64 = .ok (.getfield 29, 3) := by decide +kernel
theorem dX5_seat_67 : decode cX5_seat 67 = .ok (.iload 4, 2) := by decide +kernel
theorem dX5_seat_69 : decode cX5_seat 69 = .ok (.aaload, 1) := by decide +kernel
theorem dX5_seat_70 : decode cX5_seat 70 = .ok (.iconst (-1), 1) := by decide +kernel
theorem dX5_seat_71 : decode cX5_seat 71 = .ok (.putfield 65, 3) := by decide +kernel
theorem dX5_seat_74 : decode cX5_seat 74 = .ok (.aload_n 0, 1) := by decide +kernel
theorem dX5_seat_75 : decode cX5_seat 75 = .ok (.getfield 35, 3) := by decide +kernel
theorem dX5_seat_78 : decode cX5_seat 78 = .ok (.iload_n 2, 1) := by decide +kernel
theorem dX5_seat_79 : decode cX5_seat 79 = .ok (.aaload, 1) := by decide +kernel
theorem dX5_seat_80 : decode cX5_seat 80 = .ok (.iload_n 1, 1) := by decide +kernel
theorem dX5_seat_81 : decode cX5_seat 81 = .ok (.putfield 93, 3) := by decide +kernel
theorem dX5_seat_84 : decode cX5_seat 84 = .ok (.aload_n 0, 1) := by decide +kernel
theorem dX5_seat_85 : decode cX5_seat 85 = .ok (.getfield 29, 3) := by decide +kernel
theorem dX5_seat_88 : decode cX5_seat 88 = .ok (.iload_n 1, 1) := by decide +kernel
theorem dX5_seat_89 : decode cX5_seat 89 = .ok (.aaload, 1) := by decide +kernel
theorem dX5_seat_90 : decode cX5_seat 90 = .ok (.iload_n 2, 1) := by decide +kernel
theorem dX5_seat_91 : decode cX5_seat 91 = .ok (.putfield 65, 3) := by decide +kernel
theorem dX5_seat_94 : decode cX5_seat 94 = .ok (.iload_n 3, 1) := by decide +kernel
theorem dX5_seat_95 : decode cX5_seat 95 = .ok (.ireturn, 1) := by decide +kernel
set_option maxRecDepth 20000 in
theorem ggX5_chainLength_X5_hasBooth : GoodIn wsX5_chainLength wsX5_hasBooth := goodIn_r _ [7, 8, 9, 10, 11, 12, 13, 14, 15, 16, 17] (by decide +kernel) (by decide +kernel)
set_option maxRecDepth 20000 in
theorem gX5_chainLength_X5_hasBooth : GoodIn wsX5_chainLength (wsV RX5 52 RX5 yX5_hasBooth wsX5_hasBooth) := goodIn_app (goodIn_of _ (by decide +kernel)) ggX5_chainLength_X5_hasBooth
theorem dX5_chainLength_0 : decode cX5_chainLength 0 = .ok (.iconst 0, 1) := by decide +kernel
theorem dX5_chainLength_1 : decode cX5_chainLength 1 = .ok (.istore_n 2, 1) := by decide +kernel
theorem dX5_chainLength_2 : decode cX5_chainLength 2 = .ok (.iload_n 1, 1) := by decide +kernel
theorem dX5_chainLength_3 : decode cX5_chainLength 3 = .ok (.istore_n 3, 1) := by decide +kernel
theorem dX5_chainLength_4 : decode cX5_chainLength 4 = .ok (.aload_n 0, 1) := by decide +kernel
theorem dX5_chainLength_5 : decode cX5_chainLength 5 = .ok (.iload_n 3, 1) := by decide +kernel
theorem dX5_chainLength_6 : decode cX5_chainLength 6 = .ok (.invokevirtual 52, 3) := by decide +kernel
theorem dX5_chainLength_9 : decode cX5_chainLength 9 = .ok (.ifCond .eq 25, 3) := by decide +kernel
theorem dX5_chainLength_12 : decode cX5_chainLength 12 = .ok (.iload_n 2, 1) := by decide +kernel
theorem dX5_chainLength_13 : decode cX5_chainLength 13 = .ok (.bipush 6, 2) := by decide +kernel
theorem dX5_chainLength_15 : decode cX5_chainLength 15 = .ok (.if_icmp .ge 19, 3) := by decide +kernel
theorem dX5_chainLength_18 : decode cX5_chainLength 18 = .ok (.iinc 2 1, 3) := by decide +kernel
theorem dX5_chainLength_21 : decode cX5_chainLength 21 = .ok (.aload_n 0, 1) := by decide +kernel
theorem dX5_chainLength_22 : decode cX5_chainLength 22 = .ok (.getfield 29, 3) := by decide +kernel
theorem dX5_chainLength_25 : decode cX5_chainLength 25 = .ok (.iload_n 3, 1) := by decide +kernel
theorem dX5_chainLength_26 : decode cX5_chainLength 26 = .ok (.aaload, 1) := by decide +kernel
theorem dX5_chainLength_27 : decode cX5_chainLength 27 = .ok (.getfield 74, 3) := by decide +kernel
theorem dX5_chainLength_30 : decode cX5_chainLength 30 = .ok (.istore_n 3, 1) := by decide +kernel
theorem dX5_chainLength_31 : decode cX5_chainLength 31 = .ok (.goto (-27), 3) := by decide +kernel
theorem dX5_chainLength_34 : decode cX5_chainLength 34 = .ok (.iload_n 2, 1) := by decide +kernel
theorem dX5_chainLength_35 : decode cX5_chainLength 35 = .ok (.ireturn, 1) := by decide +kernel
set_option maxRecDepth 20000 in
theorem ggX5_comesBy_X5_hasBooth : GoodIn wsX5_comesBy wsX5_hasBooth := goodIn_r _ [7, 8, 9, 10, 11, 12, 13, 14, 15, 16, 17] (by decide +kernel) (by decide +kernel)
set_option maxRecDepth 20000 in
theorem gX5_comesBy_X5_hasBooth : GoodIn wsX5_comesBy (wsV RX5 52 RX5 yX5_hasBooth wsX5_hasBooth) := goodIn_app (goodIn_of _ (by decide +kernel)) ggX5_comesBy_X5_hasBooth
theorem dX5_comesBy_0 : decode cX5_comesBy 0 = .ok (.iload_n 1, 1) := by decide +kernel
theorem dX5_comesBy_1 : decode cX5_comesBy 1 = .ok (.istore_n 3, 1) := by decide +kernel
theorem dX5_comesBy_2 : decode cX5_comesBy 2 = .ok (.iconst 0, 1) := by decide +kernel
theorem dX5_comesBy_3 : decode cX5_comesBy 3 = .ok (.istore 4, 2) := by decide +kernel
theorem dX5_comesBy_5 : decode cX5_comesBy 5 = .ok (.aload_n 0, 1) := by decide +kernel
theorem dX5_comesBy_6 : decode cX5_comesBy 6 = .ok (.iload_n 3, 1) := by decide +kernel
theorem dX5_comesBy_7 : decode cX5_comesBy 7 = .ok (.invokevirtual 52, 3) := by decide +kernel
theorem dX5_comesBy_10 : decode cX5_comesBy 10 = .ok (.ifCond .eq 33, 3) := by decide +kernel
theorem dX5_comesBy_13 : decode cX5_comesBy 13 = .ok (.iload 4, 2) := by decide +kernel
theorem dX5_comesBy_15 : decode cX5_comesBy 15 = .ok (.bipush 6, 2) := by decide +kernel
theorem dX5_comesBy_17 : decode cX5_comesBy 17 = .ok (.if_icmp .ge 26, 3) := by decide +kernel
theorem dX5_comesBy_20 : decode cX5_comesBy 20 = .ok (.iload_n 3, 1) := by decide +kernel
theorem dX5_comesBy_21 : decode cX5_comesBy 21 = .ok (.iload_n 2, 1) := by decide +kernel
theorem dX5_comesBy_22 : decode cX5_comesBy 22 = .ok (.if_icmp .ne 5, 3) := by decide +kernel
theorem dX5_comesBy_25 : decode cX5_comesBy 25 = .ok (.iconst 1, 1) := by decide +kernel
theorem dX5_comesBy_26 : decode cX5_comesBy 26 = .ok (.ireturn, 1) := by decide +kernel
theorem dX5_comesBy_27 : decode cX5_comesBy 27 = .ok (.aload_n 0, 1) := by decide +kernel
theorem dX5_comesBy_28 : decode cX5_comesBy 28 = .ok (.getfield 29, 3) := by decide +kernel
theorem dX5_comesBy_31 : decode cX5_comesBy 31 = .ok (.iload_n 3, 1) := by decide +kernel
theorem dX5_comesBy_32 : decode cX5_comesBy 32 = .ok (.aaload, 1) := by decide +kernel
theorem dX5_comesBy_33 : decode cX5_comesBy 33 = .ok (.getfield 74, 3) := by decide +kernel
theorem dX5_comesBy_36 : decode cX5_comesBy 36 = .ok (.istore_n 3, 1) := by decide +kernel
theorem dX5_comesBy_37 : decode cX5_comesBy 37 = .ok (.iinc 4 1, 3) := by decide +kernel
theorem dX5_comesBy_40 : decode cX5_comesBy 40 = .ok (.goto (-35), 3) := by decide +kernel
theorem dX5_comesBy_43 : decode cX5_comesBy 43 = .ok (.iconst 0, 1) := by decide +kernel
theorem dX5_comesBy_44 : decode cX5_comesBy 44 = .ok (.ireturn, 1) := by decide +kernel
set_option maxRecDepth 20000 in
theorem ggX5_goOn_X5_letFloorSpeak : GoodIn wsX5_goOn wsX5_letFloorSpeak := goodIn_r _ [7, 8, 9, 2, 10, 11, 12, 13, 14, 15, 16, 17, 18, 19, 20, 21, 22, 23, 24, 25, 26, 27, 28, 150, 151, 152, 153, 154, 155, 156, 157, 158, 159, 160, 161, 162, 163] (by decide +kernel) (by decide +kernel)
set_option maxRecDepth 20000 in
theorem gX5_goOn_X5_letFloorSpeak : GoodIn wsX5_goOn (wsV RX5 96 RX5 yX5_letFloorSpeak wsX5_letFloorSpeak) := goodIn_app (goodIn_of _ (by decide +kernel)) ggX5_goOn_X5_letFloorSpeak
set_option maxRecDepth 20000 in
theorem ggX5_goOn_X5_work : GoodIn wsX5_goOn wsX5_work := goodIn_r _ [32, 33, 34, 35, 36, 2, 37, 38, 39, 6, 40, 41, 42, 43, 44, 45, 46, 47, 48, 49, 50, 51, 52, 53, 54, 55, 56, 57, 58, 59, 60, 61, 62, 1, 63, 64, 65, 66, 67, 68, 69, 70, 71, 72, 73, 74, 75, 76, 77, 78, 79, 80, 13, 81, 15, 16, 82, 83, 84, 85, 86, 11, 12, 14, 17, 18, 19, 20, 87, 88, 89, 90, 91, 92, 93, 94, 95, 96, 97, 98, 99, 100, 101, 102, 103, 104, 105, 106, 107, 108, 109, 110, 111, 21, 22, 23, 24, 25, 26, 27, 28, 150, 151, 152, 153, 154, 155, 156, 157, 158, 164, 165, 166, 167, 168, 169, 170, 171, 172, 173, 174, 175, 176, 177, 178, 179, 180, 159, 160, 161, 162, 163] (by decide +kernel) (by decide +kernel)
set_option maxRecDepth 20000 in
theorem gX5_goOn_X5_work : GoodIn wsX5_goOn (wsV RX5 99 RX5 yX5_work wsX5_work) := goodIn_app (goodIn_of _ (by decide +kernel)) ggX5_goOn_X5_work
set_option maxRecDepth 20000 in
theorem ggX5_goOn_X5_letBoothsHear : GoodIn wsX5_goOn wsX5_letBoothsHear := goodIn_r _ [115, 1, 33, 42, 2, 116, 117, 118, 6, 119, 36, 9, 59, 60, 61, 62, 120, 121, 122, 24, 123, 26, 124, 125, 126, 127, 28, 128, 129, 130, 131, 132, 133, 134, 27, 135, 136, 137, 72, 138, 74, 75, 139, 140, 76, 141, 142, 143, 13, 144, 15, 16, 150, 151, 152, 153, 154, 155, 156, 157, 158, 164, 165, 166, 167, 168, 169, 170, 171, 172, 173, 161, 162, 163, 159, 160] (by decide +kernel) (by decide +kernel)
set_option maxRecDepth 20000 in
theorem gX5_goOn_X5_letBoothsHear : GoodIn wsX5_goOn (wsV RX5 102 RX5 yX5_letBoothsHear wsX5_letBoothsHear) := goodIn_app (goodIn_of _ (by decide +kernel)) ggX5_goOn_X5_letBoothsHear
set_option maxRecDepth 20000 in
theorem ggX5_goOn_X5_letOthersRecover : GoodIn wsX5_goOn wsX5_letOthersRecover := goodIn_r _ [148, 47, 34, 149, 87, 88, 89, 51, 90, 91, 92, 93, 94, 95, 150, 151, 152, 153, 154, 155, 156, 157, 158, 174, 175, 176, 177, 178, 179, 180] (by decide +kernel) (by decide +kernel)
set_option maxRecDepth 20000 in
theorem gX5_goOn_X5_letOthersRecover : GoodIn wsX5_goOn (wsV RX5 105 RX5 yX5_letOthersRecover wsX5_letOthersRecover) := goodIn_app (goodIn_of _ (by decide +kernel)) ggX5_goOn_X5_letOthersRecover
theorem dX5_goOn_0 : decode cX5_goOn 0 = .ok (.iconst 0, 1) := by decide +kernel
theorem dX5_goOn_1 : decode cX5_goOn 1 = .ok (.istore_n 2, 1) := by decide +kernel
theorem dX5_goOn_2 : decode cX5_goOn 2 = .ok (.iconst 0, 1) := by decide +kernel
theorem dX5_goOn_3 : decode cX5_goOn 3 = .ok (.istore_n 3, 1) := by decide +kernel
theorem dX5_goOn_4 : decode cX5_goOn 4 = .ok (.iload_n 3, 1) := by decide +kernel
theorem dX5_goOn_5 : decode cX5_goOn 5 = .ok (.iload_n 1, 1) := by decide +kernel
theorem dX5_goOn_6 : decode cX5_goOn 6 = .ok (.if_icmp .ge 58, 3) := by decide +kernel
theorem dX5_goOn_9 : decode cX5_goOn 9 = .ok (.aload_n 0, 1) := by decide +kernel
theorem dX5_goOn_10 : decode cX5_goOn 10 = .ok (.invokevirtual 96, 3) := by decide +kernel
theorem dX5_goOn_13 : decode cX5_goOn 13 = .ok (.iconst 0, 1) := by decide +kernel
theorem dX5_goOn_14 : decode cX5_goOn 14 = .ok (.istore 4, 2) := by decide +kernel
theorem dX5_goOn_16 : decode cX5_goOn 16 = .ok (.iload 4, 2) := by decide +kernel
theorem dX5_goOn_18 : decode cX5_goOn 18 = .ok (.aload_n 0, 1) := by decide +kernel
theorem dX5_goOn_19 : decode cX5_goOn 19 = .ok (.getfield 45, 3) := by decide +kernel
theorem dX5_goOn_22 : decode cX5_goOn 22 = .ok (.if_icmp .ge 18, 3) := by decide +kernel
theorem dX5_goOn_25 : decode cX5_goOn 25 = .ok (.iload_n 2, 1) := by decide +kernel
theorem dX5_goOn_26 : decode cX5_goOn 26 = .ok (.aload_n 0, 1) := by decide +kernel
theorem dX5_goOn_27 : decode cX5_goOn 27 = .ok (.iload 4, 2) := by decide +kernel
theorem dX5_goOn_29 : decode cX5_goOn 29 = .ok (.invokevirtual 99, 3) := by decide +kernel
theorem dX5_goOn_32 : decode cX5_goOn 32 = .ok (.iadd, 1) := by decide +kernel
theorem dX5_goOn_33 : decode cX5_goOn 33 = .ok (.istore_n 2, 1) := by decide +kernel
theorem dX5_goOn_34 : decode cX5_goOn 34 = .ok (.iinc 4 1, 3) := by decide +kernel
theorem dX5_goOn_37 : decode cX5_goOn 37 = .ok (.goto (-21), 3) := by decide +kernel
theorem dX5_goOn_40 : decode cX5_goOn 40 = .ok (.aload_n 0, 1) := by decide +kernel
theorem dX5_goOn_41 : decode cX5_goOn 41 = .ok (.invokevirtual 102, 3) := by decide +kernel
theorem dX5_goOn_44 : decode cX5_goOn 44 = .ok (.aload_n 0, 1) := by decide +kernel
theorem dX5_goOn_45 : decode cX5_goOn 45 = .ok (.invokevirtual 105, 3) := by decide +kernel
theorem dX5_goOn_48 : decode cX5_goOn 48 = .ok (.aload_n 0, 1) := by decide +kernel
theorem dX5_goOn_49 : decode cX5_goOn 49 = .ok (.dup, 1) := by decide +kernel
theorem dX5_goOn_50 : decode cX5_goOn 50 = .ok (.getfield 108, 3) := by decide +kernel
theorem dX5_goOn_53 : decode cX5_goOn 53 = .ok (.iconst 1, 1) := by decide +kernel
theorem dX5_goOn_54 : decode cX5_goOn 54 = .ok (.iadd, 1) := by decide +kernel
theorem dX5_goOn_55 : decode cX5_goOn 55 = .ok (.putfield 108, 3) := by decide +kernel
theorem dX5_goOn_58 : decode cX5_goOn 58 = .ok (.iinc 3 1, 3) := by decide +kernel
theorem dX5_goOn_61 : decode cX5_goOn 61 = .ok (.goto (-57), 3) := by decide +kernel
theorem dX5_goOn_64 : decode cX5_goOn 64 = .ok (.iload_n 2, 1) := by decide +kernel
theorem dX5_goOn_65 : decode cX5_goOn 65 = .ok (.ireturn, 1) := by decide +kernel
set_option maxRecDepth 20000 in
theorem ggX5_letFloorSpeak_X3_takeFirst : GoodIn wsX5_letFloorSpeak wsX3_takeFirst := goodIn_r _ [8, 9, 10, 11, 12, 13, 14, 32, 33] (by decide +kernel) (by decide +kernel)
set_option maxRecDepth 20000 in
theorem gX5_letFloorSpeak_X3_takeFirst : GoodIn wsX5_letFloorSpeak (wsV RX5 111 RX3 yX3_takeFirst wsX3_takeFirst) := goodIn_app (goodIn_of _ (by decide +kernel)) ggX5_letFloorSpeak_X3_takeFirst
set_option maxRecDepth 20000 in
theorem ggX5_letFloorSpeak_X4_add : GoodIn wsX5_letFloorSpeak wsX4_add := goodIn_r _ [19, 20, 21, 22, 34, 35, 36] (by decide +kernel) (by decide +kernel)
set_option maxRecDepth 20000 in
theorem gX5_letFloorSpeak_X4_add : GoodIn wsX5_letFloorSpeak (wsV RX5 115 RX4 yX4_add wsX4_add) := goodIn_app (goodIn_of _ (by decide +kernel)) ggX5_letFloorSpeak_X4_add
theorem dX5_letFloorSpeak_0 : decode cX5_letFloorSpeak 0 = .ok (.aload_n 0, 1) := by decide +kernel
theorem dX5_letFloorSpeak_1 : decode cX5_letFloorSpeak 1 = .ok (.getfield 14, 3) := by decide +kernel
theorem dX5_letFloorSpeak_4 : decode cX5_letFloorSpeak 4 = .ok (.invokevirtual 111, 3) := by decide +kernel
theorem dX5_letFloorSpeak_7 : decode cX5_letFloorSpeak 7 = .ok (.istore_n 1, 1) := by decide +kernel
theorem dX5_letFloorSpeak_8 : decode cX5_letFloorSpeak 8 = .ok (.iload_n 1, 1) := by decide +kernel
theorem dX5_letFloorSpeak_9 : decode cX5_letFloorSpeak 9 = .ok (.iconst (-1), 1) := by decide +kernel
theorem dX5_letFloorSpeak_10 : decode cX5_letFloorSpeak 10 = .ok (.if_icmp .eq 15, 3) := by decide +kernel
theorem dX5_letFloorSpeak_13 : decode cX5_letFloorSpeak 13 = .ok (.aload_n 0, 1) := by decide +kernel
theorem dX5_letFloorSpeak_14 : decode cX5_letFloorSpeak 14 = .ok (.getfield 23, 3) := by decide +kernel
theorem dX5_letFloorSpeak_17 : decode cX5_letFloorSpeak 17 = .ok (.iload_n 1, 1) := by decide +kernel
theorem dX5_letFloorSpeak_18 : decode cX5_letFloorSpeak 18 = .ok (.aload_n 0, 1) := by decide +kernel
theorem dX5_letFloorSpeak_19 : decode cX5_letFloorSpeak 19 = .ok (.getfield 108, 3) := by decide +kernel
theorem dX5_letFloorSpeak_22 : decode cX5_letFloorSpeak 22 = .ok (.invokevirtual 115, 3) := by decide +kernel
theorem dX5_letFloorSpeak_25 : decode cX5_letFloorSpeak 25 = .ok (.return_, 1) := by decide +kernel
set_option maxRecDepth 20000 in
theorem ggX5_letBoothsHear_X5_speechOf : GoodIn wsX5_letBoothsHear wsX5_speechOf := goodIn_r _ [9, 2, 10, 11, 12, 13, 14, 8, 15, 1, 52, 53, 54, 55, 56, 57, 58, 59, 60, 61, 62, 63, 64, 65, 66, 67, 68, 69, 70] (by decide +kernel) (by decide +kernel)
set_option maxRecDepth 20000 in
theorem gX5_letBoothsHear_X5_speechOf : GoodIn wsX5_letBoothsHear (wsV RX5 119 RX5 yX5_speechOf wsX5_speechOf) := goodIn_app (goodIn_of _ (by decide +kernel)) ggX5_letBoothsHear_X5_speechOf
set_option maxRecDepth 20000 in
theorem ggX5_letBoothsHear_X4_wordOfTick : GoodIn wsX5_letBoothsHear wsX4_wordOfTick := goodIn_r _ [20, 21, 22, 23, 24, 19, 25, 26, 27, 28, 29, 30, 31, 32, 33, 34, 71, 72, 73] (by decide +kernel) (by decide +kernel)
set_option maxRecDepth 20000 in
theorem gX5_letBoothsHear_X4_wordOfTick : GoodIn wsX5_letBoothsHear (wsV RX5 123 RX4 yX4_wordOfTick wsX4_wordOfTick) := goodIn_app (goodIn_of _ (by decide +kernel)) ggX5_letBoothsHear_X4_wordOfTick
set_option maxRecDepth 20000 in
theorem ggX5_letBoothsHear_X0_hear : GoodIn wsX5_letBoothsHear wsX0_hear := goodIn_r _ [39, 40, 41, 42, 43, 44, 45, 46, 47, 48, 49, 50, 51, 61, 62, 63, 64, 65, 66, 67, 68, 69, 70, 74, 75] (by decide +kernel) (by decide +kernel)
set_option maxRecDepth 20000 in
theorem gX5_letBoothsHear_X0_hear : GoodIn wsX5_letBoothsHear (wsV RX5 126 RX0 yX0_hear wsX0_hear) := goodIn_app (goodIn_of _ (by decide +kernel)) ggX5_letBoothsHear_X0_hear
theorem dX5_letBoothsHear_0 : decode cX5_letBoothsHear 0 = .ok (.iconst 0, 1) := by decide +kernel
theorem dX5_letBoothsHear_1 : decode cX5_letBoothsHear 1 = .ok (.istore_n 1, 1) := by decide +kernel
theorem dX5_letBoothsHear_2 : decode cX5_letBoothsHear 2 = .ok (.iload_n 1, 1) := by decide +kernel
theorem dX5_letBoothsHear_3 : decode cX5_letBoothsHear 3 = .ok (.aload_n 0, 1) := by decide +kernel
theorem dX5_letBoothsHear_4 : decode cX5_letBoothsHear 4 = .ok (.getfield 45, 3) := by decide +kernel
theorem dX5_letBoothsHear_7 : decode cX5_letBoothsHear 7 = .ok (.if_icmp .ge 49, 3) := by decide +kernel
theorem dX5_letBoothsHear_10 : decode cX5_letBoothsHear 10 = .ok (.aload_n 0, 1) := by decide +kernel
theorem dX5_letBoothsHear_11 : decode cX5_letBoothsHear 11 = .ok (.aload_n 0, 1) := by decide +kernel
theorem dX5_letBoothsHear_12 : decode cX5_letBoothsHear 12 = .ok (.getfield 29, 3) := by decide +kernel
theorem dX5_letBoothsHear_15 : decode cX5_letBoothsHear 15 = .ok (.iload_n 1, 1) := by decide +kernel
theorem dX5_letBoothsHear_16 : decode cX5_letBoothsHear 16 = .ok (.aaload, 1) := by decide +kernel
theorem dX5_letBoothsHear_17 : decode cX5_letBoothsHear 17 = .ok (.getfield 74, 3) := by decide +kernel
theorem dX5_letBoothsHear_20 : decode cX5_letBoothsHear 20 = .ok (.invokevirtual 119, 3) := by decide +kernel
theorem dX5_letBoothsHear_23 : decode cX5_letBoothsHear 23 = .ok (.aload_n 0, 1) := by decide +kernel
theorem dX5_letBoothsHear_24 : decode cX5_letBoothsHear 24 = .ok (.getfield 108, 3) := by decide +kernel
theorem dX5_letBoothsHear_27 : decode cX5_letBoothsHear 27 = .ok (.invokevirtual 123, 3) := by decide +kernel
theorem dX5_letBoothsHear_30 : decode cX5_letBoothsHear 30 = .ok (.istore_n 2, 1) := by decide +kernel
theorem dX5_letBoothsHear_31 : decode cX5_letBoothsHear 31 = .ok (.iload_n 2, 1) := by decide +kernel
theorem dX5_letBoothsHear_32 : decode cX5_letBoothsHear 32 = .ok (.iconst (-1), 1) := by decide +kernel
theorem dX5_letBoothsHear_33 : decode cX5_letBoothsHear 33 = .ok (.if_icmp .eq 17, 3) := by decide +kernel
theorem dX5_letBoothsHear_36 : decode cX5_letBoothsHear 36 = .ok (.aload_n 0, 1) := by decide +kernel
theorem dX5_letBoothsHear_37 : decode cX5_letBoothsHear 37 = .ok (.getfield 29, 3) := by decide +kernel
theorem dX5_letBoothsHear_40 : decode cX5_letBoothsHear 40 = .ok (.iload_n 1, 1) := by decide +kernel
theorem dX5_letBoothsHear_41 : decode cX5_letBoothsHear 41 = .ok (.aaload, 1) := by decide +kernel
theorem dX5_letBoothsHear_42 : decode cX5_letBoothsHear 42 = .ok (.iload_n 2, 1) := by decide +kernel
theorem dX5_letBoothsHear_43 : decode cX5_letBoothsHear 43 = .ok (.aload_n 0, 1) := by decide +kernel
theorem dX5_letBoothsHear_44 : decode cX5_letBoothsHear 44 = .ok (.getfield 108, 3) := by decide +kernel
theorem dX5_letBoothsHear_47 : decode cX5_letBoothsHear 47 = .ok (.invokevirtual 126, 3) := by decide +kernel
theorem dX5_letBoothsHear_50 : decode cX5_letBoothsHear 50 = .ok (.iinc 1 1, 3) := by decide +kernel
theorem dX5_letBoothsHear_53 : decode cX5_letBoothsHear 53 = .ok (.goto (-51), 3) := by decide +kernel
theorem dX5_letBoothsHear_56 : decode cX5_letBoothsHear 56 = .ok (.return_, 1) := by decide +kernel
set_option maxRecDepth 20000 in
theorem ggX5_letOthersRecover_X2_recover : GoodIn wsX5_letOthersRecover wsX2_recover := goodIn_r _ [8, 9, 10, 11, 12, 13, 23, 24, 25, 26, 27, 28, 29] (by decide +kernel) (by decide +kernel)
set_option maxRecDepth 20000 in
theorem gX5_letOthersRecover_X2_recover : GoodIn wsX5_letOthersRecover (wsV RX5 129 RX2 yX2_recover wsX2_recover) := goodIn_app (goodIn_of _ (by decide +kernel)) ggX5_letOthersRecover_X2_recover
theorem dX5_letOthersRecover_0 : decode cX5_letOthersRecover 0 = .ok (.iconst 0, 1) := by decide +kernel
theorem dX5_letOthersRecover_1 : decode cX5_letOthersRecover 1 = .ok (.istore_n 1, 1) := by decide +kernel
theorem dX5_letOthersRecover_2 : decode cX5_letOthersRecover 2 = .ok (.iload_n 1, 1) := by decide +kernel
theorem dX5_letOthersRecover_3 : decode cX5_letOthersRecover 3 = .ok (.aload_n 0, 1) := by decide +kernel
theorem dX5_letOthersRecover_4 : decode cX5_letOthersRecover 4 = .ok (.getfield 49, 3) := by decide +kernel
theorem dX5_letOthersRecover_7 : decode cX5_letOthersRecover 7 = .ok (.if_icmp .ge 32, 3) := by decide +kernel
theorem dX5_letOthersRecover_10 : decode cX5_letOthersRecover 10 = .ok (.aload_n 0, 1) := by decide +kernel
theorem dX5_letOthersRecover_11 : decode cX5_letOthersRecover 11 = .ok (.getfield 35, 3) := by decide +kernel
theorem dX5_letOthersRecover_14 : decode cX5_letOthersRecover 14 = .ok (.iload_n 1, 1) := by decide +kernel
theorem dX5_letOthersRecover_15 : decode cX5_letOthersRecover 15 = .ok (.aaload, 1) := by decide +kernel
theorem dX5_letOthersRecover_16 : decode cX5_letOthersRecover 16 = .ok (.getfield 93, 3) := by decide +kernel
theorem dX5_letOthersRecover_19 : decode cX5_letOthersRecover 19 = .ok (.iconst (-1), 1) := by decide +kernel
theorem dX5_letOthersRecover_20 : decode cX5_letOthersRecover 20 = .ok (.if_icmp .ne 13, 3) := by decide +kernel
theorem dX5_letOthersRecover_23 : decode cX5_letOthersRecover 23 = .ok (.aload_n 0, 1) := by decide +kernel
theorem dX5_letOthersRecover_24 : decode cX5_letOthersRecover 24 = .ok (.getfield 35, 3) := by decide +kernel
theorem dX5_letOthersRecover_27 : decode cX5_letOthersRecover 27 = .ok (.iload_n 1, 1) := by decide +kernel
theorem dX5_letOthersRecover_28 : decode cX5_letOthersRecover 28 = .ok (.aaload, 1) := by decide +kernel
theorem dX5_letOthersRecover_29 : decode cX5_letOthersRecover 29 = .ok (.iconst 2, 1) := by decide +kernel
theorem dX5_letOthersRecover_30 : decode cX5_letOthersRecover 30 = .ok (.invokevirtual 129, 3) := by decide +kernel
theorem dX5_letOthersRecover_33 : decode cX5_letOthersRecover 33 = .ok (.iinc 1 1, 3) := by decide +kernel
theorem dX5_letOthersRecover_36 : decode cX5_letOthersRecover 36 = .ok (.goto (-34), 3) := by decide +kernel
theorem dX5_letOthersRecover_39 : decode cX5_letOthersRecover 39 = .ok (.return_, 1) := by decide +kernel
set_option maxRecDepth 20000 in
theorem ggX5_work_X5_isAble : GoodIn wsX5_work wsX5_isAble := goodIn_r _ [10, 1, 3, 2, 11, 12, 13, 14, 15, 9, 16, 17, 18, 19, 20, 21, 22, 23, 24, 25, 26, 27, 28, 29, 30, 31, 32, 33, 101, 102, 103, 104, 105, 106, 107, 108, 109, 110, 111, 112, 113, 114, 115, 116, 117, 118, 119, 120, 121, 122, 123, 124, 125, 126] (by decide +kernel) (by decide +kernel)
set_option maxRecDepth 20000 in
theorem gX5_work_X5_isAble : GoodIn wsX5_work (wsV RX5 132 RX5 yX5_isAble wsX5_isAble) := goodIn_app (goodIn_of _ (by decide +kernel)) ggX5_work_X5_isAble
set_option maxRecDepth 20000 in
theorem ggX5_work_X5_workUnable : GoodIn wsX5_work wsX5_workUnable := goodIn_r _ [37, 38, 39, 5, 3, 2, 40, 41, 42, 43, 44, 45, 46, 47, 48, 49, 50, 51, 52, 53, 54, 55, 56, 57, 58, 59, 60, 61, 62, 63, 64, 65, 66, 67, 13, 14, 15, 9, 16, 17, 68, 69, 70, 21, 71, 72, 73, 74, 75, 76, 110, 111, 112, 113, 114, 115, 116, 117, 118, 119, 101, 102, 103, 104, 105, 106, 107, 108, 109, 127, 128, 120, 121, 122, 123, 124, 125, 126] (by decide +kernel) (by decide +kernel)
set_option maxRecDepth 20000 in
theorem gX5_work_X5_workUnable : GoodIn wsX5_work (wsV RX5 135 RX5 yX5_workUnable wsX5_workUnable) := goodIn_app (goodIn_of _ (by decide +kernel)) ggX5_work_X5_workUnable
set_option maxRecDepth 20000 in
theorem ggX5_work_X5_nextWord : GoodIn wsX5_work wsX5_nextWord := goodIn_r _ [80, 38, 5, 81, 40, 41, 42, 43, 44, 45, 46, 47, 48, 49, 50, 51, 52, 53, 54, 55, 56, 57, 58, 59, 60, 61, 62, 63, 64, 65, 66, 67, 82, 83, 84, 21, 85, 86, 110, 111, 112, 113, 114, 115, 116, 117, 118, 119, 101, 102, 103, 104, 105, 106, 107, 108, 109, 120, 121, 122, 123, 124, 125, 126, 127, 128] (by decide +kernel) (by decide +kernel)
set_option maxRecDepth 20000 in
theorem gX5_work_X5_nextWord : GoodIn wsX5_work (wsV RX5 139 RX5 yX5_nextWord wsX5_nextWord) := goodIn_app (goodIn_of _ (by decide +kernel)) ggX5_work_X5_nextWord
set_option maxRecDepth 20000 in
theorem ggX5_work_X2_recover : GoodIn wsX5_work wsX2_recover := goodIn_r _ [71, 72, 73, 74, 75, 76, 120, 121, 122, 123, 124, 125, 126] (by decide +kernel) (by decide +kernel)
set_option maxRecDepth 20000 in
theorem gX5_work_X2_recover : GoodIn wsX5_work (wsV RX5 129 RX2 yX2_recover wsX2_recover) := goodIn_app (goodIn_of _ (by decide +kernel)) ggX5_work_X2_recover
set_option maxRecDepth 20000 in
theorem ggX5_work_X2_utter : GoodIn wsX5_work wsX2_utter := goodIn_r _ [90, 72, 91, 92, 120, 121, 122, 123, 124, 125, 126] (by decide +kernel) (by decide +kernel)
set_option maxRecDepth 20000 in
theorem gX5_work_X2_utter : GoodIn wsX5_work (wsV RX5 143 RX2 yX2_utter wsX2_utter) := goodIn_app (goodIn_of _ (by decide +kernel)) ggX5_work_X2_utter
set_option maxRecDepth 20000 in
theorem ggX5_work_X4_add : GoodIn wsX5_work wsX4_add := goodIn_r _ [97, 98, 99, 100, 129, 130, 131] (by decide +kernel) (by decide +kernel)
set_option maxRecDepth 20000 in
theorem gX5_work_X4_add : GoodIn wsX5_work (wsV RX5 115 RX4 yX4_add wsX4_add) := goodIn_app (goodIn_of _ (by decide +kernel)) ggX5_work_X4_add
theorem dX5_work_0 : decode cX5_work 0 = .ok (.aload_n 0, 1) := by decide +kernel
theorem dX5_work_1 : decode cX5_work 1 = .ok (.getfield 29, 3) := by decide +kernel
theorem dX5_work_4 : decode cX5_work 4 = .ok (.iload_n 1, 1) := by decide +kernel
theorem dX5_work_5 : decode cX5_work 5 = .ok (.aaload, 1) := by decide +kernel
theorem dX5_work_6 : decode cX5_work 6 = .ok (.astore_n 2, 1) := by decide +kernel
theorem dX5_work_7 : decode cX5_work 7 = .ok (.aload_n 0, 1) := by decide +kernel
theorem dX5_work_8 : decode cX5_work 8 = .ok (.iload_n 1, 1) := by decide +kernel
theorem dX5_work_9 : decode cX5_work 9 = .ok (.invokevirtual 132, 3) := by decide +kernel
theorem dX5_work_12 : decode cX5_work 12 = .ok (.ifCond .ne 10, 3) := by decide +kernel
theorem dX5_work_15 : decode cX5_work 15 = .ok (.aload_n 0, 1) := by decide +kernel
theorem dX5_work_16 : decode cX5_work 16 = .ok (.aload_n 2, 1) := by decide +kernel
theorem dX5_work_17 : decode cX5_work 17 = .ok (.invokevirtual 135, 3) := by decide +kernel
theorem dX5_work_20 : decode cX5_work 20 = .ok (.iconst 0, 1) := by decide +kernel
theorem dX5_work_21 : decode cX5_work 21 = .ok (.ireturn, 1) := by decide +kernel
theorem dX5_work_22 : decode cX5_work 22 = .ok (.aload_n 0, 1) := by decide +kernel
theorem dX5_work_23 : decode cX5_work 23 = .ok (.getfield 35, 3) := by decide +kernel
theorem dX5_work_26 : decode cX5_work 26 = .ok (.aload_n 2, 1) := by decide +kernel
theorem dX5_work_27 : decode cX5_work 27 = .ok (.getfield 65, 3) := by decide +kernel
theorem dX5_work_30 : decode cX5_work 30 = .ok (.aaload, 1) := by decide +kernel
theorem dX5_work_31 : decode cX5_work 31 = .ok (.astore_n 3, 1) := by decide +kernel
theorem dX5_work_32 : decode cX5_work 32 = .ok (.aload_n 0, 1) := by decide +kernel
theorem dX5_work_33 : decode cX5_work 33 = .ok (.aload_n 2, 1) := by decide +kernel
theorem dX5_work_34 : decode cX5_work 34 = .ok (.aload_n 3, 1) := by decide +kernel
theorem dX5_work_35 : decode cX5_work 35 = .ok (.invokevirtual 139, 3) := by decide +kernel
theorem dX5_work_38 : decode cX5_work 38 = .ok (.istore 4, 2) := by decide +kernel
theorem dX5_work_40 : decode cX5_work 40 = .ok (.iload 4, 2) := by decide +kernel
theorem dX5_work_42 : decode cX5_work 42 = .ok (.iconst (-1), 1) := by decide +kernel
theorem dX5_work_43 : decode cX5_work 43 = .ok (.if_icmp .ne 10, 3) := by decide +kernel
theorem dX5_work_46 : decode cX5_work 46 = .ok (.aload_n 3, 1) := by decide +kernel
theorem dX5_work_47 : decode cX5_work 47 = .ok (.iconst 1, 1) := by decide +kernel
theorem dX5_work_48 : decode cX5_work 48 = .ok (.invokevirtual 129, 3) := by decide +kernel
theorem dX5_work_51 : decode cX5_work 51 = .ok (.iconst 0, 1) := by decide +kernel
theorem dX5_work_52 : decode cX5_work 52 = .ok (.ireturn, 1) := by decide +kernel
theorem dX5_work_53 : decode cX5_work 53 = .ok (.aload_n 2, 1) := by decide +kernel
theorem dX5_work_54 : decode cX5_work 54 = .ok (.getfield 56, 3) := by decide +kernel
theorem dX5_work_57 : decode cX5_work 57 = .ok (.aload_n 3, 1) := by decide +kernel
theorem dX5_work_58 : decode cX5_work 58 = .ok (.iload 4, 2) := by decide +kernel
theorem dX5_work_60 : decode cX5_work 60 = .ok (.invokevirtual 143, 3) := by decide +kernel
theorem dX5_work_63 : decode cX5_work 63 = .ok (.aload_n 0, 1) := by decide +kernel
theorem dX5_work_64 : decode cX5_work 64 = .ok (.getfield 108, 3) := by decide +kernel
theorem dX5_work_67 : decode cX5_work 67 = .ok (.invokevirtual 115, 3) := by decide +kernel
theorem dX5_work_70 : decode cX5_work 70 = .ok (.iconst 1, 1) := by decide +kernel
theorem dX5_work_71 : decode cX5_work 71 = .ok (.ireturn, 1) := by decide +kernel
set_option maxRecDepth 20000 in
theorem ggX5_workUnable_X0_isFirstWordDue : GoodIn wsX5_workUnable wsX0_isFirstWordDue := goodIn_r _ [10, 11, 12, 13, 14, 15, 16, 17, 18, 19, 20, 21, 50, 51, 52, 53, 54, 55, 56, 57, 58, 59, 69, 70] (by decide +kernel) (by decide +kernel)
set_option maxRecDepth 20000 in
theorem gX5_workUnable_X0_isFirstWordDue : GoodIn wsX5_workUnable (wsV RX5 152 RX0 yX0_isFirstWordDue wsX0_isFirstWordDue) := goodIn_app (goodIn_of _ (by decide +kernel)) ggX5_workUnable_X0_isFirstWordDue
set_option maxRecDepth 20000 in
theorem ggX5_workUnable_X0_takeFirstWord : GoodIn wsX5_workUnable wsX0_takeFirstWord := goodIn_r _ [25, 13, 11, 26, 27, 28, 18, 29, 20, 21, 30, 31, 32, 33, 50, 51, 52, 53, 54, 55, 56, 57, 58, 59, 69, 70] (by decide +kernel) (by decide +kernel)
set_option maxRecDepth 20000 in
theorem gX5_workUnable_X0_takeFirstWord : GoodIn wsX5_workUnable (wsV RX5 155 RX0 yX0_takeFirstWord wsX0_takeFirstWord) := goodIn_app (goodIn_of _ (by decide +kernel)) ggX5_workUnable_X0_takeFirstWord
set_option maxRecDepth 20000 in
theorem ggX5_workUnable_X5_hasInterpreter : GoodIn wsX5_workUnable wsX5_hasInterpreter := goodIn_r _ [38, 39, 60, 61, 62, 63, 64, 65, 66, 67, 68] (by decide +kernel) (by decide +kernel)
set_option maxRecDepth 20000 in
theorem gX5_workUnable_X5_hasInterpreter : GoodIn wsX5_workUnable (wsV RX5 68 RX5 yX5_hasInterpreter wsX5_hasInterpreter) := goodIn_app (goodIn_of _ (by decide +kernel)) ggX5_workUnable_X5_hasInterpreter
set_option maxRecDepth 20000 in
theorem ggX5_workUnable_X2_recover : GoodIn wsX5_workUnable wsX2_recover := goodIn_r _ [44, 45, 46, 47, 48, 49, 71, 72, 73, 74, 75, 76, 77] (by decide +kernel) (by decide +kernel)
set_option maxRecDepth 20000 in
theorem gX5_workUnable_X2_recover : GoodIn wsX5_workUnable (wsV RX5 129 RX2 yX2_recover wsX2_recover) := goodIn_app (goodIn_of _ (by decide +kernel)) ggX5_workUnable_X2_recover
theorem dX5_workUnable_0 : decode cX5_workUnable 0 = .ok (.aload_n 1, 1) := by decide +kernel
theorem dX5_workUnable_1 : decode cX5_workUnable 1 = .ok (.getfield 146, 3) := by decide +kernel
theorem dX5_workUnable_4 : decode cX5_workUnable 4 = .ok (.iconst (-1), 1) := by decide +kernel
theorem dX5_workUnable_5 : decode cX5_workUnable 5 = .ok (.if_icmp .eq 21, 3) := by decide +kernel
theorem dX5_workUnable_8 : decode cX5_workUnable 8 = .ok (.aload_n 1, 1) := by decide +kernel
theorem dX5_workUnable_9 : decode cX5_workUnable 9 = .ok (.iconst (-1), 1) := by decide +kernel
theorem dX5_workUnable_10 : decode cX5_workUnable 10 = .ok (.putfield 146, 3) := by decide +kernel
theorem dX5_workUnable_13 : decode cX5_workUnable 13 = .ok (.aload_n 1, 1) := by decide +kernel
theorem dX5_workUnable_14 : decode cX5_workUnable 14 = .ok (.dup, 1) := by decide +kernel
theorem dX5_workUnable_15 : decode cX5_workUnable 15 = .ok (.getfield 149, 3) := by decide +kernel
theorem dX5_workUnable_18 : decode cX5_workUnable 18 = .ok (.iconst 1, 1) := by decide +kernel
theorem dX5_workUnable_19 : decode cX5_workUnable 19 = .ok (.iadd, 1) := by decide +kernel
theorem dX5_workUnable_20 : decode cX5_workUnable 20 = .ok (.putfield 149, 3) := by decide +kernel
theorem dX5_workUnable_23 : decode cX5_workUnable 23 = .ok (.goto 29, 3) := by decide +kernel
theorem dX5_workUnable_26 : decode cX5_workUnable 26 = .ok (.aload_n 1, 1) := by decide +kernel
theorem dX5_workUnable_27 : decode cX5_workUnable 27 = .ok (.aload_n 0, 1) := by decide +kernel
theorem dX5_workUnable_28 : decode cX5_workUnable 28 = .ok (.getfield 108, 3) := by decide +kernel
theorem dX5_workUnable_31 : decode cX5_workUnable 31 = .ok (.invokevirtual 152, 3) := by decide +kernel
theorem dX5_workUnable_34 : decode cX5_workUnable 34 = .ok (.ifCond .eq 18, 3) := by decide +kernel
theorem dX5_workUnable_37 : decode cX5_workUnable 37 = .ok (.aload_n 1, 1) := by decide +kernel
theorem dX5_workUnable_38 : decode cX5_workUnable 38 = .ok (.invokevirtual 155, 3) := by decide +kernel
theorem dX5_workUnable_41 : decode cX5_workUnable 41 = .ok (.pop, 1) := by decide +kernel
theorem dX5_workUnable_42 : decode cX5_workUnable 42 = .ok (.aload_n 1, 1) := by decide +kernel
theorem dX5_workUnable_43 : decode cX5_workUnable 43 = .ok (.dup, 1) := by decide +kernel
theorem dX5_workUnable_44 : decode cX5_workUnable 44 = .ok (.getfield 149, 3) := by decide +kernel
theorem dX5_workUnable_47 : decode cX5_workUnable 47 = .ok (.iconst 1, 1) := by decide +kernel
theorem dX5_workUnable_48 : decode cX5_workUnable 48 = .ok (.iadd, 1) := by decide +kernel
theorem dX5_workUnable_49 : decode cX5_workUnable 49 = .ok (.putfield 149, 3) := by decide +kernel
theorem dX5_workUnable_52 : decode cX5_workUnable 52 = .ok (.aload_n 0, 1) := by decide +kernel
theorem dX5_workUnable_53 : decode cX5_workUnable 53 = .ok (.aload_n 1, 1) := by decide +kernel
theorem dX5_workUnable_54 : decode cX5_workUnable 54 = .ok (.getfield 65, 3) := by decide +kernel
theorem dX5_workUnable_57 : decode cX5_workUnable 57 = .ok (.invokevirtual 68, 3) := by decide +kernel
theorem dX5_workUnable_60 : decode cX5_workUnable 60 = .ok (.ifCond .eq 16, 3) := by decide +kernel
theorem dX5_workUnable_63 : decode cX5_workUnable 63 = .ok (.aload_n 0, 1) := by decide +kernel
theorem dX5_workUnable_64 : decode cX5_workUnable 64 = .ok (.getfield 35, 3) := by decide +kernel
theorem dX5_workUnable_67 : decode cX5_workUnable 67 = .ok (.aload_n 1, 1) := by decide +kernel
theorem dX5_workUnable_68 : decode cX5_workUnable 68 = .ok (.getfield 65, 3) := by decide +kernel
theorem dX5_workUnable_71 : decode cX5_workUnable 71 = .ok (.aaload, 1) := by decide +kernel
theorem dX5_workUnable_72 : decode cX5_workUnable 72 = .ok (.iconst 1, 1) := by decide +kernel
theorem dX5_workUnable_73 : decode cX5_workUnable 73 = .ok (.invokevirtual 129, 3) := by decide +kernel
theorem dX5_workUnable_76 : decode cX5_workUnable 76 = .ok (.return_, 1) := by decide +kernel
set_option maxRecDepth 20000 in
theorem ggX5_nextWord_X0_isFirstWordDue : GoodIn wsX5_nextWord wsX0_isFirstWordDue := goodIn_r _ [8, 9, 10, 11, 12, 13, 14, 15, 16, 17, 18, 19, 38, 39, 40, 41, 42, 43, 44, 45, 46, 47, 64, 65] (by decide +kernel) (by decide +kernel)
set_option maxRecDepth 20000 in
theorem gX5_nextWord_X0_isFirstWordDue : GoodIn wsX5_nextWord (wsV RX5 152 RX0 yX0_isFirstWordDue wsX0_isFirstWordDue) := goodIn_app (goodIn_of _ (by decide +kernel)) ggX5_nextWord_X0_isFirstWordDue
set_option maxRecDepth 20000 in
theorem ggX5_nextWord_X0_takeFirstWord : GoodIn wsX5_nextWord wsX0_takeFirstWord := goodIn_r _ [23, 11, 9, 24, 25, 26, 16, 27, 18, 19, 28, 29, 30, 31, 38, 39, 40, 41, 42, 43, 44, 45, 46, 47, 64, 65] (by decide +kernel) (by decide +kernel)
set_option maxRecDepth 20000 in
theorem gX5_nextWord_X0_takeFirstWord : GoodIn wsX5_nextWord (wsV RX5 155 RX0 yX0_takeFirstWord wsX0_takeFirstWord) := goodIn_app (goodIn_of _ (by decide +kernel)) ggX5_nextWord_X0_takeFirstWord
set_option maxRecDepth 20000 in
theorem ggX5_nextWord_X2_isLostFor : GoodIn wsX5_nextWord wsX2_isLostFor := goodIn_r _ [36, 37, 57, 58, 59, 60, 61, 62, 63] (by decide +kernel) (by decide +kernel)
set_option maxRecDepth 20000 in
theorem gX5_nextWord_X2_isLostFor : GoodIn wsX5_nextWord (wsV RX5 158 RX2 yX2_isLostFor wsX2_isLostFor) := goodIn_app (goodIn_of _ (by decide +kernel)) ggX5_nextWord_X2_isLostFor
theorem dX5_nextWord_0 : decode cX5_nextWord 0 = .ok (.aload_n 1, 1) := by decide +kernel
theorem dX5_nextWord_1 : decode cX5_nextWord 1 = .ok (.getfield 146, 3) := by decide +kernel
theorem dX5_nextWord_4 : decode cX5_nextWord 4 = .ok (.iconst (-1), 1) := by decide +kernel
theorem dX5_nextWord_5 : decode cX5_nextWord 5 = .ok (.if_icmp .eq 15, 3) := by decide +kernel
theorem dX5_nextWord_8 : decode cX5_nextWord 8 = .ok (.aload_n 1, 1) := by decide +kernel
theorem dX5_nextWord_9 : decode cX5_nextWord 9 = .ok (.getfield 146, 3) := by decide +kernel
theorem dX5_nextWord_12 : decode cX5_nextWord 12 = .ok (.istore_n 3, 1) := by decide +kernel
theorem dX5_nextWord_13 : decode cX5_nextWord 13 = .ok (.aload_n 1, 1) := by decide +kernel
theorem dX5_nextWord_14 : decode cX5_nextWord 14 = .ok (.iconst (-1), 1) := by decide +kernel
theorem dX5_nextWord_15 : decode cX5_nextWord 15 = .ok (.putfield 146, 3) := by decide +kernel
theorem dX5_nextWord_18 : decode cX5_nextWord 18 = .ok (.iload_n 3, 1) := by decide +kernel
theorem dX5_nextWord_19 : decode cX5_nextWord 19 = .ok (.ireturn, 1) := by decide +kernel
theorem dX5_nextWord_20 : decode cX5_nextWord 20 = .ok (.aload_n 1, 1) := by decide +kernel
theorem dX5_nextWord_21 : decode cX5_nextWord 21 = .ok (.aload_n 0, 1) := by decide +kernel
theorem dX5_nextWord_22 : decode cX5_nextWord 22 = .ok (.getfield 108, 3) := by decide +kernel
theorem dX5_nextWord_25 : decode cX5_nextWord 25 = .ok (.invokevirtual 152, 3) := by decide +kernel
theorem dX5_nextWord_28 : decode cX5_nextWord 28 = .ok (.ifCond .ne 5, 3) := by decide +kernel
theorem dX5_nextWord_31 : decode cX5_nextWord 31 = .ok (.iconst (-1), 1) := by decide +kernel
theorem dX5_nextWord_32 : decode cX5_nextWord 32 = .ok (.ireturn, 1) := by decide +kernel
theorem dX5_nextWord_33 : decode cX5_nextWord 33 = .ok (.aload_n 1, 1) := by decide +kernel
theorem dX5_nextWord_34 : decode cX5_nextWord 34 = .ok (.invokevirtual 155, 3) := by decide +kernel
theorem dX5_nextWord_37 : decode cX5_nextWord 37 = .ok (.istore_n 3, 1) := by decide +kernel
theorem dX5_nextWord_38 : decode cX5_nextWord 38 = .ok (.aload_n 2, 1) := by decide +kernel
theorem dX5_nextWord_39 : decode cX5_nextWord 39 = .ok (.iload_n 3, 1) := by decide +kernel
theorem dX5_nextWord_40 : decode cX5_nextWord 40 = .ok (.invokevirtual 158, 3) := by decide +kernel
theorem dX5_nextWord_43 : decode cX5_nextWord 43 = .ok (.ifCond .ne 5, 3) := by decide +kernel
theorem dX5_nextWord_46 : decode cX5_nextWord 46 = .ok (.iload_n 3, 1) := by decide +kernel
theorem dX5_nextWord_47 : decode cX5_nextWord 47 = .ok (.ireturn, 1) := by decide +kernel
theorem dX5_nextWord_48 : decode cX5_nextWord 48 = .ok (.iload_n 3, 1) := by decide +kernel
theorem dX5_nextWord_49 : decode cX5_nextWord 49 = .ok (.bipush 80, 2) := by decide +kernel
theorem dX5_nextWord_51 : decode cX5_nextWord 51 = .ok (.isub, 1) := by decide +kernel
theorem dX5_nextWord_52 : decode cX5_nextWord 52 = .ok (.iconst 4, 1) := by decide +kernel
theorem dX5_nextWord_53 : decode cX5_nextWord 53 = .ok (.imul, 1) := by decide +kernel
theorem dX5_nextWord_54 : decode cX5_nextWord 54 = .ok (.istore 4, 2) := by decide +kernel
theorem dX5_nextWord_56 : decode cX5_nextWord 56 = .ok (.aload_n 1, 1) := by decide +kernel
theorem dX5_nextWord_57 : decode cX5_nextWord 57 = .ok (.iload 4, 2) := by decide +kernel
theorem dX5_nextWord_59 : decode cX5_nextWord 59 = .ok (.iconst 1, 1) := by decide +kernel
theorem dX5_nextWord_60 : decode cX5_nextWord 60 = .ok (.iadd, 1) := by decide +kernel
theorem dX5_nextWord_61 : decode cX5_nextWord 61 = .ok (.putfield 146, 3) := by decide +kernel
theorem dX5_nextWord_64 : decode cX5_nextWord 64 = .ok (.aload_n 2, 1) := by decide +kernel
theorem dX5_nextWord_65 : decode cX5_nextWord 65 = .ok (.dup, 1) := by decide +kernel
theorem dX5_nextWord_66 : decode cX5_nextWord 66 = .ok (.getfield 161, 3) := by decide +kernel
theorem dX5_nextWord_69 : decode cX5_nextWord 69 = .ok (.iconst 1, 1) := by decide +kernel
theorem dX5_nextWord_70 : decode cX5_nextWord 70 = .ok (.iadd, 1) := by decide +kernel
theorem dX5_nextWord_71 : decode cX5_nextWord 71 = .ok (.putfield 161, 3) := by decide +kernel
theorem dX5_nextWord_74 : decode cX5_nextWord 74 = .ok (.iload 4, 2) := by decide +kernel
theorem dX5_nextWord_76 : decode cX5_nextWord 76 = .ok (.ireturn, 1) := by decide +kernel
set_option maxRecDepth 20000 in
theorem ggX5_cameThroughAt_X1_mostInCommon : GoodIn wsX5_cameThroughAt wsX1_mostInCommon := goodIn_r _ [9, 10, 11, 12, 13, 14, 8, 15, 16, 17, 18, 19, 20, 21, 22, 23, 24, 25, 26, 27, 28, 29, 30, 31, 32, 33, 34, 35, 36, 37, 38, 39, 59, 60, 61, 62, 63] (by decide +kernel) (by decide +kernel)
set_option maxRecDepth 20000 in
theorem gX5_cameThroughAt_X1_mostInCommon : GoodIn wsX5_cameThroughAt (wsV RX5 164 RX1 yX1_mostInCommon wsX1_mostInCommon) := goodIn_app (goodIn_of _ (by decide +kernel)) ggX5_cameThroughAt_X1_mostInCommon
theorem dX5_cameThroughAt_0 : decode cX5_cameThroughAt 0 = .ok (.aload_n 0, 1) := by decide +kernel
theorem dX5_cameThroughAt_1 : decode cX5_cameThroughAt 1 = .ok (.getfield 39, 3) := by decide +kernel
theorem dX5_cameThroughAt_4 : decode cX5_cameThroughAt 4 = .ok (.aload_n 0, 1) := by decide +kernel
theorem dX5_cameThroughAt_5 : decode cX5_cameThroughAt 5 = .ok (.getfield 23, 3) := by decide +kernel
theorem dX5_cameThroughAt_8 : decode cX5_cameThroughAt 8 = .ok (.aload_n 0, 1) := by decide +kernel
theorem dX5_cameThroughAt_9 : decode cX5_cameThroughAt 9 = .ok (.getfield 29, 3) := by decide +kernel
theorem dX5_cameThroughAt_12 : decode cX5_cameThroughAt 12 = .ok (.iload_n 1, 1) := by decide +kernel
theorem dX5_cameThroughAt_13 : decode cX5_cameThroughAt 13 = .ok (.aaload, 1) := by decide +kernel
theorem dX5_cameThroughAt_14 : decode cX5_cameThroughAt 14 = .ok (.getfield 56, 3) := by decide +kernel
theorem dX5_cameThroughAt_17 : decode cX5_cameThroughAt 17 = .ok (.invokevirtual 164, 3) := by decide +kernel
theorem dX5_cameThroughAt_20 : decode cX5_cameThroughAt 20 = .ok (.ireturn, 1) := by decide +kernel
set_option maxRecDepth 20000 in
theorem ggX5_tellBooth_X5_chainLength : GoodIn wsX5_tellBooth wsX5_chainLength := goodIn_r _ [17, 1, 5, 18, 19, 20, 16, 21, 22, 85, 86, 87, 88, 89, 90, 91, 92, 93, 94, 95, 96, 97, 98, 99, 100, 101, 102, 103] (by decide +kernel) (by decide +kernel)
set_option maxRecDepth 20000 in
theorem gX5_tellBooth_X5_chainLength : GoodIn wsX5_tellBooth (wsV RX5 177 RX5 yX5_chainLength wsX5_chainLength) := goodIn_app (goodIn_of _ (by decide +kernel)) ggX5_tellBooth_X5_chainLength
set_option maxRecDepth 20000 in
theorem ggX5_tellBooth_X5_isAble : GoodIn wsX5_tellBooth wsX5_isAble := goodIn_r _ [26, 1, 6, 27, 2, 5, 28, 29, 30, 16, 31, 32, 33, 34, 35, 36, 37, 38, 39, 40, 41, 42, 43, 18, 19, 20, 21, 22, 85, 86, 87, 88, 89, 90, 91, 92, 93, 94, 95, 96, 97, 98, 99, 100, 101, 102, 103, 109, 110, 111, 112, 113, 114, 115] (by decide +kernel) (by decide +kernel)
set_option maxRecDepth 20000 in
theorem gX5_tellBooth_X5_isAble : GoodIn wsX5_tellBooth (wsV RX5 132 RX5 yX5_isAble wsX5_isAble) := goodIn_app (goodIn_of _ (by decide +kernel)) ggX5_tellBooth_X5_isAble
set_option maxRecDepth 20000 in
theorem ggX5_tellBooth_X5_cameThroughAt : GoodIn wsX5_tellBooth wsX5_cameThroughAt := goodIn_r _ [47, 48, 49, 1, 9, 50, 51, 52, 53, 54, 55, 56, 57, 58, 59, 60, 61, 62, 63, 64, 65, 66, 67, 68, 69, 70, 71, 72, 73, 74, 75, 76, 77, 78, 79, 80, 81, 82, 83, 84, 85, 86, 87, 88, 89, 90, 91, 92, 93, 94, 95, 96, 97, 98, 99, 100, 101, 102, 103, 116, 117, 106, 107, 108] (by decide +kernel) (by decide +kernel)
set_option maxRecDepth 20000 in
theorem gX5_tellBooth_X5_cameThroughAt : GoodIn wsX5_tellBooth (wsV RX5 180 RX5 yX5_cameThroughAt wsX5_cameThroughAt) := goodIn_app (goodIn_of _ (by decide +kernel)) ggX5_tellBooth_X5_cameThroughAt
theorem dX5_tellBooth_0 : decode cX5_tellBooth 0 = .ok (.aload_n 0, 1) := by decide +kernel
theorem dX5_tellBooth_1 : decode cX5_tellBooth 1 = .ok (.getfield 29, 3) := by decide +kernel
theorem dX5_tellBooth_4 : decode cX5_tellBooth 4 = .ok (.iload_n 1, 1) := by decide +kernel
theorem dX5_tellBooth_5 : decode cX5_tellBooth 5 = .ok (.aaload, 1) := by decide +kernel
theorem dX5_tellBooth_6 : decode cX5_tellBooth 6 = .ok (.astore_n 3, 1) := by decide +kernel
theorem dX5_tellBooth_7 : decode cX5_tellBooth 7 = .ok (.iload_n 2, 1) := by decide +kernel
theorem dX5_tellBooth_8 : decode cX5_tellBooth 8 = .ok (.tableswitch 140 0 10 #[60, 65, 70, 75, 80, 85, 93, 101, 106, 112, 126], 60) := by decide +kernel
theorem dX5_tellBooth_68 : decode cX5_tellBooth 68 = .ok (.aload_n 3, 1) := by decide +kernel
theorem dX5_tellBooth_69 : decode cX5_tellBooth 69 = .ok (.getfield 59, 3) := by decide +kernel
theorem dX5_tellBooth_72 : decode cX5_tellBooth 72 = .ok (.ireturn, 1) := by decide +kernel
theorem dX5_tellBooth_73 : decode cX5_tellBooth 73 = .ok (.aload_n 3, 1) := by decide +kernel
theorem dX5_tellBooth_74 : decode cX5_tellBooth 74 = .ok (.getfield 87, 3) := by decide +kernel
theorem dX5_tellBooth_77 : decode cX5_tellBooth 77 = .ok (.ireturn, 1) := by decide +kernel
theorem dX5_tellBooth_78 : decode cX5_tellBooth 78 = .ok (.aload_n 3, 1) := by decide +kernel
theorem dX5_tellBooth_79 : decode cX5_tellBooth 79 = .ok (.getfield 90, 3) := by decide +kernel
theorem dX5_tellBooth_82 : decode cX5_tellBooth 82 = .ok (.ireturn, 1) := by decide +kernel
theorem dX5_tellBooth_83 : decode cX5_tellBooth 83 = .ok (.aload_n 3, 1) := by decide +kernel
theorem dX5_tellBooth_84 : decode cX5_tellBooth 84 = .ok (.getfield 74, 3) := by decide +kernel
theorem dX5_tellBooth_87 : decode cX5_tellBooth 87 = .ok (.ireturn, 1) := by decide +kernel
theorem dX5_tellBooth_88 : decode cX5_tellBooth 88 = .ok (.aload_n 3, 1) := by decide +kernel
theorem dX5_tellBooth_89 : decode cX5_tellBooth 89 = .ok (.getfield 65, 3) := by decide +kernel
theorem dX5_tellBooth_92 : decode cX5_tellBooth 92 = .ok (.ireturn, 1) := by decide +kernel
theorem dX5_tellBooth_93 : decode cX5_tellBooth 93 = .ok (.aload_n 3, 1) := by decide +kernel
theorem dX5_tellBooth_94 : decode cX5_tellBooth 94 = .ok (.getfield 170, 3) := by decide +kernel
theorem dX5_tellBooth_97 : decode cX5_tellBooth 97 = .ok (.getfield 173, 3) := by decide +kernel
theorem dX5_tellBooth_100 : decode cX5_tellBooth 100 = .ok (.ireturn, 1) := by decide +kernel
theorem dX5_tellBooth_101 : decode cX5_tellBooth 101 = .ok (.aload_n 3, 1) := by decide +kernel
theorem dX5_tellBooth_102 : decode cX5_tellBooth 102 = .ok (.getfield 56, 3) := by decide +kernel
theorem dX5_tellBooth_105 : decode cX5_tellBooth 105 = .ok (.getfield 176, 3) := by decide +kernel
theorem dX5_tellBooth_108 : decode cX5_tellBooth 108 = .ok (.ireturn, 1) := by decide +kernel
theorem dX5_tellBooth_109 : decode cX5_tellBooth 109 = .ok (.aload_n 3, 1) := by decide +kernel
theorem dX5_tellBooth_110 : decode cX5_tellBooth 110 = .ok (.getfield 149, 3) := by decide +kernel
theorem dX5_tellBooth_113 : decode cX5_tellBooth 113 = .ok (.ireturn, 1) := by decide +kernel
theorem dX5_tellBooth_114 : decode cX5_tellBooth 114 = .ok (.aload_n 0, 1) := by decide +kernel
theorem dX5_tellBooth_115 : decode cX5_tellBooth 115 = .ok (.iload_n 1, 1) := by decide +kernel
theorem dX5_tellBooth_116 : decode cX5_tellBooth 116 = .ok (.invokevirtual 177, 3) := by decide +kernel
theorem dX5_tellBooth_119 : decode cX5_tellBooth 119 = .ok (.ireturn, 1) := by decide +kernel
theorem dX5_tellBooth_120 : decode cX5_tellBooth 120 = .ok (.aload_n 3, 1) := by decide +kernel
theorem dX5_tellBooth_121 : decode cX5_tellBooth 121 = .ok (.getfield 146, 3) := by decide +kernel
theorem dX5_tellBooth_124 : decode cX5_tellBooth 124 = .ok (.iconst (-1), 1) := by decide +kernel
theorem dX5_tellBooth_125 : decode cX5_tellBooth 125 = .ok (.if_icmp .ne 7, 3) := by decide +kernel
theorem dX5_tellBooth_128 : decode cX5_tellBooth 128 = .ok (.iconst 0, 1) := by decide +kernel
theorem dX5_tellBooth_129 : decode cX5_tellBooth 129 = .ok (.goto 4, 3) := by decide +kernel
theorem dX5_tellBooth_132 : decode cX5_tellBooth 132 = .ok (.iconst 1, 1) := by decide +kernel
theorem dX5_tellBooth_133 : decode cX5_tellBooth 133 = .ok (.ireturn, 1) := by decide +kernel
theorem dX5_tellBooth_134 : decode cX5_tellBooth 134 = .ok (.aload_n 0, 1) := by decide +kernel
theorem dX5_tellBooth_135 : decode cX5_tellBooth 135 = .ok (.iload_n 1, 1) := by decide +kernel
theorem dX5_tellBooth_136 : decode cX5_tellBooth 136 = .ok (.invokevirtual 132, 3) := by decide +kernel
theorem dX5_tellBooth_139 : decode cX5_tellBooth 139 = .ok (.ifCond .eq 7, 3) := by decide +kernel
theorem dX5_tellBooth_142 : decode cX5_tellBooth 142 = .ok (.iconst 1, 1) := by decide +kernel
theorem dX5_tellBooth_143 : decode cX5_tellBooth 143 = .ok (.goto 4, 3) := by decide +kernel
theorem dX5_tellBooth_146 : decode cX5_tellBooth 146 = .ok (.iconst 0, 1) := by decide +kernel
theorem dX5_tellBooth_147 : decode cX5_tellBooth 147 = .ok (.ireturn, 1) := by decide +kernel
theorem dX5_tellBooth_148 : decode cX5_tellBooth 148 = .ok (.aload_n 0, 1) := by decide +kernel
theorem dX5_tellBooth_149 : decode cX5_tellBooth 149 = .ok (.iload_n 1, 1) := by decide +kernel
theorem dX5_tellBooth_150 : decode cX5_tellBooth 150 = .ok (.invokevirtual 180, 3) := by decide +kernel
theorem dX5_tellBooth_153 : decode cX5_tellBooth 153 = .ok (.ireturn, 1) := by decide +kernel
set_option maxRecDepth 20000 in
theorem ggX5_tellCount_X5_sumOverBooths : GoodIn wsX5_tellCount wsX5_sumOverBooths := goodIn_r _ [13, 7, 14, 15, 6, 16, 17, 4, 18, 19, 20, 12, 21, 22, 23, 24, 25, 26, 27, 28, 29, 8, 30, 31, 32, 33, 34, 35, 36, 37, 38, 39, 2, 40, 41, 42, 43, 44, 45, 46, 47, 48, 49, 50, 51, 52, 58, 59, 60, 61, 62, 63, 64, 65, 66, 67, 55, 56, 57, 53, 54, 68, 69, 70, 71, 72, 73, 74] (by decide +kernel) (by decide +kernel)
set_option maxRecDepth 20000 in
theorem gX5_tellCount_X5_sumOverBooths : GoodIn wsX5_tellCount (wsV RX5 183 RX5 yX5_sumOverBooths wsX5_sumOverBooths) := goodIn_app (goodIn_of _ (by decide +kernel)) ggX5_tellCount_X5_sumOverBooths
theorem dX5_tellCount_0 : decode cX5_tellCount 0 = .ok (.iload_n 1, 1) := by decide +kernel
theorem dX5_tellCount_1 : decode cX5_tellCount 1 = .ok (.tableswitch 75 0 5 #[39, 44, 49, 57, 65, 70], 39) := by decide +kernel
theorem dX5_tellCount_40 : decode cX5_tellCount 40 = .ok (.aload_n 0, 1) := by decide +kernel
theorem dX5_tellCount_41 : decode cX5_tellCount 41 = .ok (.getfield 108, 3) := by decide +kernel
theorem dX5_tellCount_44 : decode cX5_tellCount 44 = .ok (.ireturn, 1) := by decide +kernel
theorem dX5_tellCount_45 : decode cX5_tellCount 45 = .ok (.aload_n 0, 1) := by decide +kernel
theorem dX5_tellCount_46 : decode cX5_tellCount 46 = .ok (.getfield 62, 3) := by decide +kernel
theorem dX5_tellCount_49 : decode cX5_tellCount 49 = .ok (.ireturn, 1) := by decide +kernel
theorem dX5_tellCount_50 : decode cX5_tellCount 50 = .ok (.aload_n 0, 1) := by decide +kernel
theorem dX5_tellCount_51 : decode cX5_tellCount 51 = .ok (.getfield 14, 3) := by decide +kernel
theorem dX5_tellCount_54 : decode cX5_tellCount 54 = .ok (.getfield 173, 3) := by decide +kernel
theorem dX5_tellCount_57 : decode cX5_tellCount 57 = .ok (.ireturn, 1) := by decide +kernel
theorem dX5_tellCount_58 : decode cX5_tellCount 58 = .ok (.aload_n 0, 1) := by decide +kernel
theorem dX5_tellCount_59 : decode cX5_tellCount 59 = .ok (.getfield 23, 3) := by decide +kernel
theorem dX5_tellCount_62 : decode cX5_tellCount 62 = .ok (.getfield 176, 3) := by decide +kernel
theorem dX5_tellCount_65 : decode cX5_tellCount 65 = .ok (.ireturn, 1) := by decide +kernel
theorem dX5_tellCount_66 : decode cX5_tellCount 66 = .ok (.aload_n 0, 1) := by decide +kernel
theorem dX5_tellCount_67 : decode cX5_tellCount 67 = .ok (.getfield 45, 3) := by decide +kernel
theorem dX5_tellCount_70 : decode cX5_tellCount 70 = .ok (.ireturn, 1) := by decide +kernel
theorem dX5_tellCount_71 : decode cX5_tellCount 71 = .ok (.aload_n 0, 1) := by decide +kernel
theorem dX5_tellCount_72 : decode cX5_tellCount 72 = .ok (.getfield 49, 3) := by decide +kernel
theorem dX5_tellCount_75 : decode cX5_tellCount 75 = .ok (.ireturn, 1) := by decide +kernel
theorem dX5_tellCount_76 : decode cX5_tellCount 76 = .ok (.aload_n 0, 1) := by decide +kernel
theorem dX5_tellCount_77 : decode cX5_tellCount 77 = .ok (.iload_n 1, 1) := by decide +kernel
theorem dX5_tellCount_78 : decode cX5_tellCount 78 = .ok (.invokevirtual 183, 3) := by decide +kernel
theorem dX5_tellCount_81 : decode cX5_tellCount 81 = .ok (.ireturn, 1) := by decide +kernel
set_option maxRecDepth 20000 in
theorem ggX5_sumOverBooths_X5_isAble : GoodIn wsX5_sumOverBooths wsX5_isAble := goodIn_r _ [12, 2, 13, 14, 15, 16, 17, 18, 19, 11, 20, 21, 22, 23, 24, 25, 26, 27, 28, 29, 30, 31, 32, 33, 34, 35, 36, 1, 37, 38, 39, 40, 41, 42, 43, 44, 45, 46, 47, 48, 49, 50, 51, 52, 53, 54, 55, 61, 62, 63, 64, 65, 66, 67] (by decide +kernel) (by decide +kernel)
set_option maxRecDepth 20000 in
theorem gX5_sumOverBooths_X5_isAble : GoodIn wsX5_sumOverBooths (wsV RX5 132 RX5 yX5_isAble wsX5_isAble) := goodIn_app (goodIn_of _ (by decide +kernel)) ggX5_sumOverBooths_X5_isAble
theorem dX5_sumOverBooths_0 : decode cX5_sumOverBooths 0 = .ok (.iconst 0, 1) := by decide +kernel
theorem dX5_sumOverBooths_1 : decode cX5_sumOverBooths 1 = .ok (.istore_n 2, 1) := by decide +kernel
theorem dX5_sumOverBooths_2 : decode cX5_sumOverBooths 2 = .ok (.iconst 0, 1) := by decide +kernel
theorem dX5_sumOverBooths_3 : decode cX5_sumOverBooths 3 = .ok (.istore_n 3, 1) := by decide +kernel
theorem dX5_sumOverBooths_4 : decode cX5_sumOverBooths 4 = .ok (.iload_n 3, 1) := by decide +kernel
theorem dX5_sumOverBooths_5 : decode cX5_sumOverBooths 5 = .ok (.aload_n 0, 1) := by decide +kernel
theorem dX5_sumOverBooths_6 : decode cX5_sumOverBooths 6 = .ok (.getfield 45, 3) := by decide +kernel
theorem dX5_sumOverBooths_9 : decode cX5_sumOverBooths 9 = .ok (.if_icmp .ge 104, 3) := by decide +kernel
theorem dX5_sumOverBooths_12 : decode cX5_sumOverBooths 12 = .ok (.iload_n 1, 1) := by decide +kernel
theorem dX5_sumOverBooths_13 : decode cX5_sumOverBooths 13 = .ok (.tableswitch 78 6 8 #[27, 45, 60], 27) := by decide +kernel
theorem dX5_sumOverBooths_40 : decode cX5_sumOverBooths 40 = .ok (.iload_n 2, 1) := by decide +kernel
theorem dX5_sumOverBooths_41 : decode cX5_sumOverBooths 41 = .ok (.aload_n 0, 1) := by decide +kernel
theorem dX5_sumOverBooths_42 : decode cX5_sumOverBooths 42 = .ok (.getfield 29, 3) := by decide +kernel
theorem dX5_sumOverBooths_45 : decode cX5_sumOverBooths 45 = .ok (.iload_n 3, 1) := by decide +kernel
theorem dX5_sumOverBooths_46 : decode cX5_sumOverBooths 46 = .ok (.aaload, 1) := by decide +kernel
theorem dX5_sumOverBooths_47 : decode cX5_sumOverBooths 47 = .ok (.getfield 56, 3) := by decide +kernel
theorem dX5_sumOverBooths_50 : decode cX5_sumOverBooths 50 = .ok (.getfield 176, 3) := by decide +kernel
theorem dX5_sumOverBooths_53 : decode cX5_sumOverBooths 53 = .ok (.iadd, 1) := by decide +kernel
theorem dX5_sumOverBooths_54 : decode cX5_sumOverBooths 54 = .ok (.istore_n 2, 1) := by decide +kernel
theorem dX5_sumOverBooths_55 : decode cX5_sumOverBooths 55 = .ok (.goto 52, 3) := by decide +kernel
theorem dX5_sumOverBooths_58 : decode cX5_sumOverBooths 58 = .ok (.iload_n 2, 1) := by decide +kernel
theorem dX5_sumOverBooths_59 : decode cX5_sumOverBooths 59 = .ok (.aload_n 0, 1) := by decide +kernel
theorem dX5_sumOverBooths_60 : decode cX5_sumOverBooths 60 = .ok (.getfield 29, 3) := by decide +kernel
theorem dX5_sumOverBooths_63 : decode cX5_sumOverBooths 63 = .ok (.iload_n 3, 1) := by decide +kernel
theorem dX5_sumOverBooths_64 : decode cX5_sumOverBooths 64 = .ok (.aaload, 1) := by decide +kernel
theorem dX5_sumOverBooths_65 : decode cX5_sumOverBooths 65 = .ok (.getfield 149, 3) := by decide +kernel
theorem dX5_sumOverBooths_68 : decode cX5_sumOverBooths 68 = .ok (.iadd, 1) := by decide +kernel
theorem dX5_sumOverBooths_69 : decode cX5_sumOverBooths 69 = .ok (.istore_n 2, 1) := by decide +kernel
theorem dX5_sumOverBooths_70 : decode cX5_sumOverBooths 70 = .ok (.goto 37, 3) := by decide +kernel
theorem dX5_sumOverBooths_73 : decode cX5_sumOverBooths 73 = .ok (.iload_n 2, 1) := by decide +kernel
theorem dX5_sumOverBooths_74 : decode cX5_sumOverBooths 74 = .ok (.aload_n 0, 1) := by decide +kernel
theorem dX5_sumOverBooths_75 : decode cX5_sumOverBooths 75 = .ok (.getfield 29, 3) := by decide +kernel
theorem dX5_sumOverBooths_78 : decode cX5_sumOverBooths 78 = .ok (.iload_n 3, 1) := by decide +kernel
theorem dX5_sumOverBooths_79 : decode cX5_sumOverBooths 79 = .ok (.aaload, 1) := by decide +kernel
theorem dX5_sumOverBooths_80 : decode cX5_sumOverBooths 80 = .ok (.getfield 170, 3) := by decide +kernel
theorem dX5_sumOverBooths_83 : decode cX5_sumOverBooths 83 = .ok (.getfield 173, 3) := by decide +kernel
theorem dX5_sumOverBooths_86 : decode cX5_sumOverBooths 86 = .ok (.iadd, 1) := by decide +kernel
theorem dX5_sumOverBooths_87 : decode cX5_sumOverBooths 87 = .ok (.istore_n 2, 1) := by decide +kernel
theorem dX5_sumOverBooths_88 : decode cX5_sumOverBooths 88 = .ok (.goto 19, 3) := by decide +kernel
theorem dX5_sumOverBooths_91 : decode cX5_sumOverBooths 91 = .ok (.iload_n 2, 1) := by decide +kernel
theorem dX5_sumOverBooths_92 : decode cX5_sumOverBooths 92 = .ok (.aload_n 0, 1) := by decide +kernel
theorem dX5_sumOverBooths_93 : decode cX5_sumOverBooths 93 = .ok (.iload_n 3, 1) := by decide +kernel
theorem dX5_sumOverBooths_94 : decode cX5_sumOverBooths 94 = .ok (.invokevirtual 132, 3) := by decide +kernel
theorem dX5_sumOverBooths_97 : decode cX5_sumOverBooths 97 = .ok (.ifCond .eq 7, 3) := by decide +kernel
theorem dX5_sumOverBooths_100 : decode cX5_sumOverBooths 100 = .ok (.iconst 1, 1) := by decide +kernel
theorem dX5_sumOverBooths_101 : decode cX5_sumOverBooths 101 = .ok (.goto 4, 3) := by decide +kernel
theorem dX5_sumOverBooths_104 : decode cX5_sumOverBooths 104 = .ok (.iconst 0, 1) := by decide +kernel
theorem dX5_sumOverBooths_105 : decode cX5_sumOverBooths 105 = .ok (.iadd, 1) := by decide +kernel
theorem dX5_sumOverBooths_106 : decode cX5_sumOverBooths 106 = .ok (.istore_n 2, 1) := by decide +kernel
theorem dX5_sumOverBooths_107 : decode cX5_sumOverBooths 107 = .ok (.iinc 3 1, 3) := by decide +kernel
theorem dX5_sumOverBooths_110 : decode cX5_sumOverBooths 110 = .ok (.goto (-106), 3) := by decide +kernel
theorem dX5_sumOverBooths_113 : decode cX5_sumOverBooths 113 = .ok (.iload_n 2, 1) := by decide +kernel
theorem dX5_sumOverBooths_114 : decode cX5_sumOverBooths 114 = .ok (.ireturn, 1) := by decide +kernel
set_option maxRecDepth 20000 in
theorem ggX5_copyFrom_X3_copyFrom : GoodIn wsX5_copyFrom wsX3_copyFrom := goodIn_r _ [13, 14, 15, 16, 17, 18, 19, 20, 21, 22, 23, 72, 73] (by decide +kernel) (by decide +kernel)
set_option maxRecDepth 20000 in
theorem gX5_copyFrom_X3_copyFrom : GoodIn wsX5_copyFrom (wsV RX5 186 RX3 yX3_copyFrom wsX3_copyFrom) := goodIn_app (goodIn_of _ (by decide +kernel)) ggX5_copyFrom_X3_copyFrom
set_option maxRecDepth 20000 in
theorem ggX5_copyFrom_X4_copyFrom : GoodIn wsX5_copyFrom wsX4_copyFrom := goodIn_r _ [28, 29, 30, 17, 18, 19, 31, 32, 21, 22, 23, 33, 74, 75, 76] (by decide +kernel) (by decide +kernel)
set_option maxRecDepth 20000 in
theorem gX5_copyFrom_X4_copyFrom : GoodIn wsX5_copyFrom (wsV RX5 190 RX4 yX4_copyFrom wsX4_copyFrom) := goodIn_app (goodIn_of _ (by decide +kernel)) ggX5_copyFrom_X4_copyFrom
set_option maxRecDepth 20000 in
theorem ggX5_copyFrom_X0_copyFrom : GoodIn wsX5_copyFrom wsX0_copyFrom := goodIn_r _ [38, 39, 40, 41, 42, 43, 44, 45, 46, 47, 48, 49, 10, 11, 12, 13, 14, 15, 16, 17, 18, 19, 20, 21, 22, 23, 50, 25, 26, 27, 28, 29, 30, 31, 32, 33, 77, 78, 79, 80, 81, 82, 83, 84, 85, 86, 72, 73, 74, 75, 76] (by decide +kernel) (by decide +kernel)
set_option maxRecDepth 20000 in
theorem gX5_copyFrom_X0_copyFrom : GoodIn wsX5_copyFrom (wsV RX5 193 RX0 yX0_copyFrom wsX0_copyFrom) := goodIn_app (goodIn_of _ (by decide +kernel)) ggX5_copyFrom_X0_copyFrom
set_option maxRecDepth 20000 in
theorem ggX5_copyFrom_X2_copyFrom : GoodIn wsX5_copyFrom wsX2_copyFrom := goodIn_r _ [55, 56, 57, 58, 59, 60, 61, 62, 87, 88, 89, 90, 91, 92, 93] (by decide +kernel) (by decide +kernel)
set_option maxRecDepth 20000 in
theorem gX5_copyFrom_X2_copyFrom : GoodIn wsX5_copyFrom (wsV RX5 195 RX2 yX2_copyFrom wsX2_copyFrom) := goodIn_app (goodIn_of _ (by decide +kernel)) ggX5_copyFrom_X2_copyFrom
theorem dX5_copyFrom_0 : decode cX5_copyFrom 0 = .ok (.aload_n 0, 1) := by decide +kernel
theorem dX5_copyFrom_1 : decode cX5_copyFrom 1 = .ok (.getfield 14, 3) := by decide +kernel
theorem dX5_copyFrom_4 : decode cX5_copyFrom 4 = .ok (.aload_n 1, 1) := by decide +kernel
theorem dX5_copyFrom_5 : decode cX5_copyFrom 5 = .ok (.getfield 14, 3) := by decide +kernel
theorem dX5_copyFrom_8 : decode cX5_copyFrom 8 = .ok (.invokevirtual 186, 3) := by decide +kernel
theorem dX5_copyFrom_11 : decode cX5_copyFrom 11 = .ok (.aload_n 0, 1) := by decide +kernel
