theorem dX5_copyFrom_12 : decode cX5_copyFrom 12 = .ok (.getfield 23, 3) := by decide +kernel
theorem dX5_copyFrom_15 : decode cX5_copyFrom 15 = .ok (.aload_n 1, 1) := by decide +kernel
theorem dX5_copyFrom_16 : decode cX5_copyFrom 16 = .ok (.getfield 23, 3) := by decide +kernel
theorem dX5_copyFrom_19 : decode cX5_copyFrom 19 = .ok (.invokevirtual 190, 3) := by decide +kernel
theorem dX5_copyFrom_22 : decode cX5_copyFrom 22 = .ok (.aload_n 0, 1) := by decide +kernel
theorem dX5_copyFrom_23 : decode cX5_copyFrom 23 = .ok (.aload_n 1, 1) := by decide +kernel
theorem dX5_copyFrom_24 : decode cX5_copyFrom 24 = .ok (.getfield 62, 3) := by decide +kernel
theorem dX5_copyFrom_27 : decode cX5_copyFrom 27 = .ok (.putfield 62, 3) := by decide +kernel
theorem dX5_copyFrom_30 : decode cX5_copyFrom 30 = .ok (.aload_n 0, 1) := by decide +kernel
theorem dX5_copyFrom_31 : decode cX5_copyFrom 31 = .ok (.aload_n 1, 1) := by decide +kernel
theorem dX5_copyFrom_32 : decode cX5_copyFrom 32 = .ok (.getfield 45, 3) := by decide +kernel
theorem dX5_copyFrom_35 : decode cX5_copyFrom 35 = .ok (.putfield 45, 3) := by decide +kernel
theorem dX5_copyFrom_38 : decode cX5_copyFrom 38 = .ok (.aload_n 0, 1) := by decide +kernel
theorem dX5_copyFrom_39 : decode cX5_copyFrom 39 = .ok (.aload_n 1, 1) := by decide +kernel
theorem dX5_copyFrom_40 : decode cX5_copyFrom 40 = .ok (.getfield 49, 3) := by decide +kernel
theorem dX5_copyFrom_43 : decode cX5_copyFrom 43 = .ok (.putfield 49, 3) := by decide +kernel
theorem dX5_copyFrom_46 : decode cX5_copyFrom 46 = .ok (.aload_n 0, 1) := by decide +kernel
theorem dX5_copyFrom_47 : decode cX5_copyFrom 47 = .ok (.aload_n 1, 1) := by decide +kernel
theorem dX5_copyFrom_48 : decode cX5_copyFrom 48 = .ok (.getfield 108, 3) := by decide +kernel
theorem dX5_copyFrom_51 : decode cX5_copyFrom 51 = .ok (.putfield 108, 3) := by decide +kernel
theorem dX5_copyFrom_54 : decode cX5_copyFrom 54 = .ok (.iconst 0, 1) := by decide +kernel
theorem dX5_copyFrom_55 : decode cX5_copyFrom 55 = .ok (.istore_n 2, 1) := by decide +kernel
theorem dX5_copyFrom_56 : decode cX5_copyFrom 56 = .ok (.iload_n 2, 1) := by decide +kernel
theorem dX5_copyFrom_57 : decode cX5_copyFrom 57 = .ok (.aload_n 0, 1) := by decide +kernel
theorem dX5_copyFrom_58 : decode cX5_copyFrom 58 = .ok (.getfield 45, 3) := by decide +kernel
theorem dX5_copyFrom_61 : decode cX5_copyFrom 61 = .ok (.if_icmp .ge 24, 3) := by decide +kernel
theorem dX5_copyFrom_64 : decode cX5_copyFrom 64 = .ok (.aload_n 0, 1) := by decide +kernel
theorem dX5_copyFrom_65 : decode cX5_copyFrom 65 = .ok (.getfield 29, 3) := by decide +kernel
theorem dX5_copyFrom_68 : decode cX5_copyFrom 68 = .ok (.iload_n 2, 1) := by decide +kernel
theorem dX5_copyFrom_69 : decode cX5_copyFrom 69 = .ok (.aaload, 1) := by decide +kernel
theorem dX5_copyFrom_70 : decode cX5_copyFrom 70 = .ok (.aload_n 1, 1) := by decide +kernel
theorem dX5_copyFrom_71 : decode cX5_copyFrom 71 = .ok (.getfield 29, 3) := by decide +kernel
theorem dX5_copyFrom_74 : decode cX5_copyFrom 74 = .ok (.iload_n 2, 1) := by decide +kernel
theorem dX5_copyFrom_75 : decode cX5_copyFrom 75 = .ok (.aaload, 1) := by decide +kernel
theorem dX5_copyFrom_76 : decode cX5_copyFrom 76 = .ok (.invokevirtual 193, 3) := by decide +kernel
theorem dX5_copyFrom_79 : decode cX5_copyFrom 79 = .ok (.iinc 2 1, 3) := by decide +kernel
theorem dX5_copyFrom_82 : decode cX5_copyFrom 82 = .ok (.goto (-26), 3) := by decide +kernel
theorem dX5_copyFrom_85 : decode cX5_copyFrom 85 = .ok (.iconst 0, 1) := by decide +kernel
theorem dX5_copyFrom_86 : decode cX5_copyFrom 86 = .ok (.istore_n 2, 1) := by decide +kernel
theorem dX5_copyFrom_87 : decode cX5_copyFrom 87 = .ok (.iload_n 2, 1) := by decide +kernel
theorem dX5_copyFrom_88 : decode cX5_copyFrom 88 = .ok (.aload_n 0, 1) := by decide +kernel
theorem dX5_copyFrom_89 : decode cX5_copyFrom 89 = .ok (.getfield 49, 3) := by decide +kernel
theorem dX5_copyFrom_92 : decode cX5_copyFrom 92 = .ok (.if_icmp .ge 24, 3) := by decide +kernel
theorem dX5_copyFrom_95 : decode cX5_copyFrom 95 = .ok (.aload_n 0, 1) := by decide +kernel
theorem dX5_copyFrom_96 : decode cX5_copyFrom 96 = .ok (.getfield 35, 3) := by decide +kernel
theorem dX5_copyFrom_99 : decode cX5_copyFrom 99 = .ok (.iload_n 2, 1) := by decide +kernel
theorem dX5_copyFrom_100 : decode cX5_copyFrom 100 = .ok (.aaload, 1) := by decide +kernel
theorem dX5_copyFrom_101 : decode cX5_copyFrom 101 = .ok (.aload_n 1, 1) := by decide +kernel
theorem dX5_copyFrom_102 : decode cX5_copyFrom 102 = .ok (.getfield 35, 3) := by decide +kernel
theorem dX5_copyFrom_105 : decode cX5_copyFrom 105 = .ok (.iload_n 2, 1) := by decide +kernel
theorem dX5_copyFrom_106 : decode cX5_copyFrom 106 = .ok (.aaload, 1) := by decide +kernel
theorem dX5_copyFrom_107 : decode cX5_copyFrom 107 = .ok (.invokevirtual 195, 3) := by decide +kernel
theorem dX5_copyFrom_110 : decode cX5_copyFrom 110 = .ok (.iinc 2 1, 3) := by decide +kernel
theorem dX5_copyFrom_113 : decode cX5_copyFrom 113 = .ok (.goto (-26), 3) := by decide +kernel
theorem dX5_copyFrom_116 : decode cX5_copyFrom 116 = .ok (.return_, 1) := by decide +kernel
set_option maxRecDepth 20000 in
theorem ggX6_init_X1_init : GoodIn wsX6_init wsX1_init := goodIn_r _ [13, 14, 2, 3, 15, 16, 17, 66, 67] (by decide +kernel) (by decide +kernel)
set_option maxRecDepth 20000 in
theorem gX6_init_X1_init_n9 : GoodIn wsX6_init (wsX1_init) := ggX6_init_X1_init
set_option maxRecDepth 20000 in
theorem ggX6_init_X5_init : GoodIn wsX6_init wsX5_init := goodIn_r _ [20, 21, 2, 3, 22, 23, 24, 25, 26, 27, 28, 29, 30, 31, 32, 33, 34, 35, 36, 37, 38, 39, 40, 41, 42, 43, 44, 45, 46, 47, 48, 49, 50, 51, 52, 53, 54, 55, 56, 57, 58, 59, 60, 61, 62, 63, 64, 65, 79, 80, 68, 69, 70, 71, 72, 73, 74, 75, 76, 81, 82, 83, 84, 85, 86, 87, 88, 89, 90, 91, 92, 93, 94, 95, 96, 97, 98, 99, 100] (by decide +kernel) (by decide +kernel)
set_option maxRecDepth 20000 in
theorem gX6_init_X5_init : GoodIn wsX6_init (wsX5_init) := ggX6_init_X5_init
theorem dX6_init_0 : decode cX6_init 0 = .ok (.aload_n 0, 1) := by decide +kernel
theorem dX6_init_1 : decode cX6_init 1 = .ok (.invokespecial 1, 3) := by decide +kernel
theorem dX6_init_4 : decode cX6_init 4 = .ok (.new 7, 3) := by decide +kernel
theorem dX6_init_7 : decode cX6_init 7 = .ok (.dup, 1) := by decide +kernel
theorem dX6_init_8 : decode cX6_init 8 = .ok (.invokespecial 9, 3) := by decide +kernel
theorem dX6_init_11 : decode cX6_init 11 = .ok (.astore_n 1, 1) := by decide +kernel
theorem dX6_init_12 : decode cX6_init 12 = .ok (.aload_n 0, 1) := by decide +kernel
theorem dX6_init_13 : decode cX6_init 13 = .ok (.new 10, 3) := by decide +kernel
theorem dX6_init_16 : decode cX6_init 16 = .ok (.dup, 1) := by decide +kernel
theorem dX6_init_17 : decode cX6_init 17 = .ok (.aload_n 1, 1) := by decide +kernel
theorem dX6_init_18 : decode cX6_init 18 = .ok (.invokespecial 12, 3) := by decide +kernel
theorem dX6_init_21 : decode cX6_init 21 = .ok (.putfield 15, 3) := by decide +kernel
theorem dX6_init_24 : decode cX6_init 24 = .ok (.aload_n 0, 1) := by decide +kernel
theorem dX6_init_25 : decode cX6_init 25 = .ok (.new 10, 3) := by decide +kernel
theorem dX6_init_28 : decode cX6_init 28 = .ok (.dup, 1) := by decide +kernel
theorem dX6_init_29 : decode cX6_init 29 = .ok (.aload_n 1, 1) := by decide +kernel
theorem dX6_init_30 : decode cX6_init 30 = .ok (.invokespecial 12, 3) := by decide +kernel
theorem dX6_init_33 : decode cX6_init 33 = .ok (.putfield 21, 3) := by decide +kernel
theorem dX6_init_36 : decode cX6_init 36 = .ok (.return_, 1) := by decide +kernel
set_option maxRecDepth 20000 in
theorem ggX6_setFloor_X6_isWithin : GoodIn wsX6_setFloor wsX6_isWithin := goodIn_r _ [6] (by decide +kernel) (by decide +kernel)
set_option maxRecDepth 20000 in
theorem gX6_setFloor_X6_isWithin : GoodIn wsX6_setFloor (va_wsS RX6 24 yX6_isWithin wsX6_isWithin) := goodIn_app (goodIn_of _ (by decide +kernel)) ggX6_setFloor_X6_isWithin
set_option maxRecDepth 20000 in
theorem ggX6_setFloor_X6_demand : GoodIn wsX6_setFloor wsX6_demand := goodIn_ca (goodIn_r _ [9, 10, 11] (by decide +kernel) (by decide +kernel)) (goodIn_sub (fun _ h => List.mem_cons_of_mem _ (List.mem_append_right _ h)) (by decide +kernel))
set_option maxRecDepth 20000 in
theorem gX6_setFloor_X6_demand : GoodIn wsX6_setFloor (va_wsS RX6 28 yX6_demand wsX6_demand) := goodIn_app (goodIn_of _ (by decide +kernel)) ggX6_setFloor_X6_demand
theorem dX6_setFloor_0 : decode cX6_setFloor 0 = .ok (.iload_n 1, 1) := by decide +kernel
theorem dX6_setFloor_1 : decode cX6_setFloor 1 = .ok (.iconst 0, 1) := by decide +kernel
theorem dX6_setFloor_2 : decode cX6_setFloor 2 = .ok (.bipush 7, 2) := by decide +kernel
theorem dX6_setFloor_4 : decode cX6_setFloor 4 = .ok (.invokestatic 24, 3) := by decide +kernel
theorem dX6_setFloor_7 : decode cX6_setFloor 7 = .ok (.invokestatic 28, 3) := by decide +kernel
theorem dX6_setFloor_10 : decode cX6_setFloor 10 = .ok (.aload_n 0, 1) := by decide +kernel
theorem dX6_setFloor_11 : decode cX6_setFloor 11 = .ok (.getfield 15, 3) := by decide +kernel
theorem dX6_setFloor_14 : decode cX6_setFloor 14 = .ok (.getfield 32, 3) := by decide +kernel
theorem dX6_setFloor_17 : decode cX6_setFloor 17 = .ok (.istore_n 2, 1) := by decide +kernel
theorem dX6_setFloor_18 : decode cX6_setFloor 18 = .ok (.aload_n 0, 1) := by decide +kernel
theorem dX6_setFloor_19 : decode cX6_setFloor 19 = .ok (.getfield 15, 3) := by decide +kernel
theorem dX6_setFloor_22 : decode cX6_setFloor 22 = .ok (.iload_n 1, 1) := by decide +kernel
theorem dX6_setFloor_23 : decode cX6_setFloor 23 = .ok (.putfield 32, 3) := by decide +kernel
theorem dX6_setFloor_26 : decode cX6_setFloor 26 = .ok (.iload_n 2, 1) := by decide +kernel
theorem dX6_setFloor_27 : decode cX6_setFloor 27 = .ok (.ireturn, 1) := by decide +kernel
set_option maxRecDepth 20000 in
theorem ggX6_speak_X6_isWithin : GoodIn wsX6_speak wsX6_isWithin := goodIn_r _ [7] (by decide +kernel) (by decide +kernel)
set_option maxRecDepth 20000 in
theorem gX6_speak_X6_isWithin : GoodIn wsX6_speak (va_wsS RX6 24 yX6_isWithin wsX6_isWithin) := goodIn_app (goodIn_of _ (by decide +kernel)) ggX6_speak_X6_isWithin
set_option maxRecDepth 20000 in
theorem ggX6_speak_X6_demand : GoodIn wsX6_speak wsX6_demand := goodIn_ca (goodIn_r _ [10, 11, 12] (by decide +kernel) (by decide +kernel)) (goodIn_sub (fun _ h => List.mem_cons_of_mem _ (List.mem_append_left _ (List.mem_append_right _ h))) (by decide +kernel))
set_option maxRecDepth 20000 in
theorem gX6_speak_X6_demand : GoodIn wsX6_speak (va_wsS RX6 28 yX6_demand wsX6_demand) := goodIn_app (goodIn_of _ (by decide +kernel)) ggX6_speak_X6_demand
set_option maxRecDepth 20000 in
theorem ggX6_speak_X6_allow : GoodIn wsX6_speak wsX6_allow := goodIn_ca (goodIn_r _ [15, 16, 17] (by decide +kernel) (by decide +kernel)) (goodIn_sub (fun _ h => List.mem_cons_of_mem _ (List.mem_append_right _ h)) (by decide +kernel))
set_option maxRecDepth 20000 in
theorem gX6_speak_X6_allow : GoodIn wsX6_speak (va_wsS RX6 45 yX6_allow wsX6_allow) := goodIn_app (goodIn_of _ (by decide +kernel)) ggX6_speak_X6_allow
set_option maxRecDepth 20000 in
theorem ggX6_speak_J9_floorMod_7cf53 : GoodIn wsX6_speak wsJ9_floorMod_7cf53 := goodIn_r _ [21] (by decide +kernel) (by decide +kernel)
set_option maxRecDepth 20000 in
theorem gX6_speak_J9_floorMod_7cf53 : GoodIn wsX6_speak (va_wsS RX6 48 yJ9_floorMod_7cf53 wsJ9_floorMod_7cf53) := goodIn_app (goodIn_of _ (by decide +kernel)) ggX6_speak_J9_floorMod_7cf53
set_option maxRecDepth 20000 in
theorem ggX6_speak_X3_add : GoodIn wsX6_speak wsX3_add := goodIn_r _ [26, 27, 28, 40, 41] (by decide +kernel) (by decide +kernel)
set_option maxRecDepth 20000 in
theorem gX6_speak_X3_add : GoodIn wsX6_speak (wsV RX6 54 RX3 yX3_add wsX3_add) := goodIn_app (goodIn_of _ (by decide +kernel)) ggX6_speak_X3_add
theorem dX6_speak_0 : decode cX6_speak 0 = .ok (.iload_n 1, 1) := by decide +kernel
theorem dX6_speak_1 : decode cX6_speak 1 = .ok (.iconst 0, 1) := by decide +kernel
theorem dX6_speak_2 : decode cX6_speak 2 = .ok (.bipush 99, 2) := by decide +kernel
theorem dX6_speak_4 : decode cX6_speak 4 = .ok (.invokestatic 24, 3) := by decide +kernel
theorem dX6_speak_7 : decode cX6_speak 7 = .ok (.ifCond .eq 18, 3) := by decide +kernel
theorem dX6_speak_10 : decode cX6_speak 10 = .ok (.iload_n 2, 1) := by decide +kernel
theorem dX6_speak_11 : decode cX6_speak 11 = .ok (.bipush (-99), 2) := by decide +kernel
theorem dX6_speak_13 : decode cX6_speak 13 = .ok (.bipush 99, 2) := by decide +kernel
theorem dX6_speak_15 : decode cX6_speak 15 = .ok (.invokestatic 24, 3) := by decide +kernel
theorem dX6_speak_18 : decode cX6_speak 18 = .ok (.ifCond .eq 7, 3) := by decide +kernel
theorem dX6_speak_21 : decode cX6_speak 21 = .ok (.iconst 1, 1) := by decide +kernel
theorem dX6_speak_22 : decode cX6_speak 22 = .ok (.goto 4, 3) := by decide +kernel
theorem dX6_speak_25 : decode cX6_speak 25 = .ok (.iconst 0, 1) := by decide +kernel
theorem dX6_speak_26 : decode cX6_speak 26 = .ok (.invokestatic 28, 3) := by decide +kernel
theorem dX6_speak_29 : decode cX6_speak 29 = .ok (.iload_n 3, 1) := by decide +kernel
theorem dX6_speak_30 : decode cX6_speak 30 = .ok (.iconst 1, 1) := by decide +kernel
theorem dX6_speak_31 : decode cX6_speak 31 = .ok (.bipush 40, 2) := by decide +kernel
theorem dX6_speak_33 : decode cX6_speak 33 = .ok (.invokestatic 24, 3) := by decide +kernel
theorem dX6_speak_36 : decode cX6_speak 36 = .ok (.invokestatic 28, 3) := by decide +kernel
theorem dX6_speak_39 : decode cX6_speak 39 = .ok (.aload_n 0, 1) := by decide +kernel
theorem dX6_speak_40 : decode cX6_speak 40 = .ok (.getfield 15, 3) := by decide +kernel
theorem dX6_speak_43 : decode cX6_speak 43 = .ok (.getfield 36, 3) := by decide +kernel
theorem dX6_speak_46 : decode cX6_speak 46 = .ok (.getfield 40, 3) := by decide +kernel
theorem dX6_speak_49 : decode cX6_speak 49 = .ok (.iload_n 3, 1) := by decide +kernel
theorem dX6_speak_50 : decode cX6_speak 50 = .ok (.iadd, 1) := by decide +kernel
theorem dX6_speak_51 : decode cX6_speak 51 = .ok (.bipush 120, 2) := by decide +kernel
theorem dX6_speak_53 : decode cX6_speak 53 = .ok (.if_icmp .gt 7, 3) := by decide +kernel
theorem dX6_speak_56 : decode cX6_speak 56 = .ok (.iconst 1, 1) := by decide +kernel
theorem dX6_speak_57 : decode cX6_speak 57 = .ok (.goto 4, 3) := by decide +kernel
theorem dX6_speak_60 : decode cX6_speak 60 = .ok (.iconst 0, 1) := by decide +kernel
theorem dX6_speak_61 : decode cX6_speak 61 = .ok (.invokestatic 45, 3) := by decide +kernel
theorem dX6_speak_64 : decode cX6_speak 64 = .ok (.iconst 0, 1) := by decide +kernel
theorem dX6_speak_65 : decode cX6_speak 65 = .ok (.istore 4, 2) := by decide +kernel
theorem dX6_speak_67 : decode cX6_speak 67 = .ok (.iload 4, 2) := by decide +kernel
theorem dX6_speak_69 : decode cX6_speak 69 = .ok (.iload_n 3, 1) := by decide +kernel
theorem dX6_speak_70 : decode cX6_speak 70 = .ok (.if_icmp .ge 30, 3) := by decide +kernel
theorem dX6_speak_73 : decode cX6_speak 73 = .ok (.aload_n 0, 1) := by decide +kernel
theorem dX6_speak_74 : decode cX6_speak 74 = .ok (.getfield 15, 3) := by decide +kernel
theorem dX6_speak_77 : decode cX6_speak 77 = .ok (.getfield 36, 3) := by decide +kernel
theorem dX6_speak_80 : decode cX6_speak 80 = .ok (.iload_n 1, 1) := by decide +kernel
theorem dX6_speak_81 : decode cX6_speak 81 = .ok (.iload 4, 2) := by decide +kernel
theorem dX6_speak_83 : decode cX6_speak 83 = .ok (.iload_n 2, 1) := by decide +kernel
theorem dX6_speak_84 : decode cX6_speak 84 = .ok (.imul, 1) := by decide +kernel
theorem dX6_speak_85 : decode cX6_speak 85 = .ok (.iadd, 1) := by decide +kernel
theorem dX6_speak_86 : decode cX6_speak 86 = .ok (.bipush 100, 2) := by decide +kernel
theorem dX6_speak_88 : decode cX6_speak 88 = .ok (.invokestatic 48, 3) := by decide +kernel
theorem dX6_speak_91 : decode cX6_speak 91 = .ok (.invokevirtual 54, 3) := by decide +kernel
theorem dX6_speak_94 : decode cX6_speak 94 = .ok (.iinc 4 1, 3) := by decide +kernel
theorem dX6_speak_97 : decode cX6_speak 97 = .ok (.goto (-30), 3) := by decide +kernel
theorem dX6_speak_100 : decode cX6_speak 100 = .ok (.aload_n 0, 1) := by decide +kernel
theorem dX6_speak_101 : decode cX6_speak 101 = .ok (.getfield 15, 3) := by decide +kernel
theorem dX6_speak_104 : decode cX6_speak 104 = .ok (.getfield 36, 3) := by decide +kernel
theorem dX6_speak_107 : decode cX6_speak 107 = .ok (.getfield 40, 3) := by decide +kernel
theorem dX6_speak_110 : decode cX6_speak 110 = .ok (.ireturn, 1) := by decide +kernel
set_option maxRecDepth 20000 in
theorem ggX6_rest_X6_isWithin : GoodIn wsX6_rest wsX6_isWithin := goodIn_r _ [7] (by decide +kernel) (by decide +kernel)
set_option maxRecDepth 20000 in
theorem gX6_rest_X6_isWithin : GoodIn wsX6_rest (va_wsS RX6 24 yX6_isWithin wsX6_isWithin) := goodIn_app (goodIn_of _ (by decide +kernel)) ggX6_rest_X6_isWithin
set_option maxRecDepth 20000 in
theorem ggX6_rest_X6_demand : GoodIn wsX6_rest wsX6_demand := goodIn_ca (goodIn_r _ [10, 11, 12] (by decide +kernel) (by decide +kernel)) (goodIn_sub (fun _ h => List.mem_cons_of_mem _ (List.mem_append_left _ (List.mem_append_right _ h))) (by decide +kernel))
set_option maxRecDepth 20000 in
theorem gX6_rest_X6_demand : GoodIn wsX6_rest (va_wsS RX6 28 yX6_demand wsX6_demand) := goodIn_app (goodIn_of _ (by decide +kernel)) ggX6_rest_X6_demand
set_option maxRecDepth 20000 in
theorem ggX6_rest_X6_allow : GoodIn wsX6_rest wsX6_allow := goodIn_ca (goodIn_r _ [15, 16, 17] (by decide +kernel) (by decide +kernel)) (goodIn_sub (fun _ h => List.mem_cons_of_mem _ (List.mem_append_right _ h)) (by decide +kernel))
set_option maxRecDepth 20000 in
theorem gX6_rest_X6_allow : GoodIn wsX6_rest (va_wsS RX6 45 yX6_allow wsX6_allow) := goodIn_app (goodIn_of _ (by decide +kernel)) ggX6_rest_X6_allow
set_option maxRecDepth 20000 in
theorem ggX6_rest_X3_add : GoodIn wsX6_rest wsX3_add := goodIn_r _ [22, 23, 24, 36, 37] (by decide +kernel) (by decide +kernel)
set_option maxRecDepth 20000 in
theorem gX6_rest_X3_add : GoodIn wsX6_rest (wsV RX6 54 RX3 yX3_add wsX3_add) := goodIn_app (goodIn_of _ (by decide +kernel)) ggX6_rest_X3_add
theorem dX6_rest_0 : decode cX6_rest 0 = .ok (.iload_n 1, 1) := by decide +kernel
theorem dX6_rest_1 : decode cX6_rest 1 = .ok (.iconst 1, 1) := by decide +kernel
theorem dX6_rest_2 : decode cX6_rest 2 = .ok (.bipush 40, 2) := by decide +kernel
theorem dX6_rest_4 : decode cX6_rest 4 = .ok (.invokestatic 24, 3) := by decide +kernel
theorem dX6_rest_7 : decode cX6_rest 7 = .ok (.invokestatic 28, 3) := by decide +kernel
theorem dX6_rest_10 : decode cX6_rest 10 = .ok (.aload_n 0, 1) := by decide +kernel
theorem dX6_rest_11 : decode cX6_rest 11 = .ok (.getfield 15, 3) := by decide +kernel
theorem dX6_rest_14 : decode cX6_rest 14 = .ok (.getfield 36, 3) := by decide +kernel
theorem dX6_rest_17 : decode cX6_rest 17 = .ok (.getfield 40, 3) := by decide +kernel
theorem dX6_rest_20 : decode cX6_rest 20 = .ok (.iload_n 1, 1) := by decide +kernel
theorem dX6_rest_21 : decode cX6_rest 21 = .ok (.iadd, 1) := by decide +kernel
theorem dX6_rest_22 : decode cX6_rest 22 = .ok (.bipush 120, 2) := by decide +kernel
theorem dX6_rest_24 : decode cX6_rest 24 = .ok (.if_icmp .gt 7, 3) := by decide +kernel
theorem dX6_rest_27 : decode cX6_rest 27 = .ok (.iconst 1, 1) := by decide +kernel
theorem dX6_rest_28 : decode cX6_rest 28 = .ok (.goto 4, 3) := by decide +kernel
theorem dX6_rest_31 : decode cX6_rest 31 = .ok (.iconst 0, 1) := by decide +kernel
theorem dX6_rest_32 : decode cX6_rest 32 = .ok (.invokestatic 45, 3) := by decide +kernel
theorem dX6_rest_35 : decode cX6_rest 35 = .ok (.iconst 0, 1) := by decide +kernel
theorem dX6_rest_36 : decode cX6_rest 36 = .ok (.istore_n 2, 1) := by decide +kernel
theorem dX6_rest_37 : decode cX6_rest 37 = .ok (.iload_n 2, 1) := by decide +kernel
theorem dX6_rest_38 : decode cX6_rest 38 = .ok (.iload_n 1, 1) := by decide +kernel
theorem dX6_rest_39 : decode cX6_rest 39 = .ok (.if_icmp .ge 20, 3) := by decide +kernel
theorem dX6_rest_42 : decode cX6_rest 42 = .ok (.aload_n 0, 1) := by decide +kernel
theorem dX6_rest_43 : decode cX6_rest 43 = .ok (.getfield 15, 3) := by decide +kernel
theorem dX6_rest_46 : decode cX6_rest 46 = .ok (.getfield 36, 3) := by decide +kernel
theorem dX6_rest_49 : decode cX6_rest 49 = .ok (.iconst (-1), 1) := by decide +kernel
theorem dX6_rest_50 : decode cX6_rest 50 = .ok (.invokevirtual 54, 3) := by decide +kernel
theorem dX6_rest_53 : decode cX6_rest 53 = .ok (.iinc 2 1, 3) := by decide +kernel
theorem dX6_rest_56 : decode cX6_rest 56 = .ok (.goto (-19), 3) := by decide +kernel
theorem dX6_rest_59 : decode cX6_rest 59 = .ok (.aload_n 0, 1) := by decide +kernel
theorem dX6_rest_60 : decode cX6_rest 60 = .ok (.getfield 15, 3) := by decide +kernel
theorem dX6_rest_63 : decode cX6_rest 63 = .ok (.getfield 36, 3) := by decide +kernel
theorem dX6_rest_66 : decode cX6_rest 66 = .ok (.getfield 40, 3) := by decide +kernel
theorem dX6_rest_69 : decode cX6_rest 69 = .ok (.ireturn, 1) := by decide +kernel
set_option maxRecDepth 20000 in
theorem ggX6_addInterpreter_X6_isWithin : GoodIn wsX6_addInterpreter wsX6_isWithin := goodIn_r _ [7] (by decide +kernel) (by decide +kernel)
set_option maxRecDepth 20000 in
theorem gX6_addInterpreter_X6_isWithin : GoodIn wsX6_addInterpreter (va_wsS RX6 24 yX6_isWithin wsX6_isWithin) := goodIn_app (goodIn_of _ (by decide +kernel)) ggX6_addInterpreter_X6_isWithin
set_option maxRecDepth 20000 in
theorem ggX6_addInterpreter_X6_demand : GoodIn wsX6_addInterpreter wsX6_demand := goodIn_ca (goodIn_r _ [10, 11, 12] (by decide +kernel) (by decide +kernel)) (goodIn_sub (fun _ h => List.mem_cons_of_mem _ (List.mem_append_left _ (List.mem_append_right _ h))) (by decide +kernel))
set_option maxRecDepth 20000 in
theorem gX6_addInterpreter_X6_demand : GoodIn wsX6_addInterpreter (va_wsS RX6 28 yX6_demand wsX6_demand) := goodIn_app (goodIn_of _ (by decide +kernel)) ggX6_addInterpreter_X6_demand
set_option maxRecDepth 20000 in
theorem ggX6_addInterpreter_X6_allow : GoodIn wsX6_addInterpreter wsX6_allow := goodIn_ca (goodIn_r _ [15, 16, 17] (by decide +kernel) (by decide +kernel)) (goodIn_sub (fun _ h => List.mem_cons_of_mem _ (List.mem_append_right _ h)) (by decide +kernel))
set_option maxRecDepth 20000 in
theorem gX6_addInterpreter_X6_allow : GoodIn wsX6_addInterpreter (va_wsS RX6 45 yX6_allow wsX6_allow) := goodIn_app (goodIn_of _ (by decide +kernel)) ggX6_addInterpreter_X6_allow
set_option maxRecDepth 20000 in
theorem ggX6_addInterpreter_X5_enrol : GoodIn wsX6_addInterpreter wsX5_enrol := goodIn_r _ [22, 23, 24, 25, 26, 29, 30, 31, 32, 33, 34, 35, 36, 37, 38, 39, 40, 41, 42, 43, 44] (by decide +kernel) (by decide +kernel)
set_option maxRecDepth 20000 in
theorem gX6_addInterpreter_X5_enrol : GoodIn wsX6_addInterpreter (wsV RX6 62 RX5 yX5_enrol wsX5_enrol) := goodIn_app (goodIn_of _ (by decide +kernel)) ggX6_addInterpreter_X5_enrol
theorem dX6_addInterpreter_0 : decode cX6_addInterpreter 0 = .ok (.iload_n 1, 1) := by decide +kernel
theorem dX6_addInterpreter_1 : decode cX6_addInterpreter 1 = .ok (.iconst 0, 1) := by decide +kernel
theorem dX6_addInterpreter_2 : decode cX6_addInterpreter 2 = .ok (.sipush 255, 3) := by decide +kernel
theorem dX6_addInterpreter_5 : decode cX6_addInterpreter 5 = .ok (.invokestatic 24, 3) := by decide +kernel
theorem dX6_addInterpreter_8 : decode cX6_addInterpreter 8 = .ok (.invokestatic 28, 3) := by decide +kernel
theorem dX6_addInterpreter_11 : decode cX6_addInterpreter 11 = .ok (.iload_n 2, 1) := by decide +kernel
theorem dX6_addInterpreter_12 : decode cX6_addInterpreter 12 = .ok (.iconst 0, 1) := by decide +kernel
theorem dX6_addInterpreter_13 : decode cX6_addInterpreter 13 = .ok (.ldc 58, 2) := by decide +kernel
theorem dX6_addInterpreter_15 : decode cX6_addInterpreter 15 = .ok (.invokestatic 24, 3) := by decide +kernel
theorem dX6_addInterpreter_18 : decode cX6_addInterpreter 18 = .ok (.invokestatic 28, 3) := by decide +kernel
theorem dX6_addInterpreter_21 : decode cX6_addInterpreter 21 = .ok (.aload_n 0, 1) := by decide +kernel
theorem dX6_addInterpreter_22 : decode cX6_addInterpreter 22 = .ok (.getfield 15, 3) := by decide +kernel
theorem dX6_addInterpreter_25 : decode cX6_addInterpreter 25 = .ok (.getfield 59, 3) := by decide +kernel
theorem dX6_addInterpreter_28 : decode cX6_addInterpreter 28 = .ok (.bipush 8, 2) := by decide +kernel
theorem dX6_addInterpreter_30 : decode cX6_addInterpreter 30 = .ok (.if_icmp .ge 7, 3) := by decide +kernel
theorem dX6_addInterpreter_33 : decode cX6_addInterpreter 33 = .ok (.iconst 1, 1) := by decide +kernel
theorem dX6_addInterpreter_34 : decode cX6_addInterpreter 34 = .ok (.goto 4, 3) := by decide +kernel
theorem dX6_addInterpreter_37 : decode cX6_addInterpreter 37 = .ok (.iconst 0, 1) := by decide +kernel
theorem dX6_addInterpreter_38 : decode cX6_addInterpreter 38 = .ok (.invokestatic 45, 3) := by decide +kernel
theorem dX6_addInterpreter_41 : decode cX6_addInterpreter 41 = .ok (.aload_n 0, 1) := by decide +kernel
theorem dX6_addInterpreter_42 : decode cX6_addInterpreter 42 = .ok (.getfield 15, 3) := by decide +kernel
theorem dX6_addInterpreter_45 : decode cX6_addInterpreter 45 = .ok (.iload_n 1, 1) := by decide +kernel
theorem dX6_addInterpreter_46 : decode cX6_addInterpreter 46 = .ok (.iload_n 2, 1) := by decide +kernel
theorem dX6_addInterpreter_47 : decode cX6_addInterpreter 47 = .ok (.invokevirtual 62, 3) := by decide +kernel
theorem dX6_addInterpreter_50 : decode cX6_addInterpreter 50 = .ok (.ireturn, 1) := by decide +kernel
set_option maxRecDepth 20000 in
theorem ggX6_addBooth_X6_isWithin : GoodIn wsX6_addBooth wsX6_isWithin := goodIn_r _ [6] (by decide +kernel) (by decide +kernel)
set_option maxRecDepth 20000 in
theorem gX6_addBooth_X6_isWithin : GoodIn wsX6_addBooth (va_wsS RX6 24 yX6_isWithin wsX6_isWithin) := goodIn_app (goodIn_of _ (by decide +kernel)) ggX6_addBooth_X6_isWithin
set_option maxRecDepth 20000 in
theorem ggX6_addBooth_X6_demand : GoodIn wsX6_addBooth wsX6_demand := goodIn_ca (goodIn_r _ [9, 10, 11] (by decide +kernel) (by decide +kernel)) (goodIn_sub (fun _ h => List.mem_cons_of_mem _ (List.mem_append_left _ (List.mem_append_right _ h))) (by decide +kernel))
set_option maxRecDepth 20000 in
theorem gX6_addBooth_X6_demand : GoodIn wsX6_addBooth (va_wsS RX6 28 yX6_demand wsX6_demand) := goodIn_app (goodIn_of _ (by decide +kernel)) ggX6_addBooth_X6_demand
set_option maxRecDepth 20000 in
theorem ggX6_addBooth_X6_allow : GoodIn wsX6_addBooth wsX6_allow := goodIn_ca (goodIn_r _ [14, 15, 16] (by decide +kernel) (by decide +kernel)) (goodIn_sub (fun _ h => List.mem_cons_of_mem _ (List.mem_append_right _ h)) (by decide +kernel))
set_option maxRecDepth 20000 in
theorem gX6_addBooth_X6_allow : GoodIn wsX6_addBooth (va_wsS RX6 45 yX6_allow wsX6_allow) := goodIn_app (goodIn_of _ (by decide +kernel)) ggX6_addBooth_X6_allow
set_option maxRecDepth 20000 in
theorem ggX6_addBooth_X5_build : GoodIn wsX6_addBooth wsX5_build := goodIn_r _ [21, 22, 23, 24, 25, 26, 29, 30, 31, 32, 33, 34, 35, 36, 37, 38, 39, 40, 41, 42, 43, 44, 45, 46, 47] (by decide +kernel) (by decide +kernel)
set_option maxRecDepth 20000 in
theorem gX6_addBooth_X5_build : GoodIn wsX6_addBooth (wsV RX6 68 RX5 yX5_build wsX5_build) := goodIn_app (goodIn_of _ (by decide +kernel)) ggX6_addBooth_X5_build
theorem dX6_addBooth_0 : decode cX6_addBooth 0 = .ok (.iload_n 1, 1) := by decide +kernel
theorem dX6_addBooth_1 : decode cX6_addBooth 1 = .ok (.iconst 0, 1) := by decide +kernel
theorem dX6_addBooth_2 : decode cX6_addBooth 2 = .ok (.bipush 7, 2) := by decide +kernel
theorem dX6_addBooth_4 : decode cX6_addBooth 4 = .ok (.invokestatic 24, 3) := by decide +kernel
theorem dX6_addBooth_7 : decode cX6_addBooth 7 = .ok (.ifCond .eq 17, 3) := by decide +kernel
theorem dX6_addBooth_10 : decode cX6_addBooth 10 = .ok (.iload_n 2, 1) := by decide +kernel
theorem dX6_addBooth_11 : decode cX6_addBooth 11 = .ok (.iconst 1, 1) := by decide +kernel
theorem dX6_addBooth_12 : decode cX6_addBooth 12 = .ok (.bipush 9, 2) := by decide +kernel
theorem dX6_addBooth_14 : decode cX6_addBooth 14 = .ok (.invokestatic 24, 3) := by decide +kernel
theorem dX6_addBooth_17 : decode cX6_addBooth 17 = .ok (.ifCond .eq 7, 3) := by decide +kernel
theorem dX6_addBooth_20 : decode cX6_addBooth 20 = .ok (.iconst 1, 1) := by decide +kernel
theorem dX6_addBooth_21 : decode cX6_addBooth 21 = .ok (.goto 4, 3) := by decide +kernel
theorem dX6_addBooth_24 : decode cX6_addBooth 24 = .ok (.iconst 0, 1) := by decide +kernel
theorem dX6_addBooth_25 : decode cX6_addBooth 25 = .ok (.invokestatic 28, 3) := by decide +kernel
theorem dX6_addBooth_28 : decode cX6_addBooth 28 = .ok (.iload_n 3, 1) := by decide +kernel
theorem dX6_addBooth_29 : decode cX6_addBooth 29 = .ok (.iconst 1, 1) := by decide +kernel
theorem dX6_addBooth_30 : decode cX6_addBooth 30 = .ok (.bipush 12, 2) := by decide +kernel
theorem dX6_addBooth_32 : decode cX6_addBooth 32 = .ok (.invokestatic 24, 3) := by decide +kernel
theorem dX6_addBooth_35 : decode cX6_addBooth 35 = .ok (.invokestatic 28, 3) := by decide +kernel
theorem dX6_addBooth_38 : decode cX6_addBooth 38 = .ok (.aload_n 0, 1) := by decide +kernel
theorem dX6_addBooth_39 : decode cX6_addBooth 39 = .ok (.getfield 15, 3) := by decide +kernel
theorem dX6_addBooth_42 : decode cX6_addBooth 42 = .ok (.getfield 65, 3) := by decide +kernel
theorem dX6_addBooth_45 : decode cX6_addBooth 45 = .ok (.bipush 6, 2) := by decide +kernel
theorem dX6_addBooth_47 : decode cX6_addBooth 47 = .ok (.if_icmp .ge 7, 3) := by decide +kernel
theorem dX6_addBooth_50 : decode cX6_addBooth 50 = .ok (.iconst 1, 1) := by decide +kernel
theorem dX6_addBooth_51 : decode cX6_addBooth 51 = .ok (.goto 4, 3) := by decide +kernel
theorem dX6_addBooth_54 : decode cX6_addBooth 54 = .ok (.iconst 0, 1) := by decide +kernel
theorem dX6_addBooth_55 : decode cX6_addBooth 55 = .ok (.invokestatic 45, 3) := by decide +kernel
theorem dX6_addBooth_58 : decode cX6_addBooth 58 = .ok (.aload_n 0, 1) := by decide +kernel
theorem dX6_addBooth_59 : decode cX6_addBooth 59 = .ok (.getfield 15, 3) := by decide +kernel
theorem dX6_addBooth_62 : decode cX6_addBooth 62 = .ok (.iload_n 1, 1) := by decide +kernel
theorem dX6_addBooth_63 : decode cX6_addBooth 63 = .ok (.iload_n 2, 1) := by decide +kernel
theorem dX6_addBooth_64 : decode cX6_addBooth 64 = .ok (.iload_n 3, 1) := by decide +kernel
theorem dX6_addBooth_65 : decode cX6_addBooth 65 = .ok (.invokevirtual 68, 3) := by decide +kernel
theorem dX6_addBooth_68 : decode cX6_addBooth 68 = .ok (.ireturn, 1) := by decide +kernel
set_option maxRecDepth 20000 in
theorem ggX6_tune_X5_hasBooth : GoodIn wsX6_tune wsX5_hasBooth := goodIn_r _ [8, 9, 30, 31, 32, 33, 34, 35, 36, 37, 38] (by decide +kernel) (by decide +kernel)
set_option maxRecDepth 20000 in
theorem gX6_tune_X5_hasBooth : GoodIn wsX6_tune (wsV RX6 72 RX5 yX5_hasBooth wsX5_hasBooth) := goodIn_app (goodIn_of _ (by decide +kernel)) ggX6_tune_X5_hasBooth
set_option maxRecDepth 20000 in
theorem ggX6_tune_X6_find : GoodIn wsX6_tune wsX6_find := goodIn_ca (goodIn_r _ [13, 14, 15] (by decide +kernel) (by decide +kernel)) (goodIn_sub (fun _ h => List.mem_cons_of_mem _ (List.mem_append_left _ (List.mem_append_right _ h))) (by decide +kernel))
set_option maxRecDepth 20000 in
theorem gX6_tune_X6_find : GoodIn wsX6_tune (va_wsS RX6 76 yX6_find wsX6_find) := goodIn_app (goodIn_of _ (by decide +kernel)) ggX6_tune_X6_find
set_option maxRecDepth 20000 in
theorem ggX6_tune_X5_comesBy : GoodIn wsX6_tune wsX5_comesBy := goodIn_r _ [19, 20, 21, 22, 5, 6, 7, 8, 9, 30, 31, 32, 33, 34, 35, 36, 37, 38, 39, 40, 41, 42, 43, 44, 45, 46, 47, 48] (by decide +kernel) (by decide +kernel)
set_option maxRecDepth 20000 in
theorem gX6_tune_X5_comesBy : GoodIn wsX6_tune (wsV RX6 79 RX5 yX5_comesBy wsX5_comesBy) := goodIn_app (goodIn_of _ (by decide +kernel)) ggX6_tune_X5_comesBy
set_option maxRecDepth 20000 in
theorem ggX6_tune_X6_demand : GoodIn wsX6_tune wsX6_demand := goodIn_ca (goodIn_r _ [25, 26, 27] (by decide +kernel) (by decide +kernel)) (goodIn_sub (fun _ h => List.mem_cons_of_mem _ (List.mem_append_right _ h)) (by decide +kernel))
set_option maxRecDepth 20000 in
theorem gX6_tune_X6_demand : GoodIn wsX6_tune (va_wsS RX6 28 yX6_demand wsX6_demand) := goodIn_app (goodIn_of _ (by decide +kernel)) ggX6_tune_X6_demand
theorem dX6_tune_0 : decode cX6_tune 0 = .ok (.aload_n 0, 1) := by decide +kernel
theorem dX6_tune_1 : decode cX6_tune 1 = .ok (.getfield 15, 3) := by decide +kernel
theorem dX6_tune_4 : decode cX6_tune 4 = .ok (.iload_n 1, 1) := by decide +kernel
theorem dX6_tune_5 : decode cX6_tune 5 = .ok (.invokevirtual 72, 3) := by decide +kernel
theorem dX6_tune_8 : decode cX6_tune 8 = .ok (.ifCond .eq 23, 3) := by decide +kernel
theorem dX6_tune_11 : decode cX6_tune 11 = .ok (.iload_n 2, 1) := by decide +kernel
theorem dX6_tune_12 : decode cX6_tune 12 = .ok (.iconst (-1), 1) := by decide +kernel
theorem dX6_tune_13 : decode cX6_tune 13 = .ok (.if_icmp .eq 14, 3) := by decide +kernel
theorem dX6_tune_16 : decode cX6_tune 16 = .ok (.aload_n 0, 1) := by decide +kernel
theorem dX6_tune_17 : decode cX6_tune 17 = .ok (.getfield 15, 3) := by decide +kernel
theorem dX6_tune_20 : decode cX6_tune 20 = .ok (.iload_n 2, 1) := by decide +kernel
theorem dX6_tune_21 : decode cX6_tune 21 = .ok (.invokevirtual 72, 3) := by decide +kernel
theorem dX6_tune_24 : decode cX6_tune 24 = .ok (.ifCond .eq 7, 3) := by decide +kernel
theorem dX6_tune_27 : decode cX6_tune 27 = .ok (.iconst 1, 1) := by decide +kernel
theorem dX6_tune_28 : decode cX6_tune 28 = .ok (.goto 4, 3) := by decide +kernel
theorem dX6_tune_31 : decode cX6_tune 31 = .ok (.iconst 0, 1) := by decide +kernel
theorem dX6_tune_32 : decode cX6_tune 32 = .ok (.invokestatic 76, 3) := by decide +kernel
theorem dX6_tune_35 : decode cX6_tune 35 = .ok (.aload_n 0, 1) := by decide +kernel
theorem dX6_tune_36 : decode cX6_tune 36 = .ok (.getfield 15, 3) := by decide +kernel
theorem dX6_tune_39 : decode cX6_tune 39 = .ok (.iload_n 2, 1) := by decide +kernel
theorem dX6_tune_40 : decode cX6_tune 40 = .ok (.iload_n 1, 1) := by decide +kernel
theorem dX6_tune_41 : decode cX6_tune 41 = .ok (.invokevirtual 79, 3) := by decide +kernel
theorem dX6_tune_44 : decode cX6_tune 44 = .ok (.ifCond .ne 7, 3) := by decide +kernel
theorem dX6_tune_47 : decode cX6_tune 47 = .ok (.iconst 1, 1) := by decide +kernel
theorem dX6_tune_48 : decode cX6_tune 48 = .ok (.goto 4, 3) := by decide +kernel
theorem dX6_tune_51 : decode cX6_tune 51 = .ok (.iconst 0, 1) := by decide +kernel
theorem dX6_tune_52 : decode cX6_tune 52 = .ok (.invokestatic 28, 3) := by decide +kernel
theorem dX6_tune_55 : decode cX6_tune 55 = .ok (.aload_n 0, 1) := by decide +kernel
theorem dX6_tune_56 : decode cX6_tune 56 = .ok (.getfield 15, 3) := by decide +kernel
theorem dX6_tune_59 : decode cX6_tune 59 = .ok (.getfield 83, 3) := by decide +kernel
theorem dX6_tune_62 : decode cX6_tune 62 = .ok (.iload_n 1, 1) := by decide +kernel
theorem dX6_tune_63 : decode cX6_tune 63 = .ok (.aaload, 1) := by decide +kernel
theorem dX6_tune_64 : decode cX6_tune 64 = .ok (.getfield 87, 3) := by decide +kernel
theorem dX6_tune_67 : decode cX6_tune 67 = .ok (.istore_n 3, 1) := by decide +kernel
theorem dX6_tune_68 : decode cX6_tune 68 = .ok (.aload_n 0, 1) := by decide +kernel
theorem dX6_tune_69 : decode cX6_tune 69 = .ok (.getfield 15, 3) := by decide +kernel
theorem dX6_tune_72 : decode cX6_tune 72 = .ok (.getfield 83, 3) := by decide +kernel
theorem dX6_tune_75 : decode cX6_tune 75 = .ok (.iload_n 1, 1) := by decide +kernel
theorem dX6_tune_76 : decode cX6_tune 76 = .ok (.aaload, 1) := by decide +kernel
theorem dX6_tune_77 : decode cX6_tune 77 = .ok (.iload_n 2, 1) := by decide +kernel
theorem dX6_tune_78 : decode cX6_tune 78 = .ok (.putfield 87, 3) := by decide +kernel
theorem dX6_tune_81 : decode cX6_tune 81 = .ok (.iload_n 3, 1) := by decide +kernel
theorem dX6_tune_82 : decode cX6_tune 82 = .ok (.ireturn, 1) := by decide +kernel
set_option maxRecDepth 20000 in
theorem ggX6_sit_X5_hasBooth : GoodIn wsX6_sit wsX5_hasBooth := goodIn_r _ [6, 7, 31, 32, 33, 34, 35, 36, 37, 38, 39] (by decide +kernel) (by decide +kernel)
set_option maxRecDepth 20000 in
theorem gX6_sit_X5_hasBooth : GoodIn wsX6_sit (wsV RX6 72 RX5 yX5_hasBooth wsX5_hasBooth) := goodIn_app (goodIn_of _ (by decide +kernel)) ggX6_sit_X5_hasBooth
set_option maxRecDepth 20000 in
theorem ggX6_sit_X5_hasInterpreter : GoodIn wsX6_sit wsX5_hasInterpreter := goodIn_r _ [11, 12, 31, 32, 33, 34, 35, 36, 37, 38, 39] (by decide +kernel) (by decide +kernel)
set_option maxRecDepth 20000 in
theorem gX6_sit_X5_hasInterpreter : GoodIn wsX6_sit (wsV RX6 92 RX5 yX5_hasInterpreter wsX5_hasInterpreter) := goodIn_app (goodIn_of _ (by decide +kernel)) ggX6_sit_X5_hasInterpreter
set_option maxRecDepth 20000 in
theorem ggX6_sit_X6_find : GoodIn wsX6_sit wsX6_find := goodIn_ca (goodIn_r _ [16, 17, 18] (by decide +kernel) (by decide +kernel)) (goodIn_sub (fun _ h => List.mem_cons_of_mem _ (List.mem_append_right _ h)) (by decide +kernel))
set_option maxRecDepth 20000 in
theorem gX6_sit_X6_find : GoodIn wsX6_sit (va_wsS RX6 76 yX6_find wsX6_find) := goodIn_app (goodIn_of _ (by decide +kernel)) ggX6_sit_X6_find
set_option maxRecDepth 20000 in
theorem ggX6_sit_X5_seat : GoodIn wsX6_sit wsX5_seat := goodIn_r _ [22, 23, 24, 25, 26, 27, 9, 10, 5, 11, 12, 28, 3, 4, 6, 7, 31, 32, 33, 34, 35, 36, 37, 38, 39, 40, 41, 42, 43, 44, 45, 46, 47, 48, 49, 50, 51, 52, 53, 54, 55, 56] (by decide +kernel) (by decide +kernel)
set_option maxRecDepth 20000 in
theorem gX6_sit_X5_seat : GoodIn wsX6_sit (wsV RX6 95 RX5 yX5_seat wsX5_seat) := goodIn_app (goodIn_of _ (by decide +kernel)) ggX6_sit_X5_seat
theorem dX6_sit_0 : decode cX6_sit 0 = .ok (.aload_n 0, 1) := by decide +kernel
theorem dX6_sit_1 : decode cX6_sit 1 = .ok (.getfield 15, 3) := by decide +kernel
theorem dX6_sit_4 : decode cX6_sit 4 = .ok (.iload_n 1, 1) := by decide +kernel
theorem dX6_sit_5 : decode cX6_sit 5 = .ok (.invokevirtual 72, 3) := by decide +kernel
theorem dX6_sit_8 : decode cX6_sit 8 = .ok (.ifCond .eq 23, 3) := by decide +kernel
theorem dX6_sit_11 : decode cX6_sit 11 = .ok (.iload_n 2, 1) := by decide +kernel
theorem dX6_sit_12 : decode cX6_sit 12 = .ok (.iconst (-1), 1) := by decide +kernel
theorem dX6_sit_13 : decode cX6_sit 13 = .ok (.if_icmp .eq 14, 3) := by decide +kernel
theorem dX6_sit_16 : decode cX6_sit 16 = .ok (.aload_n 0, 1) := by decide +kernel
theorem dX6_sit_17 : decode cX6_sit 17 = .ok (.getfield 15, 3) := by decide +kernel
theorem dX6_sit_20 : decode cX6_sit 20 = .ok (.iload_n 2, 1) := by decide +kernel
theorem dX6_sit_21 : decode cX6_sit 21 = .ok (.invokevirtual 92, 3) := by decide +kernel
theorem dX6_sit_24 : decode cX6_sit 24 = .ok (.ifCond .eq 7, 3) := by decide +kernel
theorem dX6_sit_27 : decode cX6_sit 27 = .ok (.iconst 1, 1) := by decide +kernel
theorem dX6_sit_28 : decode cX6_sit 28 = .ok (.goto 4, 3) := by decide +kernel
theorem dX6_sit_31 : decode cX6_sit 31 = .ok (.iconst 0, 1) := by decide +kernel
theorem dX6_sit_32 : decode cX6_sit 32 = .ok (.invokestatic 76, 3) := by decide +kernel
theorem dX6_sit_35 : decode cX6_sit 35 = .ok (.aload_n 0, 1) := by decide +kernel
theorem dX6_sit_36 : decode cX6_sit 36 = .ok (.getfield 15, 3) := by decide +kernel
theorem dX6_sit_39 : decode cX6_sit 39 = .ok (.iload_n 1, 1) := by decide +kernel
theorem dX6_sit_40 : decode cX6_sit 40 = .ok (.iload_n 2, 1) := by decide +kernel
theorem dX6_sit_41 : decode cX6_sit 41 = .ok (.invokevirtual 95, 3) := by decide +kernel
theorem dX6_sit_44 : decode cX6_sit 44 = .ok (.ireturn, 1) := by decide +kernel
set_option maxRecDepth 20000 in
theorem ggX6_swap_X5_hasBooth : GoodIn wsX6_swap wsX5_hasBooth := goodIn_r _ [6, 7, 52, 53, 54, 55, 56, 57, 58, 59, 60] (by decide +kernel) (by decide +kernel)
set_option maxRecDepth 20000 in
theorem gX6_swap_X5_hasBooth : GoodIn wsX6_swap (wsV RX6 72 RX5 yX5_hasBooth wsX5_hasBooth) := goodIn_app (goodIn_of _ (by decide +kernel)) ggX6_swap_X5_hasBooth
set_option maxRecDepth 20000 in
theorem ggX6_swap_X6_find : GoodIn wsX6_swap wsX6_find := goodIn_ca (goodIn_r _ [11, 12, 13] (by decide +kernel) (by decide +kernel)) (goodIn_sub (fun _ h => List.mem_cons_of_mem _ (List.mem_append_left _ (List.mem_append_right _ h))) (by decide +kernel))
set_option maxRecDepth 20000 in
theorem gX6_swap_X6_find : GoodIn wsX6_swap (va_wsS RX6 76 yX6_find wsX6_find) := goodIn_app (goodIn_of _ (by decide +kernel)) ggX6_swap_X6_find
set_option maxRecDepth 20000 in
theorem ggX6_swap_X6_demand : GoodIn wsX6_swap wsX6_demand := goodIn_ca (goodIn_r _ [16, 17, 18] (by decide +kernel) (by decide +kernel)) (goodIn_sub (fun _ h => List.mem_cons_of_mem _ (List.mem_append_right _ h)) (by decide +kernel))
set_option maxRecDepth 20000 in
theorem gX6_swap_X6_demand : GoodIn wsX6_swap (va_wsS RX6 28 yX6_demand wsX6_demand) := goodIn_app (goodIn_of _ (by decide +kernel)) ggX6_swap_X6_demand
set_option maxRecDepth 20000 in
theorem ggX6_swap_X5_seat : GoodIn wsX6_swap wsX5_seat := goodIn_r _ [22, 23, 24, 25, 26, 27, 28, 29, 5, 30, 31, 32, 3, 4, 6, 7, 52, 53, 54, 55, 56, 57, 58, 59, 60, 61, 62, 63, 64, 65, 66, 67, 68, 69, 70, 71, 72, 73, 74, 75, 76, 77] (by decide +kernel) (by decide +kernel)
set_option maxRecDepth 20000 in
theorem gX6_swap_X5_seat : GoodIn wsX6_swap (wsV RX6 95 RX5 yX5_seat wsX5_seat) := goodIn_app (goodIn_of _ (by decide +kernel)) ggX6_swap_X5_seat
set_option maxRecDepth 20000 in
theorem ggX6_swap_X5_isAble : GoodIn wsX6_swap wsX5_isAble := goodIn_r _ [36, 23, 24, 25, 37, 38, 27, 28, 29, 5, 30, 31, 39, 40, 41, 42, 43, 44, 45, 46, 47, 48, 49, 32, 3, 4, 6, 7, 52, 53, 54, 55, 56, 57, 58, 59, 60, 61, 62, 63, 64, 65, 66, 67, 68, 69, 70, 71, 72, 73, 74, 75, 76, 77] (by decide +kernel) (by decide +kernel)
set_option maxRecDepth 20000 in
theorem gX6_swap_X5_isAble : GoodIn wsX6_swap (wsV RX6 98 RX5 yX5_isAble wsX5_isAble) := goodIn_app (goodIn_of _ (by decide +kernel)) ggX6_swap_X5_isAble
theorem dX6_swap_0 : decode cX6_swap 0 = .ok (.aload_n 0, 1) := by decide +kernel
theorem dX6_swap_1 : decode cX6_swap 1 = .ok (.getfield 15, 3) := by decide +kernel
theorem dX6_swap_4 : decode cX6_swap 4 = .ok (.iload_n 1, 1) := by decide +kernel
theorem dX6_swap_5 : decode cX6_swap 5 = .ok (.invokevirtual 72, 3) := by decide +kernel
theorem dX6_swap_8 : decode cX6_swap 8 = .ok (.ifCond .eq 18, 3) := by decide +kernel
theorem dX6_swap_11 : decode cX6_swap 11 = .ok (.aload_n 0, 1) := by decide +kernel
theorem dX6_swap_12 : decode cX6_swap 12 = .ok (.getfield 15, 3) := by decide +kernel
theorem dX6_swap_15 : decode cX6_swap 15 = .ok (.iload_n 2, 1) := by decide +kernel
theorem dX6_swap_16 : decode cX6_swap 16 = .ok (.invokevirtual 72, 3) := by decide +kernel
theorem dX6_swap_19 : decode cX6_swap 19 = .ok (.ifCond .eq 7, 3) := by decide +kernel
theorem dX6_swap_22 : decode cX6_swap 22 = .ok (.iconst 1, 1) := by decide +kernel
theorem dX6_swap_23 : decode cX6_swap 23 = .ok (.goto 4, 3) := by decide +kernel
theorem dX6_swap_26 : decode cX6_swap 26 = .ok (.iconst 0, 1) := by decide +kernel
theorem dX6_swap_27 : decode cX6_swap 27 = .ok (.invokestatic 76, 3) := by decide +kernel
theorem dX6_swap_30 : decode cX6_swap 30 = .ok (.iload_n 1, 1) := by decide +kernel
theorem dX6_swap_31 : decode cX6_swap 31 = .ok (.iload_n 2, 1) := by decide +kernel
theorem dX6_swap_32 : decode cX6_swap 32 = .ok (.if_icmp .eq 7, 3) := by decide +kernel
theorem dX6_swap_35 : decode cX6_swap 35 = .ok (.iconst 1, 1) := by decide +kernel
theorem dX6_swap_36 : decode cX6_swap 36 = .ok (.goto 4, 3) := by decide +kernel
theorem dX6_swap_39 : decode cX6_swap 39 = .ok (.iconst 0, 1) := by decide +kernel
theorem dX6_swap_40 : decode cX6_swap 40 = .ok (.invokestatic 28, 3) := by decide +kernel
theorem dX6_swap_43 : decode cX6_swap 43 = .ok (.aload_n 0, 1) := by decide +kernel
theorem dX6_swap_44 : decode cX6_swap 44 = .ok (.getfield 15, 3) := by decide +kernel
theorem dX6_swap_47 : decode cX6_swap 47 = .ok (.iload_n 1, 1) := by decide +kernel
theorem dX6_swap_48 : decode cX6_swap 48 = .ok (.iconst (-1), 1) := by decide +kernel
theorem dX6_swap_49 : decode cX6_swap 49 = .ok (.invokevirtual 95, 3) := by decide +kernel
theorem dX6_swap_52 : decode cX6_swap 52 = .ok (.istore_n 3, 1) := by decide +kernel
theorem dX6_swap_53 : decode cX6_swap 53 = .ok (.aload_n 0, 1) := by decide +kernel
theorem dX6_swap_54 : decode cX6_swap 54 = .ok (.getfield 15, 3) := by decide +kernel
theorem dX6_swap_57 : decode cX6_swap 57 = .ok (.iload_n 2, 1) := by decide +kernel
theorem dX6_swap_58 : decode cX6_swap 58 = .ok (.iload_n 3, 1) := by decide +kernel
theorem dX6_swap_59 : decode cX6_swap 59 = .ok (.invokevirtual 95, 3) := by decide +kernel
theorem dX6_swap_62 : decode cX6_swap 62 = .ok (.istore 4, 2) := by decide +kernel
theorem dX6_swap_64 : decode cX6_swap 64 = .ok (.aload_n 0, 1) := by decide +kernel
theorem dX6_swap_65 : decode cX6_swap 65 = .ok (.getfield 15, 3) := by decide +kernel
theorem dX6_swap_68 : decode cX6_swap 68 = .ok (.iload_n 1, 1) := by decide +kernel
theorem dX6_swap_69 : decode cX6_swap 69 = .ok (.iload 4, 2) := by decide +kernel
theorem dX6_swap_71 : decode cX6_swap 71 = .ok (.invokevirtual 95, 3) := by decide +kernel
theorem dX6_swap_74 : decode cX6_swap 74 = .ok (.pop, 1) := by decide +kernel
theorem dX6_swap_75 : decode cX6_swap 75 = .ok (.aload_n 0, 1) := by decide +kernel
theorem dX6_swap_76 : decode cX6_swap 76 = .ok (.getfield 15, 3) := by decide +kernel
theorem dX6_swap_79 : decode cX6_swap 79 = .ok (.iload_n 1, 1) := by decide +kernel
theorem dX6_swap_80 : decode cX6_swap 80 = .ok (.invokevirtual 98, 3) := by decide +kernel
theorem dX6_swap_83 : decode cX6_swap 83 = .ok (.ifCond .eq 7, 3) := by decide +kernel
theorem dX6_swap_86 : decode cX6_swap 86 = .ok (.iconst 1, 1) := by decide +kernel
theorem dX6_swap_87 : decode cX6_swap 87 = .ok (.goto 4, 3) := by decide +kernel
theorem dX6_swap_90 : decode cX6_swap 90 = .ok (.iconst 0, 1) := by decide +kernel
theorem dX6_swap_91 : decode cX6_swap 91 = .ok (.aload_n 0, 1) := by decide +kernel
theorem dX6_swap_92 : decode cX6_swap 92 = .ok (.getfield 15, 3) := by decide +kernel
theorem dX6_swap_95 : decode cX6_swap 95 = .ok (.iload_n 2, 1) := by decide +kernel
theorem dX6_swap_96 : decode cX6_swap 96 = .ok (.invokevirtual 98, 3) := by decide +kernel
theorem dX6_swap_99 : decode cX6_swap 99 = .ok (.ifCond .eq 7, 3) := by decide +kernel
theorem dX6_swap_102 : decode cX6_swap 102 = .ok (.iconst 1, 1) := by decide +kernel
theorem dX6_swap_103 : decode cX6_swap 103 = .ok (.goto 4, 3) := by decide +kernel
theorem dX6_swap_106 : decode cX6_swap 106 = .ok (.iconst 0, 1) := by decide +kernel
theorem dX6_swap_107 : decode cX6_swap 107 = .ok (.iadd, 1) := by decide +kernel
theorem dX6_swap_108 : decode cX6_swap 108 = .ok (.ireturn, 1) := by decide +kernel
set_option maxRecDepth 20000 in
theorem ggX6_booth_X5_hasBooth : GoodIn wsX6_booth wsX5_hasBooth := goodIn_r _ [6, 7, 99, 100, 101, 102, 103, 104, 105, 106, 107] (by decide +kernel) (by decide +kernel)
set_option maxRecDepth 20000 in
theorem gX6_booth_X5_hasBooth : GoodIn wsX6_booth (wsV RX6 72 RX5 yX5_hasBooth wsX5_hasBooth) := goodIn_app (goodIn_of _ (by decide +kernel)) ggX6_booth_X5_hasBooth
set_option maxRecDepth 20000 in
theorem ggX6_booth_X6_isWithin : GoodIn wsX6_booth wsX6_isWithin := goodIn_r _ [11] (by decide +kernel) (by decide +kernel)
set_option maxRecDepth 20000 in
theorem gX6_booth_X6_isWithin : GoodIn wsX6_booth (va_wsS RX6 24 yX6_isWithin wsX6_isWithin) := goodIn_app (goodIn_of _ (by decide +kernel)) ggX6_booth_X6_isWithin
set_option maxRecDepth 20000 in
theorem ggX6_booth_X6_find : GoodIn wsX6_booth wsX6_find := goodIn_ca (goodIn_r _ [14, 15, 16] (by decide +kernel) (by decide +kernel)) (goodIn_sub (fun _ h => List.mem_cons_of_mem _ (List.mem_append_right _ h)) (by decide +kernel))
set_option maxRecDepth 20000 in
theorem gX6_booth_X6_find : GoodIn wsX6_booth (va_wsS RX6 76 yX6_find wsX6_find) := goodIn_app (goodIn_of _ (by decide +kernel)) ggX6_booth_X6_find
set_option maxRecDepth 20000 in
theorem ggX6_booth_X5_tellBooth : GoodIn wsX6_booth wsX5_tellBooth := goodIn_r _ [20, 21, 22, 23, 24, 25, 26, 27, 28, 29, 30, 31, 32, 33, 34, 35, 5, 36, 37, 3, 4, 6, 7, 38, 39, 40, 41, 42, 43, 44, 45, 46, 47, 48, 49, 50, 51, 52, 53, 54, 55, 56, 57, 58, 59, 60, 61, 62, 63, 64, 65, 66, 67, 68, 69, 70, 71, 72, 73, 74, 75, 76, 77, 78, 79, 80, 81, 82, 83, 9, 10, 11, 84, 85, 86, 87, 88, 89, 90, 91, 92, 93, 94, 95, 96, 99, 100, 101, 102, 103, 104, 105, 106, 107, 108, 109, 110, 111, 112, 113, 114, 115, 116, 117, 118, 119, 120, 121, 122, 123, 124, 125, 126, 127, 128, 129, 130, 131] (by decide +kernel) (by decide +kernel)
set_option maxRecDepth 20000 in
theorem gX6_booth_X5_tellBooth : GoodIn wsX6_booth (wsV RX6 101 RX5 yX5_tellBooth wsX5_tellBooth) := goodIn_app (goodIn_of _ (by decide +kernel)) ggX6_booth_X5_tellBooth
theorem dX6_booth_0 : decode cX6_booth 0 = .ok (.aload_n 0, 1) := by decide +kernel
theorem dX6_booth_1 : decode cX6_booth 1 = .ok (.getfield 15, 3) := by decide +kernel
theorem dX6_booth_4 : decode cX6_booth 4 = .ok (.iload_n 1, 1) := by decide +kernel
theorem dX6_booth_5 : decode cX6_booth 5 = .ok (.invokevirtual 72, 3) := by decide +kernel
theorem dX6_booth_8 : decode cX6_booth 8 = .ok (.ifCond .eq 17, 3) := by decide +kernel
theorem dX6_booth_11 : decode cX6_booth 11 = .ok (.iload_n 2, 1) := by decide +kernel
theorem dX6_booth_12 : decode cX6_booth 12 = .ok (.iconst 0, 1) := by decide +kernel
theorem dX6_booth_13 : decode cX6_booth 13 = .ok (.bipush 11, 2) := by decide +kernel
theorem dX6_booth_15 : decode cX6_booth 15 = .ok (.invokestatic 24, 3) := by decide +kernel
theorem dX6_booth_18 : decode cX6_booth 18 = .ok (.ifCond .eq 7, 3) := by decide +kernel
theorem dX6_booth_21 : decode cX6_booth 21 = .ok (.iconst 1, 1) := by decide +kernel
theorem dX6_booth_22 : decode cX6_booth 22 = .ok (.goto 4, 3) := by decide +kernel
theorem dX6_booth_25 : decode cX6_booth 25 = .ok (.iconst 0, 1) := by decide +kernel
theorem dX6_booth_26 : decode cX6_booth 26 = .ok (.invokestatic 76, 3) := by decide +kernel
theorem dX6_booth_29 : decode cX6_booth 29 = .ok (.aload_n 0, 1) := by decide +kernel
theorem dX6_booth_30 : decode cX6_booth 30 = .ok (.getfield 15, 3) := by decide +kernel
theorem dX6_booth_33 : decode cX6_booth 33 = .ok (.iload_n 1, 1) := by decide +kernel
theorem dX6_booth_34 : decode cX6_booth 34 = .ok (.iload_n 2, 1) := by decide +kernel
theorem dX6_booth_35 : decode cX6_booth 35 = .ok (.invokevirtual 101, 3) := by decide +kernel
theorem dX6_booth_38 : decode cX6_booth 38 = .ok (.ireturn, 1) := by decide +kernel
set_option maxRecDepth 20000 in
theorem ggX6_interpreter_X5_hasInterpreter : GoodIn wsX6_interpreter wsX5_hasInterpreter := goodIn_r _ [7, 8, 32, 33, 34, 35, 36, 37, 38, 39, 40] (by decide +kernel) (by decide +kernel)
set_option maxRecDepth 20000 in
theorem gX6_interpreter_X5_hasInterpreter : GoodIn wsX6_interpreter (wsV RX6 92 RX5 yX5_hasInterpreter wsX5_hasInterpreter) := goodIn_app (goodIn_of _ (by decide +kernel)) ggX6_interpreter_X5_hasInterpreter
set_option maxRecDepth 20000 in
theorem ggX6_interpreter_X6_isWithin : GoodIn wsX6_interpreter wsX6_isWithin := goodIn_r _ [12] (by decide +kernel) (by decide +kernel)
set_option maxRecDepth 20000 in
theorem gX6_interpreter_X6_isWithin : GoodIn wsX6_interpreter (va_wsS RX6 24 yX6_isWithin wsX6_isWithin) := goodIn_app (goodIn_of _ (by decide +kernel)) ggX6_interpreter_X6_isWithin
set_option maxRecDepth 20000 in
theorem ggX6_interpreter_X6_find : GoodIn wsX6_interpreter wsX6_find := goodIn_ca (goodIn_r _ [15, 16, 17] (by decide +kernel) (by decide +kernel)) (goodIn_sub (fun _ h => List.mem_cons_of_mem _ (List.mem_append_right _ h)) (by decide +kernel))
set_option maxRecDepth 20000 in
theorem gX6_interpreter_X6_find : GoodIn wsX6_interpreter (va_wsS RX6 76 yX6_find wsX6_find) := goodIn_app (goodIn_of _ (by decide +kernel)) ggX6_interpreter_X6_find
set_option maxRecDepth 20000 in
theorem ggX6_interpreter_X2_tell : GoodIn wsX6_interpreter wsX2_tell := goodIn_r _ [22, 23, 24, 25, 26, 27, 28, 29, 41, 42, 43, 44, 45, 46, 47] (by decide +kernel) (by decide +kernel)
set_option maxRecDepth 20000 in
theorem gX6_interpreter_X2_tell : GoodIn wsX6_interpreter (wsV RX6 108 RX2 yX2_tell wsX2_tell) := goodIn_app (goodIn_of _ (by decide +kernel)) ggX6_interpreter_X2_tell
theorem dX6_interpreter_0 : decode cX6_interpreter 0 = .ok (.aload_n 0, 1) := by decide +kernel
theorem dX6_interpreter_1 : decode cX6_interpreter 1 = .ok (.getfield 15, 3) := by decide +kernel
theorem dX6_interpreter_4 : decode cX6_interpreter 4 = .ok (.iload_n 1, 1) := by decide +kernel
theorem dX6_interpreter_5 : decode cX6_interpreter 5 = .ok (.invokevirtual 92, 3) := by decide +kernel
theorem dX6_interpreter_8 : decode cX6_interpreter 8 = .ok (.ifCond .eq 17, 3) := by decide +kernel
theorem dX6_interpreter_11 : decode cX6_interpreter 11 = .ok (.iload_n 2, 1) := by decide +kernel
theorem dX6_interpreter_12 : decode cX6_interpreter 12 = .ok (.iconst 0, 1) := by decide +kernel
theorem dX6_interpreter_13 : decode cX6_interpreter 13 = .ok (.bipush 6, 2) := by decide +kernel
theorem dX6_interpreter_15 : decode cX6_interpreter 15 = .ok (.invokestatic 24, 3) := by decide +kernel
theorem dX6_interpreter_18 : decode cX6_interpreter 18 = .ok (.ifCond .eq 7, 3) := by decide +kernel
theorem dX6_interpreter_21 : decode cX6_interpreter 21 = .ok (.iconst 1, 1) := by decide +kernel
theorem dX6_interpreter_22 : decode cX6_interpreter 22 = .ok (.goto 4, 3) := by decide +kernel
theorem dX6_interpreter_25 : decode cX6_interpreter 25 = .ok (.iconst 0, 1) := by decide +kernel
theorem dX6_interpreter_26 : decode cX6_interpreter 26 = .ok (.invokestatic 76, 3) := by decide +kernel
theorem dX6_interpreter_29 : decode cX6_interpreter 29 = .ok (.aload_n 0, 1) := by decide +kernel
theorem dX6_interpreter_30 : decode cX6_interpreter 30 = .ok (.getfield 15, 3) := by decide +kernel
theorem dX6_interpreter_33 : decode cX6_interpreter 33 = .ok (.getfield 104, 3) := by decide +kernel
theorem dX6_interpreter_36 : decode cX6_interpreter 36 = .ok (.iload_n 1, 1) := by decide +kernel
theorem dX6_interpreter_37 : decode cX6_interpreter 37 = .ok (.aaload, 1) := by decide +kernel
theorem dX6_interpreter_38 : decode cX6_interpreter 38 = .ok (.iload_n 2, 1) := by decide +kernel
theorem dX6_interpreter_39 : decode cX6_interpreter 39 = .ok (.invokevirtual 108, 3) := by decide +kernel
theorem dX6_interpreter_42 : decode cX6_interpreter 42 = .ok (.ireturn, 1) := by decide +kernel
set_option maxRecDepth 20000 in
theorem ggX6_pass_X6_isWithin : GoodIn wsX6_pass wsX6_isWithin := goodIn_r _ [6] (by decide +kernel) (by decide +kernel)
set_option maxRecDepth 20000 in
theorem gX6_pass_X6_isWithin : GoodIn wsX6_pass (va_wsS RX6 24 yX6_isWithin wsX6_isWithin) := goodIn_app (goodIn_of _ (by decide +kernel)) ggX6_pass_X6_isWithin
set_option maxRecDepth 20000 in
theorem ggX6_pass_X6_demand : GoodIn wsX6_pass wsX6_demand := goodIn_ca (goodIn_r _ [9, 10, 11] (by decide +kernel) (by decide +kernel)) (goodIn_sub (fun _ h => List.mem_cons_of_mem _ (List.mem_append_left _ (List.mem_append_right _ h))) (by decide +kernel))
set_option maxRecDepth 20000 in
theorem gX6_pass_X6_demand : GoodIn wsX6_pass (va_wsS RX6 28 yX6_demand wsX6_demand) := goodIn_app (goodIn_of _ (by decide +kernel)) ggX6_pass_X6_demand
set_option maxRecDepth 20000 in
theorem ggX6_pass_X6_allow : GoodIn wsX6_pass wsX6_allow := goodIn_ca (goodIn_r _ [14, 15, 16] (by decide +kernel) (by decide +kernel)) (goodIn_sub (fun _ h => List.mem_cons_of_mem _ (List.mem_append_right _ h)) (by decide +kernel))
set_option maxRecDepth 20000 in
theorem gX6_pass_X6_allow : GoodIn wsX6_pass (va_wsS RX6 45 yX6_allow wsX6_allow) := goodIn_app (goodIn_of _ (by decide +kernel)) ggX6_pass_X6_allow
set_option maxRecDepth 20000 in
theorem ggX6_pass_X5_goOn : GoodIn wsX6_pass wsX5_goOn := goodIn_r _ [21, 22, 23, 24, 25, 26, 20, 27, 28, 29, 30, 31, 32, 33, 34, 35, 36, 37, 38, 39, 40, 41, 42, 43, 44, 45, 46, 47, 48, 49, 50, 51, 52, 53, 54, 55, 56, 57, 58, 59, 60, 61, 62, 63, 64, 65, 66, 67, 68, 69, 70, 71, 72, 73, 74, 75, 76, 77, 78, 79, 80, 81, 82, 83, 84, 85, 86, 87, 88, 89, 90, 91, 92, 93, 94, 95, 96, 97, 98, 99, 100, 101, 102, 103, 104, 105, 106, 107, 108, 109, 110, 111, 112, 113, 114, 115, 116, 117, 118, 119, 120, 121, 122, 123, 124, 125, 126, 127, 128, 129, 130, 131, 132, 133, 134, 135, 136, 137, 138, 139, 140, 141, 142, 143, 144, 145, 146, 147, 4, 5, 6, 148, 149, 150, 151, 152, 153, 154, 155, 156, 157, 158, 159, 160, 161, 162, 163, 164, 165, 166, 169, 170, 171, 172, 173, 174, 175, 176, 177, 178, 179, 180, 181, 182, 183, 184, 185, 186, 187, 188, 189, 190, 191, 192, 193, 194, 195, 196, 197, 198, 199] (by decide +kernel) (by decide +kernel)
set_option maxRecDepth 20000 in
theorem gX6_pass_X5_goOn : GoodIn wsX6_pass (wsV RX6 117 RX5 yX5_goOn wsX5_goOn) := goodIn_app (goodIn_of _ (by decide +kernel)) ggX6_pass_X5_goOn
theorem dX6_pass_0 : decode cX6_pass 0 = .ok (.iload_n 1, 1) := by decide +kernel
theorem dX6_pass_1 : decode cX6_pass 1 = .ok (.iconst 1, 1) := by decide +kernel
theorem dX6_pass_2 : decode cX6_pass 2 = .ok (.bipush 100, 2) := by decide +kernel
theorem dX6_pass_4 : decode cX6_pass 4 = .ok (.invokestatic 24, 3) := by decide +kernel
theorem dX6_pass_7 : decode cX6_pass 7 = .ok (.invokestatic 28, 3) := by decide +kernel
theorem dX6_pass_10 : decode cX6_pass 10 = .ok (.aload_n 0, 1) := by decide +kernel
theorem dX6_pass_11 : decode cX6_pass 11 = .ok (.getfield 15, 3) := by decide +kernel
theorem dX6_pass_14 : decode cX6_pass 14 = .ok (.getfield 114, 3) := by decide +kernel
theorem dX6_pass_17 : decode cX6_pass 17 = .ok (.iload_n 1, 1) := by decide +kernel
theorem dX6_pass_18 : decode cX6_pass 18 = .ok (.iadd, 1) := by decide +kernel
theorem dX6_pass_19 : decode cX6_pass 19 = .ok (.sipush 400, 3) := by decide +kernel
theorem dX6_pass_22 : decode cX6_pass 22 = .ok (.if_icmp .gt 7, 3) := by decide +kernel
theorem dX6_pass_25 : decode cX6_pass 25 = .ok (.iconst 1, 1) := by decide +kernel
theorem dX6_pass_26 : decode cX6_pass 26 = .ok (.goto 4, 3) := by decide +kernel
theorem dX6_pass_29 : decode cX6_pass 29 = .ok (.iconst 0, 1) := by decide +kernel
theorem dX6_pass_30 : decode cX6_pass 30 = .ok (.invokestatic 45, 3) := by decide +kernel
theorem dX6_pass_33 : decode cX6_pass 33 = .ok (.aload_n 0, 1) := by decide +kernel
theorem dX6_pass_34 : decode cX6_pass 34 = .ok (.getfield 15, 3) := by decide +kernel
theorem dX6_pass_37 : decode cX6_pass 37 = .ok (.iload_n 1, 1) := by decide +kernel
theorem dX6_pass_38 : decode cX6_pass 38 = .ok (.invokevirtual 117, 3) := by decide +kernel
theorem dX6_pass_41 : decode cX6_pass 41 = .ok (.ireturn, 1) := by decide +kernel
set_option maxRecDepth 20000 in
theorem ggX6_said_X5_hasBooth : GoodIn wsX6_said wsX5_hasBooth := goodIn_r _ [7, 8, 43, 44, 45, 46, 47, 48, 49, 50, 51] (by decide +kernel) (by decide +kernel)
set_option maxRecDepth 20000 in
theorem gX6_said_X5_hasBooth : GoodIn wsX6_said (wsV RX6 72 RX5 yX5_hasBooth wsX5_hasBooth) := goodIn_app (goodIn_of _ (by decide +kernel)) ggX6_said_X5_hasBooth
set_option maxRecDepth 20000 in
theorem ggX6_said_X6_find : GoodIn wsX6_said wsX6_find := goodIn_ca (goodIn_r _ [12, 13, 14] (by decide +kernel) (by decide +kernel)) (goodIn_sub (fun _ h => List.mem_cons_of_mem _ (List.mem_append_right _ h)) (by decide +kernel))
set_option maxRecDepth 20000 in
theorem gX6_said_X6_find : GoodIn wsX6_said (va_wsS RX6 76 yX6_find wsX6_find) := goodIn_app (goodIn_of _ (by decide +kernel)) ggX6_said_X6_find
set_option maxRecDepth 20000 in
theorem ggX6_said_X5_speechOf : GoodIn wsX6_said wsX5_speechOf := goodIn_r _ [18, 19, 20, 21, 22, 4, 5, 6, 7, 8, 43, 44, 45, 46, 47, 48, 49, 50, 51, 52, 53, 54, 55, 56, 57, 58, 59, 60, 61] (by decide +kernel) (by decide +kernel)
set_option maxRecDepth 20000 in
theorem gX6_said_X5_speechOf : GoodIn wsX6_said (wsV RX6 120 RX5 yX5_speechOf wsX5_speechOf) := goodIn_app (goodIn_of _ (by decide +kernel)) ggX6_said_X5_speechOf
set_option maxRecDepth 20000 in
theorem ggX6_said_X6_isWithin : GoodIn wsX6_said wsX6_isWithin := goodIn_r _ [25] (by decide +kernel) (by decide +kernel)
set_option maxRecDepth 20000 in
theorem gX6_said_X6_isWithin : GoodIn wsX6_said (va_wsS RX6 24 yX6_isWithin wsX6_isWithin) := goodIn_app (goodIn_of _ (by decide +kernel)) ggX6_said_X6_isWithin
set_option maxRecDepth 20000 in
theorem ggX6_said_X4_tickAt : GoodIn wsX6_said wsX4_tickAt := goodIn_r _ [30, 31, 32, 24, 11, 25, 40, 41, 42] (by decide +kernel) (by decide +kernel)
set_option maxRecDepth 20000 in
theorem gX6_said_X4_tickAt : GoodIn wsX6_said (wsV RX6 127 RX4 yX4_tickAt wsX4_tickAt) := goodIn_app (goodIn_of _ (by decide +kernel)) ggX6_said_X4_tickAt
set_option maxRecDepth 20000 in
theorem ggX6_said_X4_wordAt : GoodIn wsX6_said wsX4_wordAt := goodIn_r _ [36, 31, 37, 24, 11, 25, 40, 41, 42] (by decide +kernel) (by decide +kernel)
set_option maxRecDepth 20000 in
theorem gX6_said_X4_wordAt : GoodIn wsX6_said (wsV RX6 130 RX4 yX4_wordAt wsX4_wordAt) := goodIn_app (goodIn_of _ (by decide +kernel)) ggX6_said_X4_wordAt
theorem dX6_said_0 : decode cX6_said 0 = .ok (.iload_n 1, 1) := by decide +kernel
theorem dX6_said_1 : decode cX6_said 1 = .ok (.iconst (-1), 1) := by decide +kernel
theorem dX6_said_2 : decode cX6_said 2 = .ok (.if_icmp .eq 14, 3) := by decide +kernel
theorem dX6_said_5 : decode cX6_said 5 = .ok (.aload_n 0, 1) := by decide +kernel
theorem dX6_said_6 : decode cX6_said 6 = .ok (.getfield 15, 3) := by decide +kernel
theorem dX6_said_9 : decode cX6_said 9 = .ok (.iload_n 1, 1) := by decide +kernel
theorem dX6_said_10 : decode cX6_said 10 = .ok (.invokevirtual 72, 3) := by decide +kernel
theorem dX6_said_13 : decode cX6_said 13 = .ok (.ifCond .eq 7, 3) := by decide +kernel
theorem dX6_said_16 : decode cX6_said 16 = .ok (.iconst 1, 1) := by decide +kernel
theorem dX6_said_17 : decode cX6_said 17 = .ok (.goto 4, 3) := by decide +kernel
theorem dX6_said_20 : decode cX6_said 20 = .ok (.iconst 0, 1) := by decide +kernel
theorem dX6_said_21 : decode cX6_said 21 = .ok (.invokestatic 76, 3) := by decide +kernel
theorem dX6_said_24 : decode cX6_said 24 = .ok (.aload_n 0, 1) := by decide +kernel
theorem dX6_said_25 : decode cX6_said 25 = .ok (.getfield 15, 3) := by decide +kernel
theorem dX6_said_28 : decode cX6_said 28 = .ok (.iload_n 1, 1) := by decide +kernel
theorem dX6_said_29 : decode cX6_said 29 = .ok (.invokevirtual 120, 3) := by decide +kernel
theorem dX6_said_32 : decode cX6_said 32 = .ok (.astore 4, 2) := by decide +kernel
theorem dX6_said_34 : decode cX6_said 34 = .ok (.iload_n 2, 1) := by decide +kernel
theorem dX6_said_35 : decode cX6_said 35 = .ok (.iconst 0, 1) := by decide +kernel
theorem dX6_said_36 : decode cX6_said 36 = .ok (.aload 4, 2) := by decide +kernel
theorem dX6_said_38 : decode cX6_said 38 = .ok (.getfield 124, 3) := by decide +kernel
theorem dX6_said_41 : decode cX6_said 41 = .ok (.iconst 1, 1) := by decide +kernel
theorem dX6_said_42 : decode cX6_said 42 = .ok (.isub, 1) := by decide +kernel
theorem dX6_said_43 : decode cX6_said 43 = .ok (.invokestatic 24, 3) := by decide +kernel
theorem dX6_said_46 : decode cX6_said 46 = .ok (.invokestatic 76, 3) := by decide +kernel
theorem dX6_said_49 : decode cX6_said 49 = .ok (.iload_n 3, 1) := by decide +kernel
theorem dX6_said_50 : decode cX6_said 50 = .ok (.ifCond .eq 12, 3) := by decide +kernel
theorem dX6_said_53 : decode cX6_said 53 = .ok (.aload 4, 2) := by decide +kernel
theorem dX6_said_55 : decode cX6_said 55 = .ok (.iload_n 2, 1) := by decide +kernel
theorem dX6_said_56 : decode cX6_said 56 = .ok (.invokevirtual 127, 3) := by decide +kernel
theorem dX6_said_59 : decode cX6_said 59 = .ok (.goto 9, 3) := by decide +kernel
theorem dX6_said_62 : decode cX6_said 62 = .ok (.aload 4, 2) := by decide +kernel
theorem dX6_said_64 : decode cX6_said 64 = .ok (.iload_n 2, 1) := by decide +kernel
theorem dX6_said_65 : decode cX6_said 65 = .ok (.invokevirtual 130, 3) := by decide +kernel
theorem dX6_said_68 : decode cX6_said 68 = .ok (.ireturn, 1) := by decide +kernel
set_option maxRecDepth 20000 in
theorem ggX6_count_X6_isWithin : GoodIn wsX6_count wsX6_isWithin := goodIn_r _ [5] (by decide +kernel) (by decide +kernel)
set_option maxRecDepth 20000 in
theorem gX6_count_X6_isWithin : GoodIn wsX6_count (va_wsS RX6 24 yX6_isWithin wsX6_isWithin) := goodIn_app (goodIn_of _ (by decide +kernel)) ggX6_count_X6_isWithin
set_option maxRecDepth 20000 in
theorem ggX6_count_X6_find : GoodIn wsX6_count wsX6_find := goodIn_ca (goodIn_r _ [8, 9, 10] (by decide +kernel) (by decide +kernel)) (goodIn_sub (fun _ h => List.mem_cons_of_mem _ (List.mem_append_right _ h)) (by decide +kernel))
set_option maxRecDepth 20000 in
theorem gX6_count_X6_find : GoodIn wsX6_count (va_wsS RX6 76 yX6_find wsX6_find) := goodIn_app (goodIn_of _ (by decide +kernel)) ggX6_count_X6_find
set_option maxRecDepth 20000 in
theorem ggX6_count_X5_tellCount : GoodIn wsX6_count wsX5_tellCount := goodIn_r _ [15, 16, 17, 18, 19, 20, 21, 22, 23, 24, 25, 26, 14, 27, 28, 29, 30, 31, 32, 33, 34, 35, 36, 37, 38, 39, 40, 41, 42, 43, 44, 45, 46, 47, 48, 49, 50, 51, 52, 53, 54, 55, 56, 57, 60, 61, 62, 63, 64, 65, 66, 67, 68, 69, 70, 71, 72, 73, 74, 75, 76, 77, 78, 79, 80, 81, 82, 83, 84, 85, 86, 87, 88, 89, 90] (by decide +kernel) (by decide +kernel)
set_option maxRecDepth 20000 in
theorem gX6_count_X5_tellCount : GoodIn wsX6_count (wsV RX6 133 RX5 yX5_tellCount wsX5_tellCount) := goodIn_app (goodIn_of _ (by decide +kernel)) ggX6_count_X5_tellCount
theorem dX6_count_0 : decode cX6_count 0 = .ok (.iload_n 1, 1) := by decide +kernel
theorem dX6_count_1 : decode cX6_count 1 = .ok (.iconst 0, 1) := by decide +kernel
theorem dX6_count_2 : decode cX6_count 2 = .ok (.bipush 9, 2) := by decide +kernel
theorem dX6_count_4 : decode cX6_count 4 = .ok (.invokestatic 24, 3) := by decide +kernel
theorem dX6_count_7 : decode cX6_count 7 = .ok (.invokestatic 76, 3) := by decide +kernel
theorem dX6_count_10 : decode cX6_count 10 = .ok (.aload_n 0, 1) := by decide +kernel
theorem dX6_count_11 : decode cX6_count 11 = .ok (.getfield 15, 3) := by decide +kernel
theorem dX6_count_14 : decode cX6_count 14 = .ok (.iload_n 1, 1) := by decide +kernel
theorem dX6_count_15 : decode cX6_count 15 = .ok (.invokevirtual 133, 3) := by decide +kernel
theorem dX6_count_18 : decode cX6_count 18 = .ok (.ireturn, 1) := by decide +kernel
set_option maxRecDepth 20000 in
theorem ggX6_foresee_X5_hasBooth : GoodIn wsX6_foresee wsX5_hasBooth := goodIn_r _ [12, 13, 245, 246, 247, 248, 249, 250, 251, 252, 253] (by decide +kernel) (by decide +kernel)
set_option maxRecDepth 20000 in
theorem gX6_foresee_X5_hasBooth : GoodIn wsX6_foresee (wsV RX6 72 RX5 yX5_hasBooth wsX5_hasBooth) := goodIn_app (goodIn_of _ (by decide +kernel)) ggX6_foresee_X5_hasBooth
set_option maxRecDepth 20000 in
theorem ggX6_foresee_X6_isWithin : GoodIn wsX6_foresee wsX6_isWithin := goodIn_r _ [17] (by decide +kernel) (by decide +kernel)
set_option maxRecDepth 20000 in
theorem gX6_foresee_X6_isWithin : GoodIn wsX6_foresee (va_wsS RX6 24 yX6_isWithin wsX6_isWithin) := goodIn_app (goodIn_of _ (by decide +kernel)) ggX6_foresee_X6_isWithin
set_option maxRecDepth 20000 in
theorem ggX6_foresee_X6_find : GoodIn wsX6_foresee wsX6_find := goodIn_ca (goodIn_r _ [20, 21, 22] (by decide +kernel) (by decide +kernel)) (goodIn_sub (fun _ h => List.mem_cons_of_mem _ (List.mem_append_left _ (List.mem_append_left _ (List.mem_append_right _ h)))) (by decide +kernel))
set_option maxRecDepth 20000 in
theorem gX6_foresee_X6_find : GoodIn wsX6_foresee (va_wsS RX6 76 yX6_find wsX6_find) := goodIn_app (goodIn_of _ (by decide +kernel)) ggX6_foresee_X6_find
set_option maxRecDepth 20000 in
theorem ggX6_foresee_X6_demand : GoodIn wsX6_foresee wsX6_demand := goodIn_ca (goodIn_r _ [25, 26, 27] (by decide +kernel) (by decide +kernel)) (goodIn_sub (fun _ h => List.mem_cons_of_mem _ (List.mem_append_left _ (List.mem_append_right _ h))) (by decide +kernel))
set_option maxRecDepth 20000 in
theorem gX6_foresee_X6_demand : GoodIn wsX6_foresee (va_wsS RX6 28 yX6_demand wsX6_demand) := goodIn_app (goodIn_of _ (by decide +kernel)) ggX6_foresee_X6_demand
set_option maxRecDepth 20000 in
theorem ggX6_foresee_X6_allow : GoodIn wsX6_foresee wsX6_allow := goodIn_ca (goodIn_r _ [30, 31, 32] (by decide +kernel) (by decide +kernel)) (goodIn_sub (fun _ h => List.mem_cons_of_mem _ (List.mem_append_right _ h)) (by decide +kernel))
set_option maxRecDepth 20000 in
theorem gX6_foresee_X6_allow : GoodIn wsX6_foresee (va_wsS RX6 45 yX6_allow wsX6_allow) := goodIn_app (goodIn_of _ (by decide +kernel)) ggX6_foresee_X6_allow
set_option maxRecDepth 20000 in
theorem ggX6_foresee_X5_copyFrom : GoodIn wsX6_foresee wsX5_copyFrom := goodIn_r _ [36, 37, 38, 39, 13, 40, 41, 42, 43, 44, 45, 46, 47, 48, 49, 50, 51, 52, 53, 54, 55, 56, 57, 58, 59, 60, 61, 62, 63, 64, 65, 66, 67, 68, 69, 70, 71, 72, 73, 74, 75, 76, 77, 78, 79, 80, 81, 82, 83, 84, 85, 86, 87, 88, 89, 90, 91, 92, 93, 94, 95, 96, 97, 245, 246, 247, 248, 249, 250, 251, 252, 253, 267, 268, 264, 265, 266, 254, 255, 256, 257, 258, 259, 260, 261, 262, 263, 269, 270, 271, 272, 273, 274, 275] (by decide +kernel) (by decide +kernel)
set_option maxRecDepth 20000 in
theorem gX6_foresee_X5_copyFrom : GoodIn wsX6_foresee (wsV RX6 136 RX5 yX5_copyFrom wsX5_copyFrom) := goodIn_app (goodIn_of _ (by decide +kernel)) ggX6_foresee_X5_copyFrom
set_option maxRecDepth 20000 in
theorem ggX6_foresee_X5_goOn : GoodIn wsX6_foresee wsX5_goOn := goodIn_r _ [101, 13, 41, 102, 103, 104, 11, 105, 37, 38, 106, 107, 108, 47, 109, 49, 50, 55, 56, 57, 58, 110, 111, 112, 62, 113, 64, 66, 68, 114, 115, 116, 117, 42, 43, 118, 119, 120, 121, 122, 123, 124, 125, 126, 127, 128, 129, 40, 130, 131, 132, 89, 133, 91, 134, 135, 136, 137, 39, 138, 9, 10, 12, 139, 140, 141, 142, 143, 144, 145, 146, 147, 72, 148, 74, 149, 75, 78, 150, 151, 152, 153, 154, 155, 156, 157, 158, 159, 160, 161, 162, 94, 163, 164, 53, 165, 166, 167, 168, 169, 170, 171, 172, 173, 174, 92, 175, 176, 177, 178, 95, 96, 179, 180, 181, 182, 183, 184, 185, 186, 187, 188, 189, 190, 191, 192, 193, 194, 15, 16, 17, 195, 196, 197, 198, 199, 200, 201, 202, 79, 83, 203, 204, 205, 206, 207, 208, 209, 210, 211, 245, 246, 247, 248, 249, 250, 251, 252, 253, 267, 268, 264, 265, 266, 254, 255, 256, 257, 258, 259, 260, 261, 262, 263, 269, 270, 271, 272, 273, 274, 275] (by decide +kernel) (by decide +kernel)
set_option maxRecDepth 20000 in
theorem gX6_foresee_X5_goOn : GoodIn wsX6_foresee (wsV RX6 117 RX5 yX5_goOn wsX5_goOn) := goodIn_app (goodIn_of _ (by decide +kernel)) ggX6_foresee_X5_goOn
set_option maxRecDepth 20000 in
theorem ggX6_foresee_X5_cameThroughAt : GoodIn wsX6_foresee wsX5_cameThroughAt := goodIn_r _ [215, 216, 38, 42, 119, 217, 218, 219, 220, 221, 222, 223, 224, 225, 226, 227, 228, 229, 196, 197, 62, 198, 64, 66, 15, 16, 17, 230, 231, 232, 233, 234, 235, 236, 237, 238, 239, 240, 241, 242, 245, 246, 247, 248, 249, 250, 251, 252, 253, 254, 255, 256, 257, 258, 259, 260, 261, 262, 263, 276, 277, 264, 265, 266] (by decide +kernel) (by decide +kernel)
set_option maxRecDepth 20000 in
theorem gX6_foresee_X5_cameThroughAt : GoodIn wsX6_foresee (wsV RX6 140 RX5 yX5_cameThroughAt wsX5_cameThroughAt) := goodIn_app (goodIn_of _ (by decide +kernel)) ggX6_foresee_X5_cameThroughAt
theorem dX6_foresee_0 : decode cX6_foresee 0 = .ok (.aload_n 0, 1) := by decide +kernel
theorem dX6_foresee_1 : decode cX6_foresee 1 = .ok (.getfield 15, 3) := by decide +kernel
theorem dX6_foresee_4 : decode cX6_foresee 4 = .ok (.iload_n 1, 1) := by decide +kernel
theorem dX6_foresee_5 : decode cX6_foresee 5 = .ok (.invokevirtual 72, 3) := by decide +kernel
theorem dX6_foresee_8 : decode cX6_foresee 8 = .ok (.ifCond .eq 16, 3) := by decide +kernel
theorem dX6_foresee_11 : decode cX6_foresee 11 = .ok (.iload_n 3, 1) := by decide +kernel
theorem dX6_foresee_12 : decode cX6_foresee 12 = .ok (.iconst 0, 1) := by decide +kernel
theorem dX6_foresee_13 : decode cX6_foresee 13 = .ok (.iconst 2, 1) := by decide +kernel
theorem dX6_foresee_14 : decode cX6_foresee 14 = .ok (.invokestatic 24, 3) := by decide +kernel
theorem dX6_foresee_17 : decode cX6_foresee 17 = .ok (.ifCond .eq 7, 3) := by decide +kernel
theorem dX6_foresee_20 : decode cX6_foresee 20 = .ok (.iconst 1, 1) := by decide +kernel
theorem dX6_foresee_21 : decode cX6_foresee 21 = .ok (.goto 4, 3) := by decide +kernel
theorem dX6_foresee_24 : decode cX6_foresee 24 = .ok (.iconst 0, 1) := by decide +kernel
theorem dX6_foresee_25 : decode cX6_foresee 25 = .ok (.invokestatic 76, 3) := by decide +kernel
theorem dX6_foresee_28 : decode cX6_foresee 28 = .ok (.iload_n 2, 1) := by decide +kernel
theorem dX6_foresee_29 : decode cX6_foresee 29 = .ok (.iconst 1, 1) := by decide +kernel
theorem dX6_foresee_30 : decode cX6_foresee 30 = .ok (.bipush 100, 2) := by decide +kernel
theorem dX6_foresee_32 : decode cX6_foresee 32 = .ok (.invokestatic 24, 3) := by decide +kernel
theorem dX6_foresee_35 : decode cX6_foresee 35 = .ok (.invokestatic 28, 3) := by decide +kernel
theorem dX6_foresee_38 : decode cX6_foresee 38 = .ok (.aload_n 0, 1) := by decide +kernel
theorem dX6_foresee_39 : decode cX6_foresee 39 = .ok (.getfield 15, 3) := by decide +kernel
theorem dX6_foresee_42 : decode cX6_foresee 42 = .ok (.getfield 114, 3) := by decide +kernel
theorem dX6_foresee_45 : decode cX6_foresee 45 = .ok (.iload_n 2, 1) := by decide +kernel
theorem dX6_foresee_46 : decode cX6_foresee 46 = .ok (.iadd, 1) := by decide +kernel
theorem dX6_foresee_47 : decode cX6_foresee 47 = .ok (.sipush 400, 3) := by decide +kernel
theorem dX6_foresee_50 : decode cX6_foresee 50 = .ok (.if_icmp .gt 7, 3) := by decide +kernel
theorem dX6_foresee_53 : decode cX6_foresee 53 = .ok (.iconst 1, 1) := by decide +kernel
theorem dX6_foresee_54 : decode cX6_foresee 54 = .ok (.goto 4, 3) := by decide +kernel
theorem dX6_foresee_57 : decode cX6_foresee 57 = .ok (.iconst 0, 1) := by decide +kernel
theorem dX6_foresee_58 : decode cX6_foresee 58 = .ok (.invokestatic 45, 3) := by decide +kernel
theorem dX6_foresee_61 : decode cX6_foresee 61 = .ok (.aload_n 0, 1) := by decide +kernel
theorem dX6_foresee_62 : decode cX6_foresee 62 = .ok (.getfield 21, 3) := by decide +kernel
theorem dX6_foresee_65 : decode cX6_foresee 65 = .ok (.aload_n 0, 1) := by decide +kernel
theorem dX6_foresee_66 : decode cX6_foresee 66 = .ok (.getfield 15, 3) := by decide +kernel
theorem dX6_foresee_69 : decode cX6_foresee 69 = .ok (.invokevirtual 136, 3) := by decide +kernel
theorem dX6_foresee_72 : decode cX6_foresee 72 = .ok (.aload_n 0, 1) := by decide +kernel
theorem dX6_foresee_73 : decode cX6_foresee 73 = .ok (.getfield 21, 3) := by decide +kernel
theorem dX6_foresee_76 : decode cX6_foresee 76 = .ok (.iload_n 2, 1) := by decide +kernel
theorem dX6_foresee_77 : decode cX6_foresee 77 = .ok (.invokevirtual 117, 3) := by decide +kernel
theorem dX6_foresee_80 : decode cX6_foresee 80 = .ok (.pop, 1) := by decide +kernel
theorem dX6_foresee_81 : decode cX6_foresee 81 = .ok (.iload_n 3, 1) := by decide +kernel
theorem dX6_foresee_82 : decode cX6_foresee 82 = .ok (.lookupswitch 48 #[(0, 26), (1, 35)], 26) := by decide +kernel
theorem dX6_foresee_108 : decode cX6_foresee 108 = .ok (.aload_n 0, 1) := by decide +kernel
theorem dX6_foresee_109 : decode cX6_foresee 109 = .ok (.getfield 21, 3) := by decide +kernel
theorem dX6_foresee_112 : decode cX6_foresee 112 = .ok (.iload_n 1, 1) := by decide +kernel
theorem dX6_foresee_113 : decode cX6_foresee 113 = .ok (.invokevirtual 140, 3) := by decide +kernel
theorem dX6_foresee_116 : decode cX6_foresee 116 = .ok (.ireturn, 1) := by decide +kernel
theorem dX6_foresee_117 : decode cX6_foresee 117 = .ok (.aload_n 0, 1) := by decide +kernel
theorem dX6_foresee_118 : decode cX6_foresee 118 = .ok (.getfield 21, 3) := by decide +kernel
theorem dX6_foresee_121 : decode cX6_foresee 121 = .ok (.getfield 83, 3) := by decide +kernel
theorem dX6_foresee_124 : decode cX6_foresee 124 = .ok (.iload_n 1, 1) := by decide +kernel
theorem dX6_foresee_125 : decode cX6_foresee 125 = .ok (.aaload, 1) := by decide +kernel
theorem dX6_foresee_126 : decode cX6_foresee 126 = .ok (.getfield 143, 3) := by decide +kernel
theorem dX6_foresee_129 : decode cX6_foresee 129 = .ok (.ireturn, 1) := by decide +kernel
theorem dX6_foresee_130 : decode cX6_foresee 130 = .ok (.aload_n 0, 1) := by decide +kernel
theorem dX6_foresee_131 : decode cX6_foresee 131 = .ok (.getfield 21, 3) := by decide +kernel
theorem dX6_foresee_134 : decode cX6_foresee 134 = .ok (.getfield 83, 3) := by decide +kernel
theorem dX6_foresee_137 : decode cX6_foresee 137 = .ok (.iload_n 1, 1) := by decide +kernel
theorem dX6_foresee_138 : decode cX6_foresee 138 = .ok (.aaload, 1) := by decide +kernel
theorem dX6_foresee_139 : decode cX6_foresee 139 = .ok (.getfield 146, 3) := by decide +kernel
theorem dX6_foresee_142 : decode cX6_foresee 142 = .ok (.getfield 124, 3) := by decide +kernel
theorem dX6_foresee_145 : decode cX6_foresee 145 = .ok (.ireturn, 1) := by decide +kernel
set_option maxRecDepth 20000 in
theorem ggX6_advise_X5_hasBooth : GoodIn wsX6_advise wsX5_hasBooth := goodIn_r _ [10, 11, 252, 253, 254, 255, 256, 257, 258, 259, 260] (by decide +kernel) (by decide +kernel)
set_option maxRecDepth 20000 in
theorem gX6_advise_X5_hasBooth : GoodIn wsX6_advise (wsV RX6 72 RX5 yX5_hasBooth wsX5_hasBooth) := goodIn_app (goodIn_of _ (by decide +kernel)) ggX6_advise_X5_hasBooth
set_option maxRecDepth 20000 in
theorem ggX6_advise_X6_find : GoodIn wsX6_advise wsX6_find := goodIn_ca (goodIn_r _ [15, 16, 17] (by decide +kernel) (by decide +kernel)) (goodIn_sub (fun _ h => List.mem_cons_of_mem _ (List.mem_append_left _ (List.mem_append_left _ (List.mem_append_right _ h)))) (by decide +kernel))
set_option maxRecDepth 20000 in
theorem gX6_advise_X6_find : GoodIn wsX6_advise (va_wsS RX6 76 yX6_find wsX6_find) := goodIn_app (goodIn_of _ (by decide +kernel)) ggX6_advise_X6_find
set_option maxRecDepth 20000 in
theorem ggX6_advise_X6_isWithin : GoodIn wsX6_advise wsX6_isWithin := goodIn_r _ [20] (by decide +kernel) (by decide +kernel)
set_option maxRecDepth 20000 in
theorem gX6_advise_X6_isWithin : GoodIn wsX6_advise (va_wsS RX6 24 yX6_isWithin wsX6_isWithin) := goodIn_app (goodIn_of _ (by decide +kernel)) ggX6_advise_X6_isWithin
set_option maxRecDepth 20000 in
theorem ggX6_advise_X6_demand : GoodIn wsX6_advise wsX6_demand := goodIn_ca (goodIn_r _ [23, 24, 25] (by decide +kernel) (by decide +kernel)) (goodIn_sub (fun _ h => List.mem_cons_of_mem _ (List.mem_append_left _ (List.mem_append_right _ h))) (by decide +kernel))
set_option maxRecDepth 20000 in
theorem gX6_advise_X6_demand : GoodIn wsX6_advise (va_wsS RX6 28 yX6_demand wsX6_demand) := goodIn_app (goodIn_of _ (by decide +kernel)) ggX6_advise_X6_demand
set_option maxRecDepth 20000 in
theorem ggX6_advise_X6_allow : GoodIn wsX6_advise wsX6_allow := goodIn_ca (goodIn_r _ [28, 29, 30] (by decide +kernel) (by decide +kernel)) (goodIn_sub (fun _ h => List.mem_cons_of_mem _ (List.mem_append_right _ h)) (by decide +kernel))
set_option maxRecDepth 20000 in
theorem gX6_advise_X6_allow : GoodIn wsX6_advise (va_wsS RX6 45 yX6_allow wsX6_allow) := goodIn_app (goodIn_of _ (by decide +kernel)) ggX6_advise_X6_allow
set_option maxRecDepth 20000 in
theorem ggX6_advise_X6_tryOut : GoodIn wsX6_advise wsX6_tryOut := goodIn_r _ [34, 35, 1, 36, 37, 38, 9, 39, 40, 41, 42, 11, 43, 44, 45, 46, 47, 48, 49, 50, 51, 52, 53, 54, 55, 56, 57, 58, 59, 60, 61, 62, 63, 64, 65, 66, 67, 68, 69, 70, 71, 72, 73, 74, 75, 76, 77, 78, 79, 80, 81, 82, 83, 84, 85, 86, 87, 88, 89, 90, 91, 92, 93, 94, 95, 96, 97, 98, 99, 100, 101, 102, 103, 104, 105, 106, 107, 108, 109, 110, 111, 7, 8, 10, 112, 113, 114, 115, 116, 117, 118, 119, 120, 121, 122, 123, 124, 125, 126, 127, 128, 129, 130, 131, 132, 133, 134, 135, 136, 137, 138, 139, 140, 141, 142, 143, 144, 145, 146, 147, 148, 149, 150, 151, 152, 153, 154, 155, 156, 157, 158, 159, 160, 161, 162, 163, 164, 165, 166, 167, 168, 169, 170, 171, 172, 173, 174, 175, 176, 177, 178, 179, 180, 181, 182, 183, 184, 185, 186, 187, 188, 189, 190, 191, 192, 193, 194, 195, 196, 197, 198, 199, 200, 201, 202, 19, 14, 20, 203, 204, 205, 206, 207, 208, 209, 210, 211, 212, 213, 214, 215, 216, 217, 218, 219, 220, 221, 222, 223, 224, 225, 226, 227, 228, 229, 230, 231, 232, 233, 234, 235, 236, 237, 238, 239, 240, 241, 242, 243, 244, 245, 246, 247, 248, 249, 250, 251, 252, 253, 254, 255, 256, 257, 258, 259, 260, 268, 269, 270, 271, 272, 273, 274, 275, 276, 277, 278, 279, 280, 281, 282, 261, 262, 263, 264, 265, 266, 267, 283, 284] (by decide +kernel) (by decide +kernel)
set_option maxRecDepth 20000 in
theorem gX6_advise_X6_tryOut : GoodIn wsX6_advise (wsV RX6 153 RX6 yX6_tryOut wsX6_tryOut) := goodIn_app (goodIn_of _ (by decide +kernel)) ggX6_advise_X6_tryOut
theorem dX6_advise_0 : decode cX6_advise 0 = .ok (.aload_n 0, 1) := by decide +kernel
theorem dX6_advise_1 : decode cX6_advise 1 = .ok (.getfield 15, 3) := by decide +kernel
theorem dX6_advise_4 : decode cX6_advise 4 = .ok (.iload_n 1, 1) := by decide +kernel
theorem dX6_advise_5 : decode cX6_advise 5 = .ok (.invokevirtual 72, 3) := by decide +kernel
theorem dX6_advise_8 : decode cX6_advise 8 = .ok (.invokestatic 76, 3) := by decide +kernel
theorem dX6_advise_11 : decode cX6_advise 11 = .ok (.iload_n 2, 1) := by decide +kernel
theorem dX6_advise_12 : decode cX6_advise 12 = .ok (.iconst 1, 1) := by decide +kernel
theorem dX6_advise_13 : decode cX6_advise 13 = .ok (.bipush 40, 2) := by decide +kernel
theorem dX6_advise_15 : decode cX6_advise 15 = .ok (.invokestatic 24, 3) := by decide +kernel
theorem dX6_advise_18 : decode cX6_advise 18 = .ok (.invokestatic 28, 3) := by decide +kernel
theorem dX6_advise_21 : decode cX6_advise 21 = .ok (.aload_n 0, 1) := by decide +kernel
theorem dX6_advise_22 : decode cX6_advise 22 = .ok (.getfield 15, 3) := by decide +kernel
theorem dX6_advise_25 : decode cX6_advise 25 = .ok (.getfield 114, 3) := by decide +kernel
theorem dX6_advise_28 : decode cX6_advise 28 = .ok (.iload_n 2, 1) := by decide +kernel
theorem dX6_advise_29 : decode cX6_advise 29 = .ok (.iadd, 1) := by decide +kernel
theorem dX6_advise_30 : decode cX6_advise 30 = .ok (.sipush 400, 3) := by decide +kernel
theorem dX6_advise_33 : decode cX6_advise 33 = .ok (.if_icmp .gt 7, 3) := by decide +kernel
theorem dX6_advise_36 : decode cX6_advise 36 = .ok (.iconst 1, 1) := by decide +kernel
theorem dX6_advise_37 : decode cX6_advise 37 = .ok (.goto 4, 3) := by decide +kernel
theorem dX6_advise_40 : decode cX6_advise 40 = .ok (.iconst 0, 1) := by decide +kernel
theorem dX6_advise_41 : decode cX6_advise 41 = .ok (.invokestatic 45, 3) := by decide +kernel
theorem dX6_advise_44 : decode cX6_advise 44 = .ok (.iconst (-1), 1) := by decide +kernel
theorem dX6_advise_45 : decode cX6_advise 45 = .ok (.istore_n 3, 1) := by decide +kernel
theorem dX6_advise_46 : decode cX6_advise 46 = .ok (.iconst (-1), 1) := by decide +kernel
theorem dX6_advise_47 : decode cX6_advise 47 = .ok (.istore 4, 2) := by decide +kernel
theorem dX6_advise_49 : decode cX6_advise 49 = .ok (.iconst 0, 1) := by decide +kernel
theorem dX6_advise_50 : decode cX6_advise 50 = .ok (.istore 5, 2) := by decide +kernel
theorem dX6_advise_52 : decode cX6_advise 52 = .ok (.iload 5, 2) := by decide +kernel
theorem dX6_advise_54 : decode cX6_advise 54 = .ok (.aload_n 0, 1) := by decide +kernel
theorem dX6_advise_55 : decode cX6_advise 55 = .ok (.getfield 15, 3) := by decide +kernel
theorem dX6_advise_58 : decode cX6_advise 58 = .ok (.getfield 59, 3) := by decide +kernel
theorem dX6_advise_61 : decode cX6_advise 61 = .ok (.if_icmp .ge 60, 3) := by decide +kernel
theorem dX6_advise_64 : decode cX6_advise 64 = .ok (.aload_n 0, 1) := by decide +kernel
theorem dX6_advise_65 : decode cX6_advise 65 = .ok (.getfield 15, 3) := by decide +kernel
theorem dX6_advise_68 : decode cX6_advise 68 = .ok (.getfield 104, 3) := by decide +kernel
theorem dX6_advise_71 : decode cX6_advise 71 = .ok (.iload 5, 2) := by decide +kernel
theorem dX6_advise_73 : decode cX6_advise 73 = .ok (.aaload, 1) := by decide +kernel
theorem dX6_advise_74 : decode cX6_advise 74 = .ok (.getfield 150, 3) := by decide +kernel
theorem dX6_advise_77 : decode cX6_advise 77 = .ok (.istore 6, 2) := by decide +kernel
theorem dX6_advise_79 : decode cX6_advise 79 = .ok (.iload 6, 2) := by decide +kernel
theorem dX6_advise_81 : decode cX6_advise 81 = .ok (.iconst (-1), 1) := by decide +kernel
theorem dX6_advise_82 : decode cX6_advise 82 = .ok (.if_icmp .eq 9, 3) := by decide +kernel
theorem dX6_advise_85 : decode cX6_advise 85 = .ok (.iload 6, 2) := by decide +kernel
theorem dX6_advise_87 : decode cX6_advise 87 = .ok (.iload_n 1, 1) := by decide +kernel
theorem dX6_advise_88 : decode cX6_advise 88 = .ok (.if_icmp .ne 27, 3) := by decide +kernel
theorem dX6_advise_91 : decode cX6_advise 91 = .ok (.aload_n 0, 1) := by decide +kernel
theorem dX6_advise_92 : decode cX6_advise 92 = .ok (.iload_n 1, 1) := by decide +kernel
theorem dX6_advise_93 : decode cX6_advise 93 = .ok (.iload 5, 2) := by decide +kernel
theorem dX6_advise_95 : decode cX6_advise 95 = .ok (.iload_n 2, 1) := by decide +kernel
theorem dX6_advise_96 : decode cX6_advise 96 = .ok (.invokevirtual 153, 3) := by decide +kernel
theorem dX6_advise_99 : decode cX6_advise 99 = .ok (.istore 7, 2) := by decide +kernel
theorem dX6_advise_101 : decode cX6_advise 101 = .ok (.iload 7, 2) := by decide +kernel
theorem dX6_advise_103 : decode cX6_advise 103 = .ok (.iload 4, 2) := by decide +kernel
theorem dX6_advise_105 : decode cX6_advise 105 = .ok (.if_icmp .le 10, 3) := by decide +kernel
theorem dX6_advise_108 : decode cX6_advise 108 = .ok (.iload 7, 2) := by decide +kernel
theorem dX6_advise_110 : decode cX6_advise 110 = .ok (.istore 4, 2) := by decide +kernel
theorem dX6_advise_112 : decode cX6_advise 112 = .ok (.iload 5, 2) := by decide +kernel
theorem dX6_advise_114 : decode cX6_advise 114 = .ok (.istore_n 3, 1) := by decide +kernel
theorem dX6_advise_115 : decode cX6_advise 115 = .ok (.iinc 5 1, 3) := by decide +kernel
theorem dX6_advise_118 : decode cX6_advise 118 = .ok (.goto (-66), 3) := by decide +kernel
theorem dX6_advise_121 : decode cX6_advise 121 = .ok (.iload_n 3, 1) := by decide +kernel
theorem dX6_advise_122 : decode cX6_advise 122 = .ok (.ireturn, 1) := by decide +kernel
set_option maxRecDepth 20000 in
theorem ggX6_through_X5_cameThroughAt : GoodIn wsX6_through wsX5_cameThroughAt := goodIn_r _ [9, 10, 11, 12, 13, 14, 15, 16, 17, 18, 19, 20, 21, 22, 23, 24, 25, 26, 27, 28, 29, 30, 31, 32, 33, 34, 35, 36, 37, 38, 39, 40, 41, 42, 43, 44, 45, 46, 47, 48, 51, 52, 53, 54, 55, 56, 57, 58, 59, 63, 64, 65, 66, 67, 68, 69, 70, 71, 72, 73, 74, 60, 61, 62] (by decide +kernel) (by decide +kernel)
set_option maxRecDepth 20000 in
theorem gX6_through_X5_cameThroughAt : GoodIn wsX6_through (wsV RX6 140 RX5 yX5_cameThroughAt wsX5_cameThroughAt) := goodIn_app (goodIn_of _ (by decide +kernel)) ggX6_through_X5_cameThroughAt
theorem dX6_through_0 : decode cX6_through 0 = .ok (.aload_n 0, 1) := by decide +kernel
theorem dX6_through_1 : decode cX6_through 1 = .ok (.getfield 15, 3) := by decide +kernel
theorem dX6_through_4 : decode cX6_through 4 = .ok (.getfield 65, 3) := by decide +kernel
theorem dX6_through_7 : decode cX6_through 7 = .ok (.aload_n 0, 1) := by decide +kernel
theorem dX6_through_8 : decode cX6_through 8 = .ok (.getfield 15, 3) := by decide +kernel
theorem dX6_through_11 : decode cX6_through 11 = .ok (.getfield 156, 3) := by decide +kernel
theorem dX6_through_14 : decode cX6_through 14 = .ok (.getfield 124, 3) := by decide +kernel
theorem dX6_through_17 : decode cX6_through 17 = .ok (.imul, 1) := by decide +kernel
theorem dX6_through_18 : decode cX6_through 18 = .ok (.istore_n 1, 1) := by decide +kernel
theorem dX6_through_19 : decode cX6_through 19 = .ok (.iload_n 1, 1) := by decide +kernel
theorem dX6_through_20 : decode cX6_through 20 = .ok (.ifCond .ne 5, 3) := by decide +kernel
theorem dX6_through_23 : decode cX6_through 23 = .ok (.dconst 0, 1) := by decide +kernel
theorem dX6_through_24 : decode cX6_through 24 = .ok (.dreturn, 1) := by decide +kernel
theorem dX6_through_25 : decode cX6_through 25 = .ok (.iconst 0, 1) := by decide +kernel
theorem dX6_through_26 : decode cX6_through 26 = .ok (.istore_n 2, 1) := by decide +kernel
theorem dX6_through_27 : decode cX6_through 27 = .ok (.iconst 0, 1) := by decide +kernel
theorem dX6_through_28 : decode cX6_through 28 = .ok (.istore_n 3, 1) := by decide +kernel
theorem dX6_through_29 : decode cX6_through 29 = .ok (.iload_n 3, 1) := by decide +kernel
theorem dX6_through_30 : decode cX6_through 30 = .ok (.aload_n 0, 1) := by decide +kernel
theorem dX6_through_31 : decode cX6_through 31 = .ok (.getfield 15, 3) := by decide +kernel
theorem dX6_through_34 : decode cX6_through 34 = .ok (.getfield 65, 3) := by decide +kernel
theorem dX6_through_37 : decode cX6_through 37 = .ok (.if_icmp .ge 20, 3) := by decide +kernel
theorem dX6_through_40 : decode cX6_through 40 = .ok (.iload_n 2, 1) := by decide +kernel
theorem dX6_through_41 : decode cX6_through 41 = .ok (.aload_n 0, 1) := by decide +kernel
theorem dX6_through_42 : decode cX6_through 42 = .ok (.getfield 15, 3) := by decide +kernel
theorem dX6_through_45 : decode cX6_through 45 = .ok (.iload_n 3, 1) := by decide +kernel
theorem dX6_through_46 : decode cX6_through 46 = .ok (.invokevirtual 140, 3) := by decide +kernel
theorem dX6_through_49 : decode cX6_through 49 = .ok (.iadd, 1) := by decide +kernel
theorem dX6_through_50 : decode cX6_through 50 = .ok (.istore_n 2, 1) := by decide +kernel
theorem dX6_through_51 : decode cX6_through 51 = .ok (.iinc 3 1, 3) := by decide +kernel
theorem dX6_through_54 : decode cX6_through 54 = .ok (.goto (-25), 3) := by decide +kernel
theorem dX6_through_57 : decode cX6_through 57 = .ok (.iload_n 2, 1) := by decide +kernel
theorem dX6_through_58 : decode cX6_through 58 = .ok (.i2d, 1) := by decide +kernel
theorem dX6_through_59 : decode cX6_through 59 = .ok (.iload_n 1, 1) := by decide +kernel
theorem dX6_through_60 : decode cX6_through 60 = .ok (.i2d, 1) := by decide +kernel
theorem dX6_through_61 : decode cX6_through 61 = .ok (.ddiv, 1) := by decide +kernel
theorem dX6_through_62 : decode cX6_through 62 = .ok (.dreturn, 1) := by decide +kernel
set_option maxRecDepth 20000 in
theorem ggX6_digest_X5_tellCount : GoodIn wsX6_digest wsX5_tellCount := goodIn_r _ [11, 12, 13, 14, 15, 16, 17, 18, 19, 20, 21, 22, 10, 23, 24, 25, 26, 27, 28, 29, 30, 31, 32, 33, 34, 35, 36, 37, 38, 39, 40, 41, 42, 43, 44, 45, 46, 47, 48, 49, 50, 51, 52, 53, 132, 133, 134, 135, 136, 137, 138, 139, 140, 141, 142, 143, 144, 145, 146, 147, 148, 149, 150, 151, 152, 153, 154, 155, 156, 157, 158, 159, 160, 161, 162] (by decide +kernel) (by decide +kernel)
set_option maxRecDepth 20000 in
theorem gX6_digest_X5_tellCount : GoodIn wsX6_digest (wsV RX6 133 RX5 yX5_tellCount wsX5_tellCount) := goodIn_app (goodIn_of _ (by decide +kernel)) ggX6_digest_X5_tellCount
set_option maxRecDepth 20000 in
theorem ggX6_digest_X2_tell : GoodIn wsX6_digest wsX2_tell := goodIn_r _ [57, 45, 58, 59, 60, 61, 62, 63, 156, 157, 158, 159, 160, 161, 162] (by decide +kernel) (by decide +kernel)
set_option maxRecDepth 20000 in
theorem gX6_digest_X2_tell : GoodIn wsX6_digest (wsV RX6 108 RX2 yX2_tell wsX2_tell) := goodIn_app (goodIn_of _ (by decide +kernel)) ggX6_digest_X2_tell
set_option maxRecDepth 20000 in
theorem ggX6_digest_X5_tellBooth : GoodIn wsX6_digest wsX5_tellBooth := goodIn_r _ [67, 24, 34, 68, 69, 35, 32, 27, 15, 25, 17, 26, 70, 71, 72, 73, 10, 74, 50, 51, 52, 53, 18, 28, 29, 30, 31, 33, 36, 37, 38, 39, 19, 40, 41, 42, 43, 44, 45, 46, 47, 48, 49, 13, 75, 76, 77, 78, 79, 16, 80, 81, 82, 83, 84, 85, 86, 87, 88, 89, 90, 91, 92, 93, 94, 95, 96, 97, 98, 99, 100, 101, 102, 103, 104, 105, 106, 107, 108, 109, 110, 111, 112, 113, 114, 132, 133, 134, 135, 136, 137, 138, 139, 140, 146, 147, 148, 149, 150, 151, 152, 153, 154, 155, 141, 142, 143, 144, 145, 156, 157, 158, 159, 160, 161, 162, 163, 164] (by decide +kernel) (by decide +kernel)
set_option maxRecDepth 20000 in
theorem gX6_digest_X5_tellBooth : GoodIn wsX6_digest (wsV RX6 101 RX5 yX5_tellBooth wsX5_tellBooth) := goodIn_app (goodIn_of _ (by decide +kernel)) ggX6_digest_X5_tellBooth
set_option maxRecDepth 20000 in
theorem ggX6_digest_X5_speechOf : GoodIn wsX6_digest wsX5_speechOf := goodIn_r _ [118, 24, 25, 16, 50, 51, 52, 10, 53, 18, 132, 133, 134, 135, 136, 137, 138, 139, 140, 146, 147, 148, 149, 150, 151, 152, 153, 154, 155] (by decide +kernel) (by decide +kernel)
set_option maxRecDepth 20000 in
theorem gX6_digest_X5_speechOf : GoodIn wsX6_digest (wsV RX6 120 RX5 yX5_speechOf wsX5_speechOf) := goodIn_app (goodIn_of _ (by decide +kernel)) ggX6_digest_X5_speechOf
set_option maxRecDepth 20000 in
theorem ggX6_digest_X4_mixInto : GoodIn wsX6_digest wsX4_mixInto := goodIn_r _ [122, 97, 123, 124, 93, 94, 95, 96, 98, 99, 100, 101, 125, 126, 127, 128, 129, 143, 144, 145] (by decide +kernel) (by decide +kernel)
set_option maxRecDepth 20000 in
theorem gX6_digest_X4_mixInto : GoodIn wsX6_digest (wsV RX6 163 RX4 yX4_mixInto wsX4_mixInto) := goodIn_app (goodIn_of _ (by decide +kernel)) ggX6_digest_X4_mixInto
theorem dX6_digest_0 : decode cX6_digest 0 = .ok (.ldc2_w 159, 3) := by decide +kernel
theorem dX6_digest_3 : decode cX6_digest 3 = .ok (.lstore_n 1, 1) := by decide +kernel
theorem dX6_digest_4 : decode cX6_digest 4 = .ok (.iconst 0, 1) := by decide +kernel
theorem dX6_digest_5 : decode cX6_digest 5 = .ok (.istore_n 3, 1) := by decide +kernel
theorem dX6_digest_6 : decode cX6_digest 6 = .ok (.iload_n 3, 1) := by decide +kernel
theorem dX6_digest_7 : decode cX6_digest 7 = .ok (.bipush 10, 2) := by decide +kernel
theorem dX6_digest_9 : decode cX6_digest 9 = .ok (.if_icmp .ge 25, 3) := by decide +kernel
theorem dX6_digest_12 : decode cX6_digest 12 = .ok (.lload_n 1, 1) := by decide +kernel
theorem dX6_digest_13 : decode cX6_digest 13 = .ok (.ldc2_w 161, 3) := by decide +kernel
theorem dX6_digest_16 : decode cX6_digest 16 = .ok (.lmul, 1) := by decide +kernel
theorem dX6_digest_17 : decode cX6_digest 17 = .ok (.aload_n 0, 1) := by decide +kernel
theorem dX6_digest_18 : decode cX6_digest 18 = .ok (.getfield 15, 3) := by decide +kernel
theorem dX6_digest_21 : decode cX6_digest 21 = .ok (.iload_n 3, 1) := by decide +kernel
theorem dX6_digest_22 : decode cX6_digest 22 = .ok (.invokevirtual 133, 3) := by decide +kernel
theorem dX6_digest_25 : decode cX6_digest 25 = .ok (.i2l, 1) := by decide +kernel
theorem dX6_digest_26 : decode cX6_digest 26 = .ok (.ladd, 1) := by decide +kernel
theorem dX6_digest_27 : decode cX6_digest 27 = .ok (.lstore_n 1, 1) := by decide +kernel
theorem dX6_digest_28 : decode cX6_digest 28 = .ok (.iinc 3 1, 3) := by decide +kernel
theorem dX6_digest_31 : decode cX6_digest 31 = .ok (.goto (-25), 3) := by decide +kernel
theorem dX6_digest_34 : decode cX6_digest 34 = .ok (.iconst 0, 1) := by decide +kernel
theorem dX6_digest_35 : decode cX6_digest 35 = .ok (.istore_n 3, 1) := by decide +kernel
theorem dX6_digest_36 : decode cX6_digest 36 = .ok (.iload_n 3, 1) := by decide +kernel
theorem dX6_digest_37 : decode cX6_digest 37 = .ok (.aload_n 0, 1) := by decide +kernel
theorem dX6_digest_38 : decode cX6_digest 38 = .ok (.getfield 15, 3) := by decide +kernel
theorem dX6_digest_41 : decode cX6_digest 41 = .ok (.getfield 59, 3) := by decide +kernel
theorem dX6_digest_44 : decode cX6_digest 44 = .ok (.if_icmp .ge 47, 3) := by decide +kernel
theorem dX6_digest_47 : decode cX6_digest 47 = .ok (.iconst 0, 1) := by decide +kernel
theorem dX6_digest_48 : decode cX6_digest 48 = .ok (.istore 4, 2) := by decide +kernel
theorem dX6_digest_50 : decode cX6_digest 50 = .ok (.iload 4, 2) := by decide +kernel
theorem dX6_digest_52 : decode cX6_digest 52 = .ok (.bipush 7, 2) := by decide +kernel
theorem dX6_digest_54 : decode cX6_digest 54 = .ok (.if_icmp .ge 31, 3) := by decide +kernel
theorem dX6_digest_57 : decode cX6_digest 57 = .ok (.lload_n 1, 1) := by decide +kernel
theorem dX6_digest_58 : decode cX6_digest 58 = .ok (.ldc2_w 161, 3) := by decide +kernel
theorem dX6_digest_61 : decode cX6_digest 61 = .ok (.lmul, 1) := by decide +kernel
theorem dX6_digest_62 : decode cX6_digest 62 = .ok (.aload_n 0, 1) := by decide +kernel
theorem dX6_digest_63 : decode cX6_digest 63 = .ok (.getfield 15, 3) := by decide +kernel
theorem dX6_digest_66 : decode cX6_digest 66 = .ok (.getfield 104, 3) := by decide +kernel
theorem dX6_digest_69 : decode cX6_digest 69 = .ok (.iload_n 3, 1) := by decide +kernel
theorem dX6_digest_70 : decode cX6_digest 70 = .ok (.aaload, 1) := by decide +kernel
theorem dX6_digest_71 : decode cX6_digest 71 = .ok (.iload 4, 2) := by decide +kernel
theorem dX6_digest_73 : decode cX6_digest 73 = .ok (.invokevirtual 108, 3) := by decide +kernel
theorem dX6_digest_76 : decode cX6_digest 76 = .ok (.i2l, 1) := by decide +kernel
theorem dX6_digest_77 : decode cX6_digest 77 = .ok (.ladd, 1) := by decide +kernel
theorem dX6_digest_78 : decode cX6_digest 78 = .ok (.lstore_n 1, 1) := by decide +kernel
theorem dX6_digest_79 : decode cX6_digest 79 = .ok (.iinc 4 1, 3) := by decide +kernel
theorem dX6_digest_82 : decode cX6_digest 82 = .ok (.goto (-32), 3) := by decide +kernel
theorem dX6_digest_85 : decode cX6_digest 85 = .ok (.iinc 3 1, 3) := by decide +kernel
theorem dX6_digest_88 : decode cX6_digest 88 = .ok (.goto (-52), 3) := by decide +kernel
theorem dX6_digest_91 : decode cX6_digest 91 = .ok (.iconst 0, 1) := by decide +kernel
theorem dX6_digest_92 : decode cX6_digest 92 = .ok (.istore_n 3, 1) := by decide +kernel
theorem dX6_digest_93 : decode cX6_digest 93 = .ok (.iload_n 3, 1) := by decide +kernel
theorem dX6_digest_94 : decode cX6_digest 94 = .ok (.aload_n 0, 1) := by decide +kernel
theorem dX6_digest_95 : decode cX6_digest 95 = .ok (.getfield 15, 3) := by decide +kernel
theorem dX6_digest_98 : decode cX6_digest 98 = .ok (.getfield 65, 3) := by decide +kernel
theorem dX6_digest_101 : decode cX6_digest 101 = .ok (.if_icmp .ge 43, 3) := by decide +kernel
theorem dX6_digest_104 : decode cX6_digest 104 = .ok (.iconst 0, 1) := by decide +kernel
theorem dX6_digest_105 : decode cX6_digest 105 = .ok (.istore 4, 2) := by decide +kernel
theorem dX6_digest_107 : decode cX6_digest 107 = .ok (.iload 4, 2) := by decide +kernel
theorem dX6_digest_109 : decode cX6_digest 109 = .ok (.bipush 12, 2) := by decide +kernel
theorem dX6_digest_111 : decode cX6_digest 111 = .ok (.if_icmp .ge 27, 3) := by decide +kernel
theorem dX6_digest_114 : decode cX6_digest 114 = .ok (.lload_n 1, 1) := by decide +kernel
theorem dX6_digest_115 : decode cX6_digest 115 = .ok (.ldc2_w 161, 3) := by decide +kernel
theorem dX6_digest_118 : decode cX6_digest 118 = .ok (.lmul, 1) := by decide +kernel
theorem dX6_digest_119 : decode cX6_digest 119 = .ok (.aload_n 0, 1) := by decide +kernel
theorem dX6_digest_120 : decode cX6_digest 120 = .ok (.getfield 15, 3) := by decide +kernel
theorem dX6_digest_123 : decode cX6_digest 123 = .ok (.iload_n 3, 1) := by decide +kernel
theorem dX6_digest_124 : decode cX6_digest 124 = .ok (.iload 4, 2) := by decide +kernel
theorem dX6_digest_126 : decode cX6_digest 126 = .ok (.invokevirtual 101, 3) := by decide +kernel
theorem dX6_digest_129 : decode cX6_digest 129 = .ok (.i2l, 1) := by decide +kernel
theorem dX6_digest_130 : decode cX6_digest 130 = .ok (.ladd, 1) := by decide +kernel
theorem dX6_digest_131 : decode cX6_digest 131 = .ok (.lstore_n 1, 1) := by decide +kernel
theorem dX6_digest_132 : decode cX6_digest 132 = .ok (.iinc 4 1, 3) := by decide +kernel
theorem dX6_digest_135 : decode cX6_digest 135 = .ok (.goto (-28), 3) := by decide +kernel
theorem dX6_digest_138 : decode cX6_digest 138 = .ok (.iinc 3 1, 3) := by decide +kernel
theorem dX6_digest_141 : decode cX6_digest 141 = .ok (.goto (-48), 3) := by decide +kernel
theorem dX6_digest_144 : decode cX6_digest 144 = .ok (.iconst (-1), 1) := by decide +kernel
theorem dX6_digest_145 : decode cX6_digest 145 = .ok (.istore_n 3, 1) := by decide +kernel
theorem dX6_digest_146 : decode cX6_digest 146 = .ok (.iload_n 3, 1) := by decide +kernel
theorem dX6_digest_147 : decode cX6_digest 147 = .ok (.aload_n 0, 1) := by decide +kernel
theorem dX6_digest_148 : decode cX6_digest 148 = .ok (.getfield 15, 3) := by decide +kernel
theorem dX6_digest_151 : decode cX6_digest 151 = .ok (.getfield 65, 3) := by decide +kernel
theorem dX6_digest_154 : decode cX6_digest 154 = .ok (.if_icmp .ge 22, 3) := by decide +kernel
theorem dX6_digest_157 : decode cX6_digest 157 = .ok (.aload_n 0, 1) := by decide +kernel
theorem dX6_digest_158 : decode cX6_digest 158 = .ok (.getfield 15, 3) := by decide +kernel
theorem dX6_digest_161 : decode cX6_digest 161 = .ok (.iload_n 3, 1) := by decide +kernel
theorem dX6_digest_162 : decode cX6_digest 162 = .ok (.invokevirtual 120, 3) := by decide +kernel
theorem dX6_digest_165 : decode cX6_digest 165 = .ok (.lload_n 1, 1) := by decide +kernel
theorem dX6_digest_166 : decode cX6_digest 166 = .ok (.invokevirtual 163, 3) := by decide +kernel
theorem dX6_digest_169 : decode cX6_digest 169 = .ok (.lstore_n 1, 1) := by decide +kernel
theorem dX6_digest_170 : decode cX6_digest 170 = .ok (.iinc 3 1, 3) := by decide +kernel
theorem dX6_digest_173 : decode cX6_digest 173 = .ok (.goto (-27), 3) := by decide +kernel
theorem dX6_digest_176 : decode cX6_digest 176 = .ok (.lload_n 1, 1) := by decide +kernel
theorem dX6_digest_177 : decode cX6_digest 177 = .ok (.lreturn, 1) := by decide +kernel
set_option maxRecDepth 20000 in
theorem ggX6_tryOut_X5_copyFrom : GoodIn wsX6_tryOut wsX5_copyFrom := goodIn_r _ [7, 8, 9, 10, 11, 12, 13, 14, 15, 16, 17, 18, 19, 20, 21, 22, 23, 24, 25, 26, 27, 28, 29, 30, 31, 32, 33, 34, 35, 36, 37, 38, 39, 40, 41, 42, 43, 44, 45, 46, 47, 48, 49, 50, 51, 52, 53, 54, 55, 56, 57, 58, 59, 60, 61, 62, 63, 64, 65, 66, 67, 68, 69, 227, 228, 229, 230, 231, 232, 233, 234, 235, 236, 237, 238, 239, 240, 241, 242, 243, 244, 245, 246, 247, 248, 249, 250, 251, 252, 253, 254, 255, 256, 257] (by decide +kernel) (by decide +kernel)
set_option maxRecDepth 20000 in
theorem gX6_tryOut_X5_copyFrom : GoodIn wsX6_tryOut (wsV RX6 136 RX5 yX5_copyFrom wsX5_copyFrom) := goodIn_app (goodIn_of _ (by decide +kernel)) ggX6_tryOut_X5_copyFrom
set_option maxRecDepth 20000 in
theorem ggX6_tryOut_X5_seat : GoodIn wsX6_tryOut wsX5_seat := goodIn_r _ [73, 14, 74, 15, 75, 76, 77, 78, 6, 79, 12, 80, 81, 82, 83, 11, 227, 228, 229, 230, 231, 232, 233, 234, 235, 241, 242, 243, 244, 245, 246, 247, 248, 249, 250, 251, 252, 253, 254, 255, 256, 257] (by decide +kernel) (by decide +kernel)
set_option maxRecDepth 20000 in
theorem gX6_tryOut_X5_seat : GoodIn wsX6_tryOut (wsV RX6 95 RX5 yX5_seat wsX5_seat) := goodIn_app (goodIn_of _ (by decide +kernel)) ggX6_tryOut_X5_seat
set_option maxRecDepth 20000 in
theorem ggX6_tryOut_X5_goOn : GoodIn wsX6_tryOut wsX5_goOn := goodIn_r _ [87, 11, 13, 88, 89, 90, 6, 91, 8, 9, 92, 93, 94, 19, 95, 21, 22, 27, 28, 29, 30, 96, 97, 98, 34, 99, 36, 38, 40, 100, 101, 102, 103, 14, 15, 74, 104, 105, 106, 107, 108, 109, 110, 76, 77, 78, 79, 12, 111, 112, 113, 61, 114, 63, 115, 116, 117, 118, 10, 80, 81, 82, 83, 119, 120, 121, 122, 123, 124, 125, 126, 127, 44, 128, 46, 129, 47, 50, 130, 131, 132, 133, 134, 135, 136, 137, 138, 139, 140, 141, 142, 66, 143, 144, 25, 145, 146, 147, 148, 149, 150, 151, 152, 153, 154, 64, 155, 156, 157, 158, 67, 68, 159, 160, 161, 162, 163, 164, 165, 166, 167, 168, 169, 170, 171, 172, 173, 174, 175, 176, 177, 178, 179, 180, 181, 182, 183, 184, 185, 51, 55, 186, 187, 188, 189, 190, 191, 192, 193, 75, 227, 228, 229, 230, 231, 232, 233, 234, 235, 236, 237, 238, 239, 240, 241, 242, 243, 244, 245, 246, 247, 248, 249, 250, 251, 252, 253, 254, 255, 256, 257] (by decide +kernel) (by decide +kernel)
set_option maxRecDepth 20000 in
theorem gX6_tryOut_X5_goOn : GoodIn wsX6_tryOut (wsV RX6 117 RX5 yX5_goOn wsX5_goOn) := goodIn_app (goodIn_of _ (by decide +kernel)) ggX6_tryOut_X5_goOn
set_option maxRecDepth 20000 in
theorem ggX6_tryOut_X5_cameThroughAt : GoodIn wsX6_tryOut wsX5_cameThroughAt := goodIn_r _ [197, 198, 9, 14, 104, 199, 200, 201, 202, 203, 204, 205, 206, 207, 208, 209, 210, 211, 179, 180, 34, 181, 36, 38, 175, 176, 177, 212, 213, 214, 215, 216, 217, 218, 219, 220, 221, 222, 223, 224, 227, 228, 229, 230, 231, 232, 233, 234, 235, 241, 242, 243, 244, 245, 246, 247, 248, 249, 250, 258, 259, 238, 239, 240] (by decide +kernel) (by decide +kernel)
set_option maxRecDepth 20000 in
theorem gX6_tryOut_X5_cameThroughAt : GoodIn wsX6_tryOut (wsV RX6 140 RX5 yX5_cameThroughAt wsX5_cameThroughAt) := goodIn_app (goodIn_of _ (by decide +kernel)) ggX6_tryOut_X5_cameThroughAt
theorem dX6_tryOut_0 : decode cX6_tryOut 0 = .ok (.aload_n 0, 1) := by decide +kernel
theorem dX6_tryOut_1 : decode cX6_tryOut 1 = .ok (.getfield 21, 3) := by decide +kernel
theorem dX6_tryOut_4 : decode cX6_tryOut 4 = .ok (.aload_n 0, 1) := by decide +kernel
theorem dX6_tryOut_5 : decode cX6_tryOut 5 = .ok (.getfield 15, 3) := by decide +kernel
theorem dX6_tryOut_8 : decode cX6_tryOut 8 = .ok (.invokevirtual 136, 3) := by decide +kernel
theorem dX6_tryOut_11 : decode cX6_tryOut 11 = .ok (.aload_n 0, 1) := by decide +kernel
theorem dX6_tryOut_12 : decode cX6_tryOut 12 = .ok (.getfield 21, 3) := by decide +kernel
theorem dX6_tryOut_15 : decode cX6_tryOut 15 = .ok (.iload_n 1, 1) := by decide +kernel
theorem dX6_tryOut_16 : decode cX6_tryOut 16 = .ok (.iload_n 2, 1) := by decide +kernel
theorem dX6_tryOut_17 : decode cX6_tryOut 17 = .ok (.invokevirtual 95, 3) := by decide +kernel
theorem dX6_tryOut_20 : decode cX6_tryOut 20 = .ok (.pop, 1) := by decide +kernel
theorem dX6_tryOut_21 : decode cX6_tryOut 21 = .ok (.aload_n 0, 1) := by decide +kernel
theorem dX6_tryOut_22 : decode cX6_tryOut 22 = .ok (.getfield 21, 3) := by decide +kernel
theorem dX6_tryOut_25 : decode cX6_tryOut 25 = .ok (.iload_n 3, 1) := by decide +kernel
theorem dX6_tryOut_26 : decode cX6_tryOut 26 = .ok (.invokevirtual 117, 3) := by decide +kernel
theorem dX6_tryOut_29 : decode cX6_tryOut 29 = .ok (.pop, 1) := by decide +kernel
theorem dX6_tryOut_30 : decode cX6_tryOut 30 = .ok (.aload_n 0, 1) := by decide +kernel
theorem dX6_tryOut_31 : decode cX6_tryOut 31 = .ok (.getfield 21, 3) := by decide +kernel
theorem dX6_tryOut_34 : decode cX6_tryOut 34 = .ok (.iload_n 1, 1) := by decide +kernel
theorem dX6_tryOut_35 : decode cX6_tryOut 35 = .ok (.invokevirtual 140, 3) := by decide +kernel
theorem dX6_tryOut_38 : decode cX6_tryOut 38 = .ok (.ireturn, 1) := by decide +kernel
theorem dX6_isWithin_0 : decode cX6_isWithin 0 = .ok (.iload_n 0, 1) := by decide +kernel
theorem dX6_isWithin_1 : decode cX6_isWithin 1 = .ok (.iload_n 1, 1) := by decide +kernel
theorem dX6_isWithin_2 : decode cX6_isWithin 2 = .ok (.if_icmp .lt 12, 3) := by decide +kernel
theorem dX6_isWithin_5 : decode cX6_isWithin 5 = .ok (.iload_n 0, 1) := by decide +kernel
theorem dX6_isWithin_6 : decode cX6_isWithin 6 = .ok (.iload_n 2, 1) := by decide +kernel
theorem dX6_isWithin_7 : decode cX6_isWithin 7 = .ok (.if_icmp .gt 7, 3) := by decide +kernel
theorem dX6_isWithin_10 : decode cX6_isWithin 10 = .ok (.iconst 1, 1) := by decide +kernel
theorem dX6_isWithin_11 : decode cX6_isWithin 11 = .ok (.goto 4, 3) := by decide +kernel
theorem dX6_isWithin_14 : decode cX6_isWithin 14 = .ok (.iconst 0, 1) := by decide +kernel
theorem dX6_isWithin_15 : decode cX6_isWithin 15 = .ok (.ireturn, 1) := by decide +kernel
theorem dX6_find_0 : decode cX6_find 0 = .ok (.iload_n 0, 1) := by decide +kernel
theorem dX6_find_1 : decode cX6_find 1 = .ok (.ifCond .ne 13, 3) := by decide +kernel
theorem dX6_find_4 : decode cX6_find 4 = .ok (.new 167, 3) := by decide +kernel
theorem dX6_find_7 : decode cX6_find 7 = .ok (.dup, 1) := by decide +kernel
theorem dX6_find_8 : decode cX6_find 8 = .ok (.ldc 169, 2) := by decide +kernel
theorem dX6_find_10 : decode cX6_find 10 = .ok (.invokespecial 171, 3) := by decide +kernel
theorem dX6_find_13 : decode cX6_find 13 = .ok (.athrow, 1) := by decide +kernel
theorem dX6_find_14 : decode cX6_find 14 = .ok (.return_, 1) := by decide +kernel
theorem dX6_demand_0 : decode cX6_demand 0 = .ok (.iload_n 0, 1) := by decide +kernel
theorem dX6_demand_1 : decode cX6_demand 1 = .ok (.ifCond .ne 13, 3) := by decide +kernel
theorem dX6_demand_4 : decode cX6_demand 4 = .ok (.new 174, 3) := by decide +kernel
theorem dX6_demand_7 : decode cX6_demand 7 = .ok (.dup, 1) := by decide +kernel
theorem dX6_demand_8 : decode cX6_demand 8 = .ok (.ldc 176, 2) := by decide +kernel
theorem dX6_demand_10 : decode cX6_demand 10 = .ok (.invokespecial 178, 3) := by decide +kernel
theorem dX6_demand_13 : decode cX6_demand 13 = .ok (.athrow, 1) := by decide +kernel
theorem dX6_demand_14 : decode cX6_demand 14 = .ok (.return_, 1) := by decide +kernel
theorem dX6_allow_0 : decode cX6_allow 0 = .ok (.iload_n 0, 1) := by decide +kernel
theorem dX6_allow_1 : decode cX6_allow 1 = .ok (.ifCond .ne 13, 3) := by decide +kernel
theorem dX6_allow_4 : decode cX6_allow 4 = .ok (.new 179, 3) := by decide +kernel
theorem dX6_allow_7 : decode cX6_allow 7 = .ok (.dup, 1) := by decide +kernel
theorem dX6_allow_8 : decode cX6_allow 8 = .ok (.ldc 181, 2) := by decide +kernel
theorem dX6_allow_10 : decode cX6_allow 10 = .ok (.invokespecial 183, 3) := by decide +kernel
theorem dX6_allow_13 : decode cX6_allow 13 = .ok (.athrow, 1) := by decide +kernel
theorem dX6_allow_14 : decode cX6_allow 14 = .ok (.return_, 1) := by decide +kernel
theorem dX7_init_0 : decode cX7_init 0 = .ok (.aload_n 0, 1) := by decide +kernel
theorem dX7_init_1 : decode cX7_init 1 = .ok (.invokespecial 3, 3) := by decide +kernel
theorem dX7_init_4 : decode cX7_init 4 = .ok (.aload_n 0, 1) := by decide +kernel
theorem dX7_init_5 : decode cX7_init 5 = .ok (.bipush 120, 2) := by decide +kernel
theorem dX7_init_7 : decode cX7_init 7 = .ok (.newarray .int, 2) := by decide +kernel
theorem dX7_init_9 : decode cX7_init 9 = .ok (.putfield 9, 3) := by decide +kernel
theorem dX7_init_12 : decode cX7_init 12 = .ok (.aload_n 0, 1) := by decide +kernel
theorem dX7_init_13 : decode cX7_init 13 = .ok (.bipush 8, 2) := by decide +kernel
theorem dX7_init_15 : decode cX7_init 15 = .ok (.newarray .int, 2) := by decide +kernel
theorem dX7_init_17 : decode cX7_init 17 = .ok (.putfield 15, 3) := by decide +kernel
theorem dX7_init_20 : decode cX7_init 20 = .ok (.aload_n 0, 1) := by decide +kernel
theorem dX7_init_21 : decode cX7_init 21 = .ok (.bipush 8, 2) := by decide +kernel
theorem dX7_init_23 : decode cX7_init 23 = .ok (.newarray .int, 2) := by decide +kernel
theorem dX7_init_25 : decode cX7_init 25 = .ok (.putfield 18, 3) := by decide +kernel
theorem dX7_init_28 : decode cX7_init 28 = .ok (.aload_n 0, 1) := by decide +kernel
theorem dX7_init_29 : decode cX7_init 29 = .ok (.bipush 8, 2) := by decide +kernel
theorem dX7_init_31 : decode cX7_init 31 = .ok (.newarray .int, 2) := by decide +kernel
theorem dX7_init_33 : decode cX7_init 33 = .ok (.putfield 21, 3) := by decide +kernel
theorem dX7_init_36 : decode cX7_init 36 = .ok (.aload_n 0, 1) := by decide +kernel
theorem dX7_init_37 : decode cX7_init 37 = .ok (.bipush 8, 2) := by decide +kernel
theorem dX7_init_39 : decode cX7_init 39 = .ok (.newarray .int, 2) := by decide +kernel
theorem dX7_init_41 : decode cX7_init 41 = .ok (.putfield 24, 3) := by decide +kernel
theorem dX7_init_44 : decode cX7_init 44 = .ok (.aload_n 0, 1) := by decide +kernel
theorem dX7_init_45 : decode cX7_init 45 = .ok (.bipush 8, 2) := by decide +kernel
theorem dX7_init_47 : decode cX7_init 47 = .ok (.newarray .int, 2) := by decide +kernel
theorem dX7_init_49 : decode cX7_init 49 = .ok (.putfield 27, 3) := by decide +kernel
theorem dX7_init_52 : decode cX7_init 52 = .ok (.aload_n 0, 1) := by decide +kernel
theorem dX7_init_53 : decode cX7_init 53 = .ok (.bipush 8, 2) := by decide +kernel
theorem dX7_init_55 : decode cX7_init 55 = .ok (.newarray .int, 2) := by decide +kernel
theorem dX7_init_57 : decode cX7_init 57 = .ok (.putfield 30, 3) := by decide +kernel
theorem dX7_init_60 : decode cX7_init 60 = .ok (.aload_n 0, 1) := by decide +kernel
theorem dX7_init_61 : decode cX7_init 61 = .ok (.bipush 6, 2) := by decide +kernel
theorem dX7_init_63 : decode cX7_init 63 = .ok (.newarray .int, 2) := by decide +kernel
theorem dX7_init_65 : decode cX7_init 65 = .ok (.putfield 33, 3) := by decide +kernel
theorem dX7_init_68 : decode cX7_init 68 = .ok (.aload_n 0, 1) := by decide +kernel
theorem dX7_init_69 : decode cX7_init 69 = .ok (.bipush 6, 2) := by decide +kernel
theorem dX7_init_71 : decode cX7_init 71 = .ok (.newarray .int, 2) := by decide +kernel
theorem dX7_init_73 : decode cX7_init 73 = .ok (.putfield 36, 3) := by decide +kernel
theorem dX7_init_76 : decode cX7_init 76 = .ok (.aload_n 0, 1) := by decide +kernel
theorem dX7_init_77 : decode cX7_init 77 = .ok (.bipush 6, 2) := by decide +kernel
theorem dX7_init_79 : decode cX7_init 79 = .ok (.newarray .int, 2) := by decide +kernel
theorem dX7_init_81 : decode cX7_init 81 = .ok (.putfield 39, 3) := by decide +kernel
theorem dX7_init_84 : decode cX7_init 84 = .ok (.aload_n 0, 1) := by decide +kernel
theorem dX7_init_85 : decode cX7_init 85 = .ok (.bipush 6, 2) := by decide +kernel
theorem dX7_init_87 : decode cX7_init 87 = .ok (.newarray .int, 2) := by decide +kernel
theorem dX7_init_89 : decode cX7_init 89 = .ok (.putfield 42, 3) := by decide +kernel
theorem dX7_init_92 : decode cX7_init 92 = .ok (.aload_n 0, 1) := by decide +kernel
theorem dX7_init_93 : decode cX7_init 93 = .ok (.bipush 6, 2) := by decide +kernel
theorem dX7_init_95 : decode cX7_init 95 = .ok (.newarray .int, 2) := by decide +kernel
theorem dX7_init_97 : decode cX7_init 97 = .ok (.putfield 45, 3) := by decide +kernel
theorem dX7_init_100 : decode cX7_init 100 = .ok (.aload_n 0, 1) := by decide +kernel
theorem dX7_init_101 : decode cX7_init 101 = .ok (.bipush 6, 2) := by decide +kernel
theorem dX7_init_103 : decode cX7_init 103 = .ok (.newarray .int, 2) := by decide +kernel
theorem dX7_init_105 : decode cX7_init 105 = .ok (.putfield 48, 3) := by decide +kernel
theorem dX7_init_108 : decode cX7_init 108 = .ok (.aload_n 0, 1) := by decide +kernel
theorem dX7_init_109 : decode cX7_init 109 = .ok (.bipush 6, 2) := by decide +kernel
theorem dX7_init_111 : decode cX7_init 111 = .ok (.newarray .int, 2) := by decide +kernel
theorem dX7_init_113 : decode cX7_init 113 = .ok (.putfield 51, 3) := by decide +kernel
theorem dX7_init_116 : decode cX7_init 116 = .ok (.aload_n 0, 1) := by decide +kernel
theorem dX7_init_117 : decode cX7_init 117 = .ok (.bipush 6, 2) := by decide +kernel
theorem dX7_init_119 : decode cX7_init 119 = .ok (.newarray .int, 2) := by decide +kernel
theorem dX7_init_121 : decode cX7_init 121 = .ok (.putfield 54, 3) := by decide +kernel
theorem dX7_init_124 : decode cX7_init 124 = .ok (.aload_n 0, 1) := by decide +kernel
theorem dX7_init_125 : decode cX7_init 125 = .ok (.bipush 72, 2) := by decide +kernel
theorem dX7_init_127 : decode cX7_init 127 = .ok (.newarray .int, 2) := by decide +kernel
theorem dX7_init_129 : decode cX7_init 129 = .ok (.putfield 57, 3) := by decide +kernel
theorem dX7_init_132 : decode cX7_init 132 = .ok (.aload_n 0, 1) := by decide +kernel
theorem dX7_init_133 : decode cX7_init 133 = .ok (.bipush 72, 2) := by decide +kernel
theorem dX7_init_135 : decode cX7_init 135 = .ok (.newarray .int, 2) := by decide +kernel
theorem dX7_init_137 : decode cX7_init 137 = .ok (.putfield 60, 3) := by decide +kernel
theorem dX7_init_140 : decode cX7_init 140 = .ok (.aload_n 0, 1) := by decide +kernel
theorem dX7_init_141 : decode cX7_init 141 = .ok (.bipush 7, 2) := by decide +kernel
theorem dX7_init_143 : decode cX7_init 143 = .ok (.newarray .int, 2) := by decide +kernel
theorem dX7_init_145 : decode cX7_init 145 = .ok (.putfield 63, 3) := by decide +kernel
theorem dX7_init_148 : decode cX7_init 148 = .ok (.aload_n 0, 1) := by decide +kernel
theorem dX7_init_149 : decode cX7_init 149 = .ok (.sipush 2800, 3) := by decide +kernel
theorem dX7_init_152 : decode cX7_init 152 = .ok (.newarray .int, 2) := by decide +kernel
theorem dX7_init_154 : decode cX7_init 154 = .ok (.putfield 66, 3) := by decide +kernel
theorem dX7_init_157 : decode cX7_init 157 = .ok (.aload_n 0, 1) := by decide +kernel
theorem dX7_init_158 : decode cX7_init 158 = .ok (.sipush 2800, 3) := by decide +kernel
theorem dX7_init_161 : decode cX7_init 161 = .ok (.newarray .int, 2) := by decide +kernel
theorem dX7_init_163 : decode cX7_init 163 = .ok (.putfield 69, 3) := by decide +kernel
theorem dX7_init_166 : decode cX7_init 166 = .ok (.aload_n 0, 1) := by decide +kernel
theorem dX7_init_167 : decode cX7_init 167 = .ok (.sipush 401, 3) := by decide +kernel
theorem dX7_init_170 : decode cX7_init 170 = .ok (.newarray .int, 2) := by decide +kernel
theorem dX7_init_172 : decode cX7_init 172 = .ok (.putfield 72, 3) := by decide +kernel
theorem dX7_init_175 : decode cX7_init 175 = .ok (.return_, 1) := by decide +kernel
theorem dX7_copy_0 : decode cX7_copy 0 = .ok (.aload_n 0, 1) := by decide +kernel
theorem dX7_copy_1 : decode cX7_copy 1 = .ok (.iconst 0, 1) := by decide +kernel
theorem dX7_copy_2 : decode cX7_copy 2 = .ok (.aload_n 1, 1) := by decide +kernel
theorem dX7_copy_3 : decode cX7_copy 3 = .ok (.iconst 0, 1) := by decide +kernel
theorem dX7_copy_4 : decode cX7_copy 4 = .ok (.aload_n 0, 1) := by decide +kernel
theorem dX7_copy_5 : decode cX7_copy 5 = .ok (.arraylength, 1) := by decide +kernel
theorem dX7_copy_6 : decode cX7_copy 6 = .ok (.invokestatic 75, 3) := by decide +kernel
theorem dX7_copy_9 : decode cX7_copy 9 = .ok (.return_, 1) := by decide +kernel
set_option maxRecDepth 20000 in
theorem ggX7_become_X7_copy : GoodIn wsX7_become wsX7_copy := goodIn_r _ [29, 30, 31, 32, 33] (by decide +kernel) (by decide +kernel)
set_option maxRecDepth 20000 in
theorem gX7_become_X7_copy : GoodIn wsX7_become (va_wsS RX7 97 yX7_copy wsX7_copy) := goodIn_app (goodIn_of _ (by decide +kernel)) ggX7_become_X7_copy
theorem dX7_become_0 : decode cX7_become 0 = .ok (.aload_n 0, 1) := by decide +kernel
theorem dX7_become_1 : decode cX7_become 1 = .ok (.aload_n 1, 1) := by decide +kernel
theorem dX7_become_2 : decode cX7_become 2 = .ok (.getfield 81, 3) := by decide +kernel
theorem dX7_become_5 : decode cX7_become 5 = .ok (.putfield 81, 3) := by decide +kernel
theorem dX7_become_8 : decode cX7_become 8 = .ok (.aload_n 0, 1) := by decide +kernel
theorem dX7_become_9 : decode cX7_become 9 = .ok (.aload_n 1, 1) := by decide +kernel
theorem dX7_become_10 : decode cX7_become 10 = .ok (.getfield 85, 3) := by decide +kernel
theorem dX7_become_13 : decode cX7_become 13 = .ok (.putfield 85, 3) := by decide +kernel
theorem dX7_become_16 : decode cX7_become 16 = .ok (.aload_n 0, 1) := by decide +kernel
theorem dX7_become_17 : decode cX7_become 17 = .ok (.aload_n 1, 1) := by decide +kernel
theorem dX7_become_18 : decode cX7_become 18 = .ok (.getfield 88, 3) := by decide +kernel
theorem dX7_become_21 : decode cX7_become 21 = .ok (.putfield 88, 3) := by decide +kernel
theorem dX7_become_24 : decode cX7_become 24 = .ok (.aload_n 0, 1) := by decide +kernel
theorem dX7_become_25 : decode cX7_become 25 = .ok (.aload_n 1, 1) := by decide +kernel
theorem dX7_become_26 : decode cX7_become 26 = .ok (.getfield 91, 3) := by decide +kernel
theorem dX7_become_29 : decode cX7_become 29 = .ok (.putfield 91, 3) := by decide +kernel
theorem dX7_become_32 : decode cX7_become 32 = .ok (.aload_n 0, 1) := by decide +kernel
theorem dX7_become_33 : decode cX7_become 33 = .ok (.aload_n 1, 1) := by decide +kernel
theorem dX7_become_34 : decode cX7_become 34 = .ok (.getfield 94, 3) := by decide +kernel
theorem dX7_become_37 : decode cX7_become 37 = .ok (.putfield 94, 3) := by decide +kernel
theorem dX7_become_40 : decode cX7_become 40 = .ok (.aload_n 1, 1) := by decide +kernel
theorem dX7_become_41 : decode cX7_become 41 = .ok (.getfield 9, 3) := by decide +kernel
theorem dX7_become_44 : decode cX7_become 44 = .ok (.aload_n 0, 1) := by decide +kernel
theorem dX7_become_45 : decode cX7_become 45 = .ok (.getfield 9, 3) := by decide +kernel
theorem dX7_become_48 : decode cX7_become 48 = .ok (.invokestatic 97, 3) := by decide +kernel
theorem dX7_become_51 : decode cX7_become 51 = .ok (.aload_n 1, 1) := by decide +kernel
theorem dX7_become_52 : decode cX7_become 52 = .ok (.getfield 15, 3) := by decide +kernel
theorem dX7_become_55 : decode cX7_become 55 = .ok (.aload_n 0, 1) := by decide +kernel
theorem dX7_become_56 : decode cX7_become 56 = .ok (.getfield 15, 3) := by decide +kernel
theorem dX7_become_59 : decode cX7_become 59 = .ok (.invokestatic 97, 3) := by decide +kernel
theorem dX7_become_62 : decode cX7_become 62 = .ok (.aload_n 1, 1) := by decide +kernel
theorem dX7_become_63 : decode cX7_become 63 = .ok (.getfield 18, 3) := by decide +kernel
theorem dX7_become_66 : decode cX7_become 66 = .ok (.aload_n 0, 1) := by decide +kernel
theorem dX7_become_67 : decode cX7_become 67 = .ok (.getfield 18, 3) := by decide +kernel
theorem dX7_become_70 : decode cX7_become 70 = .ok (.invokestatic 97, 3) := by decide +kernel
theorem dX7_become_73 : decode cX7_become 73 = .ok (.aload_n 1, 1) := by decide +kernel
theorem dX7_become_74 : decode cX7_become 74 = .ok (.getfield 21, 3) := by decide +kernel
theorem dX7_become_77 : decode cX7_become 77 = .ok (.aload_n 0, 1) := by decide +kernel
theorem dX7_become_78 : decode cX7_become 78 = .ok (.getfield 21, 3) := by decide +kernel
theorem dX7_become_81 : decode cX7_become 81 = .ok (.invokestatic 97, 3) := by decide +kernel
theorem dX7_become_84 : decode cX7_become 84 = .ok (.aload_n 1, 1) := by decide +kernel
theorem dX7_become_85 : decode cX7_become 85 = .ok (.getfield 24, 3) := by decide +kernel
theorem dX7_become_88 : decode cX7_become 88 = .ok (.aload_n 0, 1) := by decide +kernel
theorem dX7_become_89 : decode cX7_become 89 = .ok (.getfield 24, 3) := by decide +kernel
theorem dX7_become_92 : decode cX7_become 92 = .ok (.invokestatic 97, 3) := by decide +kernel
theorem dX7_become_95 : decode cX7_become 95 = .ok (.aload_n 1, 1) := by decide +kernel
theorem dX7_become_96 : decode cX7_become 96 = .ok (.getfield 27, 3) := by decide +kernel
theorem dX7_become_99 : decode cX7_become 99 = .ok (.aload_n 0, 1) := by decide +kernel
theorem dX7_become_100 : decode cX7_become 100 = .ok (.getfield 27, 3) := by decide +kernel
theorem dX7_become_103 : decode cX7_become 103 = .ok (.invokestatic 97, 3) := by decide +kernel
theorem dX7_become_106 : decode cX7_become 106 = .ok (.aload_n 1, 1) := by decide +kernel
theorem dX7_become_107 : decode cX7_become 107 = .ok (.getfield 30, 3) := by decide +kernel
theorem dX7_become_110 : decode cX7_become 110 = .ok (.aload_n 0, 1) := by decide +kernel
theorem dX7_become_111 : decode cX7_become 111 = .ok (.getfield 30, 3) := by decide +kernel
theorem dX7_become_114 : decode cX7_become 114 = .ok (.invokestatic 97, 3) := by decide +kernel
theorem dX7_become_117 : decode cX7_become 117 = .ok (.aload_n 1, 1) := by decide +kernel
theorem dX7_become_118 : decode cX7_become 118 = .ok (.getfield 33, 3) := by decide +kernel
theorem dX7_become_121 : decode cX7_become 121 = .ok (.aload_n 0, 1) := by decide +kernel
theorem dX7_become_122 : decode cX7_become 122 = .ok (.getfield 33, 3) := by decide +kernel
theorem dX7_become_125 : decode cX7_become 125 = .ok (.invokestatic 97, 3) := by decide +kernel
theorem dX7_become_128 : decode cX7_become 128 = .ok (.aload_n 1, 1) := by decide +kernel
theorem dX7_become_129 : decode cX7_become 129 = .ok (.getfield 36, 3) := by decide +kernel
theorem dX7_become_132 : decode cX7_become 132 = .ok (.aload_n 0, 1) := by decide +kernel
theorem dX7_become_133 : decode cX7_become 133 = .ok (.getfield 36, 3) := by decide +kernel
theorem dX7_become_136 : decode cX7_become 136 = .ok (.invokestatic 97, 3) := by decide +kernel
theorem dX7_become_139 : decode cX7_become 139 = .ok (.aload_n 1, 1) := by decide +kernel
theorem dX7_become_140 : decode cX7_become 140 = .ok (.getfield 39, 3) := by decide +kernel
theorem dX7_become_143 : decode cX7_become 143 = .ok (.aload_n 0, 1) := by decide +kernel
theorem dX7_become_144 : decode cX7_become 144 = .ok (.getfield 39, 3) := by decide +kernel
theorem dX7_become_147 : decode cX7_become 147 = .ok (.invokestatic 97, 3) := by decide +kernel
theorem dX7_become_150 : decode cX7_become 150 = .ok (.aload_n 1, 1) := by decide +kernel
theorem dX7_become_151 : decode cX7_become 151 = .ok (.getfield 42, 3) := by decide +kernel
theorem dX7_become_154 : decode cX7_become 154 = .ok (.aload_n 0, 1) := by decide +kernel
theorem dX7_become_155 : decode cX7_become 155 = .ok (.getfield 42, 3) := by decide +kernel
theorem dX7_become_158 : decode cX7_become 158 = .ok (.invokestatic 97, 3) := by decide +kernel
theorem dX7_become_161 : decode cX7_become 161 = .ok (.aload_n 1, 1) := by decide +kernel
theorem dX7_become_162 : decode cX7_become 162 = .ok (.getfield 45, 3) := by decide +kernel
theorem dX7_become_165 : decode cX7_become 165 = .ok (.aload_n 0, 1) := by decide +kernel
theorem dX7_become_166 : decode cX7_become 166 = .ok (.getfield 45, 3) := by decide +kernel
theorem dX7_become_169 : decode cX7_become 169 = .ok (.invokestatic 97, 3) := by decide +kernel
theorem dX7_become_172 : decode cX7_become 172 = .ok (.aload_n 1, 1) := by decide +kernel
theorem dX7_become_173 : decode cX7_become 173 = .ok (.getfield 48, 3) := by decide +kernel
theorem dX7_become_176 : decode cX7_become 176 = .ok (.aload_n 0, 1) := by decide +kernel
theorem dX7_become_177 : decode cX7_become 177 = .ok (.getfield 48, 3) := by decide +kernel
theorem dX7_become_180 : decode cX7_become 180 = .ok (.invokestatic 97, 3) := by decide +kernel
theorem dX7_become_183 : decode cX7_become 183 = .ok (.aload_n 1, 1) := by decide +kernel
theorem dX7_become_184 : decode cX7_become 184 = .ok (.getfield 51, 3) := by decide +kernel
theorem dX7_become_187 : decode cX7_become 187 = .ok (.aload_n 0, 1) := by decide +kernel
theorem dX7_become_188 : decode cX7_become 188 = .ok (.getfield 51, 3) := by decide +kernel
theorem dX7_become_191 : decode cX7_become 191 = .ok (.invokestatic 97, 3) := by decide +kernel
theorem dX7_become_194 : decode cX7_become 194 = .ok (.aload_n 1, 1) := by decide +kernel
theorem dX7_become_195 : decode cX7_become 195 = .ok (.getfield 54, 3) := by decide +kernel
theorem dX7_become_198 : decode cX7_become 198 = .ok (.aload_n 0, 1) := by decide +kernel
theorem dX7_become_199 : decode cX7_become 199 = .ok (.getfield 54, 3) := by decide +kernel
theorem dX7_become_202 : decode cX7_become 202 = .ok (.invokestatic 97, 3) := by decide +kernel
theorem dX7_become_205 : decode cX7_become 205 = .ok (.aload_n 1, 1) := by decide +kernel
theorem dX7_become_206 : decode cX7_become 206 = .ok (.getfield 57, 3) := by decide +kernel
theorem dX7_become_209 : decode cX7_become 209 = .ok (.aload_n 0, 1) := by decide +kernel
theorem dX7_become_210 : decode cX7_become 210 = .ok (.getfield 57, 3) := by decide +kernel
theorem dX7_become_213 : decode cX7_become 213 = .ok (.invokestatic 97, 3) := by decide +kernel
theorem dX7_become_216 : decode cX7_become 216 = .ok (.aload_n 1, 1) := by decide +kernel
theorem dX7_become_217 : decode cX7_become 217 = .ok (.getfield 60, 3) := by decide +kernel
theorem dX7_become_220 : decode cX7_become 220 = .ok (.aload_n 0, 1) := by decide +kernel
theorem dX7_become_221 : decode cX7_become 221 = .ok (.getfield 60, 3) := by decide +kernel
theorem dX7_become_224 : decode cX7_become 224 = .ok (.invokestatic 97, 3) := by decide +kernel
theorem dX7_become_227 : decode cX7_become 227 = .ok (.aload_n 1, 1) := by decide +kernel
theorem dX7_become_228 : decode cX7_become 228 = .ok (.getfield 63, 3) := by decide +kernel
theorem dX7_become_231 : decode cX7_become 231 = .ok (.aload_n 0, 1) := by decide +kernel
theorem dX7_become_232 : decode cX7_become 232 = .ok (.getfield 63, 3) := by decide +kernel
theorem dX7_become_235 : decode cX7_become 235 = .ok (.invokestatic 97, 3) := by decide +kernel
theorem dX7_become_238 : decode cX7_become 238 = .ok (.aload_n 1, 1) := by decide +kernel
theorem dX7_become_239 : decode cX7_become 239 = .ok (.getfield 66, 3) := by decide +kernel
theorem dX7_become_242 : decode cX7_become 242 = .ok (.aload_n 0, 1) := by decide +kernel
theorem dX7_become_243 : decode cX7_become 243 = .ok (.getfield 66, 3) := by decide +kernel
theorem dX7_become_246 : decode cX7_become 246 = .ok (.invokestatic 97, 3) := by decide +kernel
theorem dX7_become_249 : decode cX7_become 249 = .ok (.aload_n 1, 1) := by decide +kernel
theorem dX7_become_250 : decode cX7_become 250 = .ok (.getfield 69, 3) := by decide +kernel
theorem dX7_become_253 : decode cX7_become 253 = .ok (.aload_n 0, 1) := by decide +kernel
theorem dX7_become_254 : decode cX7_become 254 = .ok (.getfield 69, 3) := by decide +kernel
theorem dX7_become_257 : decode cX7_become 257 = .ok (.invokestatic 97, 3) := by decide +kernel
theorem dX7_become_260 : decode cX7_become 260 = .ok (.return_, 1) := by decide +kernel
theorem dX7_isAble_0 : decode cX7_isAble 0 = .ok (.aload_n 0, 1) := by decide +kernel
theorem dX7_isAble_1 : decode cX7_isAble 1 = .ok (.getfield 45, 3) := by decide +kernel
theorem dX7_isAble_4 : decode cX7_isAble 4 = .ok (.iload_n 1, 1) := by decide +kernel
theorem dX7_isAble_5 : decode cX7_isAble 5 = .ok (.iaload, 1) := by decide +kernel
theorem dX7_isAble_6 : decode cX7_isAble 6 = .ok (.istore_n 2, 1) := by decide +kernel
theorem dX7_isAble_7 : decode cX7_isAble 7 = .ok (.aload_n 0, 1) := by decide +kernel
theorem dX7_isAble_8 : decode cX7_isAble 8 = .ok (.getfield 42, 3) := by decide +kernel
theorem dX7_isAble_11 : decode cX7_isAble 11 = .ok (.iload_n 1, 1) := by decide +kernel
theorem dX7_isAble_12 : decode cX7_isAble 12 = .ok (.iaload, 1) := by decide +kernel
theorem dX7_isAble_13 : decode cX7_isAble 13 = .ok (.iconst (-1), 1) := by decide +kernel
theorem dX7_isAble_14 : decode cX7_isAble 14 = .ok (.if_icmp .ne 10, 3) := by decide +kernel
theorem dX7_isAble_17 : decode cX7_isAble 17 = .ok (.aload_n 0, 1) := by decide +kernel
theorem dX7_isAble_18 : decode cX7_isAble 18 = .ok (.getfield 85, 3) := by decide +kernel
theorem dX7_isAble_21 : decode cX7_isAble 21 = .ok (.goto 14, 3) := by decide +kernel
theorem dX7_isAble_24 : decode cX7_isAble 24 = .ok (.aload_n 0, 1) := by decide +kernel
theorem dX7_isAble_25 : decode cX7_isAble 25 = .ok (.getfield 33, 3) := by decide +kernel
theorem dX7_isAble_28 : decode cX7_isAble 28 = .ok (.aload_n 0, 1) := by decide +kernel
theorem dX7_isAble_29 : decode cX7_isAble 29 = .ok (.getfield 42, 3) := by decide +kernel
theorem dX7_isAble_32 : decode cX7_isAble 32 = .ok (.iload_n 1, 1) := by decide +kernel
theorem dX7_isAble_33 : decode cX7_isAble 33 = .ok (.iaload, 1) := by decide +kernel
theorem dX7_isAble_34 : decode cX7_isAble 34 = .ok (.iaload, 1) := by decide +kernel
theorem dX7_isAble_35 : decode cX7_isAble 35 = .ok (.istore_n 3, 1) := by decide +kernel
theorem dX7_isAble_36 : decode cX7_isAble 36 = .ok (.iload_n 2, 1) := by decide +kernel
theorem dX7_isAble_37 : decode cX7_isAble 37 = .ok (.iconst (-1), 1) := by decide +kernel
theorem dX7_isAble_38 : decode cX7_isAble 38 = .ok (.if_icmp .eq 40, 3) := by decide +kernel
theorem dX7_isAble_41 : decode cX7_isAble 41 = .ok (.aload_n 0, 1) := by decide +kernel
theorem dX7_isAble_42 : decode cX7_isAble 42 = .ok (.getfield 15, 3) := by decide +kernel
theorem dX7_isAble_45 : decode cX7_isAble 45 = .ok (.iload_n 2, 1) := by decide +kernel
theorem dX7_isAble_46 : decode cX7_isAble 46 = .ok (.iaload, 1) := by decide +kernel
theorem dX7_isAble_47 : decode cX7_isAble 47 = .ok (.aload_n 0, 1) := by decide +kernel
theorem dX7_isAble_48 : decode cX7_isAble 48 = .ok (.getfield 33, 3) := by decide +kernel
theorem dX7_isAble_51 : decode cX7_isAble 51 = .ok (.iload_n 1, 1) := by decide +kernel
theorem dX7_isAble_52 : decode cX7_isAble 52 = .ok (.iaload, 1) := by decide +kernel
theorem dX7_isAble_53 : decode cX7_isAble 53 = .ok (.ishr, 1) := by decide +kernel
theorem dX7_isAble_54 : decode cX7_isAble 54 = .ok (.iconst 1, 1) := by decide +kernel
theorem dX7_isAble_55 : decode cX7_isAble 55 = .ok (.iand, 1) := by decide +kernel
theorem dX7_isAble_56 : decode cX7_isAble 56 = .ok (.iconst 1, 1) := by decide +kernel
theorem dX7_isAble_57 : decode cX7_isAble 57 = .ok (.if_icmp .ne 21, 3) := by decide +kernel
theorem dX7_isAble_60 : decode cX7_isAble 60 = .ok (.aload_n 0, 1) := by decide +kernel
theorem dX7_isAble_61 : decode cX7_isAble 61 = .ok (.getfield 15, 3) := by decide +kernel
theorem dX7_isAble_64 : decode cX7_isAble 64 = .ok (.iload_n 2, 1) := by decide +kernel
theorem dX7_isAble_65 : decode cX7_isAble 65 = .ok (.iaload, 1) := by decide +kernel
theorem dX7_isAble_66 : decode cX7_isAble 66 = .ok (.iload_n 3, 1) := by decide +kernel
theorem dX7_isAble_67 : decode cX7_isAble 67 = .ok (.ishr, 1) := by decide +kernel
theorem dX7_isAble_68 : decode cX7_isAble 68 = .ok (.iconst 1, 1) := by decide +kernel
theorem dX7_isAble_69 : decode cX7_isAble 69 = .ok (.iand, 1) := by decide +kernel
theorem dX7_isAble_70 : decode cX7_isAble 70 = .ok (.iconst 1, 1) := by decide +kernel
theorem dX7_isAble_71 : decode cX7_isAble 71 = .ok (.if_icmp .ne 7, 3) := by decide +kernel
theorem dX7_isAble_74 : decode cX7_isAble 74 = .ok (.iconst 1, 1) := by decide +kernel
theorem dX7_isAble_75 : decode cX7_isAble 75 = .ok (.goto 4, 3) := by decide +kernel
theorem dX7_isAble_78 : decode cX7_isAble 78 = .ok (.iconst 0, 1) := by decide +kernel
theorem dX7_isAble_79 : decode cX7_isAble 79 = .ok (.ireturn, 1) := by decide +kernel
theorem dX7_boothOf_0 : decode cX7_boothOf 0 = .ok (.iconst (-1), 1) := by decide +kernel
theorem dX7_boothOf_1 : decode cX7_boothOf 1 = .ok (.istore_n 2, 1) := by decide +kernel
theorem dX7_boothOf_2 : decode cX7_boothOf 2 = .ok (.iconst 0, 1) := by decide +kernel
theorem dX7_boothOf_3 : decode cX7_boothOf 3 = .ok (.istore_n 3, 1) := by decide +kernel
theorem dX7_boothOf_4 : decode cX7_boothOf 4 = .ok (.iload_n 3, 1) := by decide +kernel
theorem dX7_boothOf_5 : decode cX7_boothOf 5 = .ok (.aload_n 0, 1) := by decide +kernel
theorem dX7_boothOf_6 : decode cX7_boothOf 6 = .ok (.getfield 94, 3) := by decide +kernel
theorem dX7_boothOf_9 : decode cX7_boothOf 9 = .ok (.if_icmp .ge 25, 3) := by decide +kernel
theorem dX7_boothOf_12 : decode cX7_boothOf 12 = .ok (.aload_n 0, 1) := by decide +kernel
theorem dX7_boothOf_13 : decode cX7_boothOf 13 = .ok (.getfield 45, 3) := by decide +kernel
theorem dX7_boothOf_16 : decode cX7_boothOf 16 = .ok (.iload_n 3, 1) := by decide +kernel
theorem dX7_boothOf_17 : decode cX7_boothOf 17 = .ok (.iaload, 1) := by decide +kernel
theorem dX7_boothOf_18 : decode cX7_boothOf 18 = .ok (.iload_n 1, 1) := by decide +kernel
theorem dX7_boothOf_19 : decode cX7_boothOf 19 = .ok (.if_icmp .ne 7, 3) := by decide +kernel
theorem dX7_boothOf_22 : decode cX7_boothOf 22 = .ok (.iload_n 3, 1) := by decide +kernel
theorem dX7_boothOf_23 : decode cX7_boothOf 23 = .ok (.goto 4, 3) := by decide +kernel
theorem dX7_boothOf_26 : decode cX7_boothOf 26 = .ok (.iload_n 2, 1) := by decide +kernel
theorem dX7_boothOf_27 : decode cX7_boothOf 27 = .ok (.istore_n 2, 1) := by decide +kernel
theorem dX7_boothOf_28 : decode cX7_boothOf 28 = .ok (.iinc 3 1, 3) := by decide +kernel
theorem dX7_boothOf_31 : decode cX7_boothOf 31 = .ok (.goto (-27), 3) := by decide +kernel
theorem dX7_boothOf_34 : decode cX7_boothOf 34 = .ok (.iload_n 2, 1) := by decide +kernel
theorem dX7_boothOf_35 : decode cX7_boothOf 35 = .ok (.ireturn, 1) := by decide +kernel
set_option maxRecDepth 20000 in
theorem ggX7_sit_X7_boothOf : GoodIn wsX7_sit wsX7_boothOf := goodIn_r _ [6, 7, 1, 8, 9, 10, 11, 12, 13, 14, 15, 16, 17, 18, 19, 20, 21, 22, 23, 24, 25, 26, 27, 28, 29, 30, 31, 32, 33] (by decide +kernel) (by decide +kernel)
set_option maxRecDepth 20000 in
theorem gX7_sit_X7_boothOf : GoodIn wsX7_sit (wsV RX7 101 RX7 yX7_boothOf wsX7_boothOf) := goodIn_app (goodIn_of _ (by decide +kernel)) ggX7_sit_X7_boothOf
theorem dX7_sit_0 : decode cX7_sit 0 = .ok (.iload_n 2, 1) := by decide +kernel
theorem dX7_sit_1 : decode cX7_sit 1 = .ok (.iconst (-1), 1) := by decide +kernel
theorem dX7_sit_2 : decode cX7_sit 2 = .ok (.if_icmp .eq 23, 3) := by decide +kernel
theorem dX7_sit_5 : decode cX7_sit 5 = .ok (.aload_n 0, 1) := by decide +kernel
theorem dX7_sit_6 : decode cX7_sit 6 = .ok (.iload_n 2, 1) := by decide +kernel
theorem dX7_sit_7 : decode cX7_sit 7 = .ok (.invokevirtual 101, 3) := by decide +kernel
theorem dX7_sit_10 : decode cX7_sit 10 = .ok (.iconst (-1), 1) := by decide +kernel
theorem dX7_sit_11 : decode cX7_sit 11 = .ok (.if_icmp .eq 14, 3) := by decide +kernel
theorem dX7_sit_14 : decode cX7_sit 14 = .ok (.aload_n 0, 1) := by decide +kernel
theorem dX7_sit_15 : decode cX7_sit 15 = .ok (.getfield 45, 3) := by decide +kernel
theorem dX7_sit_18 : decode cX7_sit 18 = .ok (.aload_n 0, 1) := by decide +kernel
theorem dX7_sit_19 : decode cX7_sit 19 = .ok (.iload_n 2, 1) := by decide +kernel
theorem dX7_sit_20 : decode cX7_sit 20 = .ok (.invokevirtual 101, 3) := by decide +kernel
theorem dX7_sit_23 : decode cX7_sit 23 = .ok (.iconst (-1), 1) := by decide +kernel
theorem dX7_sit_24 : decode cX7_sit 24 = .ok (.iastore, 1) := by decide +kernel
theorem dX7_sit_25 : decode cX7_sit 25 = .ok (.aload_n 0, 1) := by decide +kernel
theorem dX7_sit_26 : decode cX7_sit 26 = .ok (.getfield 45, 3) := by decide +kernel
theorem dX7_sit_29 : decode cX7_sit 29 = .ok (.iload_n 1, 1) := by decide +kernel
theorem dX7_sit_30 : decode cX7_sit 30 = .ok (.iload_n 2, 1) := by decide +kernel
theorem dX7_sit_31 : decode cX7_sit 31 = .ok (.iastore, 1) := by decide +kernel
theorem dX7_sit_32 : decode cX7_sit 32 = .ok (.return_, 1) := by decide +kernel
theorem dX7_keep_0 : decode cX7_keep 0 = .ok (.aload_n 0, 1) := by decide +kernel
theorem dX7_keep_1 : decode cX7_keep 1 = .ok (.getfield 66, 3) := by decide +kernel
theorem dX7_keep_4 : decode cX7_keep 4 = .ok (.sipush 400, 3) := by decide +kernel
theorem dX7_keep_7 : decode cX7_keep 7 = .ok (.iload_n 1, 1) := by decide +kernel
theorem dX7_keep_8 : decode cX7_keep 8 = .ok (.imul, 1) := by decide +kernel
theorem dX7_keep_9 : decode cX7_keep 9 = .ok (.aload_n 0, 1) := by decide +kernel
theorem dX7_keep_10 : decode cX7_keep 10 = .ok (.getfield 63, 3) := by decide +kernel
theorem dX7_keep_13 : decode cX7_keep 13 = .ok (.iload_n 1, 1) := by decide +kernel
theorem dX7_keep_14 : decode cX7_keep 14 = .ok (.iaload, 1) := by decide +kernel
theorem dX7_keep_15 : decode cX7_keep 15 = .ok (.iadd, 1) := by decide +kernel
theorem dX7_keep_16 : decode cX7_keep 16 = .ok (.iload_n 2, 1) := by decide +kernel
theorem dX7_keep_17 : decode cX7_keep 17 = .ok (.iastore, 1) := by decide +kernel
theorem dX7_keep_18 : decode cX7_keep 18 = .ok (.aload_n 0, 1) := by decide +kernel
theorem dX7_keep_19 : decode cX7_keep 19 = .ok (.getfield 69, 3) := by decide +kernel
theorem dX7_keep_22 : decode cX7_keep 22 = .ok (.sipush 400, 3) := by decide +kernel
theorem dX7_keep_25 : decode cX7_keep 25 = .ok (.iload_n 1, 1) := by decide +kernel
theorem dX7_keep_26 : decode cX7_keep 26 = .ok (.imul, 1) := by decide +kernel
theorem dX7_keep_27 : decode cX7_keep 27 = .ok (.aload_n 0, 1) := by decide +kernel
theorem dX7_keep_28 : decode cX7_keep 28 = .ok (.getfield 63, 3) := by decide +kernel
theorem dX7_keep_31 : decode cX7_keep 31 = .ok (.iload_n 1, 1) := by decide +kernel
theorem dX7_keep_32 : decode cX7_keep 32 = .ok (.iaload, 1) := by decide +kernel
theorem dX7_keep_33 : decode cX7_keep 33 = .ok (.iadd, 1) := by decide +kernel
theorem dX7_keep_34 : decode cX7_keep 34 = .ok (.aload_n 0, 1) := by decide +kernel
theorem dX7_keep_35 : decode cX7_keep 35 = .ok (.getfield 81, 3) := by decide +kernel
theorem dX7_keep_38 : decode cX7_keep 38 = .ok (.iastore, 1) := by decide +kernel
theorem dX7_keep_39 : decode cX7_keep 39 = .ok (.aload_n 0, 1) := by decide +kernel
theorem dX7_keep_40 : decode cX7_keep 40 = .ok (.getfield 63, 3) := by decide +kernel
theorem dX7_keep_43 : decode cX7_keep 43 = .ok (.iload_n 1, 1) := by decide +kernel
theorem dX7_keep_44 : decode cX7_keep 44 = .ok (.dup2, 1) := by decide +kernel
theorem dX7_keep_45 : decode cX7_keep 45 = .ok (.iaload, 1) := by decide +kernel
theorem dX7_keep_46 : decode cX7_keep 46 = .ok (.iconst 1, 1) := by decide +kernel
theorem dX7_keep_47 : decode cX7_keep 47 = .ok (.iadd, 1) := by decide +kernel
theorem dX7_keep_48 : decode cX7_keep 48 = .ok (.iastore, 1) := by decide +kernel
theorem dX7_keep_49 : decode cX7_keep 49 = .ok (.return_, 1) := by decide +kernel
theorem dX7_saysNow_0 : decode cX7_saysNow 0 = .ok (.aload_n 0, 1) := by decide +kernel
theorem dX7_saysNow_1 : decode cX7_saysNow 1 = .ok (.getfield 63, 3) := by decide +kernel
theorem dX7_saysNow_4 : decode cX7_saysNow 4 = .ok (.iload_n 1, 1) := by decide +kernel
theorem dX7_saysNow_5 : decode cX7_saysNow 5 = .ok (.iaload, 1) := by decide +kernel
theorem dX7_saysNow_6 : decode cX7_saysNow 6 = .ok (.ifCond .le 33, 3) := by decide +kernel
theorem dX7_saysNow_9 : decode cX7_saysNow 9 = .ok (.aload_n 0, 1) := by decide +kernel
theorem dX7_saysNow_10 : decode cX7_saysNow 10 = .ok (.getfield 69, 3) := by decide +kernel
theorem dX7_saysNow_13 : decode cX7_saysNow 13 = .ok (.sipush 400, 3) := by decide +kernel
theorem dX7_saysNow_16 : decode cX7_saysNow 16 = .ok (.iload_n 1, 1) := by decide +kernel
theorem dX7_saysNow_17 : decode cX7_saysNow 17 = .ok (.imul, 1) := by decide +kernel
theorem dX7_saysNow_18 : decode cX7_saysNow 18 = .ok (.aload_n 0, 1) := by decide +kernel
theorem dX7_saysNow_19 : decode cX7_saysNow 19 = .ok (.getfield 63, 3) := by decide +kernel
theorem dX7_saysNow_22 : decode cX7_saysNow 22 = .ok (.iload_n 1, 1) := by decide +kernel
theorem dX7_saysNow_23 : decode cX7_saysNow 23 = .ok (.iaload, 1) := by decide +kernel
theorem dX7_saysNow_24 : decode cX7_saysNow 24 = .ok (.iadd, 1) := by decide +kernel
theorem dX7_saysNow_25 : decode cX7_saysNow 25 = .ok (.iconst 1, 1) := by decide +kernel
theorem dX7_saysNow_26 : decode cX7_saysNow 26 = .ok (.isub, 1) := by decide +kernel
theorem dX7_saysNow_27 : decode cX7_saysNow 27 = .ok (.iaload, 1) := by decide +kernel
theorem dX7_saysNow_28 : decode cX7_saysNow 28 = .ok (.aload_n 0, 1) := by decide +kernel
theorem dX7_saysNow_29 : decode cX7_saysNow 29 = .ok (.getfield 81, 3) := by decide +kernel
theorem dX7_saysNow_32 : decode cX7_saysNow 32 = .ok (.if_icmp .ne 7, 3) := by decide +kernel
theorem dX7_saysNow_35 : decode cX7_saysNow 35 = .ok (.iconst 1, 1) := by decide +kernel
theorem dX7_saysNow_36 : decode cX7_saysNow 36 = .ok (.goto 4, 3) := by decide +kernel
theorem dX7_saysNow_39 : decode cX7_saysNow 39 = .ok (.iconst 0, 1) := by decide +kernel
theorem dX7_saysNow_40 : decode cX7_saysNow 40 = .ok (.ireturn, 1) := by decide +kernel
set_option maxRecDepth 20000 in
theorem ggX7_pass_X7_all : GoodIn wsX7_pass wsX7_all := goodIn_r _ [23, 7, 16, 67, 68, 69, 70, 71, 72, 73, 74, 75, 76, 77, 78, 79, 80, 81, 82, 83, 84, 85, 86, 87, 88, 89, 90, 91, 92] (by decide +kernel) (by decide +kernel)
set_option maxRecDepth 20000 in
theorem gX7_pass_X7_all : GoodIn wsX7_pass (wsV RX7 105 RX7 yX7_all wsX7_all) := goodIn_app (goodIn_of _ (by decide +kernel)) ggX7_pass_X7_all
set_option maxRecDepth 20000 in
theorem ggX7_pass_X7_keep : GoodIn wsX7_pass wsX7_keep := goodIn_r _ [27, 15, 16, 28, 18, 67, 68, 69, 70, 71, 72, 73, 74, 75, 76, 77, 78, 79, 80, 81, 82, 83, 84, 85, 86, 87, 88, 89, 90, 91, 92] (by decide +kernel) (by decide +kernel)
set_option maxRecDepth 20000 in
theorem gX7_pass_X7_keep : GoodIn wsX7_pass (wsV RX7 109 RX7 yX7_keep wsX7_keep) := goodIn_app (goodIn_of _ (by decide +kernel)) ggX7_pass_X7_keep
set_option maxRecDepth 20000 in
theorem ggX7_pass_X7_act : GoodIn wsX7_pass wsX7_act := goodIn_r _ [32, 33, 34, 18, 35, 36, 37, 38, 8, 39, 40, 41, 42, 22, 43, 44, 9, 45, 46, 47, 48, 49, 50, 14, 51, 52, 53, 24, 25, 26, 27, 15, 16, 28, 67, 68, 69, 70, 71, 72, 73, 74, 75, 76, 77, 78, 79, 80, 81, 82, 83, 84, 85, 86, 87, 88, 89, 90, 91, 92] (by decide +kernel) (by decide +kernel)
set_option maxRecDepth 20000 in
theorem gX7_pass_X7_act : GoodIn wsX7_pass (wsV RX7 113 RX7 yX7_act wsX7_act) := goodIn_app (goodIn_of _ (by decide +kernel)) ggX7_pass_X7_act
set_option maxRecDepth 20000 in
theorem ggX7_pass_X7_saysNow : GoodIn wsX7_pass wsX7_saysNow := goodIn_r _ [57, 16, 28, 18, 67, 68, 69, 70, 71, 72, 73, 74, 75, 76, 77, 78, 79, 80, 81, 82, 83, 84, 85, 86, 87, 88, 89, 90, 91, 92] (by decide +kernel) (by decide +kernel)
set_option maxRecDepth 20000 in
theorem gX7_pass_X7_saysNow : GoodIn wsX7_pass (wsV RX7 117 RX7 yX7_saysNow wsX7_saysNow) := goodIn_app (goodIn_of _ (by decide +kernel)) ggX7_pass_X7_saysNow
set_option maxRecDepth 20000 in
theorem ggX7_pass_X7_hear : GoodIn wsX7_pass wsX7_hear := goodIn_r _ [61, 34, 62, 44, 37, 35, 18, 67, 68, 69, 70, 71, 72, 73, 74, 75, 76, 77, 78, 79, 80, 81, 82, 83, 84, 85, 86, 87, 88, 89, 90, 91, 92] (by decide +kernel) (by decide +kernel)
set_option maxRecDepth 20000 in
theorem gX7_pass_X7_hear : GoodIn wsX7_pass (wsV RX7 127 RX7 yX7_hear wsX7_hear) := goodIn_app (goodIn_of _ (by decide +kernel)) ggX7_pass_X7_hear
set_option maxRecDepth 20000 in
theorem ggX7_pass_X7_boothOf : GoodIn wsX7_pass wsX7_boothOf := goodIn_r _ [66, 7, 8, 67, 68, 69, 70, 71, 72, 73, 74, 75, 76, 77, 78, 79, 80, 81, 82, 83, 84, 85, 86, 87, 88, 89, 90, 91, 92] (by decide +kernel) (by decide +kernel)
set_option maxRecDepth 20000 in
theorem gX7_pass_X7_boothOf : GoodIn wsX7_pass (wsV RX7 101 RX7 yX7_boothOf wsX7_boothOf) := goodIn_app (goodIn_of _ (by decide +kernel)) ggX7_pass_X7_boothOf
theorem dX7_pass_0 : decode cX7_pass 0 = .ok (.aload_n 0, 1) := by decide +kernel
theorem dX7_pass_1 : decode cX7_pass 1 = .ok (.invokevirtual 105, 3) := by decide +kernel
theorem dX7_pass_4 : decode cX7_pass 4 = .ok (.istore_n 1, 1) := by decide +kernel
theorem dX7_pass_5 : decode cX7_pass 5 = .ok (.aload_n 0, 1) := by decide +kernel
theorem dX7_pass_6 : decode cX7_pass 6 = .ok (.getfield 88, 3) := by decide +kernel
theorem dX7_pass_9 : decode cX7_pass 9 = .ok (.ifCond .le 51, 3) := by decide +kernel
theorem dX7_pass_12 : decode cX7_pass 12 = .ok (.aload_n 0, 1) := by decide +kernel
theorem dX7_pass_13 : decode cX7_pass 13 = .ok (.getfield 9, 3) := by decide +kernel
theorem dX7_pass_16 : decode cX7_pass 16 = .ok (.iconst 0, 1) := by decide +kernel
theorem dX7_pass_17 : decode cX7_pass 17 = .ok (.iaload, 1) := by decide +kernel
theorem dX7_pass_18 : decode cX7_pass 18 = .ok (.iconst (-1), 1) := by decide +kernel
theorem dX7_pass_19 : decode cX7_pass 19 = .ok (.if_icmp .eq 14, 3) := by decide +kernel
theorem dX7_pass_22 : decode cX7_pass 22 = .ok (.aload_n 0, 1) := by decide +kernel
theorem dX7_pass_23 : decode cX7_pass 23 = .ok (.iconst 0, 1) := by decide +kernel
theorem dX7_pass_24 : decode cX7_pass 24 = .ok (.aload_n 0, 1) := by decide +kernel
theorem dX7_pass_25 : decode cX7_pass 25 = .ok (.getfield 9, 3) := by decide +kernel
theorem dX7_pass_28 : decode cX7_pass 28 = .ok (.iconst 0, 1) := by decide +kernel
theorem dX7_pass_29 : decode cX7_pass 29 = .ok (.iaload, 1) := by decide +kernel
theorem dX7_pass_30 : decode cX7_pass 30 = .ok (.invokevirtual 109, 3) := by decide +kernel
theorem dX7_pass_33 : decode cX7_pass 33 = .ok (.aload_n 0, 1) := by decide +kernel
theorem dX7_pass_34 : decode cX7_pass 34 = .ok (.dup, 1) := by decide +kernel
theorem dX7_pass_35 : decode cX7_pass 35 = .ok (.getfield 88, 3) := by decide +kernel
theorem dX7_pass_38 : decode cX7_pass 38 = .ok (.iconst 1, 1) := by decide +kernel
theorem dX7_pass_39 : decode cX7_pass 39 = .ok (.isub, 1) := by decide +kernel
theorem dX7_pass_40 : decode cX7_pass 40 = .ok (.putfield 88, 3) := by decide +kernel
theorem dX7_pass_43 : decode cX7_pass 43 = .ok (.aload_n 0, 1) := by decide +kernel
theorem dX7_pass_44 : decode cX7_pass 44 = .ok (.getfield 9, 3) := by decide +kernel
theorem dX7_pass_47 : decode cX7_pass 47 = .ok (.iconst 1, 1) := by decide +kernel
theorem dX7_pass_48 : decode cX7_pass 48 = .ok (.aload_n 0, 1) := by decide +kernel
theorem dX7_pass_49 : decode cX7_pass 49 = .ok (.getfield 9, 3) := by decide +kernel
theorem dX7_pass_52 : decode cX7_pass 52 = .ok (.iconst 0, 1) := by decide +kernel
theorem dX7_pass_53 : decode cX7_pass 53 = .ok (.aload_n 0, 1) := by decide +kernel
theorem dX7_pass_54 : decode cX7_pass 54 = .ok (.getfield 88, 3) := by decide +kernel
theorem dX7_pass_57 : decode cX7_pass 57 = .ok (.invokestatic 75, 3) := by decide +kernel
theorem dX7_pass_60 : decode cX7_pass 60 = .ok (.iconst 0, 1) := by decide +kernel
theorem dX7_pass_61 : decode cX7_pass 61 = .ok (.istore_n 2, 1) := by decide +kernel
theorem dX7_pass_62 : decode cX7_pass 62 = .ok (.iload_n 2, 1) := by decide +kernel
theorem dX7_pass_63 : decode cX7_pass 63 = .ok (.aload_n 0, 1) := by decide +kernel
theorem dX7_pass_64 : decode cX7_pass 64 = .ok (.getfield 94, 3) := by decide +kernel
theorem dX7_pass_67 : decode cX7_pass 67 = .ok (.if_icmp .ge 62, 3) := by decide +kernel
theorem dX7_pass_70 : decode cX7_pass 70 = .ok (.aload_n 0, 1) := by decide +kernel
theorem dX7_pass_71 : decode cX7_pass 71 = .ok (.iload_n 2, 1) := by decide +kernel
theorem dX7_pass_72 : decode cX7_pass 72 = .ok (.invokevirtual 113, 3) := by decide +kernel
theorem dX7_pass_75 : decode cX7_pass 75 = .ok (.aload_n 0, 1) := by decide +kernel
theorem dX7_pass_76 : decode cX7_pass 76 = .ok (.iload_n 2, 1) := by decide +kernel
theorem dX7_pass_77 : decode cX7_pass 77 = .ok (.iconst 1, 1) := by decide +kernel
theorem dX7_pass_78 : decode cX7_pass 78 = .ok (.iadd, 1) := by decide +kernel
theorem dX7_pass_79 : decode cX7_pass 79 = .ok (.invokevirtual 117, 3) := by decide +kernel
theorem dX7_pass_82 : decode cX7_pass 82 = .ok (.ifCond .ne 41, 3) := by decide +kernel
theorem dX7_pass_85 : decode cX7_pass 85 = .ok (.aload_n 0, 1) := by decide +kernel
theorem dX7_pass_86 : decode cX7_pass 86 = .ok (.getfield 45, 3) := by decide +kernel
theorem dX7_pass_89 : decode cX7_pass 89 = .ok (.iload_n 2, 1) := by decide +kernel
theorem dX7_pass_90 : decode cX7_pass 90 = .ok (.iaload, 1) := by decide +kernel
theorem dX7_pass_91 : decode cX7_pass 91 = .ok (.iconst (-1), 1) := by decide +kernel
theorem dX7_pass_92 : decode cX7_pass 92 = .ok (.if_icmp .eq 31, 3) := by decide +kernel
theorem dX7_pass_95 : decode cX7_pass 95 = .ok (.aload_n 0, 1) := by decide +kernel
theorem dX7_pass_96 : decode cX7_pass 96 = .ok (.getfield 21, 3) := by decide +kernel
theorem dX7_pass_99 : decode cX7_pass 99 = .ok (.aload_n 0, 1) := by decide +kernel
theorem dX7_pass_100 : decode cX7_pass 100 = .ok (.getfield 45, 3) := by decide +kernel
theorem dX7_pass_103 : decode cX7_pass 103 = .ok (.iload_n 2, 1) := by decide +kernel
theorem dX7_pass_104 : decode cX7_pass 104 = .ok (.iaload, 1) := by decide +kernel
theorem dX7_pass_105 : decode cX7_pass 105 = .ok (.iconst 0, 1) := by decide +kernel
theorem dX7_pass_106 : decode cX7_pass 106 = .ok (.aload_n 0, 1) := by decide +kernel
theorem dX7_pass_107 : decode cX7_pass 107 = .ok (.getfield 21, 3) := by decide +kernel
theorem dX7_pass_110 : decode cX7_pass 110 = .ok (.aload_n 0, 1) := by decide +kernel
theorem dX7_pass_111 : decode cX7_pass 111 = .ok (.getfield 45, 3) := by decide +kernel
theorem dX7_pass_114 : decode cX7_pass 114 = .ok (.iload_n 2, 1) := by decide +kernel
theorem dX7_pass_115 : decode cX7_pass 115 = .ok (.iaload, 1) := by decide +kernel
theorem dX7_pass_116 : decode cX7_pass 116 = .ok (.iaload, 1) := by decide +kernel
theorem dX7_pass_117 : decode cX7_pass 117 = .ok (.iconst 1, 1) := by decide +kernel
theorem dX7_pass_118 : decode cX7_pass 118 = .ok (.isub, 1) := by decide +kernel
theorem dX7_pass_119 : decode cX7_pass 119 = .ok (.invokestatic 121, 3) := by decide +kernel
theorem dX7_pass_122 : decode cX7_pass 122 = .ok (.iastore, 1) := by decide +kernel
theorem dX7_pass_123 : decode cX7_pass 123 = .ok (.iinc 2 1, 3) := by decide +kernel
theorem dX7_pass_126 : decode cX7_pass 126 = .ok (.goto (-64), 3) := by decide +kernel
theorem dX7_pass_129 : decode cX7_pass 129 = .ok (.iconst 0, 1) := by decide +kernel
theorem dX7_pass_130 : decode cX7_pass 130 = .ok (.istore_n 2, 1) := by decide +kernel
theorem dX7_pass_131 : decode cX7_pass 131 = .ok (.iload_n 2, 1) := by decide +kernel
theorem dX7_pass_132 : decode cX7_pass 132 = .ok (.aload_n 0, 1) := by decide +kernel
theorem dX7_pass_133 : decode cX7_pass 133 = .ok (.getfield 94, 3) := by decide +kernel
theorem dX7_pass_136 : decode cX7_pass 136 = .ok (.if_icmp .ge 62, 3) := by decide +kernel
theorem dX7_pass_139 : decode cX7_pass 139 = .ok (.aload_n 0, 1) := by decide +kernel
theorem dX7_pass_140 : decode cX7_pass 140 = .ok (.aload_n 0, 1) := by decide +kernel
theorem dX7_pass_141 : decode cX7_pass 141 = .ok (.getfield 42, 3) := by decide +kernel
theorem dX7_pass_144 : decode cX7_pass 144 = .ok (.iload_n 2, 1) := by decide +kernel
theorem dX7_pass_145 : decode cX7_pass 145 = .ok (.iaload, 1) := by decide +kernel
theorem dX7_pass_146 : decode cX7_pass 146 = .ok (.iconst 1, 1) := by decide +kernel
theorem dX7_pass_147 : decode cX7_pass 147 = .ok (.iadd, 1) := by decide +kernel
theorem dX7_pass_148 : decode cX7_pass 148 = .ok (.invokevirtual 117, 3) := by decide +kernel
theorem dX7_pass_151 : decode cX7_pass 151 = .ok (.ifCond .eq 41, 3) := by decide +kernel
theorem dX7_pass_154 : decode cX7_pass 154 = .ok (.aload_n 0, 1) := by decide +kernel
theorem dX7_pass_155 : decode cX7_pass 155 = .ok (.iload_n 2, 1) := by decide +kernel
theorem dX7_pass_156 : decode cX7_pass 156 = .ok (.aload_n 0, 1) := by decide +kernel
theorem dX7_pass_157 : decode cX7_pass 157 = .ok (.getfield 66, 3) := by decide +kernel
theorem dX7_pass_160 : decode cX7_pass 160 = .ok (.sipush 400, 3) := by decide +kernel
theorem dX7_pass_163 : decode cX7_pass 163 = .ok (.aload_n 0, 1) := by decide +kernel
theorem dX7_pass_164 : decode cX7_pass 164 = .ok (.getfield 42, 3) := by decide +kernel
theorem dX7_pass_167 : decode cX7_pass 167 = .ok (.iload_n 2, 1) := by decide +kernel
theorem dX7_pass_168 : decode cX7_pass 168 = .ok (.iaload, 1) := by decide +kernel
theorem dX7_pass_169 : decode cX7_pass 169 = .ok (.iconst 1, 1) := by decide +kernel
theorem dX7_pass_170 : decode cX7_pass 170 = .ok (.iadd, 1) := by decide +kernel
theorem dX7_pass_171 : decode cX7_pass 171 = .ok (.imul, 1) := by decide +kernel
theorem dX7_pass_172 : decode cX7_pass 172 = .ok (.aload_n 0, 1) := by decide +kernel
theorem dX7_pass_173 : decode cX7_pass 173 = .ok (.getfield 63, 3) := by decide +kernel
theorem dX7_pass_176 : decode cX7_pass 176 = .ok (.aload_n 0, 1) := by decide +kernel
theorem dX7_pass_177 : decode cX7_pass 177 = .ok (.getfield 42, 3) := by decide +kernel
theorem dX7_pass_180 : decode cX7_pass 180 = .ok (.iload_n 2, 1) := by decide +kernel
theorem dX7_pass_181 : decode cX7_pass 181 = .ok (.iaload, 1) := by decide +kernel
theorem dX7_pass_182 : decode cX7_pass 182 = .ok (.iconst 1, 1) := by decide +kernel
theorem dX7_pass_183 : decode cX7_pass 183 = .ok (.iadd, 1) := by decide +kernel
theorem dX7_pass_184 : decode cX7_pass 184 = .ok (.iaload, 1) := by decide +kernel
theorem dX7_pass_185 : decode cX7_pass 185 = .ok (.iadd, 1) := by decide +kernel
