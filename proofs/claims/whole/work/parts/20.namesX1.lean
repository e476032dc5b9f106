theorem dX1_init_0 : decode cX1_init 0 = .ok (.aload_n 0, 1) := by decide +kernel
theorem dX1_init_1 : decode cX1_init 1 = .ok (.invokespecial 1, 3) := by decide +kernel
theorem dX1_init_4 : decode cX1_init 4 = .ok (.aload_n 0, 1) := by decide +kernel
theorem dX1_init_5 : decode cX1_init 5 = .ok (.iconst 0, 1) := by decide +kernel
theorem dX1_init_6 : decode cX1_init 6 = .ok (.putfield 9, 3) := by decide +kernel
theorem dX1_init_9 : decode cX1_init 9 = .ok (.return_, 1) := by decide +kernel
set_option maxRecDepth 20000 in
theorem ggX1_has_X1_isValue : GoodIn wsX1_has wsX1_isValue := goodIn_r _ [4, 5, 6, 3, 7, 8, 9, 10, 11, 12, 13, 14, 15, 16, 17, 18, 19, 20, 21, 22, 23, 24, 25] (by decide +kernel) (by decide +kernel)
set_option maxRecDepth 20000 in
theorem gX1_has_X1_isValue : GoodIn wsX1_has (va_wsS RX1 13 yX1_isValue wsX1_isValue) := goodIn_app (goodIn_of _ (by decide +kernel)) ggX1_has_X1_isValue
theorem dX1_has_0 : decode cX1_has 0 = .ok (.iload_n 1, 1) := by decide +kernel
theorem dX1_has_1 : decode cX1_has 1 = .ok (.lload_n 2, 1) := by decide +kernel
theorem dX1_has_2 : decode cX1_has 2 = .ok (.invokestatic 13, 3) := by decide +kernel
theorem dX1_has_5 : decode cX1_has 5 = .ok (.ireturn, 1) := by decide +kernel
set_option maxRecDepth 20000 in
theorem ggX1_widens_X1_isNumberKind : GoodIn wsX1_widens wsX1_isNumberKind := goodIn_r _ [4] (by decide +kernel) (by decide +kernel)
set_option maxRecDepth 20000 in
theorem gX1_widens_X1_isNumberKind : GoodIn wsX1_widens (va_wsS RX1 17 yX1_isNumberKind wsX1_isNumberKind) := goodIn_app (goodIn_of _ (by decide +kernel)) ggX1_widens_X1_isNumberKind
theorem dX1_widens_0 : decode cX1_widens 0 = .ok (.iload_n 1, 1) := by decide +kernel
theorem dX1_widens_1 : decode cX1_widens 1 = .ok (.iload_n 2, 1) := by decide +kernel
theorem dX1_widens_2 : decode cX1_widens 2 = .ok (.if_icmp .ne 19, 3) := by decide +kernel
theorem dX1_widens_5 : decode cX1_widens 5 = .ok (.iload_n 1, 1) := by decide +kernel
theorem dX1_widens_6 : decode cX1_widens 6 = .ok (.ifCond .lt 13, 3) := by decide +kernel
theorem dX1_widens_9 : decode cX1_widens 9 = .ok (.iload_n 1, 1) := by decide +kernel
theorem dX1_widens_10 : decode cX1_widens 10 = .ok (.bipush 7, 2) := by decide +kernel
theorem dX1_widens_12 : decode cX1_widens 12 = .ok (.if_icmp .gt 7, 3) := by decide +kernel
theorem dX1_widens_15 : decode cX1_widens 15 = .ok (.iconst 1, 1) := by decide +kernel
theorem dX1_widens_16 : decode cX1_widens 16 = .ok (.goto 4, 3) := by decide +kernel
theorem dX1_widens_19 : decode cX1_widens 19 = .ok (.iconst 0, 1) := by decide +kernel
theorem dX1_widens_20 : decode cX1_widens 20 = .ok (.ireturn, 1) := by decide +kernel
theorem dX1_widens_21 : decode cX1_widens 21 = .ok (.iload_n 1, 1) := by decide +kernel
theorem dX1_widens_22 : decode cX1_widens 22 = .ok (.invokestatic 17, 3) := by decide +kernel
theorem dX1_widens_25 : decode cX1_widens 25 = .ok (.ifCond .eq 15, 3) := by decide +kernel
theorem dX1_widens_28 : decode cX1_widens 28 = .ok (.iload_n 2, 1) := by decide +kernel
theorem dX1_widens_29 : decode cX1_widens 29 = .ok (.invokestatic 17, 3) := by decide +kernel
theorem dX1_widens_32 : decode cX1_widens 32 = .ok (.ifCond .eq 8, 3) := by decide +kernel
theorem dX1_widens_35 : decode cX1_widens 35 = .ok (.iload_n 2, 1) := by decide +kernel
theorem dX1_widens_36 : decode cX1_widens 36 = .ok (.iconst 3, 1) := by decide +kernel
theorem dX1_widens_37 : decode cX1_widens 37 = .ok (.if_icmp .ne 5, 3) := by decide +kernel
theorem dX1_widens_40 : decode cX1_widens 40 = .ok (.iconst 0, 1) := by decide +kernel
theorem dX1_widens_41 : decode cX1_widens 41 = .ok (.ireturn, 1) := by decide +kernel
theorem dX1_widens_42 : decode cX1_widens 42 = .ok (.iload_n 1, 1) := by decide +kernel
theorem dX1_widens_43 : decode cX1_widens 43 = .ok (.iload_n 2, 1) := by decide +kernel
theorem dX1_widens_44 : decode cX1_widens 44 = .ok (.if_icmp .ge 7, 3) := by decide +kernel
theorem dX1_widens_47 : decode cX1_widens 47 = .ok (.iconst 1, 1) := by decide +kernel
theorem dX1_widens_48 : decode cX1_widens 48 = .ok (.goto 4, 3) := by decide +kernel
theorem dX1_widens_51 : decode cX1_widens 51 = .ok (.iconst 0, 1) := by decide +kernel
theorem dX1_widens_52 : decode cX1_widens 52 = .ok (.ireturn, 1) := by decide +kernel
set_option maxRecDepth 20000 in
theorem ggX1_cast_X1_isNumberKind : GoodIn wsX1_cast wsX1_isNumberKind := goodIn_r _ [5] (by decide +kernel) (by decide +kernel)
set_option maxRecDepth 20000 in
theorem gX1_cast_X1_isNumberKind : GoodIn wsX1_cast (va_wsS RX1 17 yX1_isNumberKind wsX1_isNumberKind) := goodIn_app (goodIn_of _ (by decide +kernel)) ggX1_cast_X1_isNumberKind
set_option maxRecDepth 20000 in
theorem ggX1_cast_X1_isValue : GoodIn wsX1_cast wsX1_isValue := goodIn_r _ [8, 9, 10, 4, 11, 12, 13, 14, 15, 16, 17, 18, 19, 20, 21, 22, 23, 24, 25, 26, 27, 28, 29] (by decide +kernel) (by decide +kernel)
set_option maxRecDepth 20000 in
theorem gX1_cast_X1_isValue : GoodIn wsX1_cast (va_wsS RX1 13 yX1_isValue wsX1_isValue) := goodIn_app (goodIn_of _ (by decide +kernel)) ggX1_cast_X1_isValue
set_option maxRecDepth 20000 in
theorem ggX1_cast_X1_fails : GoodIn wsX1_cast wsX1_fails := goodIn_r _ [33, 1, 99] (by decide +kernel) (by decide +kernel)
set_option maxRecDepth 20000 in
theorem gX1_cast_X1_fails : GoodIn wsX1_cast (wsV RX1 21 RX1 yX1_fails wsX1_fails) := goodIn_app (goodIn_of _ (by decide +kernel)) ggX1_cast_X1_fails
set_option maxRecDepth 20000 in
theorem ggX1_cast_X1_converted : GoodIn wsX1_cast wsX1_converted := goodIn_r _ [36, 37, 38, 14, 39, 40, 41, 42, 20, 21, 22, 23, 24, 43, 44, 45, 16, 17, 18, 19, 25, 26, 27, 28, 29, 46, 47, 48, 49, 50, 51, 52, 53, 54, 55, 56, 57, 58, 59, 60, 61, 62, 63, 64, 65, 66, 67, 68, 69, 70, 71, 72, 73, 74, 75, 76, 77, 78, 79, 80, 81, 82, 83, 9, 10, 4, 11, 84, 85, 86, 87, 88, 89, 90, 91, 92, 93, 94, 95, 96, 97, 98] (by decide +kernel) (by decide +kernel)
set_option maxRecDepth 20000 in
theorem gX1_cast_X1_converted : GoodIn wsX1_cast (va_wsS RX1 25 yX1_converted wsX1_converted) := goodIn_app (goodIn_of _ (by decide +kernel)) ggX1_cast_X1_converted
theorem dX1_cast_0 : decode cX1_cast 0 = .ok (.iload_n 1, 1) := by decide +kernel
theorem dX1_cast_1 : decode cX1_cast 1 = .ok (.iload_n 2, 1) := by decide +kernel
theorem dX1_cast_2 : decode cX1_cast 2 = .ok (.if_icmp .eq 17, 3) := by decide +kernel
theorem dX1_cast_5 : decode cX1_cast 5 = .ok (.iload_n 1, 1) := by decide +kernel
theorem dX1_cast_6 : decode cX1_cast 6 = .ok (.invokestatic 17, 3) := by decide +kernel
theorem dX1_cast_9 : decode cX1_cast 9 = .ok (.ifCond .eq 14, 3) := by decide +kernel
theorem dX1_cast_12 : decode cX1_cast 12 = .ok (.iload_n 2, 1) := by decide +kernel
theorem dX1_cast_13 : decode cX1_cast 13 = .ok (.invokestatic 17, 3) := by decide +kernel
theorem dX1_cast_16 : decode cX1_cast 16 = .ok (.ifCond .eq 7, 3) := by decide +kernel
theorem dX1_cast_19 : decode cX1_cast 19 = .ok (.iconst 1, 1) := by decide +kernel
theorem dX1_cast_20 : decode cX1_cast 20 = .ok (.goto 4, 3) := by decide +kernel
theorem dX1_cast_23 : decode cX1_cast 23 = .ok (.iconst 0, 1) := by decide +kernel
theorem dX1_cast_24 : decode cX1_cast 24 = .ok (.istore 5, 2) := by decide +kernel
theorem dX1_cast_26 : decode cX1_cast 26 = .ok (.iload 5, 2) := by decide +kernel
theorem dX1_cast_28 : decode cX1_cast 28 = .ok (.ifCond .eq 11, 3) := by decide +kernel
theorem dX1_cast_31 : decode cX1_cast 31 = .ok (.iload_n 1, 1) := by decide +kernel
theorem dX1_cast_32 : decode cX1_cast 32 = .ok (.lload_n 3, 1) := by decide +kernel
theorem dX1_cast_33 : decode cX1_cast 33 = .ok (.invokestatic 13, 3) := by decide +kernel
theorem dX1_cast_36 : decode cX1_cast 36 = .ok (.ifCond .ne 11, 3) := by decide +kernel
theorem dX1_cast_39 : decode cX1_cast 39 = .ok (.aload_n 0, 1) := by decide +kernel
theorem dX1_cast_40 : decode cX1_cast 40 = .ok (.iconst 1, 1) := by decide +kernel
theorem dX1_cast_41 : decode cX1_cast 41 = .ok (.iconst 0, 1) := by decide +kernel
theorem dX1_cast_42 : decode cX1_cast 42 = .ok (.invokevirtual 21, 3) := by decide +kernel
theorem dX1_cast_45 : decode cX1_cast 45 = .ok (.i2l, 1) := by decide +kernel
theorem dX1_cast_46 : decode cX1_cast 46 = .ok (.lreturn, 1) := by decide +kernel
theorem dX1_cast_47 : decode cX1_cast 47 = .ok (.aload_n 0, 1) := by decide +kernel
theorem dX1_cast_48 : decode cX1_cast 48 = .ok (.iconst 0, 1) := by decide +kernel
theorem dX1_cast_49 : decode cX1_cast 49 = .ok (.putfield 9, 3) := by decide +kernel
theorem dX1_cast_52 : decode cX1_cast 52 = .ok (.iload_n 1, 1) := by decide +kernel
theorem dX1_cast_53 : decode cX1_cast 53 = .ok (.iload_n 2, 1) := by decide +kernel
theorem dX1_cast_54 : decode cX1_cast 54 = .ok (.lload_n 3, 1) := by decide +kernel
theorem dX1_cast_55 : decode cX1_cast 55 = .ok (.invokestatic 25, 3) := by decide +kernel
theorem dX1_cast_58 : decode cX1_cast 58 = .ok (.lreturn, 1) := by decide +kernel
set_option maxRecDepth 20000 in
theorem ggX1_work_X1_areNumbers : GoodIn wsX1_work wsX1_areNumbers := goodIn_r _ [5, 6, 7, 4, 8, 9, 10, 11, 12, 13, 14, 15, 16, 17, 18, 19, 20, 21, 22, 23, 24, 25, 26, 27, 28, 29, 30, 31, 32] (by decide +kernel) (by decide +kernel)
set_option maxRecDepth 20000 in
theorem gX1_work_X1_areNumbers : GoodIn wsX1_work (va_wsS RX1 29 yX1_areNumbers wsX1_areNumbers) := goodIn_app (goodIn_of _ (by decide +kernel)) ggX1_work_X1_areNumbers
set_option maxRecDepth 20000 in
theorem ggX1_work_X1_fails : GoodIn wsX1_work wsX1_fails := goodIn_r _ [36, 1, 154] (by decide +kernel) (by decide +kernel)
set_option maxRecDepth 20000 in
theorem gX1_work_X1_fails : GoodIn wsX1_work (wsV RX1 21 RX1 yX1_fails wsX1_fails) := goodIn_app (goodIn_of _ (by decide +kernel)) ggX1_work_X1_fails
set_option maxRecDepth 20000 in
theorem ggX1_work_X1_workKind : GoodIn wsX1_work wsX1_workKind := goodIn_r _ [39, 40, 41, 42, 43] (by decide +kernel) (by decide +kernel)
set_option maxRecDepth 20000 in
theorem gX1_work_X1_workKind : GoodIn wsX1_work (va_wsS RX1 33 yX1_workKind wsX1_workKind) := goodIn_app (goodIn_of _ (by decide +kernel)) ggX1_work_X1_workKind
set_option maxRecDepth 20000 in
theorem ggX1_work_X1_converted : GoodIn wsX1_work wsX1_converted := goodIn_r _ [46, 47, 48, 17, 49, 50, 51, 52, 23, 24, 25, 26, 27, 53, 54, 55, 19, 20, 21, 22, 28, 29, 30, 31, 32, 56, 57, 58, 59, 60, 61, 62, 63, 64, 65, 66, 67, 68, 41, 42, 43, 69, 70, 71, 72, 73, 74, 75, 76, 77, 78, 79, 80, 81, 82, 83, 84, 85, 86, 87, 88, 89, 90, 12, 13, 4, 14, 91, 92, 93, 94, 95, 96, 97, 98, 99, 100, 101, 102, 103, 104, 105] (by decide +kernel) (by decide +kernel)
set_option maxRecDepth 20000 in
theorem gX1_work_X1_converted : GoodIn wsX1_work (va_wsS RX1 25 yX1_converted wsX1_converted) := goodIn_app (goodIn_of _ (by decide +kernel)) ggX1_work_X1_converted
set_option maxRecDepth 20000 in
theorem ggX1_work_X1_workReal : GoodIn wsX1_work wsX1_workReal := goodIn_r _ [109, 110, 111, 17, 112, 53, 54, 55, 19, 20, 21, 22, 23, 24, 25, 26, 27, 28, 29, 30, 31, 32, 113, 114, 115, 116, 117, 118, 119, 120, 121, 59, 60, 61, 62, 63, 64, 75, 76, 77, 65, 66, 67, 68, 41, 42, 43, 69, 70, 71, 122, 123, 124, 50, 51, 52, 72, 73, 74, 56, 57, 58, 78, 79, 80, 81, 82, 83, 125, 126, 127, 128, 129, 130, 131, 132, 133, 134, 135, 136, 137, 138, 139, 140, 141, 142, 143, 144, 145, 146, 147, 148, 149, 15, 16, 18, 33, 34, 35, 4, 36, 1, 154] (by decide +kernel) (by decide +kernel)
set_option maxRecDepth 20000 in
theorem gX1_work_X1_workReal : GoodIn wsX1_work (wsV RX1 36 RX1 yX1_workReal wsX1_workReal) := goodIn_app (goodIn_of _ (by decide +kernel)) ggX1_work_X1_workReal
set_option maxRecDepth 20000 in
theorem ggX1_work_X1_workWhole : GoodIn wsX1_work wsX1_workWhole := goodIn_r _ [153, 12, 13, 4, 14, 33, 34, 35, 36, 1, 154] (by decide +kernel) (by decide +kernel)
set_option maxRecDepth 20000 in
theorem gX1_work_X1_workWhole : GoodIn wsX1_work (wsV RX1 40 RX1 yX1_workWhole wsX1_workWhole) := goodIn_app (goodIn_of _ (by decide +kernel)) ggX1_work_X1_workWhole
theorem dX1_work_0 : decode cX1_work 0 = .ok (.iload_n 1, 1) := by decide +kernel
theorem dX1_work_1 : decode cX1_work 1 = .ok (.iconst 1, 1) := by decide +kernel
theorem dX1_work_2 : decode cX1_work 2 = .ok (.if_icmp .lt 20, 3) := by decide +kernel
theorem dX1_work_5 : decode cX1_work 5 = .ok (.iload_n 1, 1) := by decide +kernel
theorem dX1_work_6 : decode cX1_work 6 = .ok (.iconst 5, 1) := by decide +kernel
theorem dX1_work_7 : decode cX1_work 7 = .ok (.if_icmp .gt 15, 3) := by decide +kernel
theorem dX1_work_10 : decode cX1_work 10 = .ok (.iload_n 2, 1) := by decide +kernel
theorem dX1_work_11 : decode cX1_work 11 = .ok (.lload_n 3, 1) := by decide +kernel
theorem dX1_work_12 : decode cX1_work 12 = .ok (.iload 5, 2) := by decide +kernel
theorem dX1_work_14 : decode cX1_work 14 = .ok (.lload 6, 2) := by decide +kernel
theorem dX1_work_16 : decode cX1_work 16 = .ok (.invokestatic 29, 3) := by decide +kernel
theorem dX1_work_19 : decode cX1_work 19 = .ok (.ifCond .ne 11, 3) := by decide +kernel
theorem dX1_work_22 : decode cX1_work 22 = .ok (.aload_n 0, 1) := by decide +kernel
theorem dX1_work_23 : decode cX1_work 23 = .ok (.iconst 1, 1) := by decide +kernel
theorem dX1_work_24 : decode cX1_work 24 = .ok (.iconst 0, 1) := by decide +kernel
theorem dX1_work_25 : decode cX1_work 25 = .ok (.invokevirtual 21, 3) := by decide +kernel
theorem dX1_work_28 : decode cX1_work 28 = .ok (.i2l, 1) := by decide +kernel
theorem dX1_work_29 : decode cX1_work 29 = .ok (.lreturn, 1) := by decide +kernel
theorem dX1_work_30 : decode cX1_work 30 = .ok (.aload_n 0, 1) := by decide +kernel
theorem dX1_work_31 : decode cX1_work 31 = .ok (.iconst 0, 1) := by decide +kernel
theorem dX1_work_32 : decode cX1_work 32 = .ok (.putfield 9, 3) := by decide +kernel
theorem dX1_work_35 : decode cX1_work 35 = .ok (.iload_n 2, 1) := by decide +kernel
theorem dX1_work_36 : decode cX1_work 36 = .ok (.iload 5, 2) := by decide +kernel
theorem dX1_work_38 : decode cX1_work 38 = .ok (.invokestatic 33, 3) := by decide +kernel
theorem dX1_work_41 : decode cX1_work 41 = .ok (.istore 8, 2) := by decide +kernel
theorem dX1_work_43 : decode cX1_work 43 = .ok (.iload_n 2, 1) := by decide +kernel
theorem dX1_work_44 : decode cX1_work 44 = .ok (.iload 8, 2) := by decide +kernel
theorem dX1_work_46 : decode cX1_work 46 = .ok (.lload_n 3, 1) := by decide +kernel
theorem dX1_work_47 : decode cX1_work 47 = .ok (.invokestatic 25, 3) := by decide +kernel
theorem dX1_work_50 : decode cX1_work 50 = .ok (.lstore 9, 2) := by decide +kernel
theorem dX1_work_52 : decode cX1_work 52 = .ok (.iload 5, 2) := by decide +kernel
theorem dX1_work_54 : decode cX1_work 54 = .ok (.iload 8, 2) := by decide +kernel
theorem dX1_work_56 : decode cX1_work 56 = .ok (.lload 6, 2) := by decide +kernel
theorem dX1_work_58 : decode cX1_work 58 = .ok (.invokestatic 25, 3) := by decide +kernel
theorem dX1_work_61 : decode cX1_work 61 = .ok (.lstore 11, 2) := by decide +kernel
theorem dX1_work_63 : decode cX1_work 63 = .ok (.iload 8, 2) := by decide +kernel
theorem dX1_work_65 : decode cX1_work 65 = .ok (.bipush 6, 2) := by decide +kernel
theorem dX1_work_67 : decode cX1_work 67 = .ok (.if_icmp .lt 17, 3) := by decide +kernel
theorem dX1_work_70 : decode cX1_work 70 = .ok (.aload_n 0, 1) := by decide +kernel
theorem dX1_work_71 : decode cX1_work 71 = .ok (.iload_n 1, 1) := by decide +kernel
theorem dX1_work_72 : decode cX1_work 72 = .ok (.iload 8, 2) := by decide +kernel
theorem dX1_work_74 : decode cX1_work 74 = .ok (.lload 9, 2) := by decide +kernel
theorem dX1_work_76 : decode cX1_work 76 = .ok (.lload 11, 2) := by decide +kernel
theorem dX1_work_78 : decode cX1_work 78 = .ok (.invokevirtual 36, 3) := by decide +kernel
theorem dX1_work_81 : decode cX1_work 81 = .ok (.goto 14, 3) := by decide +kernel
theorem dX1_work_84 : decode cX1_work 84 = .ok (.aload_n 0, 1) := by decide +kernel
theorem dX1_work_85 : decode cX1_work 85 = .ok (.iload_n 1, 1) := by decide +kernel
theorem dX1_work_86 : decode cX1_work 86 = .ok (.iload 8, 2) := by decide +kernel
theorem dX1_work_88 : decode cX1_work 88 = .ok (.lload 9, 2) := by decide +kernel
theorem dX1_work_90 : decode cX1_work 90 = .ok (.lload 11, 2) := by decide +kernel
theorem dX1_work_92 : decode cX1_work 92 = .ok (.invokevirtual 40, 3) := by decide +kernel
theorem dX1_work_95 : decode cX1_work 95 = .ok (.lreturn, 1) := by decide +kernel
set_option maxRecDepth 20000 in
theorem ggX1_shift_X1_isValue : GoodIn wsX1_shift wsX1_isValue := goodIn_r _ [7, 8, 9, 6, 10, 11, 12, 13, 14, 15, 16, 17, 18, 19, 20, 21, 22, 23, 24, 25, 26, 27, 28] (by decide +kernel) (by decide +kernel)
set_option maxRecDepth 20000 in
theorem gX1_shift_X1_isValue : GoodIn wsX1_shift (va_wsS RX1 13 yX1_isValue wsX1_isValue) := goodIn_app (goodIn_of _ (by decide +kernel)) ggX1_shift_X1_isValue
set_option maxRecDepth 20000 in
theorem ggX1_shift_X1_fails : GoodIn wsX1_shift wsX1_fails := goodIn_r _ [32, 1, 39] (by decide +kernel) (by decide +kernel)
set_option maxRecDepth 20000 in
theorem gX1_shift_X1_fails : GoodIn wsX1_shift (wsV RX1 21 RX1 yX1_fails wsX1_fails) := goodIn_app (goodIn_of _ (by decide +kernel)) ggX1_shift_X1_fails
set_option maxRecDepth 20000 in
theorem ggX1_shift_X1_shiftedLong : GoodIn wsX1_shift wsX1_shiftedLong := goodIn_r _ [35] (by decide +kernel) (by decide +kernel)
set_option maxRecDepth 20000 in
theorem gX1_shift_X1_shiftedLong : GoodIn wsX1_shift (va_wsS RX1 45 yX1_shiftedLong wsX1_shiftedLong) := goodIn_app (goodIn_of _ (by decide +kernel)) ggX1_shift_X1_shiftedLong
set_option maxRecDepth 20000 in
theorem ggX1_shift_X1_shiftedInt : GoodIn wsX1_shift wsX1_shiftedInt := goodIn_r _ [38] (by decide +kernel) (by decide +kernel)
set_option maxRecDepth 20000 in
theorem gX1_shift_X1_shiftedInt : GoodIn wsX1_shift (va_wsS RX1 51 yX1_shiftedInt wsX1_shiftedInt) := goodIn_app (goodIn_of _ (by decide +kernel)) ggX1_shift_X1_shiftedInt
theorem dX1_shift_0 : decode cX1_shift 0 = .ok (.iload_n 1, 1) := by decide +kernel
theorem dX1_shift_1 : decode cX1_shift 1 = .ok (.bipush 6, 2) := by decide +kernel
theorem dX1_shift_3 : decode cX1_shift 3 = .ok (.if_icmp .lt 13, 3) := by decide +kernel
theorem dX1_shift_6 : decode cX1_shift 6 = .ok (.iload_n 1, 1) := by decide +kernel
theorem dX1_shift_7 : decode cX1_shift 7 = .ok (.bipush 8, 2) := by decide +kernel
theorem dX1_shift_9 : decode cX1_shift 9 = .ok (.if_icmp .gt 7, 3) := by decide +kernel
theorem dX1_shift_12 : decode cX1_shift 12 = .ok (.iconst 1, 1) := by decide +kernel
theorem dX1_shift_13 : decode cX1_shift 13 = .ok (.goto 4, 3) := by decide +kernel
theorem dX1_shift_16 : decode cX1_shift 16 = .ok (.iconst 0, 1) := by decide +kernel
theorem dX1_shift_17 : decode cX1_shift 17 = .ok (.istore 7, 2) := by decide +kernel
theorem dX1_shift_19 : decode cX1_shift 19 = .ok (.iload 7, 2) := by decide +kernel
theorem dX1_shift_21 : decode cX1_shift 21 = .ok (.ifCond .eq 21, 3) := by decide +kernel
theorem dX1_shift_24 : decode cX1_shift 24 = .ok (.iload_n 2, 1) := by decide +kernel
theorem dX1_shift_25 : decode cX1_shift 25 = .ok (.iconst 1, 1) := by decide +kernel
theorem dX1_shift_26 : decode cX1_shift 26 = .ok (.if_icmp .lt 16, 3) := by decide +kernel
theorem dX1_shift_29 : decode cX1_shift 29 = .ok (.iload_n 2, 1) := by decide +kernel
theorem dX1_shift_30 : decode cX1_shift 30 = .ok (.iconst 5, 1) := by decide +kernel
theorem dX1_shift_31 : decode cX1_shift 31 = .ok (.if_icmp .gt 11, 3) := by decide +kernel
theorem dX1_shift_34 : decode cX1_shift 34 = .ok (.iload_n 2, 1) := by decide +kernel
theorem dX1_shift_35 : decode cX1_shift 35 = .ok (.lload_n 3, 1) := by decide +kernel
theorem dX1_shift_36 : decode cX1_shift 36 = .ok (.invokestatic 13, 3) := by decide +kernel
theorem dX1_shift_39 : decode cX1_shift 39 = .ok (.ifCond .ne 11, 3) := by decide +kernel
theorem dX1_shift_42 : decode cX1_shift 42 = .ok (.aload_n 0, 1) := by decide +kernel
theorem dX1_shift_43 : decode cX1_shift 43 = .ok (.iconst 1, 1) := by decide +kernel
theorem dX1_shift_44 : decode cX1_shift 44 = .ok (.iconst 0, 1) := by decide +kernel
theorem dX1_shift_45 : decode cX1_shift 45 = .ok (.invokevirtual 21, 3) := by decide +kernel
theorem dX1_shift_48 : decode cX1_shift 48 = .ok (.i2l, 1) := by decide +kernel
theorem dX1_shift_49 : decode cX1_shift 49 = .ok (.lreturn, 1) := by decide +kernel
theorem dX1_shift_50 : decode cX1_shift 50 = .ok (.aload_n 0, 1) := by decide +kernel
theorem dX1_shift_51 : decode cX1_shift 51 = .ok (.iconst 0, 1) := by decide +kernel
theorem dX1_shift_52 : decode cX1_shift 52 = .ok (.putfield 9, 3) := by decide +kernel
theorem dX1_shift_55 : decode cX1_shift 55 = .ok (.iload_n 2, 1) := by decide +kernel
theorem dX1_shift_56 : decode cX1_shift 56 = .ok (.iconst 5, 1) := by decide +kernel
theorem dX1_shift_57 : decode cX1_shift 57 = .ok (.if_icmp .ne 18, 3) := by decide +kernel
theorem dX1_shift_60 : decode cX1_shift 60 = .ok (.iload_n 1, 1) := by decide +kernel
theorem dX1_shift_61 : decode cX1_shift 61 = .ok (.lload_n 3, 1) := by decide +kernel
theorem dX1_shift_62 : decode cX1_shift 62 = .ok (.lload 5, 2) := by decide +kernel
theorem dX1_shift_64 : decode cX1_shift 64 = .ok (.ldc2_w 43, 3) := by decide +kernel
theorem dX1_shift_67 : decode cX1_shift 67 = .ok (.land, 1) := by decide +kernel
theorem dX1_shift_68 : decode cX1_shift 68 = .ok (.l2i, 1) := by decide +kernel
theorem dX1_shift_69 : decode cX1_shift 69 = .ok (.invokestatic 45, 3) := by decide +kernel
theorem dX1_shift_72 : decode cX1_shift 72 = .ok (.goto 16, 3) := by decide +kernel
theorem dX1_shift_75 : decode cX1_shift 75 = .ok (.iload_n 1, 1) := by decide +kernel
theorem dX1_shift_76 : decode cX1_shift 76 = .ok (.lload_n 3, 1) := by decide +kernel
theorem dX1_shift_77 : decode cX1_shift 77 = .ok (.l2i, 1) := by decide +kernel
theorem dX1_shift_78 : decode cX1_shift 78 = .ok (.lload 5, 2) := by decide +kernel
theorem dX1_shift_80 : decode cX1_shift 80 = .ok (.ldc2_w 49, 3) := by decide +kernel
theorem dX1_shift_83 : decode cX1_shift 83 = .ok (.land, 1) := by decide +kernel
theorem dX1_shift_84 : decode cX1_shift 84 = .ok (.l2i, 1) := by decide +kernel
theorem dX1_shift_85 : decode cX1_shift 85 = .ok (.invokestatic 51, 3) := by decide +kernel
theorem dX1_shift_88 : decode cX1_shift 88 = .ok (.lreturn, 1) := by decide +kernel
set_option maxRecDepth 20000 in
theorem ggX1_compare_X1_areNumbers : GoodIn wsX1_compare wsX1_areNumbers := goodIn_r _ [5, 6, 7, 4, 8, 9, 10, 11, 12, 13, 14, 15, 16, 17, 18, 19, 20, 21, 22, 23, 24, 25, 26, 27, 28, 29, 30, 31, 32] (by decide +kernel) (by decide +kernel)
set_option maxRecDepth 20000 in
theorem gX1_compare_X1_areNumbers : GoodIn wsX1_compare (va_wsS RX1 29 yX1_areNumbers wsX1_areNumbers) := goodIn_app (goodIn_of _ (by decide +kernel)) ggX1_compare_X1_areNumbers
set_option maxRecDepth 20000 in
theorem ggX1_compare_X1_fails : GoodIn wsX1_compare wsX1_fails := goodIn_r _ [36, 1, 112] (by decide +kernel) (by decide +kernel)
set_option maxRecDepth 20000 in
theorem gX1_compare_X1_fails : GoodIn wsX1_compare (wsV RX1 21 RX1 yX1_fails wsX1_fails) := goodIn_app (goodIn_of _ (by decide +kernel)) ggX1_compare_X1_fails
set_option maxRecDepth 20000 in
theorem ggX1_compare_X1_workKind : GoodIn wsX1_compare wsX1_workKind := goodIn_r _ [39, 40, 41, 42, 43] (by decide +kernel) (by decide +kernel)
set_option maxRecDepth 20000 in
theorem gX1_compare_X1_workKind : GoodIn wsX1_compare (va_wsS RX1 33 yX1_workKind wsX1_workKind) := goodIn_app (goodIn_of _ (by decide +kernel)) ggX1_compare_X1_workKind
set_option maxRecDepth 20000 in
theorem ggX1_compare_X1_converted : GoodIn wsX1_compare wsX1_converted := goodIn_r _ [46, 47, 48, 17, 49, 50, 51, 52, 23, 24, 25, 26, 27, 53, 54, 55, 19, 20, 21, 22, 28, 29, 30, 31, 32, 56, 57, 58, 59, 60, 61, 62, 63, 64, 65, 66, 67, 68, 41, 42, 43, 69, 70, 71, 72, 73, 74, 75, 76, 77, 78, 79, 80, 81, 82, 83, 84, 85, 86, 87, 88, 89, 90, 12, 13, 4, 14, 91, 92, 93, 94, 95, 96, 97, 98, 99, 100, 101, 102, 103, 104, 105] (by decide +kernel) (by decide +kernel)
set_option maxRecDepth 20000 in
theorem gX1_compare_X1_converted : GoodIn wsX1_compare (va_wsS RX1 25 yX1_converted wsX1_converted) := goodIn_app (goodIn_of _ (by decide +kernel)) ggX1_compare_X1_converted
set_option maxRecDepth 20000 in
theorem ggX1_compare_X0_place : GoodIn wsX1_compare wsX0_place := goodIn_r _ [108, 19, 20, 17, 21, 22, 23, 24, 25, 26, 27, 50, 51, 52] (by decide +kernel) (by decide +kernel)
set_option maxRecDepth 20000 in
theorem gX1_compare_X0_place : GoodIn wsX1_compare (va_wsS RX1 55 yX0_place wsX0_place) := goodIn_app (goodIn_of _ (by decide +kernel)) ggX1_compare_X0_place
set_option maxRecDepth 20000 in
theorem ggX1_compare_X1_sideOf : GoodIn wsX1_compare wsX1_sideOf := goodIn_r _ [111] (by decide +kernel) (by decide +kernel)
set_option maxRecDepth 20000 in
theorem gX1_compare_X1_sideOf : GoodIn wsX1_compare (va_wsS RX1 61 yX1_sideOf wsX1_sideOf) := goodIn_app (goodIn_of _ (by decide +kernel)) ggX1_compare_X1_sideOf
theorem dX1_compare_0 : decode cX1_compare 0 = .ok (.iload_n 1, 1) := by decide +kernel
theorem dX1_compare_1 : decode cX1_compare 1 = .ok (.lload_n 2, 1) := by decide +kernel
theorem dX1_compare_2 : decode cX1_compare 2 = .ok (.iload 4, 2) := by decide +kernel
theorem dX1_compare_4 : decode cX1_compare 4 = .ok (.lload 5, 2) := by decide +kernel
theorem dX1_compare_6 : decode cX1_compare 6 = .ok (.invokestatic 29, 3) := by decide +kernel
theorem dX1_compare_9 : decode cX1_compare 9 = .ok (.ifCond .ne 10, 3) := by decide +kernel
theorem dX1_compare_12 : decode cX1_compare 12 = .ok (.aload_n 0, 1) := by decide +kernel
theorem dX1_compare_13 : decode cX1_compare 13 = .ok (.iconst 1, 1) := by decide +kernel
theorem dX1_compare_14 : decode cX1_compare 14 = .ok (.iconst 2, 1) := by decide +kernel
theorem dX1_compare_15 : decode cX1_compare 15 = .ok (.invokevirtual 21, 3) := by decide +kernel
theorem dX1_compare_18 : decode cX1_compare 18 = .ok (.ireturn, 1) := by decide +kernel
theorem dX1_compare_19 : decode cX1_compare 19 = .ok (.aload_n 0, 1) := by decide +kernel
theorem dX1_compare_20 : decode cX1_compare 20 = .ok (.iconst 0, 1) := by decide +kernel
theorem dX1_compare_21 : decode cX1_compare 21 = .ok (.putfield 9, 3) := by decide +kernel
theorem dX1_compare_24 : decode cX1_compare 24 = .ok (.iload_n 1, 1) := by decide +kernel
theorem dX1_compare_25 : decode cX1_compare 25 = .ok (.iload 4, 2) := by decide +kernel
theorem dX1_compare_27 : decode cX1_compare 27 = .ok (.invokestatic 33, 3) := by decide +kernel
theorem dX1_compare_30 : decode cX1_compare 30 = .ok (.istore 7, 2) := by decide +kernel
theorem dX1_compare_32 : decode cX1_compare 32 = .ok (.iload_n 1, 1) := by decide +kernel
theorem dX1_compare_33 : decode cX1_compare 33 = .ok (.iload 7, 2) := by decide +kernel
theorem dX1_compare_35 : decode cX1_compare 35 = .ok (.lload_n 2, 1) := by decide +kernel
theorem dX1_compare_36 : decode cX1_compare 36 = .ok (.invokestatic 25, 3) := by decide +kernel
theorem dX1_compare_39 : decode cX1_compare 39 = .ok (.lstore 8, 2) := by decide +kernel
theorem dX1_compare_41 : decode cX1_compare 41 = .ok (.iload 4, 2) := by decide +kernel
theorem dX1_compare_43 : decode cX1_compare 43 = .ok (.iload 7, 2) := by decide +kernel
theorem dX1_compare_45 : decode cX1_compare 45 = .ok (.lload 5, 2) := by decide +kernel
theorem dX1_compare_47 : decode cX1_compare 47 = .ok (.invokestatic 25, 3) := by decide +kernel
theorem dX1_compare_50 : decode cX1_compare 50 = .ok (.lstore 10, 2) := by decide +kernel
theorem dX1_compare_52 : decode cX1_compare 52 = .ok (.iload 7, 2) := by decide +kernel
theorem dX1_compare_54 : decode cX1_compare 54 = .ok (.bipush 6, 2) := by decide +kernel
theorem dX1_compare_56 : decode cX1_compare 56 = .ok (.if_icmp .lt 21, 3) := by decide +kernel
theorem dX1_compare_59 : decode cX1_compare 59 = .ok (.iload 7, 2) := by decide +kernel
theorem dX1_compare_61 : decode cX1_compare 61 = .ok (.lload 8, 2) := by decide +kernel
theorem dX1_compare_63 : decode cX1_compare 63 = .ok (.invokestatic 55, 3) := by decide +kernel
theorem dX1_compare_66 : decode cX1_compare 66 = .ok (.iload 7, 2) := by decide +kernel
theorem dX1_compare_68 : decode cX1_compare 68 = .ok (.lload 10, 2) := by decide +kernel
theorem dX1_compare_70 : decode cX1_compare 70 = .ok (.invokestatic 55, 3) := by decide +kernel
theorem dX1_compare_73 : decode cX1_compare 73 = .ok (.invokestatic 61, 3) := by decide +kernel
theorem dX1_compare_76 : decode cX1_compare 76 = .ok (.ireturn, 1) := by decide +kernel
theorem dX1_compare_77 : decode cX1_compare 77 = .ok (.lload 8, 2) := by decide +kernel
theorem dX1_compare_79 : decode cX1_compare 79 = .ok (.lload 10, 2) := by decide +kernel
theorem dX1_compare_81 : decode cX1_compare 81 = .ok (.invokestatic 61, 3) := by decide +kernel
theorem dX1_compare_84 : decode cX1_compare 84 = .ok (.ireturn, 1) := by decide +kernel
set_option maxRecDepth 20000 in
theorem ggX1_order_X1_isValue : GoodIn wsX1_order wsX1_isValue := goodIn_r _ [5, 6, 7, 4, 8, 9, 10, 11, 12, 13, 14, 15, 16, 17, 18, 19, 20, 21, 22, 23, 24, 25, 26] (by decide +kernel) (by decide +kernel)
set_option maxRecDepth 20000 in
theorem gX1_order_X1_isValue : GoodIn wsX1_order (va_wsS RX1 13 yX1_isValue wsX1_isValue) := goodIn_app (goodIn_of _ (by decide +kernel)) ggX1_order_X1_isValue
set_option maxRecDepth 20000 in
theorem ggX1_order_X1_fails : GoodIn wsX1_order wsX1_fails := goodIn_r _ [30, 1, 40] (by decide +kernel) (by decide +kernel)
set_option maxRecDepth 20000 in
theorem gX1_order_X1_fails : GoodIn wsX1_order (wsV RX1 21 RX1 yX1_fails wsX1_fails) := goodIn_app (goodIn_of _ (by decide +kernel)) ggX1_order_X1_fails
set_option maxRecDepth 20000 in
theorem ggX1_order_X0_placeWithZerosApart : GoodIn wsX1_order wsX0_placeWithZerosApart := goodIn_r _ [33, 13, 14, 11, 15, 16, 17, 18, 19, 20, 21, 34, 35, 36] (by decide +kernel) (by decide +kernel)
set_option maxRecDepth 20000 in
theorem gX1_order_X0_placeWithZerosApart : GoodIn wsX1_order (va_wsS RX1 65 yX0_placeWithZerosApart wsX0_placeWithZerosApart) := goodIn_app (goodIn_of _ (by decide +kernel)) ggX1_order_X0_placeWithZerosApart
set_option maxRecDepth 20000 in
theorem ggX1_order_X1_sideOf : GoodIn wsX1_order wsX1_sideOf := goodIn_r _ [39] (by decide +kernel) (by decide +kernel)
set_option maxRecDepth 20000 in
theorem gX1_order_X1_sideOf : GoodIn wsX1_order (va_wsS RX1 61 yX1_sideOf wsX1_sideOf) := goodIn_app (goodIn_of _ (by decide +kernel)) ggX1_order_X1_sideOf
theorem dX1_order_0 : decode cX1_order 0 = .ok (.iload_n 1, 1) := by decide +kernel
theorem dX1_order_1 : decode cX1_order 1 = .ok (.lload_n 2, 1) := by decide +kernel
theorem dX1_order_2 : decode cX1_order 2 = .ok (.invokestatic 13, 3) := by decide +kernel
theorem dX1_order_5 : decode cX1_order 5 = .ok (.ifCond .eq 12, 3) := by decide +kernel
theorem dX1_order_8 : decode cX1_order 8 = .ok (.iload_n 1, 1) := by decide +kernel
theorem dX1_order_9 : decode cX1_order 9 = .ok (.lload 4, 2) := by decide +kernel
theorem dX1_order_11 : decode cX1_order 11 = .ok (.invokestatic 13, 3) := by decide +kernel
theorem dX1_order_14 : decode cX1_order 14 = .ok (.ifCond .ne 10, 3) := by decide +kernel
theorem dX1_order_17 : decode cX1_order 17 = .ok (.aload_n 0, 1) := by decide +kernel
theorem dX1_order_18 : decode cX1_order 18 = .ok (.iconst 1, 1) := by decide +kernel
theorem dX1_order_19 : decode cX1_order 19 = .ok (.iconst 2, 1) := by decide +kernel
theorem dX1_order_20 : decode cX1_order 20 = .ok (.invokevirtual 21, 3) := by decide +kernel
theorem dX1_order_23 : decode cX1_order 23 = .ok (.ireturn, 1) := by decide +kernel
theorem dX1_order_24 : decode cX1_order 24 = .ok (.aload_n 0, 1) := by decide +kernel
theorem dX1_order_25 : decode cX1_order 25 = .ok (.iconst 0, 1) := by decide +kernel
theorem dX1_order_26 : decode cX1_order 26 = .ok (.putfield 9, 3) := by decide +kernel
theorem dX1_order_29 : decode cX1_order 29 = .ok (.iload_n 1, 1) := by decide +kernel
theorem dX1_order_30 : decode cX1_order 30 = .ok (.bipush 6, 2) := by decide +kernel
theorem dX1_order_32 : decode cX1_order 32 = .ok (.if_icmp .lt 18, 3) := by decide +kernel
theorem dX1_order_35 : decode cX1_order 35 = .ok (.iload_n 1, 1) := by decide +kernel
theorem dX1_order_36 : decode cX1_order 36 = .ok (.lload_n 2, 1) := by decide +kernel
theorem dX1_order_37 : decode cX1_order 37 = .ok (.invokestatic 65, 3) := by decide +kernel
theorem dX1_order_40 : decode cX1_order 40 = .ok (.iload_n 1, 1) := by decide +kernel
theorem dX1_order_41 : decode cX1_order 41 = .ok (.lload 4, 2) := by decide +kernel
theorem dX1_order_43 : decode cX1_order 43 = .ok (.invokestatic 65, 3) := by decide +kernel
theorem dX1_order_46 : decode cX1_order 46 = .ok (.invokestatic 61, 3) := by decide +kernel
theorem dX1_order_49 : decode cX1_order 49 = .ok (.ireturn, 1) := by decide +kernel
theorem dX1_order_50 : decode cX1_order 50 = .ok (.lload_n 2, 1) := by decide +kernel
theorem dX1_order_51 : decode cX1_order 51 = .ok (.lload 4, 2) := by decide +kernel
theorem dX1_order_53 : decode cX1_order 53 = .ok (.invokestatic 61, 3) := by decide +kernel
theorem dX1_order_56 : decode cX1_order 56 = .ok (.ireturn, 1) := by decide +kernel
theorem dX1_failed_0 : decode cX1_failed 0 = .ok (.aload_n 0, 1) := by decide +kernel
theorem dX1_failed_1 : decode cX1_failed 1 = .ok (.getfield 9, 3) := by decide +kernel
theorem dX1_failed_4 : decode cX1_failed 4 = .ok (.ireturn, 1) := by decide +kernel
theorem dX1_fails_0 : decode cX1_fails 0 = .ok (.aload_n 0, 1) := by decide +kernel
theorem dX1_fails_1 : decode cX1_fails 1 = .ok (.iload_n 1, 1) := by decide +kernel
theorem dX1_fails_2 : decode cX1_fails 2 = .ok (.putfield 9, 3) := by decide +kernel
theorem dX1_fails_5 : decode cX1_fails 5 = .ok (.iload_n 2, 1) := by decide +kernel
theorem dX1_fails_6 : decode cX1_fails 6 = .ok (.ireturn, 1) := by decide +kernel
theorem dX1_isNumberKind_0 : decode cX1_isNumberKind 0 = .ok (.iload_n 0, 1) := by decide +kernel
theorem dX1_isNumberKind_1 : decode cX1_isNumberKind 1 = .ok (.iconst 1, 1) := by decide +kernel
theorem dX1_isNumberKind_2 : decode cX1_isNumberKind 2 = .ok (.if_icmp .lt 13, 3) := by decide +kernel
theorem dX1_isNumberKind_5 : decode cX1_isNumberKind 5 = .ok (.iload_n 0, 1) := by decide +kernel
theorem dX1_isNumberKind_6 : decode cX1_isNumberKind 6 = .ok (.bipush 7, 2) := by decide +kernel
theorem dX1_isNumberKind_8 : decode cX1_isNumberKind 8 = .ok (.if_icmp .gt 7, 3) := by decide +kernel
theorem dX1_isNumberKind_11 : decode cX1_isNumberKind 11 = .ok (.iconst 1, 1) := by decide +kernel
theorem dX1_isNumberKind_12 : decode cX1_isNumberKind 12 = .ok (.goto 4, 3) := by decide +kernel
theorem dX1_isNumberKind_15 : decode cX1_isNumberKind 15 = .ok (.iconst 0, 1) := by decide +kernel
theorem dX1_isNumberKind_16 : decode cX1_isNumberKind 16 = .ok (.ireturn, 1) := by decide +kernel
set_option maxRecDepth 20000 in
theorem ggX1_isValue_X1_narrowed : GoodIn wsX1_isValue wsX1_narrowed := goodIn_r _ [4] (by decide +kernel) (by decide +kernel)
set_option maxRecDepth 20000 in
theorem gX1_isValue_X1_narrowed : GoodIn wsX1_isValue (va_wsS RX1 68 yX1_narrowed wsX1_narrowed) := goodIn_app (goodIn_of _ (by decide +kernel)) ggX1_isValue_X1_narrowed
set_option maxRecDepth 20000 in
theorem ggX1_isValue_X0_isNumber : GoodIn wsX1_isValue wsX0_isNumber := goodIn_r _ [8, 9, 10, 7, 11, 12, 13, 14, 15, 16, 17, 18, 19, 20, 21, 22] (by decide +kernel) (by decide +kernel)
set_option maxRecDepth 20000 in
theorem gX1_isValue_X0_isNumber : GoodIn wsX1_isValue (va_wsS RX1 71 yX0_isNumber wsX0_isNumber) := goodIn_app (goodIn_of _ (by decide +kernel)) ggX1_isValue_X0_isNumber
theorem dX1_isValue_0 : decode cX1_isValue 0 = .ok (.iload_n 0, 1) := by decide +kernel
theorem dX1_isValue_1 : decode cX1_isValue 1 = .ok (.tableswitch 87 0 7 #[47, 65, 65, 65, 65, 65, 81, 81], 47) := by decide +kernel
theorem dX1_isValue_48 : decode cX1_isValue 48 = .ok (.lload_n 1, 1) := by decide +kernel
theorem dX1_isValue_49 : decode cX1_isValue 49 = .ok (.lconst 0, 1) := by decide +kernel
theorem dX1_isValue_50 : decode cX1_isValue 50 = .ok (.lcmp, 1) := by decide +kernel
theorem dX1_isValue_51 : decode cX1_isValue 51 = .ok (.ifCond .eq 9, 3) := by decide +kernel
theorem dX1_isValue_54 : decode cX1_isValue 54 = .ok (.lload_n 1, 1) := by decide +kernel
theorem dX1_isValue_55 : decode cX1_isValue 55 = .ok (.lconst 1, 1) := by decide +kernel
theorem dX1_isValue_56 : decode cX1_isValue 56 = .ok (.lcmp, 1) := by decide +kernel
theorem dX1_isValue_57 : decode cX1_isValue 57 = .ok (.ifCond .ne 7, 3) := by decide +kernel
theorem dX1_isValue_60 : decode cX1_isValue 60 = .ok (.iconst 1, 1) := by decide +kernel
theorem dX1_isValue_61 : decode cX1_isValue 61 = .ok (.goto 4, 3) := by decide +kernel
theorem dX1_isValue_64 : decode cX1_isValue 64 = .ok (.iconst 0, 1) := by decide +kernel
theorem dX1_isValue_65 : decode cX1_isValue 65 = .ok (.ireturn, 1) := by decide +kernel
theorem dX1_isValue_66 : decode cX1_isValue 66 = .ok (.iload_n 0, 1) := by decide +kernel
theorem dX1_isValue_67 : decode cX1_isValue 67 = .ok (.lload_n 1, 1) := by decide +kernel
theorem dX1_isValue_68 : decode cX1_isValue 68 = .ok (.invokestatic 68, 3) := by decide +kernel
theorem dX1_isValue_71 : decode cX1_isValue 71 = .ok (.lload_n 1, 1) := by decide +kernel
theorem dX1_isValue_72 : decode cX1_isValue 72 = .ok (.lcmp, 1) := by decide +kernel
theorem dX1_isValue_73 : decode cX1_isValue 73 = .ok (.ifCond .ne 7, 3) := by decide +kernel
theorem dX1_isValue_76 : decode cX1_isValue 76 = .ok (.iconst 1, 1) := by decide +kernel
theorem dX1_isValue_77 : decode cX1_isValue 77 = .ok (.goto 4, 3) := by decide +kernel
theorem dX1_isValue_80 : decode cX1_isValue 80 = .ok (.iconst 0, 1) := by decide +kernel
theorem dX1_isValue_81 : decode cX1_isValue 81 = .ok (.ireturn, 1) := by decide +kernel
theorem dX1_isValue_82 : decode cX1_isValue 82 = .ok (.iload_n 0, 1) := by decide +kernel
theorem dX1_isValue_83 : decode cX1_isValue 83 = .ok (.lload_n 1, 1) := by decide +kernel
theorem dX1_isValue_84 : decode cX1_isValue 84 = .ok (.invokestatic 71, 3) := by decide +kernel
theorem dX1_isValue_87 : decode cX1_isValue 87 = .ok (.ireturn, 1) := by decide +kernel
theorem dX1_isValue_88 : decode cX1_isValue 88 = .ok (.iconst 0, 1) := by decide +kernel
theorem dX1_isValue_89 : decode cX1_isValue 89 = .ok (.ireturn, 1) := by decide +kernel
set_option maxRecDepth 20000 in
theorem ggX1_areNumbers_X1_isNumberKind : GoodIn wsX1_areNumbers wsX1_isNumberKind := goodIn_r _ [4] (by decide +kernel) (by decide +kernel)
set_option maxRecDepth 20000 in
theorem gX1_areNumbers_X1_isNumberKind : GoodIn wsX1_areNumbers (va_wsS RX1 17 yX1_isNumberKind wsX1_isNumberKind) := goodIn_app (goodIn_of _ (by decide +kernel)) ggX1_areNumbers_X1_isNumberKind
set_option maxRecDepth 20000 in
theorem ggX1_areNumbers_X1_isValue : GoodIn wsX1_areNumbers wsX1_isValue := goodIn_r _ [7, 8, 9, 3, 10, 11, 12, 13, 14, 15, 16, 17, 18, 19, 20, 21, 22, 23, 24, 25, 26, 27, 28] (by decide +kernel) (by decide +kernel)
set_option maxRecDepth 20000 in
theorem gX1_areNumbers_X1_isValue : GoodIn wsX1_areNumbers (va_wsS RX1 13 yX1_isValue wsX1_isValue) := goodIn_app (goodIn_of _ (by decide +kernel)) ggX1_areNumbers_X1_isValue
theorem dX1_areNumbers_0 : decode cX1_areNumbers 0 = .ok (.iload_n 0, 1) := by decide +kernel
theorem dX1_areNumbers_1 : decode cX1_areNumbers 1 = .ok (.invokestatic 17, 3) := by decide +kernel
theorem dX1_areNumbers_4 : decode cX1_areNumbers 4 = .ok (.ifCond .eq 31, 3) := by decide +kernel
theorem dX1_areNumbers_7 : decode cX1_areNumbers 7 = .ok (.iload_n 3, 1) := by decide +kernel
theorem dX1_areNumbers_8 : decode cX1_areNumbers 8 = .ok (.invokestatic 17, 3) := by decide +kernel
theorem dX1_areNumbers_11 : decode cX1_areNumbers 11 = .ok (.ifCond .eq 24, 3) := by decide +kernel
theorem dX1_areNumbers_14 : decode cX1_areNumbers 14 = .ok (.iload_n 0, 1) := by decide +kernel
theorem dX1_areNumbers_15 : decode cX1_areNumbers 15 = .ok (.lload_n 1, 1) := by decide +kernel
theorem dX1_areNumbers_16 : decode cX1_areNumbers 16 = .ok (.invokestatic 13, 3) := by decide +kernel
theorem dX1_areNumbers_19 : decode cX1_areNumbers 19 = .ok (.ifCond .eq 16, 3) := by decide +kernel
theorem dX1_areNumbers_22 : decode cX1_areNumbers 22 = .ok (.iload_n 3, 1) := by decide +kernel
theorem dX1_areNumbers_23 : decode cX1_areNumbers 23 = .ok (.lload 4, 2) := by decide +kernel
theorem dX1_areNumbers_25 : decode cX1_areNumbers 25 = .ok (.invokestatic 13, 3) := by decide +kernel
theorem dX1_areNumbers_28 : decode cX1_areNumbers 28 = .ok (.ifCond .eq 7, 3) := by decide +kernel
theorem dX1_areNumbers_31 : decode cX1_areNumbers 31 = .ok (.iconst 1, 1) := by decide +kernel
theorem dX1_areNumbers_32 : decode cX1_areNumbers 32 = .ok (.goto 4, 3) := by decide +kernel
theorem dX1_areNumbers_35 : decode cX1_areNumbers 35 = .ok (.iconst 0, 1) := by decide +kernel
theorem dX1_areNumbers_36 : decode cX1_areNumbers 36 = .ok (.ireturn, 1) := by decide +kernel
theorem dX1_workKind_0 : decode cX1_workKind 0 = .ok (.iconst 4, 1) := by decide +kernel
theorem dX1_workKind_1 : decode cX1_workKind 1 = .ok (.iload_n 0, 1) := by decide +kernel
theorem dX1_workKind_2 : decode cX1_workKind 2 = .ok (.iload_n 1, 1) := by decide +kernel
theorem dX1_workKind_3 : decode cX1_workKind 3 = .ok (.invokestatic 74, 3) := by decide +kernel
theorem dX1_workKind_6 : decode cX1_workKind 6 = .ok (.invokestatic 74, 3) := by decide +kernel
theorem dX1_workKind_9 : decode cX1_workKind 9 = .ok (.ireturn, 1) := by decide +kernel
theorem dX1_sideOf_0 : decode cX1_sideOf 0 = .ok (.lload_n 0, 1) := by decide +kernel
theorem dX1_sideOf_1 : decode cX1_sideOf 1 = .ok (.lload_n 2, 1) := by decide +kernel
theorem dX1_sideOf_2 : decode cX1_sideOf 2 = .ok (.lcmp, 1) := by decide +kernel
theorem dX1_sideOf_3 : decode cX1_sideOf 3 = .ok (.ifCond .ne 5, 3) := by decide +kernel
theorem dX1_sideOf_6 : decode cX1_sideOf 6 = .ok (.iconst 0, 1) := by decide +kernel
theorem dX1_sideOf_7 : decode cX1_sideOf 7 = .ok (.ireturn, 1) := by decide +kernel
theorem dX1_sideOf_8 : decode cX1_sideOf 8 = .ok (.lload_n 0, 1) := by decide +kernel
theorem dX1_sideOf_9 : decode cX1_sideOf 9 = .ok (.lload_n 2, 1) := by decide +kernel
theorem dX1_sideOf_10 : decode cX1_sideOf 10 = .ok (.lcmp, 1) := by decide +kernel
theorem dX1_sideOf_11 : decode cX1_sideOf 11 = .ok (.ifCond .ge 7, 3) := by decide +kernel
theorem dX1_sideOf_14 : decode cX1_sideOf 14 = .ok (.iconst (-1), 1) := by decide +kernel
theorem dX1_sideOf_15 : decode cX1_sideOf 15 = .ok (.goto 4, 3) := by decide +kernel
theorem dX1_sideOf_18 : decode cX1_sideOf 18 = .ok (.iconst 1, 1) := by decide +kernel
theorem dX1_sideOf_19 : decode cX1_sideOf 19 = .ok (.ireturn, 1) := by decide +kernel
theorem dX1_narrowed_0 : decode cX1_narrowed 0 = .ok (.iload_n 0, 1) := by decide +kernel
theorem dX1_narrowed_1 : decode cX1_narrowed 1 = .ok (.tableswitch 50 1 4 #[31, 36, 41, 46], 31) := by decide +kernel
theorem dX1_narrowed_32 : decode cX1_narrowed 32 = .ok (.lload_n 1, 1) := by decide +kernel
theorem dX1_narrowed_33 : decode cX1_narrowed 33 = .ok (.l2i, 1) := by decide +kernel
theorem dX1_narrowed_34 : decode cX1_narrowed 34 = .ok (.i2b, 1) := by decide +kernel
theorem dX1_narrowed_35 : decode cX1_narrowed 35 = .ok (.i2l, 1) := by decide +kernel
theorem dX1_narrowed_36 : decode cX1_narrowed 36 = .ok (.lreturn, 1) := by decide +kernel
theorem dX1_narrowed_37 : decode cX1_narrowed 37 = .ok (.lload_n 1, 1) := by decide +kernel
theorem dX1_narrowed_38 : decode cX1_narrowed 38 = .ok (.l2i, 1) := by decide +kernel
theorem dX1_narrowed_39 : decode cX1_narrowed 39 = .ok (.i2s, 1) := by decide +kernel
theorem dX1_narrowed_40 : decode cX1_narrowed 40 = .ok (.i2l, 1) := by decide +kernel
theorem dX1_narrowed_41 : decode cX1_narrowed 41 = .ok (.lreturn, 1) := by decide +kernel
theorem dX1_narrowed_42 : decode cX1_narrowed 42 = .ok (.lload_n 1, 1) := by decide +kernel
theorem dX1_narrowed_43 : decode cX1_narrowed 43 = .ok (.l2i, 1) := by decide +kernel
theorem dX1_narrowed_44 : decode cX1_narrowed 44 = .ok (.i2c, 1) := by decide +kernel
theorem dX1_narrowed_45 : decode cX1_narrowed 45 = .ok (.i2l, 1) := by decide +kernel
theorem dX1_narrowed_46 : decode cX1_narrowed 46 = .ok (.lreturn, 1) := by decide +kernel
theorem dX1_narrowed_47 : decode cX1_narrowed 47 = .ok (.lload_n 1, 1) := by decide +kernel
theorem dX1_narrowed_48 : decode cX1_narrowed 48 = .ok (.l2i, 1) := by decide +kernel
theorem dX1_narrowed_49 : decode cX1_narrowed 49 = .ok (.i2l, 1) := by decide +kernel
theorem dX1_narrowed_50 : decode cX1_narrowed 50 = .ok (.lreturn, 1) := by decide +kernel
theorem dX1_narrowed_51 : decode cX1_narrowed 51 = .ok (.lload_n 1, 1) := by decide +kernel
theorem dX1_narrowed_52 : decode cX1_narrowed 52 = .ok (.lreturn, 1) := by decide +kernel
set_option maxRecDepth 20000 in
theorem ggX1_converted_X0_ofReal : GoodIn wsX1_converted wsX0_ofReal := goodIn_r _ [4, 5, 6, 3, 7, 8, 9, 10, 11, 12, 13, 14, 15, 16, 17, 18, 19, 20, 21, 22, 23, 24, 25, 26, 27, 28, 29, 30, 31, 32, 33, 34, 35, 36, 37, 38, 39, 40, 41, 42, 43, 44, 45, 46, 47, 48, 49, 50, 51, 52, 53, 54, 55] (by decide +kernel) (by decide +kernel)
set_option maxRecDepth 20000 in
theorem gX1_converted_X0_ofReal : GoodIn wsX1_converted (va_wsS RX1 79 yX0_ofReal wsX0_ofReal) := goodIn_app (goodIn_of _ (by decide +kernel)) ggX1_converted_X0_ofReal
set_option maxRecDepth 20000 in
theorem ggX1_converted_X0_ofWhole : GoodIn wsX1_converted wsX0_ofWhole := goodIn_r _ [58, 12, 59, 60, 61, 39, 62, 44, 45, 3, 46, 25, 26, 27, 8, 9, 10, 11, 47, 48, 49, 31, 32, 33, 41, 42, 43, 50, 51, 52, 20, 21, 22, 23, 24, 53, 54, 55] (by decide +kernel) (by decide +kernel)
set_option maxRecDepth 20000 in
theorem gX1_converted_X0_ofWhole : GoodIn wsX1_converted (va_wsS RX1 82 yX0_ofWhole wsX0_ofWhole) := goodIn_app (goodIn_of _ (by decide +kernel)) ggX1_converted_X0_ofWhole
set_option maxRecDepth 20000 in
theorem ggX1_converted_X1_narrowed : GoodIn wsX1_converted wsX1_narrowed := goodIn_r _ [66] (by decide +kernel) (by decide +kernel)
set_option maxRecDepth 20000 in
theorem gX1_converted_X1_narrowed : GoodIn wsX1_converted (va_wsS RX1 68 yX1_narrowed wsX1_narrowed) := goodIn_app (goodIn_of _ (by decide +kernel)) ggX1_converted_X1_narrowed
set_option maxRecDepth 20000 in
theorem ggX1_converted_X0_wholePart : GoodIn wsX1_converted wsX0_wholePart := goodIn_r _ [69, 70, 12, 5, 6, 3, 7, 8, 9, 10, 11, 28, 29, 30, 31, 32, 33, 16, 17, 18, 19, 34, 35, 36, 37, 38, 39, 40, 41, 42, 43] (by decide +kernel) (by decide +kernel)
set_option maxRecDepth 20000 in
theorem gX1_converted_X0_wholePart : GoodIn wsX1_converted (va_wsS RX1 85 yX0_wholePart wsX0_wholePart) := goodIn_app (goodIn_of _ (by decide +kernel)) ggX1_converted_X0_wholePart
set_option maxRecDepth 20000 in
theorem ggX1_converted_X1_cutToInt : GoodIn wsX1_converted wsX1_cutToInt := goodIn_r _ [73, 74, 75, 76, 77, 39, 78, 79, 80, 81] (by decide +kernel) (by decide +kernel)
set_option maxRecDepth 20000 in
theorem gX1_converted_X1_cutToInt : GoodIn wsX1_converted (va_wsS RX1 88 yX1_cutToInt wsX1_cutToInt) := goodIn_app (goodIn_of _ (by decide +kernel)) ggX1_converted_X1_cutToInt
theorem dX1_converted_0 : decode cX1_converted 0 = .ok (.iload_n 0, 1) := by decide +kernel
theorem dX1_converted_1 : decode cX1_converted 1 = .ok (.iload_n 1, 1) := by decide +kernel
theorem dX1_converted_2 : decode cX1_converted 2 = .ok (.if_icmp .ne 5, 3) := by decide +kernel
theorem dX1_converted_5 : decode cX1_converted 5 = .ok (.lload_n 2, 1) := by decide +kernel
theorem dX1_converted_6 : decode cX1_converted 6 = .ok (.lreturn, 1) := by decide +kernel
theorem dX1_converted_7 : decode cX1_converted 7 = .ok (.iload_n 1, 1) := by decide +kernel
theorem dX1_converted_8 : decode cX1_converted 8 = .ok (.bipush 6, 2) := by decide +kernel
theorem dX1_converted_10 : decode cX1_converted 10 = .ok (.if_icmp .lt 24, 3) := by decide +kernel
theorem dX1_converted_13 : decode cX1_converted 13 = .ok (.iload_n 0, 1) := by decide +kernel
theorem dX1_converted_14 : decode cX1_converted 14 = .ok (.bipush 6, 2) := by decide +kernel
theorem dX1_converted_16 : decode cX1_converted 16 = .ok (.if_icmp .lt 12, 3) := by decide +kernel
theorem dX1_converted_19 : decode cX1_converted 19 = .ok (.iload_n 1, 1) := by decide +kernel
theorem dX1_converted_20 : decode cX1_converted 20 = .ok (.iload_n 0, 1) := by decide +kernel
theorem dX1_converted_21 : decode cX1_converted 21 = .ok (.lload_n 2, 1) := by decide +kernel
theorem dX1_converted_22 : decode cX1_converted 22 = .ok (.invokestatic 79, 3) := by decide +kernel
theorem dX1_converted_25 : decode cX1_converted 25 = .ok (.goto 8, 3) := by decide +kernel
theorem dX1_converted_28 : decode cX1_converted 28 = .ok (.iload_n 1, 1) := by decide +kernel
theorem dX1_converted_29 : decode cX1_converted 29 = .ok (.lload_n 2, 1) := by decide +kernel
theorem dX1_converted_30 : decode cX1_converted 30 = .ok (.invokestatic 82, 3) := by decide +kernel
theorem dX1_converted_33 : decode cX1_converted 33 = .ok (.lreturn, 1) := by decide +kernel
theorem dX1_converted_34 : decode cX1_converted 34 = .ok (.iload_n 0, 1) := by decide +kernel
theorem dX1_converted_35 : decode cX1_converted 35 = .ok (.bipush 6, 2) := by decide +kernel
theorem dX1_converted_37 : decode cX1_converted 37 = .ok (.if_icmp .ge 9, 3) := by decide +kernel
theorem dX1_converted_40 : decode cX1_converted 40 = .ok (.iload_n 1, 1) := by decide +kernel
theorem dX1_converted_41 : decode cX1_converted 41 = .ok (.lload_n 2, 1) := by decide +kernel
theorem dX1_converted_42 : decode cX1_converted 42 = .ok (.invokestatic 68, 3) := by decide +kernel
theorem dX1_converted_45 : decode cX1_converted 45 = .ok (.lreturn, 1) := by decide +kernel
theorem dX1_converted_46 : decode cX1_converted 46 = .ok (.iload_n 0, 1) := by decide +kernel
theorem dX1_converted_47 : decode cX1_converted 47 = .ok (.lload_n 2, 1) := by decide +kernel
theorem dX1_converted_48 : decode cX1_converted 48 = .ok (.invokestatic 85, 3) := by decide +kernel
theorem dX1_converted_51 : decode cX1_converted 51 = .ok (.lstore 4, 2) := by decide +kernel
theorem dX1_converted_53 : decode cX1_converted 53 = .ok (.iload_n 1, 1) := by decide +kernel
theorem dX1_converted_54 : decode cX1_converted 54 = .ok (.iconst 5, 1) := by decide +kernel
theorem dX1_converted_55 : decode cX1_converted 55 = .ok (.if_icmp .ne 8, 3) := by decide +kernel
theorem dX1_converted_58 : decode cX1_converted 58 = .ok (.lload 4, 2) := by decide +kernel
theorem dX1_converted_60 : decode cX1_converted 60 = .ok (.goto 12, 3) := by decide +kernel
theorem dX1_converted_63 : decode cX1_converted 63 = .ok (.iload_n 1, 1) := by decide +kernel
theorem dX1_converted_64 : decode cX1_converted 64 = .ok (.lload 4, 2) := by decide +kernel
theorem dX1_converted_66 : decode cX1_converted 66 = .ok (.invokestatic 88, 3) := by decide +kernel
theorem dX1_converted_69 : decode cX1_converted 69 = .ok (.invokestatic 68, 3) := by decide +kernel
theorem dX1_converted_72 : decode cX1_converted 72 = .ok (.lreturn, 1) := by decide +kernel
theorem dX1_cutToInt_0 : decode cX1_cutToInt 0 = .ok (.ldc2_w 94, 3) := by decide +kernel
theorem dX1_cutToInt_3 : decode cX1_cutToInt 3 = .ok (.ldc2_w 96, 3) := by decide +kernel
theorem dX1_cutToInt_6 : decode cX1_cutToInt 6 = .ok (.lload_n 0, 1) := by decide +kernel
theorem dX1_cutToInt_7 : decode cX1_cutToInt 7 = .ok (.invokestatic 98, 3) := by decide +kernel
theorem dX1_cutToInt_10 : decode cX1_cutToInt 10 = .ok (.invokestatic 102, 3) := by decide +kernel
theorem dX1_cutToInt_13 : decode cX1_cutToInt 13 = .ok (.lreturn, 1) := by decide +kernel
set_option maxRecDepth 20000 in
theorem ggX1_workWhole_X1_narrowed : GoodIn wsX1_workWhole wsX1_narrowed := goodIn_r _ [4] (by decide +kernel) (by decide +kernel)
set_option maxRecDepth 20000 in
theorem gX1_workWhole_X1_narrowed : GoodIn wsX1_workWhole (va_wsS RX1 68 yX1_narrowed wsX1_narrowed) := goodIn_app (goodIn_of _ (by decide +kernel)) ggX1_workWhole_X1_narrowed
set_option maxRecDepth 20000 in
theorem ggX1_workWhole_X1_fails : GoodIn wsX1_workWhole wsX1_fails := goodIn_r _ [8, 9, 10] (by decide +kernel) (by decide +kernel)
set_option maxRecDepth 20000 in
theorem gX1_workWhole_X1_fails : GoodIn wsX1_workWhole (wsV RX1 21 RX1 yX1_fails wsX1_fails) := goodIn_app (goodIn_of _ (by decide +kernel)) ggX1_workWhole_X1_fails
theorem dX1_workWhole_0 : decode cX1_workWhole 0 = .ok (.iload_n 1, 1) := by decide +kernel
theorem dX1_workWhole_1 : decode cX1_workWhole 1 = .ok (.tableswitch 85 1 4 #[31, 40, 49, 58], 31) := by decide +kernel
theorem dX1_workWhole_32 : decode cX1_workWhole 32 = .ok (.iload_n 2, 1) := by decide +kernel
theorem dX1_workWhole_33 : decode cX1_workWhole 33 = .ok (.lload_n 3, 1) := by decide +kernel
theorem dX1_workWhole_34 : decode cX1_workWhole 34 = .ok (.lload 5, 2) := by decide +kernel
theorem dX1_workWhole_36 : decode cX1_workWhole 36 = .ok (.ladd, 1) := by decide +kernel
theorem dX1_workWhole_37 : decode cX1_workWhole 37 = .ok (.invokestatic 68, 3) := by decide +kernel
theorem dX1_workWhole_40 : decode cX1_workWhole 40 = .ok (.lreturn, 1) := by decide +kernel
theorem dX1_workWhole_41 : decode cX1_workWhole 41 = .ok (.iload_n 2, 1) := by decide +kernel
theorem dX1_workWhole_42 : decode cX1_workWhole 42 = .ok (.lload_n 3, 1) := by decide +kernel
theorem dX1_workWhole_43 : decode cX1_workWhole 43 = .ok (.lload 5, 2) := by decide +kernel
theorem dX1_workWhole_45 : decode cX1_workWhole 45 = .ok (.lsub, 1) := by decide +kernel
theorem dX1_workWhole_46 : decode cX1_workWhole 46 = .ok (.invokestatic 68, 3) := by decide +kernel
theorem dX1_workWhole_49 : decode cX1_workWhole 49 = .ok (.lreturn, 1) := by decide +kernel
theorem dX1_workWhole_50 : decode cX1_workWhole 50 = .ok (.iload_n 2, 1) := by decide +kernel
theorem dX1_workWhole_51 : decode cX1_workWhole 51 = .ok (.lload_n 3, 1) := by decide +kernel
theorem dX1_workWhole_52 : decode cX1_workWhole 52 = .ok (.lload 5, 2) := by decide +kernel
theorem dX1_workWhole_54 : decode cX1_workWhole 54 = .ok (.lmul, 1) := by decide +kernel
theorem dX1_workWhole_55 : decode cX1_workWhole 55 = .ok (.invokestatic 68, 3) := by decide +kernel
theorem dX1_workWhole_58 : decode cX1_workWhole 58 = .ok (.lreturn, 1) := by decide +kernel
theorem dX1_workWhole_59 : decode cX1_workWhole 59 = .ok (.lload 5, 2) := by decide +kernel
theorem dX1_workWhole_61 : decode cX1_workWhole 61 = .ok (.lconst 0, 1) := by decide +kernel
theorem dX1_workWhole_62 : decode cX1_workWhole 62 = .ok (.lcmp, 1) := by decide +kernel
theorem dX1_workWhole_63 : decode cX1_workWhole 63 = .ok (.ifCond .ne 14, 3) := by decide +kernel
theorem dX1_workWhole_66 : decode cX1_workWhole 66 = .ok (.aload_n 0, 1) := by decide +kernel
theorem dX1_workWhole_67 : decode cX1_workWhole 67 = .ok (.bipush 8, 2) := by decide +kernel
theorem dX1_workWhole_69 : decode cX1_workWhole 69 = .ok (.iconst 0, 1) := by decide +kernel
theorem dX1_workWhole_70 : decode cX1_workWhole 70 = .ok (.invokevirtual 21, 3) := by decide +kernel
theorem dX1_workWhole_73 : decode cX1_workWhole 73 = .ok (.i2l, 1) := by decide +kernel
theorem dX1_workWhole_74 : decode cX1_workWhole 74 = .ok (.goto 11, 3) := by decide +kernel
theorem dX1_workWhole_77 : decode cX1_workWhole 77 = .ok (.iload_n 2, 1) := by decide +kernel
theorem dX1_workWhole_78 : decode cX1_workWhole 78 = .ok (.lload_n 3, 1) := by decide +kernel
theorem dX1_workWhole_79 : decode cX1_workWhole 79 = .ok (.lload 5, 2) := by decide +kernel
theorem dX1_workWhole_81 : decode cX1_workWhole 81 = .ok (.ldiv, 1) := by decide +kernel
theorem dX1_workWhole_82 : decode cX1_workWhole 82 = .ok (.invokestatic 68, 3) := by decide +kernel
theorem dX1_workWhole_85 : decode cX1_workWhole 85 = .ok (.lreturn, 1) := by decide +kernel
theorem dX1_workWhole_86 : decode cX1_workWhole 86 = .ok (.lload 5, 2) := by decide +kernel
theorem dX1_workWhole_88 : decode cX1_workWhole 88 = .ok (.lconst 0, 1) := by decide +kernel
theorem dX1_workWhole_89 : decode cX1_workWhole 89 = .ok (.lcmp, 1) := by decide +kernel
theorem dX1_workWhole_90 : decode cX1_workWhole 90 = .ok (.ifCond .ne 14, 3) := by decide +kernel
theorem dX1_workWhole_93 : decode cX1_workWhole 93 = .ok (.aload_n 0, 1) := by decide +kernel
theorem dX1_workWhole_94 : decode cX1_workWhole 94 = .ok (.bipush 8, 2) := by decide +kernel
theorem dX1_workWhole_96 : decode cX1_workWhole 96 = .ok (.iconst 0, 1) := by decide +kernel
theorem dX1_workWhole_97 : decode cX1_workWhole 97 = .ok (.invokevirtual 21, 3) := by decide +kernel
theorem dX1_workWhole_100 : decode cX1_workWhole 100 = .ok (.i2l, 1) := by decide +kernel
theorem dX1_workWhole_101 : decode cX1_workWhole 101 = .ok (.goto 11, 3) := by decide +kernel
theorem dX1_workWhole_104 : decode cX1_workWhole 104 = .ok (.iload_n 2, 1) := by decide +kernel
theorem dX1_workWhole_105 : decode cX1_workWhole 105 = .ok (.lload_n 3, 1) := by decide +kernel
theorem dX1_workWhole_106 : decode cX1_workWhole 106 = .ok (.lload 5, 2) := by decide +kernel
theorem dX1_workWhole_108 : decode cX1_workWhole 108 = .ok (.lrem, 1) := by decide +kernel
theorem dX1_workWhole_109 : decode cX1_workWhole 109 = .ok (.invokestatic 68, 3) := by decide +kernel
theorem dX1_workWhole_112 : decode cX1_workWhole 112 = .ok (.lreturn, 1) := by decide +kernel
set_option maxRecDepth 20000 in
theorem ggX1_workReal_X0_sum : GoodIn wsX1_workReal wsX0_sum := goodIn_r _ [4, 5, 6, 3, 7, 8, 9, 10, 11, 12, 13, 14, 15, 16, 17, 18, 19, 20, 21, 22, 23, 24, 25, 26, 27, 28, 29, 30, 31, 32, 33, 34, 35, 36, 37, 38, 39, 40, 41, 42, 43, 44, 45, 46, 47, 48, 49, 50, 51, 52, 53, 54, 55, 56, 57, 58, 59, 60, 61, 62, 63, 64, 65, 66, 67] (by decide +kernel) (by decide +kernel)
set_option maxRecDepth 20000 in
theorem gX1_workReal_X0_sum : GoodIn wsX1_workReal (va_wsS RX1 104 yX0_sum wsX0_sum) := goodIn_app (goodIn_of _ (by decide +kernel)) ggX1_workReal_X0_sum
set_option maxRecDepth 20000 in
theorem ggX1_workReal_X0_negated : GoodIn wsX1_workReal wsX0_negated := goodIn_r _ [70, 12, 13, 3, 14, 15, 16] (by decide +kernel) (by decide +kernel)
set_option maxRecDepth 20000 in
theorem gX1_workReal_X0_negated : GoodIn wsX1_workReal (va_wsS RX1 108 yX0_negated wsX0_negated) := goodIn_app (goodIn_of _ (by decide +kernel)) ggX1_workReal_X0_negated
set_option maxRecDepth 20000 in
theorem ggX1_workReal_X0_product : GoodIn wsX1_workReal wsX0_product := goodIn_r _ [73, 53, 54, 3, 55, 12, 13, 14, 15, 16, 5, 6, 7, 8, 9, 10, 11, 17, 18, 19, 20, 21, 25, 26, 27, 22, 23, 24, 59, 60, 61, 31, 32, 33, 34, 35, 36, 37, 38, 39, 74, 75, 76, 77, 50, 51, 52, 40, 41, 42, 43, 44, 45, 46, 47, 48, 49, 56, 57, 58, 62, 63, 64, 65, 66, 67] (by decide +kernel) (by decide +kernel)
set_option maxRecDepth 20000 in
theorem gX1_workReal_X0_product : GoodIn wsX1_workReal (va_wsS RX1 111 yX0_product wsX0_product) := goodIn_app (goodIn_of _ (by decide +kernel)) ggX1_workReal_X0_product
set_option maxRecDepth 20000 in
theorem ggX1_workReal_X0_quotient : GoodIn wsX1_workReal wsX0_quotient := goodIn_r _ [80, 5, 6, 3, 7, 8, 9, 10, 11, 12, 13, 14, 15, 16, 17, 18, 19, 20, 21, 25, 26, 27, 22, 23, 24, 53, 54, 55, 59, 60, 61, 31, 32, 33, 34, 35, 36, 37, 38, 39, 81, 82, 83, 40, 41, 42, 43, 44, 45, 46, 47, 48, 49, 56, 57, 58, 62, 63, 64, 65, 66, 67] (by decide +kernel) (by decide +kernel)
set_option maxRecDepth 20000 in
theorem gX1_workReal_X0_quotient : GoodIn wsX1_workReal (va_wsS RX1 114 yX0_quotient wsX0_quotient) := goodIn_app (goodIn_of _ (by decide +kernel)) ggX1_workReal_X0_quotient
set_option maxRecDepth 20000 in
theorem ggX1_workReal_X0_rest : GoodIn wsX1_workReal wsX0_rest := goodIn_r _ [86, 5, 6, 3, 7, 8, 9, 10, 11, 12, 13, 14, 15, 16, 17, 18, 19, 20, 21, 25, 26, 27, 22, 23, 24, 31, 32, 33, 34, 35, 36, 37, 38, 39, 40, 41, 42, 43, 44, 45, 46, 47, 48, 49, 87, 88, 89, 90, 91, 92, 53, 54, 55, 56, 57, 58, 59, 60, 61, 62, 63, 64, 65, 66, 67] (by decide +kernel) (by decide +kernel)
set_option maxRecDepth 20000 in
theorem gX1_workReal_X0_rest : GoodIn wsX1_workReal (va_wsS RX1 117 yX0_rest wsX0_rest) := goodIn_app (goodIn_of _ (by decide +kernel)) ggX1_workReal_X0_rest
set_option maxRecDepth 20000 in
theorem ggX1_workReal_X0_isNumber : GoodIn wsX1_workReal wsX0_isNumber := goodIn_r _ [95, 8, 9, 3, 10, 11, 12, 13, 14, 15, 16, 17, 18, 19, 20, 21] (by decide +kernel) (by decide +kernel)
set_option maxRecDepth 20000 in
theorem gX1_workReal_X0_isNumber : GoodIn wsX1_workReal (va_wsS RX1 71 yX0_isNumber wsX0_isNumber) := goodIn_app (goodIn_of _ (by decide +kernel)) ggX1_workReal_X0_isNumber
set_option maxRecDepth 20000 in
theorem ggX1_workReal_X1_fails : GoodIn wsX1_workReal wsX1_fails := goodIn_r _ [100, 101, 102] (by decide +kernel) (by decide +kernel)
set_option maxRecDepth 20000 in
theorem gX1_workReal_X1_fails : GoodIn wsX1_workReal (wsV RX1 21 RX1 yX1_fails wsX1_fails) := goodIn_app (goodIn_of _ (by decide +kernel)) ggX1_workReal_X1_fails
theorem dX1_workReal_0 : decode cX1_workReal 0 = .ok (.iload_n 1, 1) := by decide +kernel
theorem dX1_workReal_1 : decode cX1_workReal 1 = .ok (.tableswitch 83 1 4 #[31, 43, 59, 71], 31) := by decide +kernel
theorem dX1_workReal_32 : decode cX1_workReal 32 = .ok (.iload_n 2, 1) := by decide +kernel
theorem dX1_workReal_33 : decode cX1_workReal 33 = .ok (.lload_n 3, 1) := by decide +kernel
theorem dX1_workReal_34 : decode cX1_workReal 34 = .ok (.lload 5, 2) := by decide +kernel
theorem dX1_workReal_36 : decode cX1_workReal 36 = .ok (.invokestatic 104, 3) := by decide +kernel
theorem dX1_workReal_39 : decode cX1_workReal 39 = .ok (.lstore 7, 2) := by decide +kernel
theorem dX1_workReal_41 : decode cX1_workReal 41 = .ok (.goto 52, 3) := by decide +kernel
theorem dX1_workReal_44 : decode cX1_workReal 44 = .ok (.iload_n 2, 1) := by decide +kernel
theorem dX1_workReal_45 : decode cX1_workReal 45 = .ok (.lload_n 3, 1) := by decide +kernel
theorem dX1_workReal_46 : decode cX1_workReal 46 = .ok (.iload_n 2, 1) := by decide +kernel
theorem dX1_workReal_47 : decode cX1_workReal 47 = .ok (.lload 5, 2) := by decide +kernel
theorem dX1_workReal_49 : decode cX1_workReal 49 = .ok (.invokestatic 108, 3) := by decide +kernel
theorem dX1_workReal_52 : decode cX1_workReal 52 = .ok (.invokestatic 104, 3) := by decide +kernel
theorem dX1_workReal_55 : decode cX1_workReal 55 = .ok (.lstore 7, 2) := by decide +kernel
theorem dX1_workReal_57 : decode cX1_workReal 57 = .ok (.goto 36, 3) := by decide +kernel
theorem dX1_workReal_60 : decode cX1_workReal 60 = .ok (.iload_n 2, 1) := by decide +kernel
theorem dX1_workReal_61 : decode cX1_workReal 61 = .ok (.lload_n 3, 1) := by decide +kernel
theorem dX1_workReal_62 : decode cX1_workReal 62 = .ok (.lload 5, 2) := by decide +kernel
theorem dX1_workReal_64 : decode cX1_workReal 64 = .ok (.invokestatic 111, 3) := by decide +kernel
theorem dX1_workReal_67 : decode cX1_workReal 67 = .ok (.lstore 7, 2) := by decide +kernel
theorem dX1_workReal_69 : decode cX1_workReal 69 = .ok (.goto 24, 3) := by decide +kernel
theorem dX1_workReal_72 : decode cX1_workReal 72 = .ok (.iload_n 2, 1) := by decide +kernel
theorem dX1_workReal_73 : decode cX1_workReal 73 = .ok (.lload_n 3, 1) := by decide +kernel
theorem dX1_workReal_74 : decode cX1_workReal 74 = .ok (.lload 5, 2) := by decide +kernel
theorem dX1_workReal_76 : decode cX1_workReal 76 = .ok (.invokestatic 114, 3) := by decide +kernel
theorem dX1_workReal_79 : decode cX1_workReal 79 = .ok (.lstore 7, 2) := by decide +kernel
theorem dX1_workReal_81 : decode cX1_workReal 81 = .ok (.goto 12, 3) := by decide +kernel
theorem dX1_workReal_84 : decode cX1_workReal 84 = .ok (.iload_n 2, 1) := by decide +kernel
theorem dX1_workReal_85 : decode cX1_workReal 85 = .ok (.lload_n 3, 1) := by decide +kernel
theorem dX1_workReal_86 : decode cX1_workReal 86 = .ok (.lload 5, 2) := by decide +kernel
theorem dX1_workReal_88 : decode cX1_workReal 88 = .ok (.invokestatic 117, 3) := by decide +kernel
theorem dX1_workReal_91 : decode cX1_workReal 91 = .ok (.lstore 7, 2) := by decide +kernel
theorem dX1_workReal_93 : decode cX1_workReal 93 = .ok (.iload_n 2, 1) := by decide +kernel
theorem dX1_workReal_94 : decode cX1_workReal 94 = .ok (.lload 7, 2) := by decide +kernel
theorem dX1_workReal_96 : decode cX1_workReal 96 = .ok (.invokestatic 71, 3) := by decide +kernel
theorem dX1_workReal_99 : decode cX1_workReal 99 = .ok (.ifCond .eq 8, 3) := by decide +kernel
theorem dX1_workReal_102 : decode cX1_workReal 102 = .ok (.lload 7, 2) := by decide +kernel
theorem dX1_workReal_104 : decode cX1_workReal 104 = .ok (.goto 11, 3) := by decide +kernel
theorem dX1_workReal_107 : decode cX1_workReal 107 = .ok (.aload_n 0, 1) := by decide +kernel
theorem dX1_workReal_108 : decode cX1_workReal 108 = .ok (.bipush 8, 2) := by decide +kernel
theorem dX1_workReal_110 : decode cX1_workReal 110 = .ok (.iconst 0, 1) := by decide +kernel
theorem dX1_workReal_111 : decode cX1_workReal 111 = .ok (.invokevirtual 21, 3) := by decide +kernel
theorem dX1_workReal_114 : decode cX1_workReal 114 = .ok (.i2l, 1) := by decide +kernel
theorem dX1_workReal_115 : decode cX1_workReal 115 = .ok (.lreturn, 1) := by decide +kernel
theorem dX1_shiftedInt_0 : decode cX1_shiftedInt 0 = .ok (.iload_n 0, 1) := by decide +kernel
theorem dX1_shiftedInt_1 : decode cX1_shiftedInt 1 = .ok (.lookupswitch 37 #[(6, 27), (7, 32)], 27) := by decide +kernel
theorem dX1_shiftedInt_28 : decode cX1_shiftedInt 28 = .ok (.iload_n 1, 1) := by decide +kernel
theorem dX1_shiftedInt_29 : decode cX1_shiftedInt 29 = .ok (.iload_n 2, 1) := by decide +kernel
theorem dX1_shiftedInt_30 : decode cX1_shiftedInt 30 = .ok (.ishl, 1) := by decide +kernel
theorem dX1_shiftedInt_31 : decode cX1_shiftedInt 31 = .ok (.i2l, 1) := by decide +kernel
theorem dX1_shiftedInt_32 : decode cX1_shiftedInt 32 = .ok (.lreturn, 1) := by decide +kernel
theorem dX1_shiftedInt_33 : decode cX1_shiftedInt 33 = .ok (.iload_n 1, 1) := by decide +kernel
theorem dX1_shiftedInt_34 : decode cX1_shiftedInt 34 = .ok (.iload_n 2, 1) := by decide +kernel
theorem dX1_shiftedInt_35 : decode cX1_shiftedInt 35 = .ok (.ishr, 1) := by decide +kernel
theorem dX1_shiftedInt_36 : decode cX1_shiftedInt 36 = .ok (.i2l, 1) := by decide +kernel
theorem dX1_shiftedInt_37 : decode cX1_shiftedInt 37 = .ok (.lreturn, 1) := by decide +kernel
theorem dX1_shiftedInt_38 : decode cX1_shiftedInt 38 = .ok (.iload_n 1, 1) := by decide +kernel
theorem dX1_shiftedInt_39 : decode cX1_shiftedInt 39 = .ok (.iload_n 2, 1) := by decide +kernel
theorem dX1_shiftedInt_40 : decode cX1_shiftedInt 40 = .ok (.iushr, 1) := by decide +kernel
theorem dX1_shiftedInt_41 : decode cX1_shiftedInt 41 = .ok (.i2l, 1) := by decide +kernel
theorem dX1_shiftedInt_42 : decode cX1_shiftedInt 42 = .ok (.lreturn, 1) := by decide +kernel
theorem dX1_shiftedLong_0 : decode cX1_shiftedLong 0 = .ok (.iload_n 0, 1) := by decide +kernel
theorem dX1_shiftedLong_1 : decode cX1_shiftedLong 1 = .ok (.lookupswitch 35 #[(6, 27), (7, 31)], 27) := by decide +kernel
theorem dX1_shiftedLong_28 : decode cX1_shiftedLong 28 = .ok (.lload_n 1, 1) := by decide +kernel
theorem dX1_shiftedLong_29 : decode cX1_shiftedLong 29 = .ok (.iload_n 3, 1) := by decide +kernel
theorem dX1_shiftedLong_30 : decode cX1_shiftedLong 30 = .ok (.lshl, 1) := by decide +kernel
theorem dX1_shiftedLong_31 : decode cX1_shiftedLong 31 = .ok (.lreturn, 1) := by decide +kernel
theorem dX1_shiftedLong_32 : decode cX1_shiftedLong 32 = .ok (.lload_n 1, 1) := by decide +kernel
theorem dX1_shiftedLong_33 : decode cX1_shiftedLong 33 = .ok (.iload_n 3, 1) := by decide +kernel
theorem dX1_shiftedLong_34 : decode cX1_shiftedLong 34 = .ok (.lshr, 1) := by decide +kernel
theorem dX1_shiftedLong_35 : decode cX1_shiftedLong 35 = .ok (.lreturn, 1) := by decide +kernel
theorem dX1_shiftedLong_36 : decode cX1_shiftedLong 36 = .ok (.lload_n 1, 1) := by decide +kernel
theorem dX1_shiftedLong_37 : decode cX1_shiftedLong 37 = .ok (.iload_n 3, 1) := by decide +kernel
theorem dX1_shiftedLong_38 : decode cX1_shiftedLong 38 = .ok (.lushr, 1) := by decide +kernel
theorem dX1_shiftedLong_39 : decode cX1_shiftedLong 39 = .ok (.lreturn, 1) := by decide +kernel
