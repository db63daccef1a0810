theorem dX8_init_0 : decode cX8_init 0 = .ok (.aload_n 0, 1) := by decide +kernel
theorem dX8_init_1 : decode cX8_init 1 = .ok (.invokespecial 1, 3) := by decide +kernel
theorem dX8_init_4 : decode cX8_init 4 = .ok (.aload_n 0, 1) := by decide +kernel
theorem dX8_init_5 : decode cX8_init 5 = .ok (.new 7, 3) := by decide +kernel
theorem dX8_init_8 : decode cX8_init 8 = .ok (.dup, 1) := by decide +kernel
theorem dX8_init_9 : decode cX8_init 9 = .ok (.invokespecial 9, 3) := by decide +kernel
theorem dX8_init_12 : decode cX8_init 12 = .ok (.putfield 10, 3) := by decide +kernel
theorem dX8_init_15 : decode cX8_init 15 = .ok (.aload_n 0, 1) := by decide +kernel
theorem dX8_init_16 : decode cX8_init 16 = .ok (.new 16, 3) := by decide +kernel
theorem dX8_init_19 : decode cX8_init 19 = .ok (.dup, 1) := by decide +kernel
theorem dX8_init_20 : decode cX8_init 20 = .ok (.invokespecial 18, 3) := by decide +kernel
theorem dX8_init_23 : decode cX8_init 23 = .ok (.putfield 19, 3) := by decide +kernel
theorem dX8_init_26 : decode cX8_init 26 = .ok (.aload_n 0, 1) := by decide +kernel
theorem dX8_init_27 : decode cX8_init 27 = .ok (.new 23, 3) := by decide +kernel
theorem dX8_init_30 : decode cX8_init 30 = .ok (.dup, 1) := by decide +kernel
theorem dX8_init_31 : decode cX8_init 31 = .ok (.invokespecial 25, 3) := by decide +kernel
theorem dX8_init_34 : decode cX8_init 34 = .ok (.putfield 26, 3) := by decide +kernel
theorem dX8_init_37 : decode cX8_init 37 = .ok (.aload_n 0, 1) := by decide +kernel
theorem dX8_init_38 : decode cX8_init 38 = .ok (.new 30, 3) := by decide +kernel
theorem dX8_init_41 : decode cX8_init 41 = .ok (.dup, 1) := by decide +kernel
theorem dX8_init_42 : decode cX8_init 42 = .ok (.invokespecial 32, 3) := by decide +kernel
theorem dX8_init_45 : decode cX8_init 45 = .ok (.putfield 33, 3) := by decide +kernel
theorem dX8_init_48 : decode cX8_init 48 = .ok (.aload_n 0, 1) := by decide +kernel
theorem dX8_init_49 : decode cX8_init 49 = .ok (.new 37, 3) := by decide +kernel
theorem dX8_init_52 : decode cX8_init 52 = .ok (.dup, 1) := by decide +kernel
theorem dX8_init_53 : decode cX8_init 53 = .ok (.invokespecial 39, 3) := by decide +kernel
theorem dX8_init_56 : decode cX8_init 56 = .ok (.putfield 40, 3) := by decide +kernel
theorem dX8_init_59 : decode cX8_init 59 = .ok (.aload_n 0, 1) := by decide +kernel
theorem dX8_init_60 : decode cX8_init 60 = .ok (.bipush 8, 2) := by decide +kernel
theorem dX8_init_62 : decode cX8_init 62 = .ok (.newarray .int, 2) := by decide +kernel
theorem dX8_init_64 : decode cX8_init 64 = .ok (.putfield 44, 3) := by decide +kernel
theorem dX8_init_67 : decode cX8_init 67 = .ok (.return_, 1) := by decide +kernel
set_option maxRecDepth 20000 in
theorem ggX8_declareType_X7_allowsSuperclass : GoodIn wsX8_declareType wsX7_allowsSuperclass := goodIn_r _ [9, 10, 11, 12, 8, 13, 14, 15, 16, 17, 18, 19, 20, 21, 22, 145, 146, 147] (by decide +kernel) (by decide +kernel)
set_option maxRecDepth 20000 in
theorem gX8_declareType_X7_allowsSuperclass : GoodIn wsX8_declareType (wsV RX8 52 RX7 yX7_allowsSuperclass wsX7_allowsSuperclass) := goodIn_app (goodIn_of _ (by decide +kernel)) ggX8_declareType_X7_allowsSuperclass
set_option maxRecDepth 20000 in
theorem ggX8_declareType_X7_areInterfaces : GoodIn wsX8_declareType wsX7_areInterfaces := goodIn_r _ [26, 14, 145, 146, 147] (by decide +kernel) (by decide +kernel)
set_option maxRecDepth 20000 in
theorem gX8_declareType_X7_areInterfaces : GoodIn wsX8_declareType (wsV RX8 58 RX7 yX7_areInterfaces wsX7_areInterfaces) := goodIn_app (goodIn_of _ (by decide +kernel)) ggX8_declareType_X7_areInterfaces
set_option maxRecDepth 20000 in
theorem ggX8_declareType_X7_inheritedFrom : GoodIn wsX8_declareType wsX7_inheritedFrom := goodIn_r _ [30, 31, 19, 20, 21, 22, 145, 146, 147] (by decide +kernel) (by decide +kernel)
set_option maxRecDepth 20000 in
theorem gX8_declareType_X7_inheritedFrom : GoodIn wsX8_declareType (wsV RX8 62 RX7 yX7_inheritedFrom wsX7_inheritedFrom) := goodIn_app (goodIn_of _ (by decide +kernel)) ggX8_declareType_X7_inheritedFrom
set_option maxRecDepth 20000 in
theorem ggX8_declareType_X5_disagreeWithin : GoodIn wsX8_declareType wsX5_disagreeWithin := goodIn_r _ [36, 37, 38, 39, 40, 20, 21, 22, 41, 42, 43, 35, 44, 45, 46, 47, 48, 49, 50, 51, 52, 53, 54, 55, 56, 57, 58, 59, 60, 61, 62, 63, 64, 65, 66, 67, 68, 148, 149, 150, 151, 152, 153] (by decide +kernel) (by decide +kernel)
set_option maxRecDepth 20000 in
theorem gX8_declareType_X5_disagreeWithin : GoodIn wsX8_declareType (wsV RX8 70 RX5 yX5_disagreeWithin wsX5_disagreeWithin) := goodIn_app (goodIn_of _ (by decide +kernel)) ggX8_declareType_X5_disagreeWithin
set_option maxRecDepth 20000 in
theorem ggX8_declareType_X8_beginEdit : GoodIn wsX8_declareType wsX8_beginEdit := goodIn_r _ [72, 73, 1, 74, 75, 76, 77, 78, 79, 80, 81, 82, 83, 84, 85, 86, 87, 88, 89, 90, 91, 92, 93, 94, 95, 96, 97, 8, 98, 19, 14, 31, 99, 21, 100, 101, 102, 103, 104, 105, 106, 107, 108, 35, 109, 37, 38, 39, 40, 63, 68, 110, 111, 112, 113, 114, 115, 116, 117, 118, 119, 120, 121, 122, 123, 124, 125, 126, 127, 128, 129, 130, 131, 136, 137, 138, 139, 140, 141, 154, 155, 156, 142, 143, 144, 145, 146, 147, 148, 149, 150, 151, 152, 153, 157, 158, 159, 160, 161, 162, 163, 164, 165, 166, 167, 168, 169, 170, 171, 172, 173, 174, 175, 176, 177, 178, 179] (by decide +kernel) (by decide +kernel)
set_option maxRecDepth 20000 in
theorem gX8_declareType_X8_beginEdit : GoodIn wsX8_declareType (wsV RX8 79 RX8 yX8_beginEdit wsX8_beginEdit) := goodIn_app (goodIn_of _ (by decide +kernel)) ggX8_declareType_X8_beginEdit
set_option maxRecDepth 20000 in
theorem ggX8_declareType_X7_add : GoodIn wsX8_declareType wsX7_add := goodIn_r _ [135, 19, 31, 14, 45, 21, 46, 145, 146, 147] (by decide +kernel) (by decide +kernel)
set_option maxRecDepth 20000 in
theorem gX8_declareType_X7_add : GoodIn wsX8_declareType (wsV RX8 82 RX7 yX7_add wsX7_add) := goodIn_app (goodIn_of _ (by decide +kernel)) ggX8_declareType_X7_add
theorem dX8_declareType_0 : decode cX8_declareType 0 = .ok (.aload_n 0, 1) := by decide +kernel
theorem dX8_declareType_1 : decode cX8_declareType 1 = .ok (.getfield 10, 3) := by decide +kernel
theorem dX8_declareType_4 : decode cX8_declareType 4 = .ok (.getfield 48, 3) := by decide +kernel
theorem dX8_declareType_7 : decode cX8_declareType 7 = .ok (.astore 4, 2) := by decide +kernel
theorem dX8_declareType_9 : decode cX8_declareType 9 = .ok (.aload 4, 2) := by decide +kernel
theorem dX8_declareType_11 : decode cX8_declareType 11 = .ok (.iload_n 1, 1) := by decide +kernel
theorem dX8_declareType_12 : decode cX8_declareType 12 = .ok (.iload_n 2, 1) := by decide +kernel
theorem dX8_declareType_13 : decode cX8_declareType 13 = .ok (.invokevirtual 52, 3) := by decide +kernel
theorem dX8_declareType_16 : decode cX8_declareType 16 = .ok (.ifCond .eq 12, 3) := by decide +kernel
theorem dX8_declareType_19 : decode cX8_declareType 19 = .ok (.aload 4, 2) := by decide +kernel
theorem dX8_declareType_21 : decode cX8_declareType 21 = .ok (.iload_n 3, 1) := by decide +kernel
theorem dX8_declareType_22 : decode cX8_declareType 22 = .ok (.invokevirtual 58, 3) := by decide +kernel
theorem dX8_declareType_25 : decode cX8_declareType 25 = .ok (.ifCond .ne 5, 3) := by decide +kernel
theorem dX8_declareType_28 : decode cX8_declareType 28 = .ok (.iconst (-1), 1) := by decide +kernel
theorem dX8_declareType_29 : decode cX8_declareType 29 = .ok (.ireturn, 1) := by decide +kernel
theorem dX8_declareType_30 : decode cX8_declareType 30 = .ok (.aload 4, 2) := by decide +kernel
theorem dX8_declareType_32 : decode cX8_declareType 32 = .ok (.iload_n 2, 1) := by decide +kernel
theorem dX8_declareType_33 : decode cX8_declareType 33 = .ok (.iload_n 3, 1) := by decide +kernel
theorem dX8_declareType_34 : decode cX8_declareType 34 = .ok (.invokevirtual 62, 3) := by decide +kernel
theorem dX8_declareType_37 : decode cX8_declareType 37 = .ok (.istore 5, 2) := by decide +kernel
theorem dX8_declareType_39 : decode cX8_declareType 39 = .ok (.aload_n 0, 1) := by decide +kernel
theorem dX8_declareType_40 : decode cX8_declareType 40 = .ok (.getfield 10, 3) := by decide +kernel
theorem dX8_declareType_43 : decode cX8_declareType 43 = .ok (.getfield 66, 3) := by decide +kernel
theorem dX8_declareType_46 : decode cX8_declareType 46 = .ok (.iload 5, 2) := by decide +kernel
theorem dX8_declareType_48 : decode cX8_declareType 48 = .ok (.invokevirtual 70, 3) := by decide +kernel
theorem dX8_declareType_51 : decode cX8_declareType 51 = .ok (.ifCond .eq 6, 3) := by decide +kernel
theorem dX8_declareType_54 : decode cX8_declareType 54 = .ok (.bipush (-2), 2) := by decide +kernel
theorem dX8_declareType_56 : decode cX8_declareType 56 = .ok (.ireturn, 1) := by decide +kernel
theorem dX8_declareType_57 : decode cX8_declareType 57 = .ok (.aload 4, 2) := by decide +kernel
theorem dX8_declareType_59 : decode cX8_declareType 59 = .ok (.getfield 75, 3) := by decide +kernel
theorem dX8_declareType_62 : decode cX8_declareType 62 = .ok (.bipush 8, 2) := by decide +kernel
theorem dX8_declareType_64 : decode cX8_declareType 64 = .ok (.if_icmp .lt 6, 3) := by decide +kernel
theorem dX8_declareType_67 : decode cX8_declareType 67 = .ok (.bipush (-3), 2) := by decide +kernel
theorem dX8_declareType_69 : decode cX8_declareType 69 = .ok (.ireturn, 1) := by decide +kernel
theorem dX8_declareType_70 : decode cX8_declareType 70 = .ok (.aload_n 0, 1) := by decide +kernel
theorem dX8_declareType_71 : decode cX8_declareType 71 = .ok (.invokevirtual 79, 3) := by decide +kernel
theorem dX8_declareType_74 : decode cX8_declareType 74 = .ok (.aload 4, 2) := by decide +kernel
theorem dX8_declareType_76 : decode cX8_declareType 76 = .ok (.iload_n 1, 1) := by decide +kernel
theorem dX8_declareType_77 : decode cX8_declareType 77 = .ok (.iload 5, 2) := by decide +kernel
theorem dX8_declareType_79 : decode cX8_declareType 79 = .ok (.invokevirtual 82, 3) := by decide +kernel
theorem dX8_declareType_82 : decode cX8_declareType 82 = .ok (.ireturn, 1) := by decide +kernel
set_option maxRecDepth 20000 in
theorem ggX8_declareMethod_X7_exists : GoodIn wsX8_declareMethod wsX7_exists := goodIn_r _ [9, 10, 149, 150, 151] (by decide +kernel) (by decide +kernel)
set_option maxRecDepth 20000 in
theorem gX8_declareMethod_X7_exists : GoodIn wsX8_declareMethod (wsV RX8 85 RX7 yX7_exists wsX7_exists) := goodIn_app (goodIn_of _ (by decide +kernel)) ggX8_declareMethod_X7_exists
set_option maxRecDepth 20000 in
theorem ggX8_declareMethod_X8_isSignature : GoodIn wsX8_declareMethod wsX8_isSignature := goodIn_r _ [14] (by decide +kernel) (by decide +kernel)
set_option maxRecDepth 20000 in
theorem gX8_declareMethod_X8_isSignature : GoodIn wsX8_declareMethod (va_wsS RX8 88 yX8_isSignature wsX8_isSignature) := goodIn_app (goodIn_of _ (by decide +kernel)) ggX8_declareMethod_X8_isSignature
set_option maxRecDepth 20000 in
theorem ggX8_declareMethod_X8_bit : GoodIn wsX8_declareMethod wsX8_bit := goodIn_r _ [17] (by decide +kernel) (by decide +kernel)
set_option maxRecDepth 20000 in
theorem gX8_declareMethod_X8_bit : GoodIn wsX8_declareMethod (va_wsS RX8 91 yX8_bit wsX8_bit) := goodIn_app (goodIn_of _ (by decide +kernel)) ggX8_declareMethod_X8_bit
set_option maxRecDepth 20000 in
theorem ggX8_declareMethod_X7_connectedWith : GoodIn wsX8_declareMethod wsX7_connectedWith := goodIn_r _ [21, 10, 22, 149, 150, 151] (by decide +kernel) (by decide +kernel)
set_option maxRecDepth 20000 in
theorem gX8_declareMethod_X7_connectedWith : GoodIn wsX8_declareMethod (wsV RX8 95 RX7 yX7_connectedWith wsX7_connectedWith) := goodIn_app (goodIn_of _ (by decide +kernel)) ggX8_declareMethod_X7_connectedWith
set_option maxRecDepth 20000 in
theorem ggX8_declareMethod_X5_withSignature : GoodIn wsX8_declareMethod wsX5_withSignature := goodIn_r _ [27, 28, 29, 30, 31, 32, 13, 33, 16, 17, 143, 144, 145, 146, 147, 148] (by decide +kernel) (by decide +kernel)
set_option maxRecDepth 20000 in
theorem gX8_declareMethod_X5_withSignature : GoodIn wsX8_declareMethod (wsV RX8 98 RX5 yX5_withSignature wsX5_withSignature) := goodIn_app (goodIn_of _ (by decide +kernel)) ggX8_declareMethod_X5_withSignature
set_option maxRecDepth 20000 in
theorem ggX8_declareMethod_X5_declaredBy : GoodIn wsX8_declareMethod wsX5_declaredBy := goodIn_r _ [37, 16, 13, 17, 38, 24, 25, 26, 27, 28, 29, 30, 31, 32, 33, 39, 40, 41, 42, 143, 144, 145, 146, 147, 148] (by decide +kernel) (by decide +kernel)
set_option maxRecDepth 20000 in
theorem gX8_declareMethod_X5_declaredBy : GoodIn wsX8_declareMethod (wsV RX8 102 RX5 yX5_declaredBy wsX5_declaredBy) := goodIn_app (goodIn_of _ (by decide +kernel)) ggX8_declareMethod_X5_declaredBy
set_option maxRecDepth 20000 in
theorem ggX8_declareMethod_X5_agree : GoodIn wsX8_declareMethod wsX5_agree := goodIn_r _ [46, 28, 39, 40, 41, 26, 42, 32, 13, 33, 47, 48, 49, 50, 30, 51, 52, 53, 54, 55, 56, 57, 58, 59, 60, 143, 144, 145, 146, 147, 148] (by decide +kernel) (by decide +kernel)
set_option maxRecDepth 20000 in
theorem gX8_declareMethod_X5_agree : GoodIn wsX8_declareMethod (wsV RX8 105 RX5 yX5_agree wsX5_agree) := goodIn_app (goodIn_of _ (by decide +kernel)) ggX8_declareMethod_X5_agree
set_option maxRecDepth 20000 in
theorem ggX8_declareMethod_X8_beginEdit : GoodIn wsX8_declareMethod wsX8_beginEdit := goodIn_r _ [64, 65, 1, 66, 67, 68, 69, 70, 71, 72, 73, 74, 75, 76, 77, 78, 79, 80, 81, 82, 83, 84, 85, 86, 87, 88, 89, 8, 90, 10, 91, 22, 92, 13, 93, 94, 95, 96, 97, 98, 99, 100, 101, 26, 102, 28, 31, 29, 30, 55, 60, 103, 104, 105, 106, 107, 108, 109, 110, 111, 112, 113, 114, 115, 116, 117, 118, 119, 120, 121, 122, 123, 124, 134, 135, 136, 137, 138, 139, 152, 153, 154, 140, 141, 142, 149, 150, 151, 143, 144, 145, 146, 147, 148, 155, 156, 157, 158, 159, 160, 161, 162, 163, 164, 165, 166, 167, 168, 169, 170, 171, 172, 173, 174, 175, 176, 177] (by decide +kernel) (by decide +kernel)
set_option maxRecDepth 20000 in
theorem gX8_declareMethod_X8_beginEdit : GoodIn wsX8_declareMethod (wsV RX8 79 RX8 yX8_beginEdit wsX8_beginEdit) := goodIn_app (goodIn_of _ (by decide +kernel)) ggX8_declareMethod_X8_beginEdit
set_option maxRecDepth 20000 in
theorem ggX8_declareMethod_X5_smallest : GoodIn wsX8_declareMethod wsX5_smallest := goodIn_r _ [42, 28, 32, 13, 33, 143, 144, 145, 146, 147, 148] (by decide +kernel) (by decide +kernel)
set_option maxRecDepth 20000 in
theorem gX8_declareMethod_X5_smallest : GoodIn wsX8_declareMethod (wsV RX8 109 RX5 yX5_smallest wsX5_smallest) := goodIn_app (goodIn_of _ (by decide +kernel)) ggX8_declareMethod_X5_smallest
set_option maxRecDepth 20000 in
theorem ggX8_declareMethod_X5_add : GoodIn wsX8_declareMethod wsX5_add := goodIn_r _ [129, 28, 31, 29, 30, 51, 52, 53, 26, 54, 55, 56, 57, 58, 59, 60, 130, 131, 132, 133, 143, 144, 145, 146, 147, 148] (by decide +kernel) (by decide +kernel)
set_option maxRecDepth 20000 in
theorem gX8_declareMethod_X5_add : GoodIn wsX8_declareMethod (wsV RX8 112 RX5 yX5_add wsX5_add) := goodIn_app (goodIn_of _ (by decide +kernel)) ggX8_declareMethod_X5_add
theorem dX8_declareMethod_0 : decode cX8_declareMethod 0 = .ok (.aload_n 0, 1) := by decide +kernel
theorem dX8_declareMethod_1 : decode cX8_declareMethod 1 = .ok (.getfield 10, 3) := by decide +kernel
theorem dX8_declareMethod_4 : decode cX8_declareMethod 4 = .ok (.getfield 66, 3) := by decide +kernel
theorem dX8_declareMethod_7 : decode cX8_declareMethod 7 = .ok (.astore 4, 2) := by decide +kernel
theorem dX8_declareMethod_9 : decode cX8_declareMethod 9 = .ok (.aload_n 0, 1) := by decide +kernel
theorem dX8_declareMethod_10 : decode cX8_declareMethod 10 = .ok (.getfield 10, 3) := by decide +kernel
theorem dX8_declareMethod_13 : decode cX8_declareMethod 13 = .ok (.getfield 48, 3) := by decide +kernel
theorem dX8_declareMethod_16 : decode cX8_declareMethod 16 = .ok (.iload_n 1, 1) := by decide +kernel
theorem dX8_declareMethod_17 : decode cX8_declareMethod 17 = .ok (.invokevirtual 85, 3) := by decide +kernel
theorem dX8_declareMethod_20 : decode cX8_declareMethod 20 = .ok (.ifCond .eq 11, 3) := by decide +kernel
theorem dX8_declareMethod_23 : decode cX8_declareMethod 23 = .ok (.iload_n 2, 1) := by decide +kernel
theorem dX8_declareMethod_24 : decode cX8_declareMethod 24 = .ok (.iload_n 3, 1) := by decide +kernel
theorem dX8_declareMethod_25 : decode cX8_declareMethod 25 = .ok (.invokestatic 88, 3) := by decide +kernel
theorem dX8_declareMethod_28 : decode cX8_declareMethod 28 = .ok (.ifCond .ne 5, 3) := by decide +kernel
theorem dX8_declareMethod_31 : decode cX8_declareMethod 31 = .ok (.iconst (-1), 1) := by decide +kernel
theorem dX8_declareMethod_32 : decode cX8_declareMethod 32 = .ok (.ireturn, 1) := by decide +kernel
theorem dX8_declareMethod_33 : decode cX8_declareMethod 33 = .ok (.aload 4, 2) := by decide +kernel
theorem dX8_declareMethod_35 : decode cX8_declareMethod 35 = .ok (.iload_n 2, 1) := by decide +kernel
theorem dX8_declareMethod_36 : decode cX8_declareMethod 36 = .ok (.iload_n 3, 1) := by decide +kernel
theorem dX8_declareMethod_37 : decode cX8_declareMethod 37 = .ok (.aload_n 0, 1) := by decide +kernel
theorem dX8_declareMethod_38 : decode cX8_declareMethod 38 = .ok (.getfield 10, 3) := by decide +kernel
theorem dX8_declareMethod_41 : decode cX8_declareMethod 41 = .ok (.getfield 48, 3) := by decide +kernel
theorem dX8_declareMethod_44 : decode cX8_declareMethod 44 = .ok (.iload_n 1, 1) := by decide +kernel
theorem dX8_declareMethod_45 : decode cX8_declareMethod 45 = .ok (.invokestatic 91, 3) := by decide +kernel
theorem dX8_declareMethod_48 : decode cX8_declareMethod 48 = .ok (.invokevirtual 95, 3) := by decide +kernel
theorem dX8_declareMethod_51 : decode cX8_declareMethod 51 = .ok (.invokevirtual 98, 3) := by decide +kernel
theorem dX8_declareMethod_54 : decode cX8_declareMethod 54 = .ok (.istore 5, 2) := by decide +kernel
theorem dX8_declareMethod_56 : decode cX8_declareMethod 56 = .ok (.aload 4, 2) := by decide +kernel
theorem dX8_declareMethod_58 : decode cX8_declareMethod 58 = .ok (.iload_n 1, 1) := by decide +kernel
theorem dX8_declareMethod_59 : decode cX8_declareMethod 59 = .ok (.iload_n 2, 1) := by decide +kernel
theorem dX8_declareMethod_60 : decode cX8_declareMethod 60 = .ok (.iload_n 3, 1) := by decide +kernel
theorem dX8_declareMethod_61 : decode cX8_declareMethod 61 = .ok (.invokevirtual 102, 3) := by decide +kernel
theorem dX8_declareMethod_64 : decode cX8_declareMethod 64 = .ok (.bipush (-9), 2) := by decide +kernel
theorem dX8_declareMethod_66 : decode cX8_declareMethod 66 = .ok (.if_icmp .ne 13, 3) := by decide +kernel
theorem dX8_declareMethod_69 : decode cX8_declareMethod 69 = .ok (.aload 4, 2) := by decide +kernel
theorem dX8_declareMethod_71 : decode cX8_declareMethod 71 = .ok (.iload 5, 2) := by decide +kernel
theorem dX8_declareMethod_73 : decode cX8_declareMethod 73 = .ok (.invokevirtual 105, 3) := by decide +kernel
theorem dX8_declareMethod_76 : decode cX8_declareMethod 76 = .ok (.ifCond .ne 6, 3) := by decide +kernel
theorem dX8_declareMethod_79 : decode cX8_declareMethod 79 = .ok (.bipush (-2), 2) := by decide +kernel
theorem dX8_declareMethod_81 : decode cX8_declareMethod 81 = .ok (.ireturn, 1) := by decide +kernel
theorem dX8_declareMethod_82 : decode cX8_declareMethod 82 = .ok (.aload 4, 2) := by decide +kernel
theorem dX8_declareMethod_84 : decode cX8_declareMethod 84 = .ok (.getfield 108, 3) := by decide +kernel
theorem dX8_declareMethod_87 : decode cX8_declareMethod 87 = .ok (.bipush 16, 2) := by decide +kernel
theorem dX8_declareMethod_89 : decode cX8_declareMethod 89 = .ok (.if_icmp .lt 6, 3) := by decide +kernel
theorem dX8_declareMethod_92 : decode cX8_declareMethod 92 = .ok (.bipush (-3), 2) := by decide +kernel
theorem dX8_declareMethod_94 : decode cX8_declareMethod 94 = .ok (.ireturn, 1) := by decide +kernel
theorem dX8_declareMethod_95 : decode cX8_declareMethod 95 = .ok (.aload_n 0, 1) := by decide +kernel
theorem dX8_declareMethod_96 : decode cX8_declareMethod 96 = .ok (.invokevirtual 79, 3) := by decide +kernel
theorem dX8_declareMethod_99 : decode cX8_declareMethod 99 = .ok (.aload 4, 2) := by decide +kernel
theorem dX8_declareMethod_101 : decode cX8_declareMethod 101 = .ok (.iload_n 1, 1) := by decide +kernel
theorem dX8_declareMethod_102 : decode cX8_declareMethod 102 = .ok (.iload_n 2, 1) := by decide +kernel
theorem dX8_declareMethod_103 : decode cX8_declareMethod 103 = .ok (.iload_n 3, 1) := by decide +kernel
theorem dX8_declareMethod_104 : decode cX8_declareMethod 104 = .ok (.aload 4, 2) := by decide +kernel
theorem dX8_declareMethod_106 : decode cX8_declareMethod 106 = .ok (.iload 5, 2) := by decide +kernel
theorem dX8_declareMethod_108 : decode cX8_declareMethod 108 = .ok (.invokevirtual 109, 3) := by decide +kernel
theorem dX8_declareMethod_111 : decode cX8_declareMethod 111 = .ok (.invokevirtual 112, 3) := by decide +kernel
theorem dX8_declareMethod_114 : decode cX8_declareMethod 114 = .ok (.ireturn, 1) := by decide +kernel
set_option maxRecDepth 20000 in
theorem ggX8_declareCall_X7_exists : GoodIn wsX8_declareCall wsX7_exists := goodIn_r _ [10, 11, 149, 150, 151] (by decide +kernel) (by decide +kernel)
set_option maxRecDepth 20000 in
theorem gX8_declareCall_X7_exists : GoodIn wsX8_declareCall (wsV RX8 85 RX7 yX7_exists wsX7_exists) := goodIn_app (goodIn_of _ (by decide +kernel)) ggX8_declareCall_X7_exists
set_option maxRecDepth 20000 in
theorem ggX8_declareCall_X8_isSignature : GoodIn wsX8_declareCall wsX8_isSignature := goodIn_r _ [15] (by decide +kernel) (by decide +kernel)
set_option maxRecDepth 20000 in
theorem gX8_declareCall_X8_isSignature : GoodIn wsX8_declareCall (va_wsS RX8 88 yX8_isSignature wsX8_isSignature) := goodIn_app (goodIn_of _ (by decide +kernel)) ggX8_declareCall_X8_isSignature
set_option maxRecDepth 20000 in
theorem ggX8_declareCall_X6_targetFor : GoodIn wsX8_declareCall wsX6_targetFor := goodIn_r _ [20, 21, 22, 23, 24, 25, 26, 27, 28, 29, 30, 31, 32, 33, 14, 34, 35, 36, 37, 38, 39, 40, 133, 134, 135, 149, 150, 151, 152, 153, 154, 155, 156, 157] (by decide +kernel) (by decide +kernel)
set_option maxRecDepth 20000 in
theorem gX8_declareCall_X6_targetFor : GoodIn wsX8_declareCall (wsV RX8 115 RX6 yX6_targetFor wsX6_targetFor) := goodIn_app (goodIn_of _ (by decide +kernel)) ggX8_declareCall_X6_targetFor
set_option maxRecDepth 20000 in
theorem ggX8_declareCall_X7_isClass : GoodIn wsX8_declareCall wsX7_isClass := goodIn_r _ [44, 45, 46, 7, 8, 9, 10, 11, 33, 14, 34, 149, 150, 151] (by decide +kernel) (by decide +kernel)
set_option maxRecDepth 20000 in
theorem gX8_declareCall_X7_isClass : GoodIn wsX8_declareCall (wsV RX8 118 RX7 yX7_isClass wsX7_isClass) := goodIn_app (goodIn_of _ (by decide +kernel)) ggX8_declareCall_X7_isClass
set_option maxRecDepth 20000 in
theorem ggX8_declareCall_X7_inherits : GoodIn wsX8_declareCall wsX7_inherits := goodIn_r _ [50, 51, 33, 14, 34, 149, 150, 151] (by decide +kernel) (by decide +kernel)
set_option maxRecDepth 20000 in
theorem gX8_declareCall_X7_inherits : GoodIn wsX8_declareCall (wsV RX8 121 RX7 yX7_inherits wsX7_inherits) := goodIn_app (goodIn_of _ (by decide +kernel)) ggX8_declareCall_X7_inherits
set_option maxRecDepth 20000 in
theorem ggX8_declareCall_X8_beginEdit : GoodIn wsX8_declareCall wsX8_beginEdit := goodIn_r _ [55, 56, 1, 57, 58, 59, 60, 61, 62, 63, 64, 65, 66, 67, 68, 69, 70, 71, 72, 19, 73, 22, 21, 74, 75, 76, 77, 9, 78, 11, 45, 51, 79, 14, 80, 81, 82, 83, 84, 85, 86, 87, 88, 27, 89, 29, 32, 30, 31, 90, 91, 92, 93, 94, 95, 96, 97, 98, 99, 100, 101, 102, 103, 104, 105, 106, 107, 108, 109, 110, 111, 112, 113, 127, 128, 129, 130, 131, 132, 158, 159, 160, 133, 134, 135, 149, 150, 151, 152, 153, 154, 155, 156, 157, 136, 137, 138, 139, 140, 141, 142, 143, 144, 145, 146, 147, 148, 161, 162, 163, 164, 165, 166, 167, 168, 169, 170] (by decide +kernel) (by decide +kernel)
set_option maxRecDepth 20000 in
theorem gX8_declareCall_X8_beginEdit : GoodIn wsX8_declareCall (wsV RX8 79 RX8 yX8_beginEdit wsX8_beginEdit) := goodIn_app (goodIn_of _ (by decide +kernel)) ggX8_declareCall_X8_beginEdit
set_option maxRecDepth 20000 in
theorem ggX8_declareCall_X0_add : GoodIn wsX8_declareCall wsX0_add := goodIn_r _ [117, 97, 99, 100, 101, 102, 118, 103, 104, 119, 120, 121, 27, 122, 90, 123, 124, 125, 95, 126, 105, 106, 136, 137, 138, 139, 140, 141, 142, 143, 144, 145, 146, 147, 148, 152, 153, 154, 155, 156, 157] (by decide +kernel) (by decide +kernel)
set_option maxRecDepth 20000 in
theorem gX8_declareCall_X0_add : GoodIn wsX8_declareCall (wsV RX8 131 RX0 yX0_add wsX0_add) := goodIn_app (goodIn_of _ (by decide +kernel)) ggX8_declareCall_X0_add
theorem dX8_declareCall_0 : decode cX8_declareCall 0 = .ok (.aload_n 0, 1) := by decide +kernel
theorem dX8_declareCall_1 : decode cX8_declareCall 1 = .ok (.getfield 10, 3) := by decide +kernel
theorem dX8_declareCall_4 : decode cX8_declareCall 4 = .ok (.getfield 48, 3) := by decide +kernel
theorem dX8_declareCall_7 : decode cX8_declareCall 7 = .ok (.astore 5, 2) := by decide +kernel
theorem dX8_declareCall_9 : decode cX8_declareCall 9 = .ok (.aload 5, 2) := by decide +kernel
theorem dX8_declareCall_11 : decode cX8_declareCall 11 = .ok (.iload_n 1, 1) := by decide +kernel
theorem dX8_declareCall_12 : decode cX8_declareCall 12 = .ok (.invokevirtual 85, 3) := by decide +kernel
theorem dX8_declareCall_15 : decode cX8_declareCall 15 = .ok (.ifCond .eq 21, 3) := by decide +kernel
theorem dX8_declareCall_18 : decode cX8_declareCall 18 = .ok (.aload 5, 2) := by decide +kernel
theorem dX8_declareCall_20 : decode cX8_declareCall 20 = .ok (.iload_n 2, 1) := by decide +kernel
theorem dX8_declareCall_21 : decode cX8_declareCall 21 = .ok (.invokevirtual 85, 3) := by decide +kernel
theorem dX8_declareCall_24 : decode cX8_declareCall 24 = .ok (.ifCond .eq 12, 3) := by decide +kernel
theorem dX8_declareCall_27 : decode cX8_declareCall 27 = .ok (.iload_n 3, 1) := by decide +kernel
theorem dX8_declareCall_28 : decode cX8_declareCall 28 = .ok (.iload 4, 2) := by decide +kernel
theorem dX8_declareCall_30 : decode cX8_declareCall 30 = .ok (.invokestatic 88, 3) := by decide +kernel
theorem dX8_declareCall_33 : decode cX8_declareCall 33 = .ok (.ifCond .ne 5, 3) := by decide +kernel
theorem dX8_declareCall_36 : decode cX8_declareCall 36 = .ok (.iconst (-1), 1) := by decide +kernel
theorem dX8_declareCall_37 : decode cX8_declareCall 37 = .ok (.ireturn, 1) := by decide +kernel
theorem dX8_declareCall_38 : decode cX8_declareCall 38 = .ok (.aload_n 0, 1) := by decide +kernel
theorem dX8_declareCall_39 : decode cX8_declareCall 39 = .ok (.getfield 10, 3) := by decide +kernel
theorem dX8_declareCall_42 : decode cX8_declareCall 42 = .ok (.iload_n 1, 1) := by decide +kernel
theorem dX8_declareCall_43 : decode cX8_declareCall 43 = .ok (.iload_n 3, 1) := by decide +kernel
theorem dX8_declareCall_44 : decode cX8_declareCall 44 = .ok (.iload 4, 2) := by decide +kernel
theorem dX8_declareCall_46 : decode cX8_declareCall 46 = .ok (.invokevirtual 115, 3) := by decide +kernel
theorem dX8_declareCall_49 : decode cX8_declareCall 49 = .ok (.istore 6, 2) := by decide +kernel
theorem dX8_declareCall_51 : decode cX8_declareCall 51 = .ok (.aload 5, 2) := by decide +kernel
theorem dX8_declareCall_53 : decode cX8_declareCall 53 = .ok (.iload_n 2, 1) := by decide +kernel
theorem dX8_declareCall_54 : decode cX8_declareCall 54 = .ok (.invokevirtual 118, 3) := by decide +kernel
theorem dX8_declareCall_57 : decode cX8_declareCall 57 = .ok (.ifCond .eq 20, 3) := by decide +kernel
theorem dX8_declareCall_60 : decode cX8_declareCall 60 = .ok (.aload 5, 2) := by decide +kernel
theorem dX8_declareCall_62 : decode cX8_declareCall 62 = .ok (.iload_n 2, 1) := by decide +kernel
theorem dX8_declareCall_63 : decode cX8_declareCall 63 = .ok (.iload_n 1, 1) := by decide +kernel
theorem dX8_declareCall_64 : decode cX8_declareCall 64 = .ok (.invokevirtual 121, 3) := by decide +kernel
theorem dX8_declareCall_67 : decode cX8_declareCall 67 = .ok (.ifCond .eq 10, 3) := by decide +kernel
theorem dX8_declareCall_70 : decode cX8_declareCall 70 = .ok (.iload 6, 2) := by decide +kernel
theorem dX8_declareCall_72 : decode cX8_declareCall 72 = .ok (.bipush (-9), 2) := by decide +kernel
theorem dX8_declareCall_74 : decode cX8_declareCall 74 = .ok (.if_icmp .ne 6, 3) := by decide +kernel
theorem dX8_declareCall_77 : decode cX8_declareCall 77 = .ok (.bipush (-2), 2) := by decide +kernel
theorem dX8_declareCall_79 : decode cX8_declareCall 79 = .ok (.ireturn, 1) := by decide +kernel
theorem dX8_declareCall_80 : decode cX8_declareCall 80 = .ok (.aload_n 0, 1) := by decide +kernel
theorem dX8_declareCall_81 : decode cX8_declareCall 81 = .ok (.getfield 10, 3) := by decide +kernel
theorem dX8_declareCall_84 : decode cX8_declareCall 84 = .ok (.getfield 124, 3) := by decide +kernel
theorem dX8_declareCall_87 : decode cX8_declareCall 87 = .ok (.getfield 128, 3) := by decide +kernel
theorem dX8_declareCall_90 : decode cX8_declareCall 90 = .ok (.bipush 8, 2) := by decide +kernel
theorem dX8_declareCall_92 : decode cX8_declareCall 92 = .ok (.if_icmp .lt 6, 3) := by decide +kernel
theorem dX8_declareCall_95 : decode cX8_declareCall 95 = .ok (.bipush (-3), 2) := by decide +kernel
theorem dX8_declareCall_97 : decode cX8_declareCall 97 = .ok (.ireturn, 1) := by decide +kernel
theorem dX8_declareCall_98 : decode cX8_declareCall 98 = .ok (.aload_n 0, 1) := by decide +kernel
theorem dX8_declareCall_99 : decode cX8_declareCall 99 = .ok (.invokevirtual 79, 3) := by decide +kernel
theorem dX8_declareCall_102 : decode cX8_declareCall 102 = .ok (.aload_n 0, 1) := by decide +kernel
theorem dX8_declareCall_103 : decode cX8_declareCall 103 = .ok (.getfield 10, 3) := by decide +kernel
theorem dX8_declareCall_106 : decode cX8_declareCall 106 = .ok (.getfield 124, 3) := by decide +kernel
theorem dX8_declareCall_109 : decode cX8_declareCall 109 = .ok (.iload_n 1, 1) := by decide +kernel
theorem dX8_declareCall_110 : decode cX8_declareCall 110 = .ok (.iload_n 2, 1) := by decide +kernel
theorem dX8_declareCall_111 : decode cX8_declareCall 111 = .ok (.iload 6, 2) := by decide +kernel
theorem dX8_declareCall_113 : decode cX8_declareCall 113 = .ok (.aload_n 0, 1) := by decide +kernel
theorem dX8_declareCall_114 : decode cX8_declareCall 114 = .ok (.getfield 10, 3) := by decide +kernel
theorem dX8_declareCall_117 : decode cX8_declareCall 117 = .ok (.getfield 66, 3) := by decide +kernel
theorem dX8_declareCall_120 : decode cX8_declareCall 120 = .ok (.invokevirtual 131, 3) := by decide +kernel
theorem dX8_declareCall_123 : decode cX8_declareCall 123 = .ok (.ireturn, 1) := by decide +kernel
set_option maxRecDepth 20000 in
theorem ggX8_setArgument_X0_hasArgument : GoodIn wsX8_setArgument wsX0_hasArgument := goodIn_r _ [7, 8, 9, 10, 11, 6, 12, 13, 115, 116, 117, 118, 119, 120, 121, 122, 123, 124, 125, 126, 127] (by decide +kernel) (by decide +kernel)
set_option maxRecDepth 20000 in
theorem gX8_setArgument_X0_hasArgument : GoodIn wsX8_setArgument (wsV RX8 134 RX0 yX0_hasArgument wsX0_hasArgument) := goodIn_app (goodIn_of _ (by decide +kernel)) ggX8_setArgument_X0_hasArgument
set_option maxRecDepth 20000 in
theorem ggX8_setArgument_X8_isExpression : GoodIn wsX8_setArgument wsX8_isExpression := goodIn_r _ [17, 18, 19, 16, 20] (by decide +kernel) (by decide +kernel)
set_option maxRecDepth 20000 in
theorem gX8_setArgument_X8_isExpression : GoodIn wsX8_setArgument (va_wsS RX8 137 yX8_isExpression wsX8_isExpression) := goodIn_app (goodIn_of _ (by decide +kernel)) ggX8_setArgument_X8_isExpression
set_option maxRecDepth 20000 in
theorem ggX8_setArgument_X0_kindOf : GoodIn wsX8_setArgument wsX0_kindOf := goodIn_r _ [24, 25, 115, 116, 117, 118, 119, 120, 121, 122, 123, 124, 125, 126, 127] (by decide +kernel) (by decide +kernel)
set_option maxRecDepth 20000 in
theorem gX8_setArgument_X0_kindOf : GoodIn wsX8_setArgument (wsV RX8 140 RX0 yX0_kindOf wsX0_kindOf) := goodIn_app (goodIn_of _ (by decide +kernel)) ggX8_setArgument_X0_kindOf
set_option maxRecDepth 20000 in
theorem ggX8_setArgument_X0_isFrozen : GoodIn wsX8_setArgument wsX0_isFrozen := goodIn_r _ [29, 30, 31, 16, 32, 115, 116, 117, 118, 119, 120, 121, 122, 123, 124, 125, 126, 127] (by decide +kernel) (by decide +kernel)
set_option maxRecDepth 20000 in
theorem gX8_setArgument_X0_isFrozen : GoodIn wsX8_setArgument (wsV RX8 143 RX0 yX0_isFrozen wsX0_isFrozen) := goodIn_app (goodIn_of _ (by decide +kernel)) ggX8_setArgument_X0_isFrozen
set_option maxRecDepth 20000 in
theorem ggX8_setArgument_X8_beginEdit : GoodIn wsX8_setArgument wsX8_beginEdit := goodIn_r _ [36, 37, 1, 38, 39, 40, 41, 42, 43, 44, 45, 46, 47, 48, 49, 50, 51, 52, 53, 54, 55, 56, 57, 58, 59, 60, 61, 62, 63, 64, 65, 66, 67, 16, 68, 69, 70, 71, 72, 73, 74, 75, 76, 77, 78, 79, 80, 81, 82, 83, 84, 85, 86, 87, 6, 88, 13, 30, 89, 90, 91, 8, 92, 93, 25, 94, 95, 96, 97, 98, 99, 100, 101, 106, 107, 108, 109, 110, 111, 128, 129, 130, 112, 113, 114, 131, 132, 133, 134, 135, 136, 137, 138, 139, 115, 116, 117, 118, 119, 120, 121, 122, 123, 124, 125, 126, 127, 140, 141, 142, 143, 144, 145, 146, 147, 148, 149] (by decide +kernel) (by decide +kernel)
set_option maxRecDepth 20000 in
theorem gX8_setArgument_X8_beginEdit : GoodIn wsX8_setArgument (wsV RX8 79 RX8 yX8_beginEdit wsX8_beginEdit) := goodIn_app (goodIn_of _ (by decide +kernel)) ggX8_setArgument_X8_beginEdit
set_option maxRecDepth 20000 in
theorem ggX8_setArgument_X0_putArgument : GoodIn wsX8_setArgument wsX0_putArgument := goodIn_r _ [105, 25, 94, 115, 116, 117, 118, 119, 120, 121, 122, 123, 124, 125, 126, 127] (by decide +kernel) (by decide +kernel)
set_option maxRecDepth 20000 in
theorem gX8_setArgument_X0_putArgument : GoodIn wsX8_setArgument (wsV RX8 146 RX0 yX0_putArgument wsX0_putArgument) := goodIn_app (goodIn_of _ (by decide +kernel)) ggX8_setArgument_X0_putArgument
theorem dX8_setArgument_0 : decode cX8_setArgument 0 = .ok (.aload_n 0, 1) := by decide +kernel
theorem dX8_setArgument_1 : decode cX8_setArgument 1 = .ok (.getfield 10, 3) := by decide +kernel
theorem dX8_setArgument_4 : decode cX8_setArgument 4 = .ok (.getfield 124, 3) := by decide +kernel
theorem dX8_setArgument_7 : decode cX8_setArgument 7 = .ok (.astore 5, 2) := by decide +kernel
theorem dX8_setArgument_9 : decode cX8_setArgument 9 = .ok (.aload 5, 2) := by decide +kernel
theorem dX8_setArgument_11 : decode cX8_setArgument 11 = .ok (.iload_n 1, 1) := by decide +kernel
theorem dX8_setArgument_12 : decode cX8_setArgument 12 = .ok (.iload_n 2, 1) := by decide +kernel
theorem dX8_setArgument_13 : decode cX8_setArgument 13 = .ok (.invokevirtual 134, 3) := by decide +kernel
theorem dX8_setArgument_16 : decode cX8_setArgument 16 = .ok (.ifCond .eq 12, 3) := by decide +kernel
theorem dX8_setArgument_19 : decode cX8_setArgument 19 = .ok (.iload_n 3, 1) := by decide +kernel
theorem dX8_setArgument_20 : decode cX8_setArgument 20 = .ok (.iload 4, 2) := by decide +kernel
theorem dX8_setArgument_22 : decode cX8_setArgument 22 = .ok (.invokestatic 137, 3) := by decide +kernel
theorem dX8_setArgument_25 : decode cX8_setArgument 25 = .ok (.ifCond .ne 5, 3) := by decide +kernel
theorem dX8_setArgument_28 : decode cX8_setArgument 28 = .ok (.iconst (-1), 1) := by decide +kernel
theorem dX8_setArgument_29 : decode cX8_setArgument 29 = .ok (.ireturn, 1) := by decide +kernel
theorem dX8_setArgument_30 : decode cX8_setArgument 30 = .ok (.aload 5, 2) := by decide +kernel
theorem dX8_setArgument_32 : decode cX8_setArgument 32 = .ok (.iload_n 1, 1) := by decide +kernel
theorem dX8_setArgument_33 : decode cX8_setArgument 33 = .ok (.iload_n 2, 1) := by decide +kernel
theorem dX8_setArgument_34 : decode cX8_setArgument 34 = .ok (.invokevirtual 140, 3) := by decide +kernel
theorem dX8_setArgument_37 : decode cX8_setArgument 37 = .ok (.istore 6, 2) := by decide +kernel
theorem dX8_setArgument_39 : decode cX8_setArgument 39 = .ok (.aload 5, 2) := by decide +kernel
theorem dX8_setArgument_41 : decode cX8_setArgument 41 = .ok (.iload_n 1, 1) := by decide +kernel
theorem dX8_setArgument_42 : decode cX8_setArgument 42 = .ok (.invokevirtual 143, 3) := by decide +kernel
theorem dX8_setArgument_45 : decode cX8_setArgument 45 = .ok (.ifCond .ne 9, 3) := by decide +kernel
theorem dX8_setArgument_48 : decode cX8_setArgument 48 = .ok (.iload 6, 2) := by decide +kernel
theorem dX8_setArgument_50 : decode cX8_setArgument 50 = .ok (.iconst 3, 1) := by decide +kernel
theorem dX8_setArgument_51 : decode cX8_setArgument 51 = .ok (.if_icmp .ne 6, 3) := by decide +kernel
theorem dX8_setArgument_54 : decode cX8_setArgument 54 = .ok (.bipush (-2), 2) := by decide +kernel
theorem dX8_setArgument_56 : decode cX8_setArgument 56 = .ok (.ireturn, 1) := by decide +kernel
theorem dX8_setArgument_57 : decode cX8_setArgument 57 = .ok (.aload_n 0, 1) := by decide +kernel
theorem dX8_setArgument_58 : decode cX8_setArgument 58 = .ok (.invokevirtual 79, 3) := by decide +kernel
theorem dX8_setArgument_61 : decode cX8_setArgument 61 = .ok (.aload 5, 2) := by decide +kernel
theorem dX8_setArgument_63 : decode cX8_setArgument 63 = .ok (.iload_n 1, 1) := by decide +kernel
theorem dX8_setArgument_64 : decode cX8_setArgument 64 = .ok (.iload_n 2, 1) := by decide +kernel
theorem dX8_setArgument_65 : decode cX8_setArgument 65 = .ok (.iload_n 3, 1) := by decide +kernel
theorem dX8_setArgument_66 : decode cX8_setArgument 66 = .ok (.iload 4, 2) := by decide +kernel
theorem dX8_setArgument_68 : decode cX8_setArgument 68 = .ok (.invokevirtual 146, 3) := by decide +kernel
theorem dX8_setArgument_71 : decode cX8_setArgument 71 = .ok (.iload 6, 2) := by decide +kernel
theorem dX8_setArgument_73 : decode cX8_setArgument 73 = .ok (.ireturn, 1) := by decide +kernel
set_option maxRecDepth 20000 in
theorem ggX8_setFrozen_X0_exists : GoodIn wsX8_setFrozen wsX0_exists := goodIn_r _ [9, 10, 122, 123, 124, 125, 126, 127, 128, 129, 130, 131, 132, 133, 134] (by decide +kernel) (by decide +kernel)
set_option maxRecDepth 20000 in
theorem gX8_setFrozen_X0_exists : GoodIn wsX8_setFrozen (wsV RX8 150 RX0 yX0_exists wsX0_exists) := goodIn_app (goodIn_of _ (by decide +kernel)) ggX8_setFrozen_X0_exists
set_option maxRecDepth 20000 in
theorem ggX8_setFrozen_X0_isFrozen : GoodIn wsX8_setFrozen wsX0_isFrozen := goodIn_r _ [14, 15, 16, 17, 18, 122, 123, 124, 125, 126, 127, 128, 129, 130, 131, 132, 133, 134] (by decide +kernel) (by decide +kernel)
set_option maxRecDepth 20000 in
theorem gX8_setFrozen_X0_isFrozen : GoodIn wsX8_setFrozen (wsV RX8 143 RX0 yX0_isFrozen wsX0_isFrozen) := goodIn_app (goodIn_of _ (by decide +kernel)) ggX8_setFrozen_X0_isFrozen
set_option maxRecDepth 20000 in
theorem ggX8_setFrozen_X0_fitsTarget : GoodIn wsX8_setFrozen wsX0_fitsTarget := goodIn_r _ [22, 23, 24, 25, 26, 27, 28, 8, 29, 30, 31, 32, 33, 34, 35, 36, 122, 123, 124, 125, 126, 127, 128, 129, 130, 131, 132, 133, 134, 135, 136, 137, 138, 139, 140] (by decide +kernel) (by decide +kernel)
set_option maxRecDepth 20000 in
theorem gX8_setFrozen_X0_fitsTarget : GoodIn wsX8_setFrozen (wsV RX8 151 RX0 yX0_fitsTarget wsX0_fitsTarget) := goodIn_app (goodIn_of _ (by decide +kernel)) ggX8_setFrozen_X0_fitsTarget
set_option maxRecDepth 20000 in
theorem ggX8_setFrozen_X8_beginEdit : GoodIn wsX8_setFrozen wsX8_beginEdit := goodIn_r _ [40, 41, 1, 42, 43, 44, 45, 46, 47, 48, 49, 50, 51, 52, 53, 54, 55, 56, 57, 58, 59, 60, 61, 62, 63, 64, 65, 66, 67, 68, 69, 70, 71, 17, 72, 73, 74, 75, 76, 77, 78, 79, 80, 34, 81, 82, 83, 84, 85, 36, 86, 87, 88, 89, 8, 90, 10, 15, 91, 92, 23, 24, 93, 30, 94, 95, 96, 97, 98, 99, 100, 101, 102, 113, 114, 115, 116, 117, 118, 141, 142, 143, 119, 120, 121, 144, 145, 146, 135, 136, 137, 138, 139, 140, 122, 123, 124, 125, 126, 127, 128, 129, 130, 131, 132, 133, 134, 147, 148, 149, 150, 151, 152, 153, 154, 155, 156] (by decide +kernel) (by decide +kernel)
set_option maxRecDepth 20000 in
theorem gX8_setFrozen_X8_beginEdit : GoodIn wsX8_setFrozen (wsV RX8 79 RX8 yX8_beginEdit wsX8_beginEdit) := goodIn_app (goodIn_of _ (by decide +kernel)) ggX8_setFrozen_X8_beginEdit
set_option maxRecDepth 20000 in
theorem ggX8_setFrozen_X8_bit : GoodIn wsX8_setFrozen wsX8_bit := goodIn_r _ [105] (by decide +kernel) (by decide +kernel)
set_option maxRecDepth 20000 in
theorem gX8_setFrozen_X8_bit : GoodIn wsX8_setFrozen (va_wsS RX8 91 yX8_bit wsX8_bit) := goodIn_app (goodIn_of _ (by decide +kernel)) ggX8_setFrozen_X8_bit
set_option maxRecDepth 20000 in
theorem ggX8_setFrozen_J6_bitCount_0f7a4 : GoodIn wsX8_setFrozen wsJ6_bitCount_0f7a4 := goodIn_r _ [109, 110, 111, 112] (by decide +kernel) (by decide +kernel)
set_option maxRecDepth 20000 in
theorem gX8_setFrozen_J6_bitCount_0f7a4 : GoodIn wsX8_setFrozen (va_wsS RX8 158 yJ6_bitCount_0f7a4 wsJ6_bitCount_0f7a4) := goodIn_app (goodIn_of _ (by decide +kernel)) ggX8_setFrozen_J6_bitCount_0f7a4
theorem dX8_setFrozen_0 : decode cX8_setFrozen 0 = .ok (.aload_n 0, 1) := by decide +kernel
theorem dX8_setFrozen_1 : decode cX8_setFrozen 1 = .ok (.getfield 10, 3) := by decide +kernel
theorem dX8_setFrozen_4 : decode cX8_setFrozen 4 = .ok (.getfield 124, 3) := by decide +kernel
theorem dX8_setFrozen_7 : decode cX8_setFrozen 7 = .ok (.astore_n 3, 1) := by decide +kernel
theorem dX8_setFrozen_8 : decode cX8_setFrozen 8 = .ok (.aload_n 3, 1) := by decide +kernel
theorem dX8_setFrozen_9 : decode cX8_setFrozen 9 = .ok (.iload_n 1, 1) := by decide +kernel
theorem dX8_setFrozen_10 : decode cX8_setFrozen 10 = .ok (.invokevirtual 150, 3) := by decide +kernel
theorem dX8_setFrozen_13 : decode cX8_setFrozen 13 = .ok (.ifCond .eq 12, 3) := by decide +kernel
theorem dX8_setFrozen_16 : decode cX8_setFrozen 16 = .ok (.iload_n 2, 1) := by decide +kernel
theorem dX8_setFrozen_17 : decode cX8_setFrozen 17 = .ok (.ifCond .eq 10, 3) := by decide +kernel
theorem dX8_setFrozen_20 : decode cX8_setFrozen 20 = .ok (.iload_n 2, 1) := by decide +kernel
theorem dX8_setFrozen_21 : decode cX8_setFrozen 21 = .ok (.iconst 1, 1) := by decide +kernel
theorem dX8_setFrozen_22 : decode cX8_setFrozen 22 = .ok (.if_icmp .eq 5, 3) := by decide +kernel
theorem dX8_setFrozen_25 : decode cX8_setFrozen 25 = .ok (.iconst (-1), 1) := by decide +kernel
theorem dX8_setFrozen_26 : decode cX8_setFrozen 26 = .ok (.ireturn, 1) := by decide +kernel
theorem dX8_setFrozen_27 : decode cX8_setFrozen 27 = .ok (.iload_n 2, 1) := by decide +kernel
theorem dX8_setFrozen_28 : decode cX8_setFrozen 28 = .ok (.iconst 1, 1) := by decide +kernel
theorem dX8_setFrozen_29 : decode cX8_setFrozen 29 = .ok (.if_icmp .ne 7, 3) := by decide +kernel
theorem dX8_setFrozen_32 : decode cX8_setFrozen 32 = .ok (.iconst 1, 1) := by decide +kernel
theorem dX8_setFrozen_33 : decode cX8_setFrozen 33 = .ok (.goto 4, 3) := by decide +kernel
theorem dX8_setFrozen_36 : decode cX8_setFrozen 36 = .ok (.iconst 0, 1) := by decide +kernel
theorem dX8_setFrozen_37 : decode cX8_setFrozen 37 = .ok (.istore 4, 2) := by decide +kernel
theorem dX8_setFrozen_39 : decode cX8_setFrozen 39 = .ok (.aload_n 3, 1) := by decide +kernel
theorem dX8_setFrozen_40 : decode cX8_setFrozen 40 = .ok (.iload_n 1, 1) := by decide +kernel
theorem dX8_setFrozen_41 : decode cX8_setFrozen 41 = .ok (.invokevirtual 143, 3) := by decide +kernel
theorem dX8_setFrozen_44 : decode cX8_setFrozen 44 = .ok (.iload 4, 2) := by decide +kernel
theorem dX8_setFrozen_46 : decode cX8_setFrozen 46 = .ok (.if_icmp .eq 23, 3) := by decide +kernel
theorem dX8_setFrozen_49 : decode cX8_setFrozen 49 = .ok (.iload 4, 2) := by decide +kernel
theorem dX8_setFrozen_51 : decode cX8_setFrozen 51 = .ok (.ifCond .ne 21, 3) := by decide +kernel
theorem dX8_setFrozen_54 : decode cX8_setFrozen 54 = .ok (.aload_n 3, 1) := by decide +kernel
theorem dX8_setFrozen_55 : decode cX8_setFrozen 55 = .ok (.iload_n 1, 1) := by decide +kernel
theorem dX8_setFrozen_56 : decode cX8_setFrozen 56 = .ok (.aload_n 0, 1) := by decide +kernel
theorem dX8_setFrozen_57 : decode cX8_setFrozen 57 = .ok (.getfield 10, 3) := by decide +kernel
theorem dX8_setFrozen_60 : decode cX8_setFrozen 60 = .ok (.getfield 66, 3) := by decide +kernel
theorem dX8_setFrozen_63 : decode cX8_setFrozen 63 = .ok (.invokevirtual 151, 3) := by decide +kernel
theorem dX8_setFrozen_66 : decode cX8_setFrozen 66 = .ok (.ifCond .ne 6, 3) := by decide +kernel
theorem dX8_setFrozen_69 : decode cX8_setFrozen 69 = .ok (.bipush (-2), 2) := by decide +kernel
theorem dX8_setFrozen_71 : decode cX8_setFrozen 71 = .ok (.ireturn, 1) := by decide +kernel
theorem dX8_setFrozen_72 : decode cX8_setFrozen 72 = .ok (.aload_n 0, 1) := by decide +kernel
theorem dX8_setFrozen_73 : decode cX8_setFrozen 73 = .ok (.invokevirtual 79, 3) := by decide +kernel
theorem dX8_setFrozen_76 : decode cX8_setFrozen 76 = .ok (.aload_n 3, 1) := by decide +kernel
theorem dX8_setFrozen_77 : decode cX8_setFrozen 77 = .ok (.dup, 1) := by decide +kernel
theorem dX8_setFrozen_78 : decode cX8_setFrozen 78 = .ok (.getfield 155, 3) := by decide +kernel
theorem dX8_setFrozen_81 : decode cX8_setFrozen 81 = .ok (.iload_n 1, 1) := by decide +kernel
theorem dX8_setFrozen_82 : decode cX8_setFrozen 82 = .ok (.invokestatic 91, 3) := by decide +kernel
theorem dX8_setFrozen_85 : decode cX8_setFrozen 85 = .ok (.ixor, 1) := by decide +kernel
theorem dX8_setFrozen_86 : decode cX8_setFrozen 86 = .ok (.putfield 155, 3) := by decide +kernel
theorem dX8_setFrozen_89 : decode cX8_setFrozen 89 = .ok (.aload_n 3, 1) := by decide +kernel
theorem dX8_setFrozen_90 : decode cX8_setFrozen 90 = .ok (.getfield 155, 3) := by decide +kernel
theorem dX8_setFrozen_93 : decode cX8_setFrozen 93 = .ok (.invokestatic 158, 3) := by decide +kernel
theorem dX8_setFrozen_96 : decode cX8_setFrozen 96 = .ok (.ireturn, 1) := by decide +kernel
theorem dX8_typeCount_0 : decode cX8_typeCount 0 = .ok (.aload_n 0, 1) := by decide +kernel
theorem dX8_typeCount_1 : decode cX8_typeCount 1 = .ok (.getfield 10, 3) := by decide +kernel
theorem dX8_typeCount_4 : decode cX8_typeCount 4 = .ok (.getfield 48, 3) := by decide +kernel
theorem dX8_typeCount_7 : decode cX8_typeCount 7 = .ok (.getfield 75, 3) := by decide +kernel
theorem dX8_typeCount_10 : decode cX8_typeCount 10 = .ok (.ireturn, 1) := by decide +kernel
set_option maxRecDepth 20000 in
theorem ggX8_isSubtype_X7_exists : GoodIn wsX8_isSubtype wsX7_exists := goodIn_r _ [7, 8, 26, 27, 28] (by decide +kernel) (by decide +kernel)
set_option maxRecDepth 20000 in
theorem gX8_isSubtype_X7_exists : GoodIn wsX8_isSubtype (wsV RX8 85 RX7 yX7_exists wsX7_exists) := goodIn_app (goodIn_of _ (by decide +kernel)) ggX8_isSubtype_X7_exists
set_option maxRecDepth 20000 in
theorem ggX8_isSubtype_X7_inherits : GoodIn wsX8_isSubtype wsX7_inherits := goodIn_r _ [12, 13, 14, 15, 16, 26, 27, 28] (by decide +kernel) (by decide +kernel)
set_option maxRecDepth 20000 in
theorem gX8_isSubtype_X7_inherits : GoodIn wsX8_isSubtype (wsV RX8 121 RX7 yX7_inherits wsX7_inherits) := goodIn_app (goodIn_of _ (by decide +kernel)) ggX8_isSubtype_X7_inherits
theorem dX8_isSubtype_0 : decode cX8_isSubtype 0 = .ok (.aload_n 0, 1) := by decide +kernel
theorem dX8_isSubtype_1 : decode cX8_isSubtype 1 = .ok (.getfield 10, 3) := by decide +kernel
theorem dX8_isSubtype_4 : decode cX8_isSubtype 4 = .ok (.getfield 48, 3) := by decide +kernel
theorem dX8_isSubtype_7 : decode cX8_isSubtype 7 = .ok (.iload_n 1, 1) := by decide +kernel
theorem dX8_isSubtype_8 : decode cX8_isSubtype 8 = .ok (.invokevirtual 85, 3) := by decide +kernel
theorem dX8_isSubtype_11 : decode cX8_isSubtype 11 = .ok (.ifCond .eq 17, 3) := by decide +kernel
theorem dX8_isSubtype_14 : decode cX8_isSubtype 14 = .ok (.aload_n 0, 1) := by decide +kernel
theorem dX8_isSubtype_15 : decode cX8_isSubtype 15 = .ok (.getfield 10, 3) := by decide +kernel
theorem dX8_isSubtype_18 : decode cX8_isSubtype 18 = .ok (.getfield 48, 3) := by decide +kernel
theorem dX8_isSubtype_21 : decode cX8_isSubtype 21 = .ok (.iload_n 2, 1) := by decide +kernel
theorem dX8_isSubtype_22 : decode cX8_isSubtype 22 = .ok (.invokevirtual 85, 3) := by decide +kernel
theorem dX8_isSubtype_25 : decode cX8_isSubtype 25 = .ok (.ifCond .ne 5, 3) := by decide +kernel
theorem dX8_isSubtype_28 : decode cX8_isSubtype 28 = .ok (.iconst (-1), 1) := by decide +kernel
theorem dX8_isSubtype_29 : decode cX8_isSubtype 29 = .ok (.ireturn, 1) := by decide +kernel
theorem dX8_isSubtype_30 : decode cX8_isSubtype 30 = .ok (.aload_n 0, 1) := by decide +kernel
theorem dX8_isSubtype_31 : decode cX8_isSubtype 31 = .ok (.getfield 10, 3) := by decide +kernel
theorem dX8_isSubtype_34 : decode cX8_isSubtype 34 = .ok (.getfield 48, 3) := by decide +kernel
theorem dX8_isSubtype_37 : decode cX8_isSubtype 37 = .ok (.iload_n 1, 1) := by decide +kernel
theorem dX8_isSubtype_38 : decode cX8_isSubtype 38 = .ok (.iload_n 2, 1) := by decide +kernel
theorem dX8_isSubtype_39 : decode cX8_isSubtype 39 = .ok (.invokevirtual 121, 3) := by decide +kernel
theorem dX8_isSubtype_42 : decode cX8_isSubtype 42 = .ok (.ifCond .eq 7, 3) := by decide +kernel
theorem dX8_isSubtype_45 : decode cX8_isSubtype 45 = .ok (.iconst 1, 1) := by decide +kernel
theorem dX8_isSubtype_46 : decode cX8_isSubtype 46 = .ok (.goto 4, 3) := by decide +kernel
theorem dX8_isSubtype_49 : decode cX8_isSubtype 49 = .ok (.iconst 0, 1) := by decide +kernel
theorem dX8_isSubtype_50 : decode cX8_isSubtype 50 = .ok (.ireturn, 1) := by decide +kernel
set_option maxRecDepth 20000 in
theorem ggX8_family_X5_exists : GoodIn wsX8_family wsX5_exists := goodIn_r _ [7, 8, 51, 52, 53, 54, 55, 56] (by decide +kernel) (by decide +kernel)
set_option maxRecDepth 20000 in
theorem gX8_family_X5_exists : GoodIn wsX8_family (wsV RX8 163 RX5 yX5_exists wsX5_exists) := goodIn_app (goodIn_of _ (by decide +kernel)) ggX8_family_X5_exists
set_option maxRecDepth 20000 in
theorem ggX8_family_X6_familyOf : GoodIn wsX8_family wsX6_familyOf := goodIn_r _ [13, 14, 15, 16, 17, 18, 19, 20, 21, 22, 23, 24, 6, 25, 8, 26, 27, 28, 29, 30, 31, 32, 33, 34, 35, 36, 37, 38, 39, 40, 41, 48, 49, 50, 51, 52, 53, 54, 55, 56, 57, 58, 59] (by decide +kernel) (by decide +kernel)
set_option maxRecDepth 20000 in
theorem gX8_family_X6_familyOf : GoodIn wsX8_family (wsV RX8 164 RX6 yX6_familyOf wsX6_familyOf) := goodIn_app (goodIn_of _ (by decide +kernel)) ggX8_family_X6_familyOf
theorem dX8_family_0 : decode cX8_family 0 = .ok (.aload_n 0, 1) := by decide +kernel
theorem dX8_family_1 : decode cX8_family 1 = .ok (.getfield 10, 3) := by decide +kernel
theorem dX8_family_4 : decode cX8_family 4 = .ok (.getfield 66, 3) := by decide +kernel
theorem dX8_family_7 : decode cX8_family 7 = .ok (.iload_n 1, 1) := by decide +kernel
theorem dX8_family_8 : decode cX8_family 8 = .ok (.invokevirtual 163, 3) := by decide +kernel
theorem dX8_family_11 : decode cX8_family 11 = .ok (.ifCond .eq 14, 3) := by decide +kernel
theorem dX8_family_14 : decode cX8_family 14 = .ok (.aload_n 0, 1) := by decide +kernel
theorem dX8_family_15 : decode cX8_family 15 = .ok (.getfield 10, 3) := by decide +kernel
theorem dX8_family_18 : decode cX8_family 18 = .ok (.iload_n 1, 1) := by decide +kernel
theorem dX8_family_19 : decode cX8_family 19 = .ok (.invokevirtual 164, 3) := by decide +kernel
theorem dX8_family_22 : decode cX8_family 22 = .ok (.goto 4, 3) := by decide +kernel
theorem dX8_family_25 : decode cX8_family 25 = .ok (.iconst (-1), 1) := by decide +kernel
theorem dX8_family_26 : decode cX8_family 26 = .ok (.ireturn, 1) := by decide +kernel
set_option maxRecDepth 20000 in
theorem ggX8_parameterCount_X5_exists : GoodIn wsX8_parameterCount wsX5_exists := goodIn_r _ [8, 9, 19, 20, 21, 22, 23, 24] (by decide +kernel) (by decide +kernel)
set_option maxRecDepth 20000 in
theorem gX8_parameterCount_X5_exists : GoodIn wsX8_parameterCount (wsV RX8 163 RX5 yX5_exists wsX5_exists) := goodIn_app (goodIn_of _ (by decide +kernel)) ggX8_parameterCount_X5_exists
theorem dX8_parameterCount_0 : decode cX8_parameterCount 0 = .ok (.aload_n 0, 1) := by decide +kernel
theorem dX8_parameterCount_1 : decode cX8_parameterCount 1 = .ok (.getfield 10, 3) := by decide +kernel
theorem dX8_parameterCount_4 : decode cX8_parameterCount 4 = .ok (.getfield 66, 3) := by decide +kernel
theorem dX8_parameterCount_7 : decode cX8_parameterCount 7 = .ok (.iload_n 1, 1) := by decide +kernel
theorem dX8_parameterCount_8 : decode cX8_parameterCount 8 = .ok (.invokevirtual 163, 3) := by decide +kernel
theorem dX8_parameterCount_11 : decode cX8_parameterCount 11 = .ok (.ifCond .eq 18, 3) := by decide +kernel
theorem dX8_parameterCount_14 : decode cX8_parameterCount 14 = .ok (.aload_n 0, 1) := by decide +kernel
theorem dX8_parameterCount_15 : decode cX8_parameterCount 15 = .ok (.getfield 10, 3) := by decide +kernel
theorem dX8_parameterCount_18 : decode cX8_parameterCount 18 = .ok (.getfield 66, 3) := by decide +kernel
theorem dX8_parameterCount_21 : decode cX8_parameterCount 21 = .ok (.getfield 167, 3) := by decide +kernel
theorem dX8_parameterCount_24 : decode cX8_parameterCount 24 = .ok (.iload_n 1, 1) := by decide +kernel
theorem dX8_parameterCount_25 : decode cX8_parameterCount 25 = .ok (.iaload, 1) := by decide +kernel
theorem dX8_parameterCount_26 : decode cX8_parameterCount 26 = .ok (.goto 4, 3) := by decide +kernel
theorem dX8_parameterCount_29 : decode cX8_parameterCount 29 = .ok (.iconst (-1), 1) := by decide +kernel
theorem dX8_parameterCount_30 : decode cX8_parameterCount 30 = .ok (.ireturn, 1) := by decide +kernel
set_option maxRecDepth 20000 in
theorem ggX8_parameterKey_X5_exists : GoodIn wsX8_parameterKey wsX5_exists := goodIn_r _ [8, 9, 24, 25, 26, 27, 28, 29] (by decide +kernel) (by decide +kernel)
set_option maxRecDepth 20000 in
theorem gX8_parameterKey_X5_exists : GoodIn wsX8_parameterKey (wsV RX8 163 RX5 yX5_exists wsX5_exists) := goodIn_app (goodIn_of _ (by decide +kernel)) ggX8_parameterKey_X5_exists
set_option maxRecDepth 20000 in
theorem ggX8_parameterKey_X5_keyOf : GoodIn wsX8_parameterKey wsX5_keyOf := goodIn_r _ [13, 14, 24, 25, 26, 27, 28, 29] (by decide +kernel) (by decide +kernel)
set_option maxRecDepth 20000 in
theorem gX8_parameterKey_X5_keyOf : GoodIn wsX8_parameterKey (wsV RX8 170 RX5 yX5_keyOf wsX5_keyOf) := goodIn_app (goodIn_of _ (by decide +kernel)) ggX8_parameterKey_X5_keyOf
theorem dX8_parameterKey_0 : decode cX8_parameterKey 0 = .ok (.aload_n 0, 1) := by decide +kernel
theorem dX8_parameterKey_1 : decode cX8_parameterKey 1 = .ok (.getfield 10, 3) := by decide +kernel
theorem dX8_parameterKey_4 : decode cX8_parameterKey 4 = .ok (.getfield 66, 3) := by decide +kernel
theorem dX8_parameterKey_7 : decode cX8_parameterKey 7 = .ok (.astore_n 3, 1) := by decide +kernel
theorem dX8_parameterKey_8 : decode cX8_parameterKey 8 = .ok (.aload_n 3, 1) := by decide +kernel
theorem dX8_parameterKey_9 : decode cX8_parameterKey 9 = .ok (.iload_n 1, 1) := by decide +kernel
theorem dX8_parameterKey_10 : decode cX8_parameterKey 10 = .ok (.invokevirtual 163, 3) := by decide +kernel
theorem dX8_parameterKey_13 : decode cX8_parameterKey 13 = .ok (.ifCond .eq 17, 3) := by decide +kernel
theorem dX8_parameterKey_16 : decode cX8_parameterKey 16 = .ok (.iload_n 2, 1) := by decide +kernel
theorem dX8_parameterKey_17 : decode cX8_parameterKey 17 = .ok (.ifCond .lt 13, 3) := by decide +kernel
theorem dX8_parameterKey_20 : decode cX8_parameterKey 20 = .ok (.iload_n 2, 1) := by decide +kernel
theorem dX8_parameterKey_21 : decode cX8_parameterKey 21 = .ok (.aload_n 3, 1) := by decide +kernel
theorem dX8_parameterKey_22 : decode cX8_parameterKey 22 = .ok (.getfield 167, 3) := by decide +kernel
theorem dX8_parameterKey_25 : decode cX8_parameterKey 25 = .ok (.iload_n 1, 1) := by decide +kernel
theorem dX8_parameterKey_26 : decode cX8_parameterKey 26 = .ok (.iaload, 1) := by decide +kernel
theorem dX8_parameterKey_27 : decode cX8_parameterKey 27 = .ok (.if_icmp .lt 5, 3) := by decide +kernel
theorem dX8_parameterKey_30 : decode cX8_parameterKey 30 = .ok (.iconst (-1), 1) := by decide +kernel
theorem dX8_parameterKey_31 : decode cX8_parameterKey 31 = .ok (.ireturn, 1) := by decide +kernel
theorem dX8_parameterKey_32 : decode cX8_parameterKey 32 = .ok (.aload_n 3, 1) := by decide +kernel
theorem dX8_parameterKey_33 : decode cX8_parameterKey 33 = .ok (.iload_n 1, 1) := by decide +kernel
theorem dX8_parameterKey_34 : decode cX8_parameterKey 34 = .ok (.iload_n 2, 1) := by decide +kernel
theorem dX8_parameterKey_35 : decode cX8_parameterKey 35 = .ok (.invokevirtual 170, 3) := by decide +kernel
theorem dX8_parameterKey_38 : decode cX8_parameterKey 38 = .ok (.ireturn, 1) := by decide +kernel
set_option maxRecDepth 20000 in
theorem ggX8_dispatch_X0_exists : GoodIn wsX8_dispatch wsX0_exists := goodIn_r _ [7, 8, 78, 79, 80, 81, 82, 83, 84, 85, 86, 87, 88, 89, 90] (by decide +kernel) (by decide +kernel)
set_option maxRecDepth 20000 in
theorem gX8_dispatch_X0_exists : GoodIn wsX8_dispatch (wsV RX8 150 RX0 yX0_exists wsX0_exists) := goodIn_app (goodIn_of _ (by decide +kernel)) ggX8_dispatch_X0_exists
set_option maxRecDepth 20000 in
theorem ggX8_dispatch_X6_executedBy : GoodIn wsX8_dispatch wsX6_executedBy := goodIn_r _ [13, 14, 15, 16, 17, 18, 19, 20, 21, 22, 23, 24, 25, 12, 26, 27, 28, 29, 30, 31, 32, 33, 34, 35, 36, 37, 38, 39, 40, 41, 42, 43, 44, 45, 46, 47, 48, 49, 50, 51, 52, 53, 54, 55, 56, 57, 58, 59, 60, 61, 62, 63, 64, 65, 66, 67, 68, 75, 76, 77, 91, 92, 93, 94, 95, 96, 78, 79, 80, 81, 82, 83, 84, 85, 86, 87, 88, 89, 90, 97, 98, 99] (by decide +kernel) (by decide +kernel)
set_option maxRecDepth 20000 in
theorem gX8_dispatch_X6_executedBy : GoodIn wsX8_dispatch (wsV RX8 173 RX6 yX6_executedBy wsX6_executedBy) := goodIn_app (goodIn_of _ (by decide +kernel)) ggX8_dispatch_X6_executedBy
theorem dX8_dispatch_0 : decode cX8_dispatch 0 = .ok (.aload_n 0, 1) := by decide +kernel
theorem dX8_dispatch_1 : decode cX8_dispatch 1 = .ok (.getfield 10, 3) := by decide +kernel
theorem dX8_dispatch_4 : decode cX8_dispatch 4 = .ok (.getfield 124, 3) := by decide +kernel
theorem dX8_dispatch_7 : decode cX8_dispatch 7 = .ok (.iload_n 1, 1) := by decide +kernel
theorem dX8_dispatch_8 : decode cX8_dispatch 8 = .ok (.invokevirtual 150, 3) := by decide +kernel
theorem dX8_dispatch_11 : decode cX8_dispatch 11 = .ok (.ifCond .eq 14, 3) := by decide +kernel
theorem dX8_dispatch_14 : decode cX8_dispatch 14 = .ok (.aload_n 0, 1) := by decide +kernel
theorem dX8_dispatch_15 : decode cX8_dispatch 15 = .ok (.getfield 10, 3) := by decide +kernel
theorem dX8_dispatch_18 : decode cX8_dispatch 18 = .ok (.iload_n 1, 1) := by decide +kernel
theorem dX8_dispatch_19 : decode cX8_dispatch 19 = .ok (.invokevirtual 173, 3) := by decide +kernel
theorem dX8_dispatch_22 : decode cX8_dispatch 22 = .ok (.goto 4, 3) := by decide +kernel
theorem dX8_dispatch_25 : decode cX8_dispatch 25 = .ok (.iconst (-1), 1) := by decide +kernel
theorem dX8_dispatch_26 : decode cX8_dispatch 26 = .ok (.ireturn, 1) := by decide +kernel
set_option maxRecDepth 20000 in
theorem ggX8_run_X0_exists : GoodIn wsX8_run wsX0_exists := goodIn_r _ [9, 10, 138, 139, 140, 141, 142, 143, 144, 145, 146, 147, 148, 149, 150] (by decide +kernel) (by decide +kernel)
set_option maxRecDepth 20000 in
theorem gX8_run_X0_exists : GoodIn wsX8_run (wsV RX8 150 RX0 yX0_exists wsX0_exists) := goodIn_app (goodIn_of _ (by decide +kernel)) ggX8_run_X0_exists
set_option maxRecDepth 20000 in
theorem ggX8_run_X6_executedBy : GoodIn wsX8_run wsX6_executedBy := goodIn_r _ [15, 16, 17, 18, 19, 20, 21, 22, 23, 24, 25, 26, 27, 14, 28, 29, 30, 31, 32, 33, 34, 35, 36, 37, 38, 39, 40, 41, 42, 43, 44, 45, 46, 47, 48, 49, 50, 51, 52, 53, 54, 55, 56, 57, 58, 59, 60, 61, 62, 63, 64, 65, 66, 67, 68, 69, 70, 135, 136, 137, 151, 152, 153, 154, 155, 156, 138, 139, 140, 141, 142, 143, 144, 145, 146, 147, 148, 149, 150, 157, 158, 159] (by decide +kernel) (by decide +kernel)
set_option maxRecDepth 20000 in
theorem gX8_run_X6_executedBy : GoodIn wsX8_run (wsV RX8 173 RX6 yX6_executedBy wsX6_executedBy) := goodIn_app (goodIn_of _ (by decide +kernel)) ggX8_run_X6_executedBy
set_option maxRecDepth 20000 in
theorem ggX8_run_X2_evaluate : GoodIn wsX8_run wsX2_evaluate := goodIn_r _ [75, 76, 77, 78, 79, 80, 81, 82, 83, 8, 84, 85, 86, 87, 88, 74, 89, 90, 91, 92, 93, 94, 95, 96, 97, 98, 99, 100, 101, 102, 103, 160, 161, 162, 138, 139, 140, 141, 142, 143, 144, 145, 146, 147, 148, 149, 150] (by decide +kernel) (by decide +kernel)
set_option maxRecDepth 20000 in
theorem gX8_run_X2_evaluate : GoodIn wsX8_run (wsV RX8 176 RX2 yX2_evaluate wsX2_evaluate) := goodIn_app (goodIn_of _ (by decide +kernel)) ggX8_run_X2_evaluate
set_option maxRecDepth 20000 in
theorem ggX8_run_X2_resultOf : GoodIn wsX8_run wsX2_resultOf := goodIn_r _ [107, 108, 109, 110, 111, 112, 36, 113, 114, 115, 116, 117, 118, 119, 120, 121, 122, 74, 123, 79, 80, 124, 125, 126, 8, 127, 128, 151, 152, 153, 154, 155, 156, 138, 139, 140, 141, 142, 143, 144, 145, 146, 147, 148, 149, 150, 160, 161, 162] (by decide +kernel) (by decide +kernel)
set_option maxRecDepth 20000 in
theorem gX8_run_X2_resultOf : GoodIn wsX8_run (wsV RX8 180 RX2 yX2_resultOf wsX2_resultOf) := goodIn_app (goodIn_of _ (by decide +kernel)) ggX8_run_X2_resultOf
theorem dX8_run_0 : decode cX8_run 0 = .ok (.aload_n 0, 1) := by decide +kernel
theorem dX8_run_1 : decode cX8_run 1 = .ok (.getfield 10, 3) := by decide +kernel
theorem dX8_run_4 : decode cX8_run 4 = .ok (.getfield 124, 3) := by decide +kernel
theorem dX8_run_7 : decode cX8_run 7 = .ok (.iload_n 1, 1) := by decide +kernel
theorem dX8_run_8 : decode cX8_run 8 = .ok (.invokevirtual 150, 3) := by decide +kernel
theorem dX8_run_11 : decode cX8_run 11 = .ok (.ifCond .ne 5, 3) := by decide +kernel
theorem dX8_run_14 : decode cX8_run 14 = .ok (.iconst 0, 1) := by decide +kernel
theorem dX8_run_15 : decode cX8_run 15 = .ok (.ireturn, 1) := by decide +kernel
theorem dX8_run_16 : decode cX8_run 16 = .ok (.aload_n 0, 1) := by decide +kernel
theorem dX8_run_17 : decode cX8_run 17 = .ok (.getfield 10, 3) := by decide +kernel
theorem dX8_run_20 : decode cX8_run 20 = .ok (.iload_n 1, 1) := by decide +kernel
theorem dX8_run_21 : decode cX8_run 21 = .ok (.invokevirtual 173, 3) := by decide +kernel
theorem dX8_run_24 : decode cX8_run 24 = .ok (.istore_n 2, 1) := by decide +kernel
theorem dX8_run_25 : decode cX8_run 25 = .ok (.iload_n 2, 1) := by decide +kernel
theorem dX8_run_26 : decode cX8_run 26 = .ok (.bipush (-9), 2) := by decide +kernel
theorem dX8_run_28 : decode cX8_run 28 = .ok (.if_icmp .ne 5, 3) := by decide +kernel
theorem dX8_run_31 : decode cX8_run 31 = .ok (.iconst 0, 1) := by decide +kernel
theorem dX8_run_32 : decode cX8_run 32 = .ok (.ireturn, 1) := by decide +kernel
theorem dX8_run_33 : decode cX8_run 33 = .ok (.aload_n 0, 1) := by decide +kernel
theorem dX8_run_34 : decode cX8_run 34 = .ok (.getfield 33, 3) := by decide +kernel
theorem dX8_run_37 : decode cX8_run 37 = .ok (.aload_n 0, 1) := by decide +kernel
theorem dX8_run_38 : decode cX8_run 38 = .ok (.getfield 10, 3) := by decide +kernel
theorem dX8_run_41 : decode cX8_run 41 = .ok (.getfield 124, 3) := by decide +kernel
theorem dX8_run_44 : decode cX8_run 44 = .ok (.iload_n 1, 1) := by decide +kernel
theorem dX8_run_45 : decode cX8_run 45 = .ok (.invokevirtual 176, 3) := by decide +kernel
theorem dX8_run_48 : decode cX8_run 48 = .ok (.aload_n 0, 1) := by decide +kernel
theorem dX8_run_49 : decode cX8_run 49 = .ok (.getfield 33, 3) := by decide +kernel
theorem dX8_run_52 : decode cX8_run 52 = .ok (.aload_n 0, 1) := by decide +kernel
theorem dX8_run_53 : decode cX8_run 53 = .ok (.getfield 10, 3) := by decide +kernel
theorem dX8_run_56 : decode cX8_run 56 = .ok (.getfield 66, 3) := by decide +kernel
theorem dX8_run_59 : decode cX8_run 59 = .ok (.iload_n 2, 1) := by decide +kernel
theorem dX8_run_60 : decode cX8_run 60 = .ok (.aload_n 0, 1) := by decide +kernel
theorem dX8_run_61 : decode cX8_run 61 = .ok (.getfield 10, 3) := by decide +kernel
theorem dX8_run_64 : decode cX8_run 64 = .ok (.getfield 124, 3) := by decide +kernel
theorem dX8_run_67 : decode cX8_run 67 = .ok (.iload_n 1, 1) := by decide +kernel
theorem dX8_run_68 : decode cX8_run 68 = .ok (.invokevirtual 180, 3) := by decide +kernel
theorem dX8_run_71 : decode cX8_run 71 = .ok (.ireturn, 1) := by decide +kernel
set_option maxRecDepth 20000 in
theorem ggX8_ticks_X0_exists : GoodIn wsX8_ticks wsX0_exists := goodIn_r _ [9, 10, 56, 57, 58, 59, 60, 61, 62, 63, 64, 65, 66, 67, 68] (by decide +kernel) (by decide +kernel)
set_option maxRecDepth 20000 in
theorem gX8_ticks_X0_exists : GoodIn wsX8_ticks (wsV RX8 150 RX0 yX0_exists wsX0_exists) := goodIn_app (goodIn_of _ (by decide +kernel)) ggX8_ticks_X0_exists
set_option maxRecDepth 20000 in
theorem ggX8_ticks_X2_evaluate : GoodIn wsX8_ticks wsX2_evaluate := goodIn_r _ [15, 16, 17, 18, 19, 20, 21, 22, 23, 8, 24, 25, 26, 27, 28, 14, 29, 30, 31, 32, 33, 34, 35, 36, 37, 38, 39, 40, 41, 42, 43, 53, 54, 55, 56, 57, 58, 59, 60, 61, 62, 63, 64, 65, 66, 67, 68] (by decide +kernel) (by decide +kernel)
set_option maxRecDepth 20000 in
theorem gX8_ticks_X2_evaluate : GoodIn wsX8_ticks (wsV RX8 176 RX2 yX2_evaluate wsX2_evaluate) := goodIn_app (goodIn_of _ (by decide +kernel)) ggX8_ticks_X2_evaluate
theorem dX8_ticks_0 : decode cX8_ticks 0 = .ok (.aload_n 0, 1) := by decide +kernel
theorem dX8_ticks_1 : decode cX8_ticks 1 = .ok (.getfield 10, 3) := by decide +kernel
theorem dX8_ticks_4 : decode cX8_ticks 4 = .ok (.getfield 124, 3) := by decide +kernel
theorem dX8_ticks_7 : decode cX8_ticks 7 = .ok (.iload_n 1, 1) := by decide +kernel
theorem dX8_ticks_8 : decode cX8_ticks 8 = .ok (.invokevirtual 150, 3) := by decide +kernel
theorem dX8_ticks_11 : decode cX8_ticks 11 = .ok (.ifCond .ne 5, 3) := by decide +kernel
theorem dX8_ticks_14 : decode cX8_ticks 14 = .ok (.iconst (-1), 1) := by decide +kernel
theorem dX8_ticks_15 : decode cX8_ticks 15 = .ok (.ireturn, 1) := by decide +kernel
theorem dX8_ticks_16 : decode cX8_ticks 16 = .ok (.aload_n 0, 1) := by decide +kernel
theorem dX8_ticks_17 : decode cX8_ticks 17 = .ok (.getfield 33, 3) := by decide +kernel
theorem dX8_ticks_20 : decode cX8_ticks 20 = .ok (.aload_n 0, 1) := by decide +kernel
theorem dX8_ticks_21 : decode cX8_ticks 21 = .ok (.getfield 10, 3) := by decide +kernel
theorem dX8_ticks_24 : decode cX8_ticks 24 = .ok (.getfield 124, 3) := by decide +kernel
theorem dX8_ticks_27 : decode cX8_ticks 27 = .ok (.iload_n 1, 1) := by decide +kernel
theorem dX8_ticks_28 : decode cX8_ticks 28 = .ok (.invokevirtual 176, 3) := by decide +kernel
theorem dX8_ticks_31 : decode cX8_ticks 31 = .ok (.aload_n 0, 1) := by decide +kernel
theorem dX8_ticks_32 : decode cX8_ticks 32 = .ok (.getfield 33, 3) := by decide +kernel
theorem dX8_ticks_35 : decode cX8_ticks 35 = .ok (.getfield 184, 3) := by decide +kernel
theorem dX8_ticks_38 : decode cX8_ticks 38 = .ok (.ireturn, 1) := by decide +kernel
set_option maxRecDepth 20000 in
theorem ggX8_argumentCount_X0_exists : GoodIn wsX8_argumentCount wsX0_exists := goodIn_r _ [8, 9, 19, 20, 21, 22, 23, 24, 25, 26, 27, 28, 29, 30, 31] (by decide +kernel) (by decide +kernel)
set_option maxRecDepth 20000 in
theorem gX8_argumentCount_X0_exists : GoodIn wsX8_argumentCount (wsV RX8 150 RX0 yX0_exists wsX0_exists) := goodIn_app (goodIn_of _ (by decide +kernel)) ggX8_argumentCount_X0_exists
theorem dX8_argumentCount_0 : decode cX8_argumentCount 0 = .ok (.aload_n 0, 1) := by decide +kernel
theorem dX8_argumentCount_1 : decode cX8_argumentCount 1 = .ok (.getfield 10, 3) := by decide +kernel
theorem dX8_argumentCount_4 : decode cX8_argumentCount 4 = .ok (.getfield 124, 3) := by decide +kernel
theorem dX8_argumentCount_7 : decode cX8_argumentCount 7 = .ok (.iload_n 1, 1) := by decide +kernel
theorem dX8_argumentCount_8 : decode cX8_argumentCount 8 = .ok (.invokevirtual 150, 3) := by decide +kernel
theorem dX8_argumentCount_11 : decode cX8_argumentCount 11 = .ok (.ifCond .eq 18, 3) := by decide +kernel
theorem dX8_argumentCount_14 : decode cX8_argumentCount 14 = .ok (.aload_n 0, 1) := by decide +kernel
theorem dX8_argumentCount_15 : decode cX8_argumentCount 15 = .ok (.getfield 10, 3) := by decide +kernel
theorem dX8_argumentCount_18 : decode cX8_argumentCount 18 = .ok (.getfield 124, 3) := by decide +kernel
theorem dX8_argumentCount_21 : decode cX8_argumentCount 21 = .ok (.getfield 187, 3) := by decide +kernel
theorem dX8_argumentCount_24 : decode cX8_argumentCount 24 = .ok (.iload_n 1, 1) := by decide +kernel
theorem dX8_argumentCount_25 : decode cX8_argumentCount 25 = .ok (.iaload, 1) := by decide +kernel
theorem dX8_argumentCount_26 : decode cX8_argumentCount 26 = .ok (.goto 4, 3) := by decide +kernel
theorem dX8_argumentCount_29 : decode cX8_argumentCount 29 = .ok (.iconst (-1), 1) := by decide +kernel
theorem dX8_argumentCount_30 : decode cX8_argumentCount 30 = .ok (.ireturn, 1) := by decide +kernel
set_option maxRecDepth 20000 in
theorem ggX8_argumentKind_X0_hasArgument : GoodIn wsX8_argumentKind wsX0_hasArgument := goodIn_r _ [7, 8, 9, 10, 11, 6, 12, 13, 28, 29, 30, 31, 32, 33, 34, 35, 36, 37, 38, 39, 40] (by decide +kernel) (by decide +kernel)
set_option maxRecDepth 20000 in
theorem gX8_argumentKind_X0_hasArgument : GoodIn wsX8_argumentKind (wsV RX8 134 RX0 yX0_hasArgument wsX0_hasArgument) := goodIn_app (goodIn_of _ (by decide +kernel)) ggX8_argumentKind_X0_hasArgument
set_option maxRecDepth 20000 in
theorem ggX8_argumentKind_X0_kindOf : GoodIn wsX8_argumentKind wsX0_kindOf := goodIn_r _ [17, 18, 28, 29, 30, 31, 32, 33, 34, 35, 36, 37, 38, 39, 40] (by decide +kernel) (by decide +kernel)
set_option maxRecDepth 20000 in
theorem gX8_argumentKind_X0_kindOf : GoodIn wsX8_argumentKind (wsV RX8 140 RX0 yX0_kindOf wsX0_kindOf) := goodIn_app (goodIn_of _ (by decide +kernel)) ggX8_argumentKind_X0_kindOf
theorem dX8_argumentKind_0 : decode cX8_argumentKind 0 = .ok (.aload_n 0, 1) := by decide +kernel
theorem dX8_argumentKind_1 : decode cX8_argumentKind 1 = .ok (.getfield 10, 3) := by decide +kernel
theorem dX8_argumentKind_4 : decode cX8_argumentKind 4 = .ok (.getfield 124, 3) := by decide +kernel
theorem dX8_argumentKind_7 : decode cX8_argumentKind 7 = .ok (.iload_n 1, 1) := by decide +kernel
theorem dX8_argumentKind_8 : decode cX8_argumentKind 8 = .ok (.iload_n 2, 1) := by decide +kernel
theorem dX8_argumentKind_9 : decode cX8_argumentKind 9 = .ok (.invokevirtual 134, 3) := by decide +kernel
theorem dX8_argumentKind_12 : decode cX8_argumentKind 12 = .ok (.ifCond .eq 18, 3) := by decide +kernel
theorem dX8_argumentKind_15 : decode cX8_argumentKind 15 = .ok (.aload_n 0, 1) := by decide +kernel
theorem dX8_argumentKind_16 : decode cX8_argumentKind 16 = .ok (.getfield 10, 3) := by decide +kernel
theorem dX8_argumentKind_19 : decode cX8_argumentKind 19 = .ok (.getfield 124, 3) := by decide +kernel
theorem dX8_argumentKind_22 : decode cX8_argumentKind 22 = .ok (.iload_n 1, 1) := by decide +kernel
theorem dX8_argumentKind_23 : decode cX8_argumentKind 23 = .ok (.iload_n 2, 1) := by decide +kernel
theorem dX8_argumentKind_24 : decode cX8_argumentKind 24 = .ok (.invokevirtual 140, 3) := by decide +kernel
theorem dX8_argumentKind_27 : decode cX8_argumentKind 27 = .ok (.goto 4, 3) := by decide +kernel
theorem dX8_argumentKind_30 : decode cX8_argumentKind 30 = .ok (.iconst (-1), 1) := by decide +kernel
theorem dX8_argumentKind_31 : decode cX8_argumentKind 31 = .ok (.ireturn, 1) := by decide +kernel
set_option maxRecDepth 20000 in
theorem ggX8_temporaryCount_X0_exists : GoodIn wsX8_temporaryCount wsX0_exists := goodIn_r _ [8, 9, 19, 20, 21, 22, 23, 24, 25, 26, 27, 28, 29, 30, 31] (by decide +kernel) (by decide +kernel)
set_option maxRecDepth 20000 in
theorem gX8_temporaryCount_X0_exists : GoodIn wsX8_temporaryCount (wsV RX8 150 RX0 yX0_exists wsX0_exists) := goodIn_app (goodIn_of _ (by decide +kernel)) ggX8_temporaryCount_X0_exists
theorem dX8_temporaryCount_0 : decode cX8_temporaryCount 0 = .ok (.aload_n 0, 1) := by decide +kernel
theorem dX8_temporaryCount_1 : decode cX8_temporaryCount 1 = .ok (.getfield 10, 3) := by decide +kernel
theorem dX8_temporaryCount_4 : decode cX8_temporaryCount 4 = .ok (.getfield 124, 3) := by decide +kernel
theorem dX8_temporaryCount_7 : decode cX8_temporaryCount 7 = .ok (.iload_n 1, 1) := by decide +kernel
theorem dX8_temporaryCount_8 : decode cX8_temporaryCount 8 = .ok (.invokevirtual 150, 3) := by decide +kernel
theorem dX8_temporaryCount_11 : decode cX8_temporaryCount 11 = .ok (.ifCond .eq 18, 3) := by decide +kernel
theorem dX8_temporaryCount_14 : decode cX8_temporaryCount 14 = .ok (.aload_n 0, 1) := by decide +kernel
theorem dX8_temporaryCount_15 : decode cX8_temporaryCount 15 = .ok (.getfield 10, 3) := by decide +kernel
theorem dX8_temporaryCount_18 : decode cX8_temporaryCount 18 = .ok (.getfield 124, 3) := by decide +kernel
theorem dX8_temporaryCount_21 : decode cX8_temporaryCount 21 = .ok (.getfield 190, 3) := by decide +kernel
theorem dX8_temporaryCount_24 : decode cX8_temporaryCount 24 = .ok (.iload_n 1, 1) := by decide +kernel
theorem dX8_temporaryCount_25 : decode cX8_temporaryCount 25 = .ok (.iaload, 1) := by decide +kernel
theorem dX8_temporaryCount_26 : decode cX8_temporaryCount 26 = .ok (.goto 4, 3) := by decide +kernel
theorem dX8_temporaryCount_29 : decode cX8_temporaryCount 29 = .ok (.iconst (-1), 1) := by decide +kernel
theorem dX8_temporaryCount_30 : decode cX8_temporaryCount 30 = .ok (.ireturn, 1) := by decide +kernel
set_option maxRecDepth 20000 in
theorem ggX8_startChange_X5_exists : GoodIn wsX8_startChange wsX5_exists := goodIn_r _ [8, 9, 81, 82, 83, 84, 85, 86] (by decide +kernel) (by decide +kernel)
set_option maxRecDepth 20000 in
theorem gX8_startChange_X5_exists : GoodIn wsX8_startChange (wsV RX8 163 RX5 yX5_exists wsX5_exists) := goodIn_app (goodIn_of _ (by decide +kernel)) ggX8_startChange_X5_exists
set_option maxRecDepth 20000 in
theorem ggX8_startChange_X6_familyOf : GoodIn wsX8_startChange wsX6_familyOf := goodIn_r _ [14, 15, 16, 17, 18, 19, 20, 21, 22, 23, 24, 25, 7, 26, 9, 27, 28, 29, 30, 31, 32, 33, 34, 35, 36, 37, 38, 39, 40, 41, 42, 78, 79, 80, 81, 82, 83, 84, 85, 86, 87, 88, 89] (by decide +kernel) (by decide +kernel)
set_option maxRecDepth 20000 in
theorem gX8_startChange_X6_familyOf : GoodIn wsX8_startChange (wsV RX8 164 RX6 yX6_familyOf wsX6_familyOf) := goodIn_app (goodIn_of _ (by decide +kernel)) ggX8_startChange_X6_familyOf
set_option maxRecDepth 20000 in
theorem ggX8_startChange_X1_start : GoodIn wsX8_startChange wsX1_start := goodIn_r _ [47, 48, 49, 50, 51, 52, 53, 54, 55, 56, 57, 58, 7, 59, 42, 60, 61, 62, 63, 64, 20, 21, 22, 90, 91, 92, 93, 94, 95, 96, 97, 98, 99, 81, 82, 83, 84, 85, 86] (by decide +kernel) (by decide +kernel)
set_option maxRecDepth 20000 in
theorem gX8_startChange_X1_start : GoodIn wsX8_startChange (wsV RX8 193 RX1 yX1_start wsX1_start) := goodIn_app (goodIn_of _ (by decide +kernel)) ggX8_startChange_X1_start
set_option maxRecDepth 20000 in
theorem ggX8_startChange_J6_bitCount_0f7a4 : GoodIn wsX8_startChange wsJ6_bitCount_0f7a4 := goodIn_r _ [68, 69, 70, 71] (by decide +kernel) (by decide +kernel)
set_option maxRecDepth 20000 in
theorem gX8_startChange_J6_bitCount_0f7a4 : GoodIn wsX8_startChange (va_wsS RX8 158 yJ6_bitCount_0f7a4 wsJ6_bitCount_0f7a4) := goodIn_app (goodIn_of _ (by decide +kernel)) ggX8_startChange_J6_bitCount_0f7a4
theorem dX8_startChange_0 : decode cX8_startChange 0 = .ok (.aload_n 0, 1) := by decide +kernel
theorem dX8_startChange_1 : decode cX8_startChange 1 = .ok (.getfield 10, 3) := by decide +kernel
theorem dX8_startChange_4 : decode cX8_startChange 4 = .ok (.getfield 66, 3) := by decide +kernel
theorem dX8_startChange_7 : decode cX8_startChange 7 = .ok (.iload_n 1, 1) := by decide +kernel
theorem dX8_startChange_8 : decode cX8_startChange 8 = .ok (.invokevirtual 163, 3) := by decide +kernel
theorem dX8_startChange_11 : decode cX8_startChange 11 = .ok (.ifCond .ne 5, 3) := by decide +kernel
theorem dX8_startChange_14 : decode cX8_startChange 14 = .ok (.iconst (-1), 1) := by decide +kernel
theorem dX8_startChange_15 : decode cX8_startChange 15 = .ok (.ireturn, 1) := by decide +kernel
theorem dX8_startChange_16 : decode cX8_startChange 16 = .ok (.aload_n 0, 1) := by decide +kernel
theorem dX8_startChange_17 : decode cX8_startChange 17 = .ok (.getfield 10, 3) := by decide +kernel
theorem dX8_startChange_20 : decode cX8_startChange 20 = .ok (.iload_n 1, 1) := by decide +kernel
theorem dX8_startChange_21 : decode cX8_startChange 21 = .ok (.invokevirtual 164, 3) := by decide +kernel
theorem dX8_startChange_24 : decode cX8_startChange 24 = .ok (.istore_n 2, 1) := by decide +kernel
theorem dX8_startChange_25 : decode cX8_startChange 25 = .ok (.aload_n 0, 1) := by decide +kernel
theorem dX8_startChange_26 : decode cX8_startChange 26 = .ok (.getfield 19, 3) := by decide +kernel
theorem dX8_startChange_29 : decode cX8_startChange 29 = .ok (.aload_n 0, 1) := by decide +kernel
theorem dX8_startChange_30 : decode cX8_startChange 30 = .ok (.getfield 10, 3) := by decide +kernel
theorem dX8_startChange_33 : decode cX8_startChange 33 = .ok (.getfield 66, 3) := by decide +kernel
theorem dX8_startChange_36 : decode cX8_startChange 36 = .ok (.iload_n 1, 1) := by decide +kernel
theorem dX8_startChange_37 : decode cX8_startChange 37 = .ok (.iload_n 2, 1) := by decide +kernel
theorem dX8_startChange_38 : decode cX8_startChange 38 = .ok (.invokevirtual 193, 3) := by decide +kernel
theorem dX8_startChange_41 : decode cX8_startChange 41 = .ok (.iload_n 2, 1) := by decide +kernel
theorem dX8_startChange_42 : decode cX8_startChange 42 = .ok (.invokestatic 158, 3) := by decide +kernel
theorem dX8_startChange_45 : decode cX8_startChange 45 = .ok (.ireturn, 1) := by decide +kernel
set_option maxRecDepth 20000 in
theorem ggX8_keepParameter_X8_contains : GoodIn wsX8_keepParameter wsX8_contains := goodIn_r _ [11] (by decide +kernel) (by decide +kernel)
set_option maxRecDepth 20000 in
theorem gX8_keepParameter_X8_contains : GoodIn wsX8_keepParameter (va_wsS RX8 207 yX8_contains wsX8_contains) := goodIn_app (goodIn_of _ (by decide +kernel)) ggX8_keepParameter_X8_contains
set_option maxRecDepth 20000 in
theorem ggX8_keepParameter_X1_keep : GoodIn wsX8_keepParameter wsX1_keep := goodIn_r _ [16, 17, 18, 19, 20, 10, 21, 22, 23, 24, 25, 26, 27, 28, 29, 30, 31, 32, 33, 34, 35, 15, 36, 37, 38, 39, 46, 47, 48, 49, 50, 51, 52, 53, 54, 55, 59, 60, 61, 62, 63, 64] (by decide +kernel) (by decide +kernel)
set_option maxRecDepth 20000 in
theorem gX8_keepParameter_X1_keep : GoodIn wsX8_keepParameter (wsV RX8 211 RX1 yX1_keep wsX1_keep) := goodIn_app (goodIn_of _ (by decide +kernel)) ggX8_keepParameter_X1_keep
theorem dX8_keepParameter_0 : decode cX8_keepParameter 0 = .ok (.aload_n 0, 1) := by decide +kernel
theorem dX8_keepParameter_1 : decode cX8_keepParameter 1 = .ok (.getfield 19, 3) := by decide +kernel
theorem dX8_keepParameter_4 : decode cX8_keepParameter 4 = .ok (.getfield 197, 3) := by decide +kernel
theorem dX8_keepParameter_7 : decode cX8_keepParameter 7 = .ok (.ifCond .ne 6, 3) := by decide +kernel
theorem dX8_keepParameter_10 : decode cX8_keepParameter 10 = .ok (.bipush (-2), 2) := by decide +kernel
theorem dX8_keepParameter_12 : decode cX8_keepParameter 12 = .ok (.ireturn, 1) := by decide +kernel
theorem dX8_keepParameter_13 : decode cX8_keepParameter 13 = .ok (.iload_n 1, 1) := by decide +kernel
theorem dX8_keepParameter_14 : decode cX8_keepParameter 14 = .ok (.ifCond .lt 14, 3) := by decide +kernel
theorem dX8_keepParameter_17 : decode cX8_keepParameter 17 = .ok (.iload_n 1, 1) := by decide +kernel
theorem dX8_keepParameter_18 : decode cX8_keepParameter 18 = .ok (.aload_n 0, 1) := by decide +kernel
theorem dX8_keepParameter_19 : decode cX8_keepParameter 19 = .ok (.getfield 19, 3) := by decide +kernel
theorem dX8_keepParameter_22 : decode cX8_keepParameter 22 = .ok (.getfield 201, 3) := by decide +kernel
theorem dX8_keepParameter_25 : decode cX8_keepParameter 25 = .ok (.if_icmp .lt 5, 3) := by decide +kernel
theorem dX8_keepParameter_28 : decode cX8_keepParameter 28 = .ok (.iconst (-1), 1) := by decide +kernel
theorem dX8_keepParameter_29 : decode cX8_keepParameter 29 = .ok (.ireturn, 1) := by decide +kernel
theorem dX8_keepParameter_30 : decode cX8_keepParameter 30 = .ok (.aload_n 0, 1) := by decide +kernel
theorem dX8_keepParameter_31 : decode cX8_keepParameter 31 = .ok (.getfield 19, 3) := by decide +kernel
theorem dX8_keepParameter_34 : decode cX8_keepParameter 34 = .ok (.getfield 204, 3) := by decide +kernel
theorem dX8_keepParameter_37 : decode cX8_keepParameter 37 = .ok (.iload_n 1, 1) := by decide +kernel
theorem dX8_keepParameter_38 : decode cX8_keepParameter 38 = .ok (.invokestatic 207, 3) := by decide +kernel
theorem dX8_keepParameter_41 : decode cX8_keepParameter 41 = .ok (.ifCond .eq 6, 3) := by decide +kernel
theorem dX8_keepParameter_44 : decode cX8_keepParameter 44 = .ok (.bipush (-2), 2) := by decide +kernel
theorem dX8_keepParameter_46 : decode cX8_keepParameter 46 = .ok (.ireturn, 1) := by decide +kernel
theorem dX8_keepParameter_47 : decode cX8_keepParameter 47 = .ok (.aload_n 0, 1) := by decide +kernel
theorem dX8_keepParameter_48 : decode cX8_keepParameter 48 = .ok (.getfield 19, 3) := by decide +kernel
theorem dX8_keepParameter_51 : decode cX8_keepParameter 51 = .ok (.getfield 210, 3) := by decide +kernel
theorem dX8_keepParameter_54 : decode cX8_keepParameter 54 = .ok (.iconst 5, 1) := by decide +kernel
theorem dX8_keepParameter_55 : decode cX8_keepParameter 55 = .ok (.if_icmp .lt 6, 3) := by decide +kernel
theorem dX8_keepParameter_58 : decode cX8_keepParameter 58 = .ok (.bipush (-3), 2) := by decide +kernel
theorem dX8_keepParameter_60 : decode cX8_keepParameter 60 = .ok (.ireturn, 1) := by decide +kernel
theorem dX8_keepParameter_61 : decode cX8_keepParameter 61 = .ok (.aload_n 0, 1) := by decide +kernel
theorem dX8_keepParameter_62 : decode cX8_keepParameter 62 = .ok (.getfield 19, 3) := by decide +kernel
theorem dX8_keepParameter_65 : decode cX8_keepParameter 65 = .ok (.aload_n 0, 1) := by decide +kernel
theorem dX8_keepParameter_66 : decode cX8_keepParameter 66 = .ok (.getfield 10, 3) := by decide +kernel
theorem dX8_keepParameter_69 : decode cX8_keepParameter 69 = .ok (.getfield 66, 3) := by decide +kernel
theorem dX8_keepParameter_72 : decode cX8_keepParameter 72 = .ok (.iload_n 1, 1) := by decide +kernel
theorem dX8_keepParameter_73 : decode cX8_keepParameter 73 = .ok (.invokevirtual 211, 3) := by decide +kernel
theorem dX8_keepParameter_76 : decode cX8_keepParameter 76 = .ok (.ireturn, 1) := by decide +kernel
set_option maxRecDepth 20000 in
theorem ggX8_insertParameter_X8_isValue : GoodIn wsX8_insertParameter wsX8_isValue := goodIn_r _ [7] (by decide +kernel) (by decide +kernel)
set_option maxRecDepth 20000 in
theorem gX8_insertParameter_X8_isValue : GoodIn wsX8_insertParameter (va_wsS RX8 215 yX8_isValue wsX8_isValue) := goodIn_app (goodIn_of _ (by decide +kernel)) ggX8_insertParameter_X8_isValue
set_option maxRecDepth 20000 in
theorem ggX8_insertParameter_X1_insert : GoodIn wsX8_insertParameter wsX1_insert := goodIn_r _ [12, 13, 14, 15, 16, 11, 17, 18, 6, 19, 20, 21, 22, 23, 24, 25, 26, 27, 28, 29, 36, 37, 38, 39, 40, 41, 42, 43, 44, 45] (by decide +kernel) (by decide +kernel)
set_option maxRecDepth 20000 in
theorem gX8_insertParameter_X1_insert : GoodIn wsX8_insertParameter (wsV RX8 218 RX1 yX1_insert wsX1_insert) := goodIn_app (goodIn_of _ (by decide +kernel)) ggX8_insertParameter_X1_insert
theorem dX8_insertParameter_0 : decode cX8_insertParameter 0 = .ok (.iload_n 1, 1) := by decide +kernel
theorem dX8_insertParameter_1 : decode cX8_insertParameter 1 = .ok (.invokestatic 215, 3) := by decide +kernel
theorem dX8_insertParameter_4 : decode cX8_insertParameter 4 = .ok (.ifCond .ne 5, 3) := by decide +kernel
theorem dX8_insertParameter_7 : decode cX8_insertParameter 7 = .ok (.iconst (-1), 1) := by decide +kernel
theorem dX8_insertParameter_8 : decode cX8_insertParameter 8 = .ok (.ireturn, 1) := by decide +kernel
theorem dX8_insertParameter_9 : decode cX8_insertParameter 9 = .ok (.aload_n 0, 1) := by decide +kernel
theorem dX8_insertParameter_10 : decode cX8_insertParameter 10 = .ok (.getfield 19, 3) := by decide +kernel
theorem dX8_insertParameter_13 : decode cX8_insertParameter 13 = .ok (.getfield 197, 3) := by decide +kernel
theorem dX8_insertParameter_16 : decode cX8_insertParameter 16 = .ok (.ifCond .ne 6, 3) := by decide +kernel
theorem dX8_insertParameter_19 : decode cX8_insertParameter 19 = .ok (.bipush (-2), 2) := by decide +kernel
theorem dX8_insertParameter_21 : decode cX8_insertParameter 21 = .ok (.ireturn, 1) := by decide +kernel
theorem dX8_insertParameter_22 : decode cX8_insertParameter 22 = .ok (.aload_n 0, 1) := by decide +kernel
theorem dX8_insertParameter_23 : decode cX8_insertParameter 23 = .ok (.getfield 19, 3) := by decide +kernel
theorem dX8_insertParameter_26 : decode cX8_insertParameter 26 = .ok (.getfield 210, 3) := by decide +kernel
theorem dX8_insertParameter_29 : decode cX8_insertParameter 29 = .ok (.iconst 5, 1) := by decide +kernel
theorem dX8_insertParameter_30 : decode cX8_insertParameter 30 = .ok (.if_icmp .lt 6, 3) := by decide +kernel
theorem dX8_insertParameter_33 : decode cX8_insertParameter 33 = .ok (.bipush (-3), 2) := by decide +kernel
theorem dX8_insertParameter_35 : decode cX8_insertParameter 35 = .ok (.ireturn, 1) := by decide +kernel
theorem dX8_insertParameter_36 : decode cX8_insertParameter 36 = .ok (.aload_n 0, 1) := by decide +kernel
theorem dX8_insertParameter_37 : decode cX8_insertParameter 37 = .ok (.getfield 19, 3) := by decide +kernel
theorem dX8_insertParameter_40 : decode cX8_insertParameter 40 = .ok (.iload_n 1, 1) := by decide +kernel
theorem dX8_insertParameter_41 : decode cX8_insertParameter 41 = .ok (.invokevirtual 218, 3) := by decide +kernel
theorem dX8_insertParameter_44 : decode cX8_insertParameter 44 = .ok (.ireturn, 1) := by decide +kernel
set_option maxRecDepth 20000 in
theorem ggX8_clashingMethod_X6_clashOf : GoodIn wsX8_clashingMethod wsX6_clashOf := goodIn_r _ [8, 9, 10, 11, 12, 13, 14, 15, 16, 17, 18, 19, 20, 21, 22, 23, 24, 25, 26, 27, 28, 29, 30, 31, 32, 33, 34, 35, 36, 37, 38, 39, 40, 41, 42, 43, 60, 61, 62, 50, 51, 52, 53, 54, 55, 56, 57, 58, 59, 63, 64, 65, 66, 67, 68, 69, 70, 71] (by decide +kernel) (by decide +kernel)
set_option maxRecDepth 20000 in
theorem gX8_clashingMethod_X6_clashOf : GoodIn wsX8_clashingMethod (wsV RX8 221 RX6 yX6_clashOf wsX6_clashOf) := goodIn_app (goodIn_of _ (by decide +kernel)) ggX8_clashingMethod_X6_clashOf
theorem dX8_clashingMethod_0 : decode cX8_clashingMethod 0 = .ok (.aload_n 0, 1) := by decide +kernel
theorem dX8_clashingMethod_1 : decode cX8_clashingMethod 1 = .ok (.getfield 19, 3) := by decide +kernel
theorem dX8_clashingMethod_4 : decode cX8_clashingMethod 4 = .ok (.getfield 197, 3) := by decide +kernel
theorem dX8_clashingMethod_7 : decode cX8_clashingMethod 7 = .ok (.ifCond .eq 17, 3) := by decide +kernel
theorem dX8_clashingMethod_10 : decode cX8_clashingMethod 10 = .ok (.aload_n 0, 1) := by decide +kernel
theorem dX8_clashingMethod_11 : decode cX8_clashingMethod 11 = .ok (.getfield 10, 3) := by decide +kernel
theorem dX8_clashingMethod_14 : decode cX8_clashingMethod 14 = .ok (.aload_n 0, 1) := by decide +kernel
theorem dX8_clashingMethod_15 : decode cX8_clashingMethod 15 = .ok (.getfield 19, 3) := by decide +kernel
theorem dX8_clashingMethod_18 : decode cX8_clashingMethod 18 = .ok (.invokevirtual 221, 3) := by decide +kernel
theorem dX8_clashingMethod_21 : decode cX8_clashingMethod 21 = .ok (.goto 5, 3) := by decide +kernel
theorem dX8_clashingMethod_24 : decode cX8_clashingMethod 24 = .ok (.bipush (-2), 2) := by decide +kernel
theorem dX8_clashingMethod_26 : decode cX8_clashingMethod 26 = .ok (.ireturn, 1) := by decide +kernel
set_option maxRecDepth 20000 in
theorem ggX8_hoistedArguments_X0_exists : GoodIn wsX8_hoistedArguments wsX0_exists := goodIn_r _ [10, 11, 91, 92, 93, 94, 95, 96, 97, 98, 99, 100, 101, 102, 103] (by decide +kernel) (by decide +kernel)
set_option maxRecDepth 20000 in
theorem gX8_hoistedArguments_X0_exists : GoodIn wsX8_hoistedArguments (wsV RX8 150 RX0 yX0_exists wsX0_exists) := goodIn_app (goodIn_of _ (by decide +kernel)) ggX8_hoistedArguments_X0_exists
set_option maxRecDepth 20000 in
theorem ggX8_hoistedArguments_X8_rewrittenCalls : GoodIn wsX8_hoistedArguments wsX8_rewrittenCalls := goodIn_r _ [16, 1, 2, 3, 17, 18, 19, 20, 21, 9, 22, 11, 23, 24, 15, 25, 26, 27, 72, 73, 74, 75, 76, 77, 78, 79, 80, 81, 82, 83, 84, 85, 86, 87, 88, 89, 90, 91, 92, 93, 94, 95, 96, 97, 98, 99, 100, 101, 102, 103] (by decide +kernel) (by decide +kernel)
set_option maxRecDepth 20000 in
theorem gX8_hoistedArguments_X8_rewrittenCalls : GoodIn wsX8_hoistedArguments (wsV RX8 225 RX8 yX8_rewrittenCalls wsX8_rewrittenCalls) := goodIn_app (goodIn_of _ (by decide +kernel)) ggX8_hoistedArguments_X8_rewrittenCalls
set_option maxRecDepth 20000 in
theorem ggX8_hoistedArguments_X8_contains : GoodIn wsX8_hoistedArguments wsX8_contains := goodIn_r _ [25] (by decide +kernel) (by decide +kernel)
set_option maxRecDepth 20000 in
theorem gX8_hoistedArguments_X8_contains : GoodIn wsX8_hoistedArguments (va_wsS RX8 207 yX8_contains wsX8_contains) := goodIn_app (goodIn_of _ (by decide +kernel)) ggX8_hoistedArguments_X8_contains
set_option maxRecDepth 20000 in
theorem ggX8_hoistedArguments_X4_choose : GoodIn wsX8_hoistedArguments wsX4_choose := goodIn_r _ [33, 34, 35, 36, 37, 32, 38, 39, 40, 41, 42, 43, 44, 45, 46, 47, 48, 9, 49, 50, 51, 52, 53, 54, 26, 15, 27, 55, 56, 57, 58, 59, 60, 61, 62, 63, 64, 65, 24, 25, 66, 67, 68, 69, 70, 71, 104, 105, 106, 107, 91, 92, 93, 94, 95, 96, 97, 98, 99, 100, 101, 102, 103, 81, 82, 83, 84, 85, 86, 87, 88, 89, 90] (by decide +kernel) (by decide +kernel)
set_option maxRecDepth 20000 in
theorem gX8_hoistedArguments_X4_choose : GoodIn wsX8_hoistedArguments (wsV RX8 229 RX4 yX4_choose wsX4_choose) := goodIn_app (goodIn_of _ (by decide +kernel)) ggX8_hoistedArguments_X4_choose
theorem dX8_hoistedArguments_0 : decode cX8_hoistedArguments 0 = .ok (.aload_n 0, 1) := by decide +kernel
theorem dX8_hoistedArguments_1 : decode cX8_hoistedArguments 1 = .ok (.getfield 10, 3) := by decide +kernel
theorem dX8_hoistedArguments_4 : decode cX8_hoistedArguments 4 = .ok (.getfield 124, 3) := by decide +kernel
theorem dX8_hoistedArguments_7 : decode cX8_hoistedArguments 7 = .ok (.iload_n 1, 1) := by decide +kernel
theorem dX8_hoistedArguments_8 : decode cX8_hoistedArguments 8 = .ok (.invokevirtual 150, 3) := by decide +kernel
theorem dX8_hoistedArguments_11 : decode cX8_hoistedArguments 11 = .ok (.ifCond .ne 5, 3) := by decide +kernel
theorem dX8_hoistedArguments_14 : decode cX8_hoistedArguments 14 = .ok (.iconst (-1), 1) := by decide +kernel
theorem dX8_hoistedArguments_15 : decode cX8_hoistedArguments 15 = .ok (.ireturn, 1) := by decide +kernel
theorem dX8_hoistedArguments_16 : decode cX8_hoistedArguments 16 = .ok (.aload_n 0, 1) := by decide +kernel
theorem dX8_hoistedArguments_17 : decode cX8_hoistedArguments 17 = .ok (.getfield 19, 3) := by decide +kernel
theorem dX8_hoistedArguments_20 : decode cX8_hoistedArguments 20 = .ok (.getfield 197, 3) := by decide +kernel
theorem dX8_hoistedArguments_23 : decode cX8_hoistedArguments 23 = .ok (.ifCond .ne 6, 3) := by decide +kernel
theorem dX8_hoistedArguments_26 : decode cX8_hoistedArguments 26 = .ok (.bipush (-2), 2) := by decide +kernel
theorem dX8_hoistedArguments_28 : decode cX8_hoistedArguments 28 = .ok (.ireturn, 1) := by decide +kernel
theorem dX8_hoistedArguments_29 : decode cX8_hoistedArguments 29 = .ok (.aload_n 0, 1) := by decide +kernel
theorem dX8_hoistedArguments_30 : decode cX8_hoistedArguments 30 = .ok (.invokevirtual 225, 3) := by decide +kernel
theorem dX8_hoistedArguments_33 : decode cX8_hoistedArguments 33 = .ok (.iload_n 1, 1) := by decide +kernel
theorem dX8_hoistedArguments_34 : decode cX8_hoistedArguments 34 = .ok (.invokestatic 207, 3) := by decide +kernel
theorem dX8_hoistedArguments_37 : decode cX8_hoistedArguments 37 = .ok (.istore_n 2, 1) := by decide +kernel
theorem dX8_hoistedArguments_38 : decode cX8_hoistedArguments 38 = .ok (.iload_n 2, 1) := by decide +kernel
theorem dX8_hoistedArguments_39 : decode cX8_hoistedArguments 39 = .ok (.ifCond .eq 25, 3) := by decide +kernel
theorem dX8_hoistedArguments_42 : decode cX8_hoistedArguments 42 = .ok (.aload_n 0, 1) := by decide +kernel
theorem dX8_hoistedArguments_43 : decode cX8_hoistedArguments 43 = .ok (.getfield 40, 3) := by decide +kernel
theorem dX8_hoistedArguments_46 : decode cX8_hoistedArguments 46 = .ok (.aload_n 0, 1) := by decide +kernel
theorem dX8_hoistedArguments_47 : decode cX8_hoistedArguments 47 = .ok (.getfield 10, 3) := by decide +kernel
theorem dX8_hoistedArguments_50 : decode cX8_hoistedArguments 50 = .ok (.getfield 124, 3) := by decide +kernel
theorem dX8_hoistedArguments_53 : decode cX8_hoistedArguments 53 = .ok (.iload_n 1, 1) := by decide +kernel
theorem dX8_hoistedArguments_54 : decode cX8_hoistedArguments 54 = .ok (.aload_n 0, 1) := by decide +kernel
theorem dX8_hoistedArguments_55 : decode cX8_hoistedArguments 55 = .ok (.getfield 19, 3) := by decide +kernel
theorem dX8_hoistedArguments_58 : decode cX8_hoistedArguments 58 = .ok (.invokevirtual 229, 3) := by decide +kernel
theorem dX8_hoistedArguments_61 : decode cX8_hoistedArguments 61 = .ok (.goto 4, 3) := by decide +kernel
theorem dX8_hoistedArguments_64 : decode cX8_hoistedArguments 64 = .ok (.iconst 0, 1) := by decide +kernel
theorem dX8_hoistedArguments_65 : decode cX8_hoistedArguments 65 = .ok (.ireturn, 1) := by decide +kernel
set_option maxRecDepth 20000 in
theorem ggX8_bridgeTypes_X6_bridgesFor : GoodIn wsX8_bridgeTypes wsX6_bridgesFor := goodIn_r _ [9, 10, 11, 12, 13, 14, 15, 16, 17, 18, 19, 20, 21, 22, 23, 24, 25, 26, 27, 28, 29, 30, 31, 32, 33, 34, 35, 36, 37, 38, 39, 40, 41, 8, 42, 43, 44, 45, 46, 63, 64, 65, 66, 67, 68, 69, 70, 71, 72, 73, 74, 75, 76, 77, 78, 79, 80, 81, 82, 83, 84, 85, 86, 87] (by decide +kernel) (by decide +kernel)
set_option maxRecDepth 20000 in
theorem gX8_bridgeTypes_X6_bridgesFor : GoodIn wsX8_bridgeTypes (wsV RX8 236 RX6 yX6_bridgesFor wsX6_bridgesFor) := goodIn_app (goodIn_of _ (by decide +kernel)) ggX8_bridgeTypes_X6_bridgesFor
theorem dX8_bridgeTypes_0 : decode cX8_bridgeTypes 0 = .ok (.aload_n 0, 1) := by decide +kernel
theorem dX8_bridgeTypes_1 : decode cX8_bridgeTypes 1 = .ok (.getfield 19, 3) := by decide +kernel
theorem dX8_bridgeTypes_4 : decode cX8_bridgeTypes 4 = .ok (.getfield 197, 3) := by decide +kernel
theorem dX8_bridgeTypes_7 : decode cX8_bridgeTypes 7 = .ok (.ifCond .eq 20, 3) := by decide +kernel
theorem dX8_bridgeTypes_10 : decode cX8_bridgeTypes 10 = .ok (.aload_n 0, 1) := by decide +kernel
theorem dX8_bridgeTypes_11 : decode cX8_bridgeTypes 11 = .ok (.getfield 10, 3) := by decide +kernel
theorem dX8_bridgeTypes_14 : decode cX8_bridgeTypes 14 = .ok (.aload_n 0, 1) := by decide +kernel
theorem dX8_bridgeTypes_15 : decode cX8_bridgeTypes 15 = .ok (.getfield 19, 3) := by decide +kernel
theorem dX8_bridgeTypes_18 : decode cX8_bridgeTypes 18 = .ok (.getfield 233, 3) := by decide +kernel
theorem dX8_bridgeTypes_21 : decode cX8_bridgeTypes 21 = .ok (.invokevirtual 236, 3) := by decide +kernel
theorem dX8_bridgeTypes_24 : decode cX8_bridgeTypes 24 = .ok (.goto 5, 3) := by decide +kernel
theorem dX8_bridgeTypes_27 : decode cX8_bridgeTypes 27 = .ok (.bipush (-2), 2) := by decide +kernel
theorem dX8_bridgeTypes_29 : decode cX8_bridgeTypes 29 = .ok (.ireturn, 1) := by decide +kernel
set_option maxRecDepth 20000 in
theorem ggX8_applyChange_X6_clashOf : GoodIn wsX8_applyChange wsX6_clashOf := goodIn_r _ [12, 13, 14, 15, 16, 17, 18, 19, 20, 21, 22, 23, 24, 25, 26, 27, 28, 29, 30, 31, 32, 33, 34, 35, 36, 37, 38, 39, 40, 41, 42, 43, 44, 45, 46, 47, 234, 235, 236, 224, 225, 226, 227, 228, 229, 230, 231, 232, 233, 237, 238, 239, 240, 241, 242, 243, 244, 245] (by decide +kernel) (by decide +kernel)
set_option maxRecDepth 20000 in
theorem gX8_applyChange_X6_clashOf : GoodIn wsX8_applyChange (wsV RX8 221 RX6 yX6_clashOf wsX6_clashOf) := goodIn_app (goodIn_of _ (by decide +kernel)) ggX8_applyChange_X6_clashOf
set_option maxRecDepth 20000 in
theorem ggX8_applyChange_X8_breaksFrozenCall : GoodIn wsX8_applyChange wsX8_breaksFrozenCall := goodIn_r _ [51, 3, 5, 1, 52, 53, 54, 55, 56, 57, 58, 59, 60, 61, 62, 26, 27, 28, 29, 30, 63, 64, 65, 66, 67, 68, 69, 70, 218, 219, 220, 221, 222, 223, 234, 235, 236, 224, 225, 226, 227, 228, 229, 230, 231, 232, 233, 246, 247, 248, 249, 250, 251, 252, 253, 254, 255, 256, 257, 258] (by decide +kernel) (by decide +kernel)
set_option maxRecDepth 20000 in
theorem gX8_applyChange_X8_breaksFrozenCall : GoodIn wsX8_applyChange (wsV RX8 239 RX8 yX8_breaksFrozenCall wsX8_breaksFrozenCall) := goodIn_app (goodIn_of _ (by decide +kernel)) ggX8_applyChange_X8_breaksFrozenCall
set_option maxRecDepth 20000 in
theorem ggX8_applyChange_X8_rewrittenCalls : GoodIn wsX8_applyChange wsX8_rewrittenCalls := goodIn_r _ [74, 3, 5, 1, 52, 53, 56, 57, 58, 59, 60, 61, 62, 26, 27, 28, 29, 30, 218, 219, 220, 221, 222, 223, 234, 235, 236, 224, 225, 226, 227, 228, 229, 230, 231, 232, 233, 246, 247, 248, 249, 250, 251, 252, 253, 254, 255, 256, 257, 258] (by decide +kernel) (by decide +kernel)
set_option maxRecDepth 20000 in
theorem gX8_applyChange_X8_rewrittenCalls : GoodIn wsX8_applyChange (wsV RX8 225 RX8 yX8_rewrittenCalls wsX8_rewrittenCalls) := goodIn_app (goodIn_of _ (by decide +kernel)) ggX8_applyChange_X8_rewrittenCalls
set_option maxRecDepth 20000 in
theorem ggX8_applyChange_X8_chooseHoisted : GoodIn wsX8_applyChange wsX8_chooseHoisted := goodIn_r _ [78, 3, 5, 79, 80, 1, 81, 6, 82, 26, 27, 28, 83, 84, 85, 86, 87, 88, 89, 90, 91, 92, 93, 94, 95, 96, 97, 98, 99, 100, 101, 102, 59, 103, 104, 105, 106, 107, 108, 29, 30, 109, 110, 111, 112, 113, 114, 115, 116, 117, 118, 119, 120, 121, 122, 123, 124, 125, 126, 218, 219, 220, 221, 222, 223, 234, 235, 236, 246, 247, 248, 249, 250, 251, 252, 253, 254, 255, 256, 257, 258, 259, 260, 261, 262, 224, 225, 226, 227, 228, 229, 230, 231, 232, 233] (by decide +kernel) (by decide +kernel)
set_option maxRecDepth 20000 in
theorem gX8_applyChange_X8_chooseHoisted : GoodIn wsX8_applyChange (wsV RX8 243 RX8 yX8_chooseHoisted wsX8_chooseHoisted) := goodIn_app (goodIn_of _ (by decide +kernel)) ggX8_applyChange_X8_chooseHoisted
set_option maxRecDepth 20000 in
theorem ggX8_applyChange_X3_remember : GoodIn wsX8_applyChange wsX3_remember := goodIn_r _ [131, 132, 133, 134, 135, 136, 137, 138, 139, 140, 141, 11, 142, 13, 14, 143, 144, 145, 146, 34, 147, 36, 148, 37, 149, 27, 150, 151, 152, 153, 154, 155, 156, 157, 158, 22, 159, 24, 25, 42, 43, 160, 161, 162, 163, 164, 59, 165, 61, 166, 167, 168, 62, 169, 170, 171, 104, 172, 173, 263, 264, 265, 234, 235, 236, 243, 244, 245, 237, 238, 239, 240, 241, 242, 246, 247, 248, 249, 250, 251, 252, 253, 254, 255, 256, 257, 258] (by decide +kernel) (by decide +kernel)
set_option maxRecDepth 20000 in
theorem gX8_applyChange_X3_remember : GoodIn wsX8_applyChange (wsV RX8 246 RX3 yX3_remember wsX3_remember) := goodIn_app (goodIn_of _ (by decide +kernel)) ggX8_applyChange_X3_remember
set_option maxRecDepth 20000 in
theorem ggX8_applyChange_X0_rewrite : GoodIn wsX8_applyChange wsX0_rewrite := goodIn_r _ [177, 61, 26, 27, 28, 178, 179, 180, 59, 181, 169, 170, 173, 182, 101, 102, 103, 104, 183, 184, 185, 186, 172, 187, 188, 189, 190, 191, 192, 193, 194, 195, 171, 196, 197, 198, 199, 200, 246, 247, 248, 249, 250, 251, 252, 253, 254, 255, 256, 257, 258, 224, 225, 226, 227, 228, 229, 230, 231, 232, 233] (by decide +kernel) (by decide +kernel)
set_option maxRecDepth 20000 in
theorem gX8_applyChange_X0_rewrite : GoodIn wsX8_applyChange (wsV RX8 250 RX0 yX0_rewrite wsX0_rewrite) := goodIn_app (goodIn_of _ (by decide +kernel)) ggX8_applyChange_X0_rewrite
set_option maxRecDepth 20000 in
theorem ggX8_applyChange_X5_replaceParameters : GoodIn wsX8_applyChange wsX5_replaceParameters := goodIn_r _ [204, 24, 205, 43, 206, 207, 208, 26, 27, 28, 209, 210, 211, 22, 212, 160, 161, 237, 238, 239, 240, 241, 242, 224, 225, 226, 227, 228, 229, 230, 231, 232, 233] (by decide +kernel) (by decide +kernel)
set_option maxRecDepth 20000 in
theorem gX8_applyChange_X5_replaceParameters : GoodIn wsX8_applyChange (wsV RX8 254 RX5 yX5_replaceParameters wsX5_replaceParameters) := goodIn_app (goodIn_of _ (by decide +kernel)) ggX8_applyChange_X5_replaceParameters
set_option maxRecDepth 20000 in
theorem ggX8_applyChange_X1_close : GoodIn wsX8_applyChange wsX1_close := goodIn_r _ [216, 217, 224, 225, 226, 227, 228, 229, 230, 231, 232, 233] (by decide +kernel) (by decide +kernel)
set_option maxRecDepth 20000 in
theorem gX8_applyChange_X1_close : GoodIn wsX8_applyChange (wsV RX8 258 RX1 yX1_close wsX1_close) := goodIn_app (goodIn_of _ (by decide +kernel)) ggX8_applyChange_X1_close
set_option maxRecDepth 20000 in
theorem ggX8_applyChange_J6_bitCount_0f7a4 : GoodIn wsX8_applyChange wsJ6_bitCount_0f7a4 := goodIn_r _ [112, 113, 114, 115] (by decide +kernel) (by decide +kernel)
set_option maxRecDepth 20000 in
theorem gX8_applyChange_J6_bitCount_0f7a4 : GoodIn wsX8_applyChange (va_wsS RX8 158 yJ6_bitCount_0f7a4 wsJ6_bitCount_0f7a4) := goodIn_app (goodIn_of _ (by decide +kernel)) ggX8_applyChange_J6_bitCount_0f7a4
theorem dX8_applyChange_0 : decode cX8_applyChange 0 = .ok (.aload_n 0, 1) := by decide +kernel
theorem dX8_applyChange_1 : decode cX8_applyChange 1 = .ok (.getfield 19, 3) := by decide +kernel
theorem dX8_applyChange_4 : decode cX8_applyChange 4 = .ok (.getfield 197, 3) := by decide +kernel
theorem dX8_applyChange_7 : decode cX8_applyChange 7 = .ok (.ifCond .eq 26, 3) := by decide +kernel
theorem dX8_applyChange_10 : decode cX8_applyChange 10 = .ok (.aload_n 0, 1) := by decide +kernel
theorem dX8_applyChange_11 : decode cX8_applyChange 11 = .ok (.getfield 10, 3) := by decide +kernel
theorem dX8_applyChange_14 : decode cX8_applyChange 14 = .ok (.aload_n 0, 1) := by decide +kernel
theorem dX8_applyChange_15 : decode cX8_applyChange 15 = .ok (.getfield 19, 3) := by decide +kernel
theorem dX8_applyChange_18 : decode cX8_applyChange 18 = .ok (.invokevirtual 221, 3) := by decide +kernel
theorem dX8_applyChange_21 : decode cX8_applyChange 21 = .ok (.bipush (-9), 2) := by decide +kernel
theorem dX8_applyChange_23 : decode cX8_applyChange 23 = .ok (.if_icmp .ne 10, 3) := by decide +kernel
theorem dX8_applyChange_26 : decode cX8_applyChange 26 = .ok (.aload_n 0, 1) := by decide +kernel
theorem dX8_applyChange_27 : decode cX8_applyChange 27 = .ok (.invokevirtual 239, 3) := by decide +kernel
theorem dX8_applyChange_30 : decode cX8_applyChange 30 = .ok (.ifCond .eq 6, 3) := by decide +kernel
theorem dX8_applyChange_33 : decode cX8_applyChange 33 = .ok (.bipush (-2), 2) := by decide +kernel
theorem dX8_applyChange_35 : decode cX8_applyChange 35 = .ok (.ireturn, 1) := by decide +kernel
theorem dX8_applyChange_36 : decode cX8_applyChange 36 = .ok (.aload_n 0, 1) := by decide +kernel
theorem dX8_applyChange_37 : decode cX8_applyChange 37 = .ok (.invokevirtual 225, 3) := by decide +kernel
theorem dX8_applyChange_40 : decode cX8_applyChange 40 = .ok (.istore_n 1, 1) := by decide +kernel
theorem dX8_applyChange_41 : decode cX8_applyChange 41 = .ok (.aload_n 0, 1) := by decide +kernel
theorem dX8_applyChange_42 : decode cX8_applyChange 42 = .ok (.iload_n 1, 1) := by decide +kernel
theorem dX8_applyChange_43 : decode cX8_applyChange 43 = .ok (.invokevirtual 243, 3) := by decide +kernel
theorem dX8_applyChange_46 : decode cX8_applyChange 46 = .ok (.ifCond .ne 6, 3) := by decide +kernel
theorem dX8_applyChange_49 : decode cX8_applyChange 49 = .ok (.bipush (-3), 2) := by decide +kernel
theorem dX8_applyChange_51 : decode cX8_applyChange 51 = .ok (.ireturn, 1) := by decide +kernel
theorem dX8_applyChange_52 : decode cX8_applyChange 52 = .ok (.aload_n 0, 1) := by decide +kernel
theorem dX8_applyChange_53 : decode cX8_applyChange 53 = .ok (.getfield 26, 3) := by decide +kernel
theorem dX8_applyChange_56 : decode cX8_applyChange 56 = .ok (.aload_n 0, 1) := by decide +kernel
theorem dX8_applyChange_57 : decode cX8_applyChange 57 = .ok (.getfield 10, 3) := by decide +kernel
theorem dX8_applyChange_60 : decode cX8_applyChange 60 = .ok (.invokevirtual 246, 3) := by decide +kernel
theorem dX8_applyChange_63 : decode cX8_applyChange 63 = .ok (.aload_n 0, 1) := by decide +kernel
theorem dX8_applyChange_64 : decode cX8_applyChange 64 = .ok (.getfield 10, 3) := by decide +kernel
theorem dX8_applyChange_67 : decode cX8_applyChange 67 = .ok (.getfield 124, 3) := by decide +kernel
theorem dX8_applyChange_70 : decode cX8_applyChange 70 = .ok (.iload_n 1, 1) := by decide +kernel
theorem dX8_applyChange_71 : decode cX8_applyChange 71 = .ok (.aload_n 0, 1) := by decide +kernel
theorem dX8_applyChange_72 : decode cX8_applyChange 72 = .ok (.getfield 44, 3) := by decide +kernel
theorem dX8_applyChange_75 : decode cX8_applyChange 75 = .ok (.aload_n 0, 1) := by decide +kernel
theorem dX8_applyChange_76 : decode cX8_applyChange 76 = .ok (.getfield 19, 3) := by decide +kernel
theorem dX8_applyChange_79 : decode cX8_applyChange 79 = .ok (.invokevirtual 250, 3) := by decide +kernel
theorem dX8_applyChange_82 : decode cX8_applyChange 82 = .ok (.aload_n 0, 1) := by decide +kernel
theorem dX8_applyChange_83 : decode cX8_applyChange 83 = .ok (.getfield 10, 3) := by decide +kernel
theorem dX8_applyChange_86 : decode cX8_applyChange 86 = .ok (.getfield 66, 3) := by decide +kernel
theorem dX8_applyChange_89 : decode cX8_applyChange 89 = .ok (.aload_n 0, 1) := by decide +kernel
theorem dX8_applyChange_90 : decode cX8_applyChange 90 = .ok (.getfield 19, 3) := by decide +kernel
theorem dX8_applyChange_93 : decode cX8_applyChange 93 = .ok (.invokevirtual 254, 3) := by decide +kernel
theorem dX8_applyChange_96 : decode cX8_applyChange 96 = .ok (.aload_n 0, 1) := by decide +kernel
theorem dX8_applyChange_97 : decode cX8_applyChange 97 = .ok (.getfield 19, 3) := by decide +kernel
theorem dX8_applyChange_100 : decode cX8_applyChange 100 = .ok (.invokevirtual 258, 3) := by decide +kernel
theorem dX8_applyChange_103 : decode cX8_applyChange 103 = .ok (.iload_n 1, 1) := by decide +kernel
theorem dX8_applyChange_104 : decode cX8_applyChange 104 = .ok (.invokestatic 158, 3) := by decide +kernel
theorem dX8_applyChange_107 : decode cX8_applyChange 107 = .ok (.ireturn, 1) := by decide +kernel
set_option maxRecDepth 20000 in
theorem ggX8_undo_X1_close : GoodIn wsX8_undo wsX1_close := goodIn_r _ [9, 10, 82, 83, 84, 85, 86, 87, 88, 89, 90, 91] (by decide +kernel) (by decide +kernel)
set_option maxRecDepth 20000 in
theorem gX8_undo_X1_close : GoodIn wsX8_undo (wsV RX8 258 RX1 yX1_close wsX1_close) := goodIn_app (goodIn_of _ (by decide +kernel)) ggX8_undo_X1_close
set_option maxRecDepth 20000 in
theorem ggX8_undo_X3_goBack : GoodIn wsX8_undo wsX3_goBack := goodIn_r _ [15, 16, 17, 18, 19, 20, 21, 22, 23, 24, 25, 26, 27, 28, 29, 30, 31, 32, 33, 34, 35, 36, 37, 38, 39, 40, 41, 42, 43, 44, 45, 46, 47, 48, 49, 50, 51, 52, 53, 54, 55, 56, 57, 58, 59, 60, 61, 62, 63, 64, 65, 66, 67, 68, 69, 70, 71, 72, 79, 80, 81, 92, 93, 94, 95, 96, 97, 98, 99, 100, 101, 102, 103, 104, 105, 106, 107, 108, 109, 110, 111, 112, 113, 114, 115, 116] (by decide +kernel) (by decide +kernel)
set_option maxRecDepth 20000 in
theorem gX8_undo_X3_goBack : GoodIn wsX8_undo (wsV RX8 262 RX3 yX3_goBack wsX3_goBack) := goodIn_app (goodIn_of _ (by decide +kernel)) ggX8_undo_X3_goBack
theorem dX8_undo_0 : decode cX8_undo 0 = .ok (.aload_n 0, 1) := by decide +kernel
theorem dX8_undo_1 : decode cX8_undo 1 = .ok (.getfield 26, 3) := by decide +kernel
theorem dX8_undo_4 : decode cX8_undo 4 = .ok (.getfield 261, 3) := by decide +kernel
theorem dX8_undo_7 : decode cX8_undo 7 = .ok (.ifCond .ne 6, 3) := by decide +kernel
theorem dX8_undo_10 : decode cX8_undo 10 = .ok (.bipush (-2), 2) := by decide +kernel
theorem dX8_undo_12 : decode cX8_undo 12 = .ok (.ireturn, 1) := by decide +kernel
theorem dX8_undo_13 : decode cX8_undo 13 = .ok (.aload_n 0, 1) := by decide +kernel
theorem dX8_undo_14 : decode cX8_undo 14 = .ok (.getfield 19, 3) := by decide +kernel
theorem dX8_undo_17 : decode cX8_undo 17 = .ok (.invokevirtual 258, 3) := by decide +kernel
theorem dX8_undo_20 : decode cX8_undo 20 = .ok (.aload_n 0, 1) := by decide +kernel
theorem dX8_undo_21 : decode cX8_undo 21 = .ok (.getfield 26, 3) := by decide +kernel
theorem dX8_undo_24 : decode cX8_undo 24 = .ok (.aload_n 0, 1) := by decide +kernel
theorem dX8_undo_25 : decode cX8_undo 25 = .ok (.getfield 10, 3) := by decide +kernel
theorem dX8_undo_28 : decode cX8_undo 28 = .ok (.invokevirtual 262, 3) := by decide +kernel
theorem dX8_undo_31 : decode cX8_undo 31 = .ok (.ireturn, 1) := by decide +kernel
set_option maxRecDepth 20000 in
theorem ggX8_beginEdit_X3_remember : GoodIn wsX8_beginEdit wsX3_remember := goodIn_r _ [8, 9, 10, 11, 12, 13, 14, 15, 16, 17, 18, 19, 20, 21, 22, 23, 24, 25, 26, 27, 28, 29, 30, 31, 32, 33, 34, 35, 36, 37, 38, 39, 40, 41, 42, 43, 44, 45, 46, 47, 48, 49, 50, 51, 52, 53, 54, 55, 56, 57, 58, 59, 60, 61, 62, 63, 64, 65, 66, 79, 80, 81, 82, 83, 84, 85, 86, 87, 88, 89, 90, 91, 92, 93, 94, 95, 96, 97, 98, 99, 100, 101, 102, 103, 104, 105, 106] (by decide +kernel) (by decide +kernel)
set_option maxRecDepth 20000 in
theorem gX8_beginEdit_X3_remember : GoodIn wsX8_beginEdit (wsV RX8 246 RX3 yX3_remember wsX3_remember) := goodIn_app (goodIn_of _ (by decide +kernel)) ggX8_beginEdit_X3_remember
set_option maxRecDepth 20000 in
theorem ggX8_beginEdit_X1_close : GoodIn wsX8_beginEdit wsX1_close := goodIn_r _ [71, 72, 107, 108, 109, 110, 111, 112, 113, 114, 115, 116] (by decide +kernel) (by decide +kernel)
set_option maxRecDepth 20000 in
theorem gX8_beginEdit_X1_close : GoodIn wsX8_beginEdit (wsV RX8 258 RX1 yX1_close wsX1_close) := goodIn_app (goodIn_of _ (by decide +kernel)) ggX8_beginEdit_X1_close
theorem dX8_beginEdit_0 : decode cX8_beginEdit 0 = .ok (.aload_n 0, 1) := by decide +kernel
theorem dX8_beginEdit_1 : decode cX8_beginEdit 1 = .ok (.getfield 26, 3) := by decide +kernel
theorem dX8_beginEdit_4 : decode cX8_beginEdit 4 = .ok (.aload_n 0, 1) := by decide +kernel
theorem dX8_beginEdit_5 : decode cX8_beginEdit 5 = .ok (.getfield 10, 3) := by decide +kernel
theorem dX8_beginEdit_8 : decode cX8_beginEdit 8 = .ok (.invokevirtual 246, 3) := by decide +kernel
theorem dX8_beginEdit_11 : decode cX8_beginEdit 11 = .ok (.aload_n 0, 1) := by decide +kernel
theorem dX8_beginEdit_12 : decode cX8_beginEdit 12 = .ok (.getfield 19, 3) := by decide +kernel
theorem dX8_beginEdit_15 : decode cX8_beginEdit 15 = .ok (.invokevirtual 258, 3) := by decide +kernel
theorem dX8_beginEdit_18 : decode cX8_beginEdit 18 = .ok (.return_, 1) := by decide +kernel
set_option maxRecDepth 20000 in
theorem ggX8_rewrittenCalls_X0_withTargetIn : GoodIn wsX8_rewrittenCalls wsX0_withTargetIn := goodIn_r _ [10, 11, 12, 13, 14, 15, 16, 17, 37, 38, 39, 40, 41, 42, 43, 44, 45, 46, 47, 48, 49] (by decide +kernel) (by decide +kernel)
set_option maxRecDepth 20000 in
theorem gX8_rewrittenCalls_X0_withTargetIn : GoodIn wsX8_rewrittenCalls (wsV RX8 266 RX0 yX0_withTargetIn wsX0_withTargetIn) := goodIn_app (goodIn_of _ (by decide +kernel)) ggX8_rewrittenCalls_X0_withTargetIn
theorem dX8_rewrittenCalls_0 : decode cX8_rewrittenCalls 0 = .ok (.aload_n 0, 1) := by decide +kernel
theorem dX8_rewrittenCalls_1 : decode cX8_rewrittenCalls 1 = .ok (.getfield 10, 3) := by decide +kernel
theorem dX8_rewrittenCalls_4 : decode cX8_rewrittenCalls 4 = .ok (.getfield 124, 3) := by decide +kernel
theorem dX8_rewrittenCalls_7 : decode cX8_rewrittenCalls 7 = .ok (.aload_n 0, 1) := by decide +kernel
theorem dX8_rewrittenCalls_8 : decode cX8_rewrittenCalls 8 = .ok (.getfield 19, 3) := by decide +kernel
theorem dX8_rewrittenCalls_11 : decode cX8_rewrittenCalls 11 = .ok (.getfield 233, 3) := by decide +kernel
theorem dX8_rewrittenCalls_14 : decode cX8_rewrittenCalls 14 = .ok (.invokevirtual 266, 3) := by decide +kernel
theorem dX8_rewrittenCalls_17 : decode cX8_rewrittenCalls 17 = .ok (.aload_n 0, 1) := by decide +kernel
theorem dX8_rewrittenCalls_18 : decode cX8_rewrittenCalls 18 = .ok (.getfield 10, 3) := by decide +kernel
theorem dX8_rewrittenCalls_21 : decode cX8_rewrittenCalls 21 = .ok (.getfield 124, 3) := by decide +kernel
theorem dX8_rewrittenCalls_24 : decode cX8_rewrittenCalls 24 = .ok (.getfield 155, 3) := by decide +kernel
theorem dX8_rewrittenCalls_27 : decode cX8_rewrittenCalls 27 = .ok (.iconst (-1), 1) := by decide +kernel
theorem dX8_rewrittenCalls_28 : decode cX8_rewrittenCalls 28 = .ok (.ixor, 1) := by decide +kernel
theorem dX8_rewrittenCalls_29 : decode cX8_rewrittenCalls 29 = .ok (.iand, 1) := by decide +kernel
theorem dX8_rewrittenCalls_30 : decode cX8_rewrittenCalls 30 = .ok (.ireturn, 1) := by decide +kernel
set_option maxRecDepth 20000 in
theorem ggX8_breaksFrozenCall_X0_withTargetIn : GoodIn wsX8_breaksFrozenCall wsX0_withTargetIn := goodIn_r _ [12, 13, 14, 15, 16, 17, 18, 19, 47, 48, 49, 50, 51, 52, 53, 54, 55, 56, 57, 58, 59] (by decide +kernel) (by decide +kernel)
set_option maxRecDepth 20000 in
theorem gX8_breaksFrozenCall_X0_withTargetIn : GoodIn wsX8_breaksFrozenCall (wsV RX8 266 RX0 yX0_withTargetIn wsX0_withTargetIn) := goodIn_app (goodIn_of _ (by decide +kernel)) ggX8_breaksFrozenCall_X0_withTargetIn
set_option maxRecDepth 20000 in
theorem ggX8_breaksFrozenCall_X1_keepsWholeList : GoodIn wsX8_breaksFrozenCall wsX1_keepsWholeList := goodIn_r _ [24, 25, 26, 27, 37, 38, 39, 40, 41, 42, 43, 44, 45, 46] (by decide +kernel) (by decide +kernel)
set_option maxRecDepth 20000 in
theorem gX8_breaksFrozenCall_X1_keepsWholeList : GoodIn wsX8_breaksFrozenCall (wsV RX8 269 RX1 yX1_keepsWholeList wsX1_keepsWholeList) := goodIn_app (goodIn_of _ (by decide +kernel)) ggX8_breaksFrozenCall_X1_keepsWholeList
theorem dX8_breaksFrozenCall_0 : decode cX8_breaksFrozenCall 0 = .ok (.aload_n 0, 1) := by decide +kernel
theorem dX8_breaksFrozenCall_1 : decode cX8_breaksFrozenCall 1 = .ok (.getfield 10, 3) := by decide +kernel
theorem dX8_breaksFrozenCall_4 : decode cX8_breaksFrozenCall 4 = .ok (.getfield 124, 3) := by decide +kernel
theorem dX8_breaksFrozenCall_7 : decode cX8_breaksFrozenCall 7 = .ok (.aload_n 0, 1) := by decide +kernel
theorem dX8_breaksFrozenCall_8 : decode cX8_breaksFrozenCall 8 = .ok (.getfield 19, 3) := by decide +kernel
theorem dX8_breaksFrozenCall_11 : decode cX8_breaksFrozenCall 11 = .ok (.getfield 233, 3) := by decide +kernel
theorem dX8_breaksFrozenCall_14 : decode cX8_breaksFrozenCall 14 = .ok (.invokevirtual 266, 3) := by decide +kernel
theorem dX8_breaksFrozenCall_17 : decode cX8_breaksFrozenCall 17 = .ok (.aload_n 0, 1) := by decide +kernel
theorem dX8_breaksFrozenCall_18 : decode cX8_breaksFrozenCall 18 = .ok (.getfield 10, 3) := by decide +kernel
theorem dX8_breaksFrozenCall_21 : decode cX8_breaksFrozenCall 21 = .ok (.getfield 124, 3) := by decide +kernel
theorem dX8_breaksFrozenCall_24 : decode cX8_breaksFrozenCall 24 = .ok (.getfield 155, 3) := by decide +kernel
theorem dX8_breaksFrozenCall_27 : decode cX8_breaksFrozenCall 27 = .ok (.iand, 1) := by decide +kernel
theorem dX8_breaksFrozenCall_28 : decode cX8_breaksFrozenCall 28 = .ok (.ifCond .eq 7, 3) := by decide +kernel
theorem dX8_breaksFrozenCall_31 : decode cX8_breaksFrozenCall 31 = .ok (.iconst 1, 1) := by decide +kernel
theorem dX8_breaksFrozenCall_32 : decode cX8_breaksFrozenCall 32 = .ok (.goto 4, 3) := by decide +kernel
theorem dX8_breaksFrozenCall_35 : decode cX8_breaksFrozenCall 35 = .ok (.iconst 0, 1) := by decide +kernel
theorem dX8_breaksFrozenCall_36 : decode cX8_breaksFrozenCall 36 = .ok (.istore_n 1, 1) := by decide +kernel
theorem dX8_breaksFrozenCall_37 : decode cX8_breaksFrozenCall 37 = .ok (.iload_n 1, 1) := by decide +kernel
theorem dX8_breaksFrozenCall_38 : decode cX8_breaksFrozenCall 38 = .ok (.ifCond .eq 34, 3) := by decide +kernel
theorem dX8_breaksFrozenCall_41 : decode cX8_breaksFrozenCall 41 = .ok (.aload_n 0, 1) := by decide +kernel
theorem dX8_breaksFrozenCall_42 : decode cX8_breaksFrozenCall 42 = .ok (.getfield 19, 3) := by decide +kernel
theorem dX8_breaksFrozenCall_45 : decode cX8_breaksFrozenCall 45 = .ok (.getfield 210, 3) := by decide +kernel
theorem dX8_breaksFrozenCall_48 : decode cX8_breaksFrozenCall 48 = .ok (.aload_n 0, 1) := by decide +kernel
theorem dX8_breaksFrozenCall_49 : decode cX8_breaksFrozenCall 49 = .ok (.getfield 19, 3) := by decide +kernel
theorem dX8_breaksFrozenCall_52 : decode cX8_breaksFrozenCall 52 = .ok (.getfield 201, 3) := by decide +kernel
theorem dX8_breaksFrozenCall_55 : decode cX8_breaksFrozenCall 55 = .ok (.if_icmp .ne 17, 3) := by decide +kernel
theorem dX8_breaksFrozenCall_58 : decode cX8_breaksFrozenCall 58 = .ok (.aload_n 0, 1) := by decide +kernel
theorem dX8_breaksFrozenCall_59 : decode cX8_breaksFrozenCall 59 = .ok (.getfield 19, 3) := by decide +kernel
theorem dX8_breaksFrozenCall_62 : decode cX8_breaksFrozenCall 62 = .ok (.invokevirtual 269, 3) := by decide +kernel
theorem dX8_breaksFrozenCall_65 : decode cX8_breaksFrozenCall 65 = .ok (.ifCond .ne 7, 3) := by decide +kernel
theorem dX8_breaksFrozenCall_68 : decode cX8_breaksFrozenCall 68 = .ok (.iconst 1, 1) := by decide +kernel
theorem dX8_breaksFrozenCall_69 : decode cX8_breaksFrozenCall 69 = .ok (.goto 4, 3) := by decide +kernel
theorem dX8_breaksFrozenCall_72 : decode cX8_breaksFrozenCall 72 = .ok (.iconst 0, 1) := by decide +kernel
theorem dX8_breaksFrozenCall_73 : decode cX8_breaksFrozenCall 73 = .ok (.ireturn, 1) := by decide +kernel
set_option maxRecDepth 20000 in
theorem ggX8_chooseHoisted_X8_contains : GoodIn wsX8_chooseHoisted wsX8_contains := goodIn_r _ [11] (by decide +kernel) (by decide +kernel)
set_option maxRecDepth 20000 in
theorem gX8_chooseHoisted_X8_contains : GoodIn wsX8_chooseHoisted (va_wsS RX8 207 yX8_contains wsX8_contains) := goodIn_app (goodIn_of _ (by decide +kernel)) ggX8_chooseHoisted_X8_contains
set_option maxRecDepth 20000 in
theorem ggX8_chooseHoisted_X4_choose : GoodIn wsX8_chooseHoisted wsX4_choose := goodIn_r _ [16, 17, 18, 19, 20, 15, 21, 22, 23, 24, 25, 26, 27, 28, 29, 30, 31, 32, 33, 34, 35, 36, 37, 38, 39, 10, 40, 41, 42, 43, 44, 45, 46, 47, 48, 49, 50, 51, 9, 11, 52, 53, 54, 55, 56, 57, 81, 82, 83, 84, 68, 69, 70, 71, 72, 73, 74, 75, 76, 77, 78, 79, 80, 85, 86, 87, 88, 89, 90, 91, 92, 93, 94] (by decide +kernel) (by decide +kernel)
set_option maxRecDepth 20000 in
theorem gX8_chooseHoisted_X4_choose : GoodIn wsX8_chooseHoisted (wsV RX8 229 RX4 yX4_choose wsX4_choose) := goodIn_app (goodIn_of _ (by decide +kernel)) ggX8_chooseHoisted_X4_choose
set_option maxRecDepth 20000 in
theorem ggX8_chooseHoisted_J6_bitCount_0f7a4 : GoodIn wsX8_chooseHoisted wsJ6_bitCount_0f7a4 := goodIn_r _ [44, 45, 46, 47] (by decide +kernel) (by decide +kernel)
set_option maxRecDepth 20000 in
theorem gX8_chooseHoisted_J6_bitCount_0f7a4 : GoodIn wsX8_chooseHoisted (va_wsS RX8 158 yJ6_bitCount_0f7a4 wsJ6_bitCount_0f7a4) := goodIn_app (goodIn_of _ (by decide +kernel)) ggX8_chooseHoisted_J6_bitCount_0f7a4
theorem dX8_chooseHoisted_0 : decode cX8_chooseHoisted 0 = .ok (.aload_n 0, 1) := by decide +kernel
theorem dX8_chooseHoisted_1 : decode cX8_chooseHoisted 1 = .ok (.getfield 10, 3) := by decide +kernel
theorem dX8_chooseHoisted_4 : decode cX8_chooseHoisted 4 = .ok (.getfield 124, 3) := by decide +kernel
theorem dX8_chooseHoisted_7 : decode cX8_chooseHoisted 7 = .ok (.astore_n 2, 1) := by decide +kernel
theorem dX8_chooseHoisted_8 : decode cX8_chooseHoisted 8 = .ok (.iconst 0, 1) := by decide +kernel
theorem dX8_chooseHoisted_9 : decode cX8_chooseHoisted 9 = .ok (.istore_n 3, 1) := by decide +kernel
theorem dX8_chooseHoisted_10 : decode cX8_chooseHoisted 10 = .ok (.iload_n 3, 1) := by decide +kernel
theorem dX8_chooseHoisted_11 : decode cX8_chooseHoisted 11 = .ok (.aload_n 2, 1) := by decide +kernel
theorem dX8_chooseHoisted_12 : decode cX8_chooseHoisted 12 = .ok (.getfield 128, 3) := by decide +kernel
theorem dX8_chooseHoisted_15 : decode cX8_chooseHoisted 15 = .ok (.if_icmp .ge 59, 3) := by decide +kernel
theorem dX8_chooseHoisted_18 : decode cX8_chooseHoisted 18 = .ok (.iload_n 1, 1) := by decide +kernel
theorem dX8_chooseHoisted_19 : decode cX8_chooseHoisted 19 = .ok (.iload_n 3, 1) := by decide +kernel
theorem dX8_chooseHoisted_20 : decode cX8_chooseHoisted 20 = .ok (.invokestatic 207, 3) := by decide +kernel
theorem dX8_chooseHoisted_23 : decode cX8_chooseHoisted 23 = .ok (.ifCond .eq 45, 3) := by decide +kernel
theorem dX8_chooseHoisted_26 : decode cX8_chooseHoisted 26 = .ok (.aload_n 0, 1) := by decide +kernel
theorem dX8_chooseHoisted_27 : decode cX8_chooseHoisted 27 = .ok (.getfield 40, 3) := by decide +kernel
theorem dX8_chooseHoisted_30 : decode cX8_chooseHoisted 30 = .ok (.aload_n 2, 1) := by decide +kernel
theorem dX8_chooseHoisted_31 : decode cX8_chooseHoisted 31 = .ok (.iload_n 3, 1) := by decide +kernel
theorem dX8_chooseHoisted_32 : decode cX8_chooseHoisted 32 = .ok (.aload_n 0, 1) := by decide +kernel
theorem dX8_chooseHoisted_33 : decode cX8_chooseHoisted 33 = .ok (.getfield 19, 3) := by decide +kernel
theorem dX8_chooseHoisted_36 : decode cX8_chooseHoisted 36 = .ok (.invokevirtual 229, 3) := by decide +kernel
theorem dX8_chooseHoisted_39 : decode cX8_chooseHoisted 39 = .ok (.istore 4, 2) := by decide +kernel
theorem dX8_chooseHoisted_41 : decode cX8_chooseHoisted 41 = .ok (.aload_n 2, 1) := by decide +kernel
theorem dX8_chooseHoisted_42 : decode cX8_chooseHoisted 42 = .ok (.getfield 190, 3) := by decide +kernel
theorem dX8_chooseHoisted_45 : decode cX8_chooseHoisted 45 = .ok (.iload_n 3, 1) := by decide +kernel
theorem dX8_chooseHoisted_46 : decode cX8_chooseHoisted 46 = .ok (.iaload, 1) := by decide +kernel
theorem dX8_chooseHoisted_47 : decode cX8_chooseHoisted 47 = .ok (.iload 4, 2) := by decide +kernel
theorem dX8_chooseHoisted_49 : decode cX8_chooseHoisted 49 = .ok (.invokestatic 158, 3) := by decide +kernel
theorem dX8_chooseHoisted_52 : decode cX8_chooseHoisted 52 = .ok (.iadd, 1) := by decide +kernel
theorem dX8_chooseHoisted_53 : decode cX8_chooseHoisted 53 = .ok (.bipush 8, 2) := by decide +kernel
theorem dX8_chooseHoisted_55 : decode cX8_chooseHoisted 55 = .ok (.if_icmp .le 5, 3) := by decide +kernel
theorem dX8_chooseHoisted_58 : decode cX8_chooseHoisted 58 = .ok (.iconst 0, 1) := by decide +kernel
theorem dX8_chooseHoisted_59 : decode cX8_chooseHoisted 59 = .ok (.ireturn, 1) := by decide +kernel
theorem dX8_chooseHoisted_60 : decode cX8_chooseHoisted 60 = .ok (.aload_n 0, 1) := by decide +kernel
theorem dX8_chooseHoisted_61 : decode cX8_chooseHoisted 61 = .ok (.getfield 44, 3) := by decide +kernel
theorem dX8_chooseHoisted_64 : decode cX8_chooseHoisted 64 = .ok (.iload_n 3, 1) := by decide +kernel
theorem dX8_chooseHoisted_65 : decode cX8_chooseHoisted 65 = .ok (.iload 4, 2) := by decide +kernel
theorem dX8_chooseHoisted_67 : decode cX8_chooseHoisted 67 = .ok (.iastore, 1) := by decide +kernel
theorem dX8_chooseHoisted_68 : decode cX8_chooseHoisted 68 = .ok (.iinc 3 1, 3) := by decide +kernel
theorem dX8_chooseHoisted_71 : decode cX8_chooseHoisted 71 = .ok (.goto (-61), 3) := by decide +kernel
theorem dX8_chooseHoisted_74 : decode cX8_chooseHoisted 74 = .ok (.iconst 1, 1) := by decide +kernel
theorem dX8_chooseHoisted_75 : decode cX8_chooseHoisted 75 = .ok (.ireturn, 1) := by decide +kernel
theorem dX8_bit_0 : decode cX8_bit 0 = .ok (.iconst 1, 1) := by decide +kernel
theorem dX8_bit_1 : decode cX8_bit 1 = .ok (.iload_n 0, 1) := by decide +kernel
theorem dX8_bit_2 : decode cX8_bit 2 = .ok (.ishl, 1) := by decide +kernel
theorem dX8_bit_3 : decode cX8_bit 3 = .ok (.ireturn, 1) := by decide +kernel
theorem dX8_contains_0 : decode cX8_contains 0 = .ok (.iload_n 0, 1) := by decide +kernel
theorem dX8_contains_1 : decode cX8_contains 1 = .ok (.iconst 1, 1) := by decide +kernel
theorem dX8_contains_2 : decode cX8_contains 2 = .ok (.iload_n 1, 1) := by decide +kernel
theorem dX8_contains_3 : decode cX8_contains 3 = .ok (.ishl, 1) := by decide +kernel
theorem dX8_contains_4 : decode cX8_contains 4 = .ok (.iand, 1) := by decide +kernel
theorem dX8_contains_5 : decode cX8_contains 5 = .ok (.ifCond .eq 7, 3) := by decide +kernel
theorem dX8_contains_8 : decode cX8_contains 8 = .ok (.iconst 1, 1) := by decide +kernel
theorem dX8_contains_9 : decode cX8_contains 9 = .ok (.goto 4, 3) := by decide +kernel
theorem dX8_contains_12 : decode cX8_contains 12 = .ok (.iconst 0, 1) := by decide +kernel
theorem dX8_contains_13 : decode cX8_contains 13 = .ok (.ireturn, 1) := by decide +kernel
theorem dX8_isValue_0 : decode cX8_isValue 0 = .ok (.iload_n 0, 1) := by decide +kernel
theorem dX8_isValue_1 : decode cX8_isValue 1 = .ok (.bipush (-99), 2) := by decide +kernel
theorem dX8_isValue_3 : decode cX8_isValue 3 = .ok (.if_icmp .lt 13, 3) := by decide +kernel
theorem dX8_isValue_6 : decode cX8_isValue 6 = .ok (.iload_n 0, 1) := by decide +kernel
theorem dX8_isValue_7 : decode cX8_isValue 7 = .ok (.bipush 99, 2) := by decide +kernel
theorem dX8_isValue_9 : decode cX8_isValue 9 = .ok (.if_icmp .gt 7, 3) := by decide +kernel
theorem dX8_isValue_12 : decode cX8_isValue 12 = .ok (.iconst 1, 1) := by decide +kernel
theorem dX8_isValue_13 : decode cX8_isValue 13 = .ok (.goto 4, 3) := by decide +kernel
theorem dX8_isValue_16 : decode cX8_isValue 16 = .ok (.iconst 0, 1) := by decide +kernel
theorem dX8_isValue_17 : decode cX8_isValue 17 = .ok (.ireturn, 1) := by decide +kernel
theorem dX8_isSignature_0 : decode cX8_isSignature 0 = .ok (.iload_n 0, 1) := by decide +kernel
theorem dX8_isSignature_1 : decode cX8_isSignature 1 = .ok (.ifCond .lt 21, 3) := by decide +kernel
theorem dX8_isSignature_4 : decode cX8_isSignature 4 = .ok (.iload_n 0, 1) := by decide +kernel
theorem dX8_isSignature_5 : decode cX8_isSignature 5 = .ok (.iconst 5, 1) := by decide +kernel
theorem dX8_isSignature_6 : decode cX8_isSignature 6 = .ok (.if_icmp .gt 16, 3) := by decide +kernel
theorem dX8_isSignature_9 : decode cX8_isSignature 9 = .ok (.iload_n 1, 1) := by decide +kernel
theorem dX8_isSignature_10 : decode cX8_isSignature 10 = .ok (.ifCond .lt 12, 3) := by decide +kernel
theorem dX8_isSignature_13 : decode cX8_isSignature 13 = .ok (.iload_n 1, 1) := by decide +kernel
theorem dX8_isSignature_14 : decode cX8_isSignature 14 = .ok (.iconst 5, 1) := by decide +kernel
theorem dX8_isSignature_15 : decode cX8_isSignature 15 = .ok (.if_icmp .gt 7, 3) := by decide +kernel
theorem dX8_isSignature_18 : decode cX8_isSignature 18 = .ok (.iconst 1, 1) := by decide +kernel
theorem dX8_isSignature_19 : decode cX8_isSignature 19 = .ok (.goto 4, 3) := by decide +kernel
theorem dX8_isSignature_22 : decode cX8_isSignature 22 = .ok (.iconst 0, 1) := by decide +kernel
theorem dX8_isSignature_23 : decode cX8_isSignature 23 = .ok (.ireturn, 1) := by decide +kernel
set_option maxRecDepth 20000 in
theorem ggX8_isExpression_X8_isValue : GoodIn wsX8_isExpression wsX8_isValue := goodIn_r _ [4] (by decide +kernel) (by decide +kernel)
set_option maxRecDepth 20000 in
theorem gX8_isExpression_X8_isValue : GoodIn wsX8_isExpression (va_wsS RX8 215 yX8_isValue wsX8_isValue) := goodIn_app (goodIn_of _ (by decide +kernel)) ggX8_isExpression_X8_isValue
theorem dX8_isExpression_0 : decode cX8_isExpression 0 = .ok (.iload_n 0, 1) := by decide +kernel
theorem dX8_isExpression_1 : decode cX8_isExpression 1 = .ok (.ifCond .ne 10, 3) := by decide +kernel
theorem dX8_isExpression_4 : decode cX8_isExpression 4 = .ok (.iload_n 1, 1) := by decide +kernel
theorem dX8_isExpression_5 : decode cX8_isExpression 5 = .ok (.invokestatic 215, 3) := by decide +kernel
theorem dX8_isExpression_8 : decode cX8_isExpression 8 = .ok (.goto 22, 3) := by decide +kernel
theorem dX8_isExpression_11 : decode cX8_isExpression 11 = .ok (.iload_n 0, 1) := by decide +kernel
theorem dX8_isExpression_12 : decode cX8_isExpression 12 = .ok (.iconst 1, 1) := by decide +kernel
theorem dX8_isExpression_13 : decode cX8_isExpression 13 = .ok (.if_icmp .eq 8, 3) := by decide +kernel
theorem dX8_isExpression_16 : decode cX8_isExpression 16 = .ok (.iload_n 0, 1) := by decide +kernel
theorem dX8_isExpression_17 : decode cX8_isExpression 17 = .ok (.iconst 2, 1) := by decide +kernel
theorem dX8_isExpression_18 : decode cX8_isExpression 18 = .ok (.if_icmp .ne 11, 3) := by decide +kernel
theorem dX8_isExpression_21 : decode cX8_isExpression 21 = .ok (.iload_n 1, 1) := by decide +kernel
theorem dX8_isExpression_22 : decode cX8_isExpression 22 = .ok (.ifCond .ne 7, 3) := by decide +kernel
theorem dX8_isExpression_25 : decode cX8_isExpression 25 = .ok (.iconst 1, 1) := by decide +kernel
theorem dX8_isExpression_26 : decode cX8_isExpression 26 = .ok (.goto 4, 3) := by decide +kernel
theorem dX8_isExpression_29 : decode cX8_isExpression 29 = .ok (.iconst 0, 1) := by decide +kernel
theorem dX8_isExpression_30 : decode cX8_isExpression 30 = .ok (.ireturn, 1) := by decide +kernel
theorem dX8_conflict_0 : decode cX8_conflict 0 = .ok (.iload_n 0, 1) := by decide +kernel
theorem dX8_conflict_1 : decode cX8_conflict 1 = .ok (.iconst 1, 1) := by decide +kernel
theorem dX8_conflict_2 : decode cX8_conflict 2 = .ok (.if_icmp .eq 8, 3) := by decide +kernel
theorem dX8_conflict_5 : decode cX8_conflict 5 = .ok (.iload_n 0, 1) := by decide +kernel
theorem dX8_conflict_6 : decode cX8_conflict 6 = .ok (.iconst 2, 1) := by decide +kernel
theorem dX8_conflict_7 : decode cX8_conflict 7 = .ok (.if_icmp .ne 7, 3) := by decide +kernel
theorem dX8_conflict_10 : decode cX8_conflict 10 = .ok (.iconst 1, 1) := by decide +kernel
theorem dX8_conflict_11 : decode cX8_conflict 11 = .ok (.goto 4, 3) := by decide +kernel
theorem dX8_conflict_14 : decode cX8_conflict 14 = .ok (.iconst 0, 1) := by decide +kernel
theorem dX8_conflict_15 : decode cX8_conflict 15 = .ok (.istore_n 2, 1) := by decide +kernel
theorem dX8_conflict_16 : decode cX8_conflict 16 = .ok (.iload_n 1, 1) := by decide +kernel
theorem dX8_conflict_17 : decode cX8_conflict 17 = .ok (.iconst 1, 1) := by decide +kernel
theorem dX8_conflict_18 : decode cX8_conflict 18 = .ok (.if_icmp .eq 8, 3) := by decide +kernel
theorem dX8_conflict_21 : decode cX8_conflict 21 = .ok (.iload_n 1, 1) := by decide +kernel
theorem dX8_conflict_22 : decode cX8_conflict 22 = .ok (.iconst 2, 1) := by decide +kernel
theorem dX8_conflict_23 : decode cX8_conflict 23 = .ok (.if_icmp .ne 7, 3) := by decide +kernel
theorem dX8_conflict_26 : decode cX8_conflict 26 = .ok (.iconst 1, 1) := by decide +kernel
theorem dX8_conflict_27 : decode cX8_conflict 27 = .ok (.goto 4, 3) := by decide +kernel
theorem dX8_conflict_30 : decode cX8_conflict 30 = .ok (.iconst 0, 1) := by decide +kernel
theorem dX8_conflict_31 : decode cX8_conflict 31 = .ok (.istore_n 3, 1) := by decide +kernel
theorem dX8_conflict_32 : decode cX8_conflict 32 = .ok (.iload_n 2, 1) := by decide +kernel
theorem dX8_conflict_33 : decode cX8_conflict 33 = .ok (.ifCond .eq 21, 3) := by decide +kernel
theorem dX8_conflict_36 : decode cX8_conflict 36 = .ok (.iload_n 3, 1) := by decide +kernel
theorem dX8_conflict_37 : decode cX8_conflict 37 = .ok (.ifCond .eq 17, 3) := by decide +kernel
theorem dX8_conflict_40 : decode cX8_conflict 40 = .ok (.iload_n 0, 1) := by decide +kernel
theorem dX8_conflict_41 : decode cX8_conflict 41 = .ok (.iconst 2, 1) := by decide +kernel
theorem dX8_conflict_42 : decode cX8_conflict 42 = .ok (.if_icmp .eq 8, 3) := by decide +kernel
theorem dX8_conflict_45 : decode cX8_conflict 45 = .ok (.iload_n 1, 1) := by decide +kernel
theorem dX8_conflict_46 : decode cX8_conflict 46 = .ok (.iconst 2, 1) := by decide +kernel
theorem dX8_conflict_47 : decode cX8_conflict 47 = .ok (.if_icmp .ne 7, 3) := by decide +kernel
theorem dX8_conflict_50 : decode cX8_conflict 50 = .ok (.iconst 1, 1) := by decide +kernel
theorem dX8_conflict_51 : decode cX8_conflict 51 = .ok (.goto 4, 3) := by decide +kernel
theorem dX8_conflict_54 : decode cX8_conflict 54 = .ok (.iconst 0, 1) := by decide +kernel
theorem dX8_conflict_55 : decode cX8_conflict 55 = .ok (.ireturn, 1) := by decide +kernel
theorem dX8_copyRow_0 : decode cX8_copyRow 0 = .ok (.aload_n 0, 1) := by decide +kernel
theorem dX8_copyRow_1 : decode cX8_copyRow 1 = .ok (.iconst 0, 1) := by decide +kernel
theorem dX8_copyRow_2 : decode cX8_copyRow 2 = .ok (.aload_n 1, 1) := by decide +kernel
theorem dX8_copyRow_3 : decode cX8_copyRow 3 = .ok (.iconst 0, 1) := by decide +kernel
theorem dX8_copyRow_4 : decode cX8_copyRow 4 = .ok (.aload_n 0, 1) := by decide +kernel
theorem dX8_copyRow_5 : decode cX8_copyRow 5 = .ok (.arraylength, 1) := by decide +kernel
theorem dX8_copyRow_6 : decode cX8_copyRow 6 = .ok (.aload_n 1, 1) := by decide +kernel
theorem dX8_copyRow_7 : decode cX8_copyRow 7 = .ok (.arraylength, 1) := by decide +kernel
theorem dX8_copyRow_8 : decode cX8_copyRow 8 = .ok (.invokestatic 272, 3) := by decide +kernel
theorem dX8_copyRow_11 : decode cX8_copyRow 11 = .ok (.invokestatic 277, 3) := by decide +kernel
theorem dX8_copyRow_14 : decode cX8_copyRow 14 = .ok (.return_, 1) := by decide +kernel
theorem dX9_init_0 : decode cX9_init 0 = .ok (.aload_n 0, 1) := by decide +kernel
theorem dX9_init_1 : decode cX9_init 1 = .ok (.invokespecial 1, 3) := by decide +kernel
theorem dX9_init_4 : decode cX9_init 4 = .ok (.aload_n 0, 1) := by decide +kernel
theorem dX9_init_5 : decode cX9_init 5 = .ok (.sipush 467, 3) := by decide +kernel
theorem dX9_init_8 : decode cX9_init 8 = .ok (.newarray .int, 2) := by decide +kernel
theorem dX9_init_10 : decode cX9_init 10 = .ok (.putfield 7, 3) := by decide +kernel
theorem dX9_init_13 : decode cX9_init 13 = .ok (.aload_n 0, 1) := by decide +kernel
theorem dX9_init_14 : decode cX9_init 14 = .ok (.sipush 3736, 3) := by decide +kernel
theorem dX9_init_17 : decode cX9_init 17 = .ok (.newarray .int, 2) := by decide +kernel
theorem dX9_init_19 : decode cX9_init 19 = .ok (.putfield 13, 3) := by decide +kernel
theorem dX9_init_22 : decode cX9_init 22 = .ok (.aload_n 0, 1) := by decide +kernel
theorem dX9_init_23 : decode cX9_init 23 = .ok (.bipush (-9), 2) := by decide +kernel
theorem dX9_init_25 : decode cX9_init 25 = .ok (.putfield 16, 3) := by decide +kernel
theorem dX9_init_28 : decode cX9_init 28 = .ok (.aload_n 0, 1) := by decide +kernel
theorem dX9_init_29 : decode cX9_init 29 = .ok (.iconst 5, 1) := by decide +kernel
theorem dX9_init_30 : decode cX9_init 30 = .ok (.newarray .int, 2) := by decide +kernel
theorem dX9_init_32 : decode cX9_init 32 = .ok (.putfield 20, 3) := by decide +kernel
theorem dX9_init_35 : decode cX9_init 35 = .ok (.aload_n 0, 1) := by decide +kernel
theorem dX9_init_36 : decode cX9_init 36 = .ok (.iconst 5, 1) := by decide +kernel
theorem dX9_init_37 : decode cX9_init 37 = .ok (.newarray .int, 2) := by decide +kernel
theorem dX9_init_39 : decode cX9_init 39 = .ok (.putfield 23, 3) := by decide +kernel
theorem dX9_init_42 : decode cX9_init 42 = .ok (.aload_n 0, 1) := by decide +kernel
theorem dX9_init_43 : decode cX9_init 43 = .ok (.iconst 5, 1) := by decide +kernel
theorem dX9_init_44 : decode cX9_init 44 = .ok (.newarray .int, 2) := by decide +kernel
theorem dX9_init_46 : decode cX9_init 46 = .ok (.putfield 26, 3) := by decide +kernel
theorem dX9_init_49 : decode cX9_init 49 = .ok (.aload_n 0, 1) := by decide +kernel
theorem dX9_init_50 : decode cX9_init 50 = .ok (.bipush 8, 2) := by decide +kernel
theorem dX9_init_52 : decode cX9_init 52 = .ok (.newarray .int, 2) := by decide +kernel
theorem dX9_init_54 : decode cX9_init 54 = .ok (.putfield 29, 3) := by decide +kernel
theorem dX9_init_57 : decode cX9_init 57 = .ok (.aload_n 0, 1) := by decide +kernel
theorem dX9_init_58 : decode cX9_init 58 = .ok (.iconst 5, 1) := by decide +kernel
theorem dX9_init_59 : decode cX9_init 59 = .ok (.newarray .int, 2) := by decide +kernel
theorem dX9_init_61 : decode cX9_init 61 = .ok (.putfield 32, 3) := by decide +kernel
theorem dX9_init_64 : decode cX9_init 64 = .ok (.aload_n 0, 1) := by decide +kernel
theorem dX9_init_65 : decode cX9_init 65 = .ok (.iconst 5, 1) := by decide +kernel
theorem dX9_init_66 : decode cX9_init 66 = .ok (.newarray .int, 2) := by decide +kernel
theorem dX9_init_68 : decode cX9_init 68 = .ok (.putfield 35, 3) := by decide +kernel
theorem dX9_init_71 : decode cX9_init 71 = .ok (.aload_n 0, 1) := by decide +kernel
theorem dX9_init_72 : decode cX9_init 72 = .ok (.iconst 5, 1) := by decide +kernel
theorem dX9_init_73 : decode cX9_init 73 = .ok (.newarray .int, 2) := by decide +kernel
theorem dX9_init_75 : decode cX9_init 75 = .ok (.putfield 38, 3) := by decide +kernel
theorem dX9_init_78 : decode cX9_init 78 = .ok (.return_, 1) := by decide +kernel
theorem dX9_in_0 : decode cX9_in 0 = .ok (.iload_n 0, 1) := by decide +kernel
theorem dX9_in_1 : decode cX9_in 1 = .ok (.iload_n 1, 1) := by decide +kernel
theorem dX9_in_2 : decode cX9_in 2 = .ok (.if_icmp .lt 12, 3) := by decide +kernel
theorem dX9_in_5 : decode cX9_in 5 = .ok (.iload_n 0, 1) := by decide +kernel
theorem dX9_in_6 : decode cX9_in 6 = .ok (.iload_n 2, 1) := by decide +kernel
theorem dX9_in_7 : decode cX9_in 7 = .ok (.if_icmp .gt 7, 3) := by decide +kernel
theorem dX9_in_10 : decode cX9_in 10 = .ok (.iconst 1, 1) := by decide +kernel
theorem dX9_in_11 : decode cX9_in 11 = .ok (.goto 4, 3) := by decide +kernel
theorem dX9_in_14 : decode cX9_in 14 = .ok (.iconst 0, 1) := by decide +kernel
theorem dX9_in_15 : decode cX9_in 15 = .ok (.ireturn, 1) := by decide +kernel
theorem dX9_has_0 : decode cX9_has 0 = .ok (.iload_n 0, 1) := by decide +kernel
theorem dX9_has_1 : decode cX9_has 1 = .ok (.iload_n 1, 1) := by decide +kernel
theorem dX9_has_2 : decode cX9_has 2 = .ok (.ishr, 1) := by decide +kernel
theorem dX9_has_3 : decode cX9_has 3 = .ok (.iconst 1, 1) := by decide +kernel
theorem dX9_has_4 : decode cX9_has 4 = .ok (.iand, 1) := by decide +kernel
theorem dX9_has_5 : decode cX9_has 5 = .ok (.iconst 1, 1) := by decide +kernel
theorem dX9_has_6 : decode cX9_has 6 = .ok (.if_icmp .ne 7, 3) := by decide +kernel
theorem dX9_has_9 : decode cX9_has 9 = .ok (.iconst 1, 1) := by decide +kernel
theorem dX9_has_10 : decode cX9_has 10 = .ok (.goto 4, 3) := by decide +kernel
theorem dX9_has_13 : decode cX9_has 13 = .ok (.iconst 0, 1) := by decide +kernel
theorem dX9_has_14 : decode cX9_has 14 = .ok (.ireturn, 1) := by decide +kernel
theorem dX9_edit_0 : decode cX9_edit 0 = .ok (.aload_n 0, 1) := by decide +kernel
theorem dX9_edit_1 : decode cX9_edit 1 = .ok (.bipush (-9), 2) := by decide +kernel
theorem dX9_edit_3 : decode cX9_edit 3 = .ok (.putfield 16, 3) := by decide +kernel
theorem dX9_edit_6 : decode cX9_edit 6 = .ok (.aload_n 0, 1) := by decide +kernel
theorem dX9_edit_7 : decode cX9_edit 7 = .ok (.getfield 41, 3) := by decide +kernel
theorem dX9_edit_10 : decode cX9_edit 10 = .ok (.bipush 8, 2) := by decide +kernel
theorem dX9_edit_12 : decode cX9_edit 12 = .ok (.if_icmp .ne 44, 3) := by decide +kernel
theorem dX9_edit_15 : decode cX9_edit 15 = .ok (.iconst 0, 1) := by decide +kernel
theorem dX9_edit_16 : decode cX9_edit 16 = .ok (.istore_n 1, 1) := by decide +kernel
theorem dX9_edit_17 : decode cX9_edit 17 = .ok (.iload_n 1, 1) := by decide +kernel
theorem dX9_edit_18 : decode cX9_edit 18 = .ok (.sipush 3269, 3) := by decide +kernel
theorem dX9_edit_21 : decode cX9_edit 21 = .ok (.if_icmp .ge 25, 3) := by decide +kernel
theorem dX9_edit_24 : decode cX9_edit 24 = .ok (.aload_n 0, 1) := by decide +kernel
theorem dX9_edit_25 : decode cX9_edit 25 = .ok (.getfield 13, 3) := by decide +kernel
theorem dX9_edit_28 : decode cX9_edit 28 = .ok (.iload_n 1, 1) := by decide +kernel
theorem dX9_edit_29 : decode cX9_edit 29 = .ok (.aload_n 0, 1) := by decide +kernel
theorem dX9_edit_30 : decode cX9_edit 30 = .ok (.getfield 13, 3) := by decide +kernel
theorem dX9_edit_33 : decode cX9_edit 33 = .ok (.iload_n 1, 1) := by decide +kernel
theorem dX9_edit_34 : decode cX9_edit 34 = .ok (.sipush 467, 3) := by decide +kernel
theorem dX9_edit_37 : decode cX9_edit 37 = .ok (.iadd, 1) := by decide +kernel
theorem dX9_edit_38 : decode cX9_edit 38 = .ok (.iaload, 1) := by decide +kernel
theorem dX9_edit_39 : decode cX9_edit 39 = .ok (.iastore, 1) := by decide +kernel
theorem dX9_edit_40 : decode cX9_edit 40 = .ok (.iinc 1 1, 3) := by decide +kernel
theorem dX9_edit_43 : decode cX9_edit 43 = .ok (.goto (-26), 3) := by decide +kernel
theorem dX9_edit_46 : decode cX9_edit 46 = .ok (.aload_n 0, 1) := by decide +kernel
theorem dX9_edit_47 : decode cX9_edit 47 = .ok (.dup, 1) := by decide +kernel
theorem dX9_edit_48 : decode cX9_edit 48 = .ok (.getfield 41, 3) := by decide +kernel
theorem dX9_edit_51 : decode cX9_edit 51 = .ok (.iconst 1, 1) := by decide +kernel
theorem dX9_edit_52 : decode cX9_edit 52 = .ok (.isub, 1) := by decide +kernel
theorem dX9_edit_53 : decode cX9_edit 53 = .ok (.putfield 41, 3) := by decide +kernel
theorem dX9_edit_56 : decode cX9_edit 56 = .ok (.iconst 0, 1) := by decide +kernel
theorem dX9_edit_57 : decode cX9_edit 57 = .ok (.istore_n 1, 1) := by decide +kernel
theorem dX9_edit_58 : decode cX9_edit 58 = .ok (.iload_n 1, 1) := by decide +kernel
theorem dX9_edit_59 : decode cX9_edit 59 = .ok (.sipush 467, 3) := by decide +kernel
theorem dX9_edit_62 : decode cX9_edit 62 = .ok (.if_icmp .ge 30, 3) := by decide +kernel
theorem dX9_edit_65 : decode cX9_edit 65 = .ok (.aload_n 0, 1) := by decide +kernel
theorem dX9_edit_66 : decode cX9_edit 66 = .ok (.getfield 13, 3) := by decide +kernel
theorem dX9_edit_69 : decode cX9_edit 69 = .ok (.sipush 467, 3) := by decide +kernel
theorem dX9_edit_72 : decode cX9_edit 72 = .ok (.aload_n 0, 1) := by decide +kernel
theorem dX9_edit_73 : decode cX9_edit 73 = .ok (.getfield 41, 3) := by decide +kernel
theorem dX9_edit_76 : decode cX9_edit 76 = .ok (.imul, 1) := by decide +kernel
theorem dX9_edit_77 : decode cX9_edit 77 = .ok (.iload_n 1, 1) := by decide +kernel
theorem dX9_edit_78 : decode cX9_edit 78 = .ok (.iadd, 1) := by decide +kernel
theorem dX9_edit_79 : decode cX9_edit 79 = .ok (.aload_n 0, 1) := by decide +kernel
theorem dX9_edit_80 : decode cX9_edit 80 = .ok (.getfield 7, 3) := by decide +kernel
theorem dX9_edit_83 : decode cX9_edit 83 = .ok (.iload_n 1, 1) := by decide +kernel
theorem dX9_edit_84 : decode cX9_edit 84 = .ok (.iaload, 1) := by decide +kernel
theorem dX9_edit_85 : decode cX9_edit 85 = .ok (.iastore, 1) := by decide +kernel
theorem dX9_edit_86 : decode cX9_edit 86 = .ok (.iinc 1 1, 3) := by decide +kernel
theorem dX9_edit_89 : decode cX9_edit 89 = .ok (.goto (-31), 3) := by decide +kernel
theorem dX9_edit_92 : decode cX9_edit 92 = .ok (.aload_n 0, 1) := by decide +kernel
theorem dX9_edit_93 : decode cX9_edit 93 = .ok (.dup, 1) := by decide +kernel
theorem dX9_edit_94 : decode cX9_edit 94 = .ok (.getfield 41, 3) := by decide +kernel
theorem dX9_edit_97 : decode cX9_edit 97 = .ok (.iconst 1, 1) := by decide +kernel
theorem dX9_edit_98 : decode cX9_edit 98 = .ok (.iadd, 1) := by decide +kernel
theorem dX9_edit_99 : decode cX9_edit 99 = .ok (.putfield 41, 3) := by decide +kernel
theorem dX9_edit_102 : decode cX9_edit 102 = .ok (.return_, 1) := by decide +kernel
theorem dX9_undo_0 : decode cX9_undo 0 = .ok (.aload_n 0, 1) := by decide +kernel
theorem dX9_undo_1 : decode cX9_undo 1 = .ok (.getfield 41, 3) := by decide +kernel
theorem dX9_undo_4 : decode cX9_undo 4 = .ok (.ifCond .ne 6, 3) := by decide +kernel
theorem dX9_undo_7 : decode cX9_undo 7 = .ok (.bipush (-2), 2) := by decide +kernel
theorem dX9_undo_9 : decode cX9_undo 9 = .ok (.ireturn, 1) := by decide +kernel
theorem dX9_undo_10 : decode cX9_undo 10 = .ok (.aload_n 0, 1) := by decide +kernel
theorem dX9_undo_11 : decode cX9_undo 11 = .ok (.bipush (-9), 2) := by decide +kernel
theorem dX9_undo_13 : decode cX9_undo 13 = .ok (.putfield 16, 3) := by decide +kernel
theorem dX9_undo_16 : decode cX9_undo 16 = .ok (.aload_n 0, 1) := by decide +kernel
theorem dX9_undo_17 : decode cX9_undo 17 = .ok (.dup, 1) := by decide +kernel
theorem dX9_undo_18 : decode cX9_undo 18 = .ok (.getfield 41, 3) := by decide +kernel
theorem dX9_undo_21 : decode cX9_undo 21 = .ok (.iconst 1, 1) := by decide +kernel
theorem dX9_undo_22 : decode cX9_undo 22 = .ok (.isub, 1) := by decide +kernel
theorem dX9_undo_23 : decode cX9_undo 23 = .ok (.putfield 41, 3) := by decide +kernel
theorem dX9_undo_26 : decode cX9_undo 26 = .ok (.iconst 0, 1) := by decide +kernel
theorem dX9_undo_27 : decode cX9_undo 27 = .ok (.istore_n 1, 1) := by decide +kernel
theorem dX9_undo_28 : decode cX9_undo 28 = .ok (.iload_n 1, 1) := by decide +kernel
theorem dX9_undo_29 : decode cX9_undo 29 = .ok (.sipush 467, 3) := by decide +kernel
theorem dX9_undo_32 : decode cX9_undo 32 = .ok (.if_icmp .ge 30, 3) := by decide +kernel
theorem dX9_undo_35 : decode cX9_undo 35 = .ok (.aload_n 0, 1) := by decide +kernel
theorem dX9_undo_36 : decode cX9_undo 36 = .ok (.getfield 7, 3) := by decide +kernel
theorem dX9_undo_39 : decode cX9_undo 39 = .ok (.iload_n 1, 1) := by decide +kernel
theorem dX9_undo_40 : decode cX9_undo 40 = .ok (.aload_n 0, 1) := by decide +kernel
theorem dX9_undo_41 : decode cX9_undo 41 = .ok (.getfield 13, 3) := by decide +kernel
theorem dX9_undo_44 : decode cX9_undo 44 = .ok (.sipush 467, 3) := by decide +kernel
theorem dX9_undo_47 : decode cX9_undo 47 = .ok (.aload_n 0, 1) := by decide +kernel
theorem dX9_undo_48 : decode cX9_undo 48 = .ok (.getfield 41, 3) := by decide +kernel
theorem dX9_undo_51 : decode cX9_undo 51 = .ok (.imul, 1) := by decide +kernel
theorem dX9_undo_52 : decode cX9_undo 52 = .ok (.iload_n 1, 1) := by decide +kernel
theorem dX9_undo_53 : decode cX9_undo 53 = .ok (.iadd, 1) := by decide +kernel
theorem dX9_undo_54 : decode cX9_undo 54 = .ok (.iaload, 1) := by decide +kernel
theorem dX9_undo_55 : decode cX9_undo 55 = .ok (.iastore, 1) := by decide +kernel
theorem dX9_undo_56 : decode cX9_undo 56 = .ok (.iinc 1 1, 3) := by decide +kernel
theorem dX9_undo_59 : decode cX9_undo 59 = .ok (.goto (-31), 3) := by decide +kernel
theorem dX9_undo_62 : decode cX9_undo 62 = .ok (.aload_n 0, 1) := by decide +kernel
theorem dX9_undo_63 : decode cX9_undo 63 = .ok (.getfield 41, 3) := by decide +kernel
theorem dX9_undo_66 : decode cX9_undo 66 = .ok (.ireturn, 1) := by decide +kernel
set_option maxRecDepth 20000 in
theorem ggX9_isType_X9_in : GoodIn wsX9_isType wsX9_in := goodIn_r _ [5] (by decide +kernel) (by decide +kernel)
set_option maxRecDepth 20000 in
theorem gX9_isType_X9_in : GoodIn wsX9_isType (va_wsS RX9 44 yX9_in wsX9_in) := goodIn_app (goodIn_of _ (by decide +kernel)) ggX9_isType_X9_in
theorem dX9_isType_0 : decode cX9_isType 0 = .ok (.iload_n 1, 1) := by decide +kernel
theorem dX9_isType_1 : decode cX9_isType 1 = .ok (.iconst 0, 1) := by decide +kernel
theorem dX9_isType_2 : decode cX9_isType 2 = .ok (.aload_n 0, 1) := by decide +kernel
theorem dX9_isType_3 : decode cX9_isType 3 = .ok (.getfield 7, 3) := by decide +kernel
theorem dX9_isType_6 : decode cX9_isType 6 = .ok (.iconst 0, 1) := by decide +kernel
theorem dX9_isType_7 : decode cX9_isType 7 = .ok (.iaload, 1) := by decide +kernel
theorem dX9_isType_8 : decode cX9_isType 8 = .ok (.iconst 1, 1) := by decide +kernel
theorem dX9_isType_9 : decode cX9_isType 9 = .ok (.isub, 1) := by decide +kernel
theorem dX9_isType_10 : decode cX9_isType 10 = .ok (.invokestatic 44, 3) := by decide +kernel
theorem dX9_isType_13 : decode cX9_isType 13 = .ok (.ireturn, 1) := by decide +kernel
theorem dX9_isInterface_0 : decode cX9_isInterface 0 = .ok (.aload_n 0, 1) := by decide +kernel
theorem dX9_isInterface_1 : decode cX9_isInterface 1 = .ok (.getfield 7, 3) := by decide +kernel
theorem dX9_isInterface_4 : decode cX9_isInterface 4 = .ok (.iconst 1, 1) := by decide +kernel
theorem dX9_isInterface_5 : decode cX9_isInterface 5 = .ok (.iconst 3, 1) := by decide +kernel
theorem dX9_isInterface_6 : decode cX9_isInterface 6 = .ok (.iload_n 1, 1) := by decide +kernel
theorem dX9_isInterface_7 : decode cX9_isInterface 7 = .ok (.imul, 1) := by decide +kernel
theorem dX9_isInterface_8 : decode cX9_isInterface 8 = .ok (.iadd, 1) := by decide +kernel
theorem dX9_isInterface_9 : decode cX9_isInterface 9 = .ok (.iaload, 1) := by decide +kernel
theorem dX9_isInterface_10 : decode cX9_isInterface 10 = .ok (.iconst 1, 1) := by decide +kernel
theorem dX9_isInterface_11 : decode cX9_isInterface 11 = .ok (.if_icmp .ne 7, 3) := by decide +kernel
theorem dX9_isInterface_14 : decode cX9_isInterface 14 = .ok (.iconst 1, 1) := by decide +kernel
theorem dX9_isInterface_15 : decode cX9_isInterface 15 = .ok (.goto 4, 3) := by decide +kernel
theorem dX9_isInterface_18 : decode cX9_isInterface 18 = .ok (.iconst 0, 1) := by decide +kernel
theorem dX9_isInterface_19 : decode cX9_isInterface 19 = .ok (.ireturn, 1) := by decide +kernel
set_option maxRecDepth 20000 in
theorem ggX9_closed_X9_has : GoodIn wsX9_closed wsX9_has := goodIn_r _ [5] (by decide +kernel) (by decide +kernel)
set_option maxRecDepth 20000 in
theorem gX9_closed_X9_has : GoodIn wsX9_closed (va_wsS RX9 48 yX9_has wsX9_has) := goodIn_app (goodIn_of _ (by decide +kernel)) ggX9_closed_X9_has
theorem dX9_closed_0 : decode cX9_closed 0 = .ok (.iload_n 1, 1) := by decide +kernel
theorem dX9_closed_1 : decode cX9_closed 1 = .ok (.istore_n 2, 1) := by decide +kernel
theorem dX9_closed_2 : decode cX9_closed 2 = .ok (.bipush 7, 2) := by decide +kernel
theorem dX9_closed_4 : decode cX9_closed 4 = .ok (.istore_n 3, 1) := by decide +kernel
theorem dX9_closed_5 : decode cX9_closed 5 = .ok (.iload_n 3, 1) := by decide +kernel
theorem dX9_closed_6 : decode cX9_closed 6 = .ok (.ifCond .lt 66, 3) := by decide +kernel
theorem dX9_closed_9 : decode cX9_closed 9 = .ok (.iload_n 2, 1) := by decide +kernel
theorem dX9_closed_10 : decode cX9_closed 10 = .ok (.iload_n 3, 1) := by decide +kernel
theorem dX9_closed_11 : decode cX9_closed 11 = .ok (.invokestatic 48, 3) := by decide +kernel
theorem dX9_closed_14 : decode cX9_closed 14 = .ok (.ifCond .eq 52, 3) := by decide +kernel
theorem dX9_closed_17 : decode cX9_closed 17 = .ok (.iload_n 2, 1) := by decide +kernel
theorem dX9_closed_18 : decode cX9_closed 18 = .ok (.aload_n 0, 1) := by decide +kernel
theorem dX9_closed_19 : decode cX9_closed 19 = .ok (.getfield 7, 3) := by decide +kernel
theorem dX9_closed_22 : decode cX9_closed 22 = .ok (.iconst 1, 1) := by decide +kernel
theorem dX9_closed_23 : decode cX9_closed 23 = .ok (.iconst 3, 1) := by decide +kernel
theorem dX9_closed_24 : decode cX9_closed 24 = .ok (.iload_n 3, 1) := by decide +kernel
theorem dX9_closed_25 : decode cX9_closed 25 = .ok (.imul, 1) := by decide +kernel
theorem dX9_closed_26 : decode cX9_closed 26 = .ok (.iadd, 1) := by decide +kernel
theorem dX9_closed_27 : decode cX9_closed 27 = .ok (.iconst 2, 1) := by decide +kernel
theorem dX9_closed_28 : decode cX9_closed 28 = .ok (.iadd, 1) := by decide +kernel
theorem dX9_closed_29 : decode cX9_closed 29 = .ok (.iaload, 1) := by decide +kernel
theorem dX9_closed_30 : decode cX9_closed 30 = .ok (.aload_n 0, 1) := by decide +kernel
theorem dX9_closed_31 : decode cX9_closed 31 = .ok (.getfield 7, 3) := by decide +kernel
theorem dX9_closed_34 : decode cX9_closed 34 = .ok (.iconst 1, 1) := by decide +kernel
theorem dX9_closed_35 : decode cX9_closed 35 = .ok (.iconst 3, 1) := by decide +kernel
theorem dX9_closed_36 : decode cX9_closed 36 = .ok (.iload_n 3, 1) := by decide +kernel
theorem dX9_closed_37 : decode cX9_closed 37 = .ok (.imul, 1) := by decide +kernel
theorem dX9_closed_38 : decode cX9_closed 38 = .ok (.iadd, 1) := by decide +kernel
theorem dX9_closed_39 : decode cX9_closed 39 = .ok (.iconst 1, 1) := by decide +kernel
theorem dX9_closed_40 : decode cX9_closed 40 = .ok (.iadd, 1) := by decide +kernel
theorem dX9_closed_41 : decode cX9_closed 41 = .ok (.iaload, 1) := by decide +kernel
theorem dX9_closed_42 : decode cX9_closed 42 = .ok (.ifCond .ge 7, 3) := by decide +kernel
theorem dX9_closed_45 : decode cX9_closed 45 = .ok (.iconst 0, 1) := by decide +kernel
theorem dX9_closed_46 : decode cX9_closed 46 = .ok (.goto 17, 3) := by decide +kernel
theorem dX9_closed_49 : decode cX9_closed 49 = .ok (.iconst 1, 1) := by decide +kernel
theorem dX9_closed_50 : decode cX9_closed 50 = .ok (.aload_n 0, 1) := by decide +kernel
theorem dX9_closed_51 : decode cX9_closed 51 = .ok (.getfield 7, 3) := by decide +kernel
theorem dX9_closed_54 : decode cX9_closed 54 = .ok (.iconst 1, 1) := by decide +kernel
theorem dX9_closed_55 : decode cX9_closed 55 = .ok (.iconst 3, 1) := by decide +kernel
theorem dX9_closed_56 : decode cX9_closed 56 = .ok (.iload_n 3, 1) := by decide +kernel
theorem dX9_closed_57 : decode cX9_closed 57 = .ok (.imul, 1) := by decide +kernel
theorem dX9_closed_58 : decode cX9_closed 58 = .ok (.iadd, 1) := by decide +kernel
theorem dX9_closed_59 : decode cX9_closed 59 = .ok (.iconst 1, 1) := by decide +kernel
theorem dX9_closed_60 : decode cX9_closed 60 = .ok (.iadd, 1) := by decide +kernel
theorem dX9_closed_61 : decode cX9_closed 61 = .ok (.iaload, 1) := by decide +kernel
theorem dX9_closed_62 : decode cX9_closed 62 = .ok (.ishl, 1) := by decide +kernel
theorem dX9_closed_63 : decode cX9_closed 63 = .ok (.ior, 1) := by decide +kernel
theorem dX9_closed_64 : decode cX9_closed 64 = .ok (.ior, 1) := by decide +kernel
theorem dX9_closed_65 : decode cX9_closed 65 = .ok (.istore_n 2, 1) := by decide +kernel
theorem dX9_closed_66 : decode cX9_closed 66 = .ok (.iinc 3 (-1), 3) := by decide +kernel
theorem dX9_closed_69 : decode cX9_closed 69 = .ok (.goto (-64), 3) := by decide +kernel
theorem dX9_closed_72 : decode cX9_closed 72 = .ok (.iload_n 2, 1) := by decide +kernel
theorem dX9_closed_73 : decode cX9_closed 73 = .ok (.ireturn, 1) := by decide +kernel
set_option maxRecDepth 20000 in
theorem ggX9_supers_X9_closed : GoodIn wsX9_supers wsX9_closed := goodIn_r _ [5, 6, 7, 8, 4, 9, 10, 11, 12, 13, 14, 15, 16, 17, 18, 19, 20, 21, 22] (by decide +kernel) (by decide +kernel)
set_option maxRecDepth 20000 in
theorem gX9_supers_X9_closed : GoodIn wsX9_supers (wsV RX9 52 RX9 yX9_closed wsX9_closed) := goodIn_app (goodIn_of _ (by decide +kernel)) ggX9_supers_X9_closed
theorem dX9_supers_0 : decode cX9_supers 0 = .ok (.aload_n 0, 1) := by decide +kernel
theorem dX9_supers_1 : decode cX9_supers 1 = .ok (.iconst 1, 1) := by decide +kernel
theorem dX9_supers_2 : decode cX9_supers 2 = .ok (.iload_n 1, 1) := by decide +kernel
theorem dX9_supers_3 : decode cX9_supers 3 = .ok (.ishl, 1) := by decide +kernel
theorem dX9_supers_4 : decode cX9_supers 4 = .ok (.invokevirtual 52, 3) := by decide +kernel
theorem dX9_supers_7 : decode cX9_supers 7 = .ok (.ireturn, 1) := by decide +kernel
set_option maxRecDepth 20000 in
theorem ggX9_areConnected_X9_supers : GoodIn wsX9_areConnected wsX9_supers := goodIn_r _ [6, 7, 8, 9, 5, 10, 1, 11, 12, 13, 14, 15, 16, 17, 18, 19, 20, 21, 22, 23, 24, 25, 26] (by decide +kernel) (by decide +kernel)
set_option maxRecDepth 20000 in
theorem gX9_areConnected_X9_supers : GoodIn wsX9_areConnected (wsV RX9 56 RX9 yX9_supers wsX9_supers) := goodIn_app (goodIn_of _ (by decide +kernel)) ggX9_areConnected_X9_supers
set_option maxRecDepth 20000 in
theorem ggX9_areConnected_X9_has : GoodIn wsX9_areConnected wsX9_has := goodIn_r _ [13] (by decide +kernel) (by decide +kernel)
set_option maxRecDepth 20000 in
theorem gX9_areConnected_X9_has : GoodIn wsX9_areConnected (va_wsS RX9 48 yX9_has wsX9_has) := goodIn_app (goodIn_of _ (by decide +kernel)) ggX9_areConnected_X9_has
theorem dX9_areConnected_0 : decode cX9_areConnected 0 = .ok (.iconst 0, 1) := by decide +kernel
theorem dX9_areConnected_1 : decode cX9_areConnected 1 = .ok (.istore_n 3, 1) := by decide +kernel
theorem dX9_areConnected_2 : decode cX9_areConnected 2 = .ok (.iconst 0, 1) := by decide +kernel
theorem dX9_areConnected_3 : decode cX9_areConnected 3 = .ok (.istore 4, 2) := by decide +kernel
theorem dX9_areConnected_5 : decode cX9_areConnected 5 = .ok (.iload 4, 2) := by decide +kernel
theorem dX9_areConnected_7 : decode cX9_areConnected 7 = .ok (.aload_n 0, 1) := by decide +kernel
theorem dX9_areConnected_8 : decode cX9_areConnected 8 = .ok (.getfield 7, 3) := by decide +kernel
theorem dX9_areConnected_11 : decode cX9_areConnected 11 = .ok (.iconst 0, 1) := by decide +kernel
theorem dX9_areConnected_12 : decode cX9_areConnected 12 = .ok (.iaload, 1) := by decide +kernel
theorem dX9_areConnected_13 : decode cX9_areConnected 13 = .ok (.if_icmp .ge 45, 3) := by decide +kernel
theorem dX9_areConnected_16 : decode cX9_areConnected 16 = .ok (.iload_n 3, 1) := by decide +kernel
theorem dX9_areConnected_17 : decode cX9_areConnected 17 = .ok (.ifCond .ne 29, 3) := by decide +kernel
theorem dX9_areConnected_20 : decode cX9_areConnected 20 = .ok (.aload_n 0, 1) := by decide +kernel
theorem dX9_areConnected_21 : decode cX9_areConnected 21 = .ok (.iload 4, 2) := by decide +kernel
theorem dX9_areConnected_23 : decode cX9_areConnected 23 = .ok (.invokevirtual 56, 3) := by decide +kernel
theorem dX9_areConnected_26 : decode cX9_areConnected 26 = .ok (.iload_n 1, 1) := by decide +kernel
theorem dX9_areConnected_27 : decode cX9_areConnected 27 = .ok (.invokestatic 48, 3) := by decide +kernel
theorem dX9_areConnected_30 : decode cX9_areConnected 30 = .ok (.ifCond .eq 20, 3) := by decide +kernel
theorem dX9_areConnected_33 : decode cX9_areConnected 33 = .ok (.aload_n 0, 1) := by decide +kernel
theorem dX9_areConnected_34 : decode cX9_areConnected 34 = .ok (.iload 4, 2) := by decide +kernel
theorem dX9_areConnected_36 : decode cX9_areConnected 36 = .ok (.invokevirtual 56, 3) := by decide +kernel
theorem dX9_areConnected_39 : decode cX9_areConnected 39 = .ok (.iload_n 2, 1) := by decide +kernel
theorem dX9_areConnected_40 : decode cX9_areConnected 40 = .ok (.invokestatic 48, 3) := by decide +kernel
theorem dX9_areConnected_43 : decode cX9_areConnected 43 = .ok (.ifCond .eq 7, 3) := by decide +kernel
theorem dX9_areConnected_46 : decode cX9_areConnected 46 = .ok (.iconst 1, 1) := by decide +kernel
theorem dX9_areConnected_47 : decode cX9_areConnected 47 = .ok (.goto 4, 3) := by decide +kernel
theorem dX9_areConnected_50 : decode cX9_areConnected 50 = .ok (.iconst 0, 1) := by decide +kernel
theorem dX9_areConnected_51 : decode cX9_areConnected 51 = .ok (.istore_n 3, 1) := by decide +kernel
theorem dX9_areConnected_52 : decode cX9_areConnected 52 = .ok (.iinc 4 1, 3) := by decide +kernel
theorem dX9_areConnected_55 : decode cX9_areConnected 55 = .ok (.goto (-50), 3) := by decide +kernel
theorem dX9_areConnected_58 : decode cX9_areConnected 58 = .ok (.iload_n 3, 1) := by decide +kernel
theorem dX9_areConnected_59 : decode cX9_areConnected 59 = .ok (.ireturn, 1) := by decide +kernel
set_option maxRecDepth 20000 in
theorem ggX9_allInterfaces_X9_isInterface : GoodIn wsX9_allInterfaces wsX9_isInterface := goodIn_r _ [6, 1, 7, 8, 9, 10, 11, 12, 13, 14, 15, 16, 17, 18, 19] (by decide +kernel) (by decide +kernel)
set_option maxRecDepth 20000 in
theorem gX9_allInterfaces_X9_isInterface : GoodIn wsX9_allInterfaces (wsV RX9 59 RX9 yX9_isInterface wsX9_isInterface) := goodIn_app (goodIn_of _ (by decide +kernel)) ggX9_allInterfaces_X9_isInterface
theorem dX9_allInterfaces_0 : decode cX9_allInterfaces 0 = .ok (.iconst 0, 1) := by decide +kernel
theorem dX9_allInterfaces_1 : decode cX9_allInterfaces 1 = .ok (.istore_n 1, 1) := by decide +kernel
theorem dX9_allInterfaces_2 : decode cX9_allInterfaces 2 = .ok (.iconst 0, 1) := by decide +kernel
theorem dX9_allInterfaces_3 : decode cX9_allInterfaces 3 = .ok (.istore_n 2, 1) := by decide +kernel
theorem dX9_allInterfaces_4 : decode cX9_allInterfaces 4 = .ok (.iload_n 2, 1) := by decide +kernel
theorem dX9_allInterfaces_5 : decode cX9_allInterfaces 5 = .ok (.aload_n 0, 1) := by decide +kernel
theorem dX9_allInterfaces_6 : decode cX9_allInterfaces 6 = .ok (.getfield 7, 3) := by decide +kernel
theorem dX9_allInterfaces_9 : decode cX9_allInterfaces 9 = .ok (.iconst 0, 1) := by decide +kernel
theorem dX9_allInterfaces_10 : decode cX9_allInterfaces 10 = .ok (.iaload, 1) := by decide +kernel
theorem dX9_allInterfaces_11 : decode cX9_allInterfaces 11 = .ok (.if_icmp .ge 27, 3) := by decide +kernel
theorem dX9_allInterfaces_14 : decode cX9_allInterfaces 14 = .ok (.iload_n 1, 1) := by decide +kernel
theorem dX9_allInterfaces_15 : decode cX9_allInterfaces 15 = .ok (.aload_n 0, 1) := by decide +kernel
theorem dX9_allInterfaces_16 : decode cX9_allInterfaces 16 = .ok (.iload_n 2, 1) := by decide +kernel
theorem dX9_allInterfaces_17 : decode cX9_allInterfaces 17 = .ok (.invokevirtual 59, 3) := by decide +kernel
theorem dX9_allInterfaces_20 : decode cX9_allInterfaces 20 = .ok (.ifCond .eq 9, 3) := by decide +kernel
theorem dX9_allInterfaces_23 : decode cX9_allInterfaces 23 = .ok (.iconst 1, 1) := by decide +kernel
theorem dX9_allInterfaces_24 : decode cX9_allInterfaces 24 = .ok (.iload_n 2, 1) := by decide +kernel
theorem dX9_allInterfaces_25 : decode cX9_allInterfaces 25 = .ok (.ishl, 1) := by decide +kernel
theorem dX9_allInterfaces_26 : decode cX9_allInterfaces 26 = .ok (.goto 4, 3) := by decide +kernel
theorem dX9_allInterfaces_29 : decode cX9_allInterfaces 29 = .ok (.iconst 0, 1) := by decide +kernel
theorem dX9_allInterfaces_30 : decode cX9_allInterfaces 30 = .ok (.ior, 1) := by decide +kernel
theorem dX9_allInterfaces_31 : decode cX9_allInterfaces 31 = .ok (.istore_n 1, 1) := by decide +kernel
theorem dX9_allInterfaces_32 : decode cX9_allInterfaces 32 = .ok (.iinc 2 1, 3) := by decide +kernel
theorem dX9_allInterfaces_35 : decode cX9_allInterfaces 35 = .ok (.goto (-31), 3) := by decide +kernel
theorem dX9_allInterfaces_38 : decode cX9_allInterfaces 38 = .ok (.iload_n 1, 1) := by decide +kernel
theorem dX9_allInterfaces_39 : decode cX9_allInterfaces 39 = .ok (.ireturn, 1) := by decide +kernel
theorem dX9_of_0 : decode cX9_of 0 = .ok (.aload_n 0, 1) := by decide +kernel
theorem dX9_of_1 : decode cX9_of 1 = .ok (.getfield 7, 3) := by decide +kernel
theorem dX9_of_4 : decode cX9_of 4 = .ok (.bipush 26, 2) := by decide +kernel
theorem dX9_of_6 : decode cX9_of 6 = .ok (.bipush 13, 2) := by decide +kernel
theorem dX9_of_8 : decode cX9_of 8 = .ok (.iload_n 1, 1) := by decide +kernel
theorem dX9_of_9 : decode cX9_of 9 = .ok (.imul, 1) := by decide +kernel
theorem dX9_of_10 : decode cX9_of 10 = .ok (.iadd, 1) := by decide +kernel
theorem dX9_of_11 : decode cX9_of 11 = .ok (.iload_n 2, 1) := by decide +kernel
theorem dX9_of_12 : decode cX9_of 12 = .ok (.iadd, 1) := by decide +kernel
theorem dX9_of_13 : decode cX9_of 13 = .ok (.iaload, 1) := by decide +kernel
theorem dX9_of_14 : decode cX9_of 14 = .ok (.ireturn, 1) := by decide +kernel
set_option maxRecDepth 20000 in
theorem ggX9_isMethod_X9_in : GoodIn wsX9_isMethod wsX9_in := goodIn_r _ [5] (by decide +kernel) (by decide +kernel)
set_option maxRecDepth 20000 in
theorem gX9_isMethod_X9_in : GoodIn wsX9_isMethod (va_wsS RX9 44 yX9_in wsX9_in) := goodIn_app (goodIn_of _ (by decide +kernel)) ggX9_isMethod_X9_in
theorem dX9_isMethod_0 : decode cX9_isMethod 0 = .ok (.iload_n 1, 1) := by decide +kernel
theorem dX9_isMethod_1 : decode cX9_isMethod 1 = .ok (.iconst 0, 1) := by decide +kernel
theorem dX9_isMethod_2 : decode cX9_isMethod 2 = .ok (.aload_n 0, 1) := by decide +kernel
theorem dX9_isMethod_3 : decode cX9_isMethod 3 = .ok (.getfield 7, 3) := by decide +kernel
theorem dX9_isMethod_6 : decode cX9_isMethod 6 = .ok (.bipush 25, 2) := by decide +kernel
theorem dX9_isMethod_8 : decode cX9_isMethod 8 = .ok (.iaload, 1) := by decide +kernel
theorem dX9_isMethod_9 : decode cX9_isMethod 9 = .ok (.iconst 1, 1) := by decide +kernel
theorem dX9_isMethod_10 : decode cX9_isMethod 10 = .ok (.isub, 1) := by decide +kernel
theorem dX9_isMethod_11 : decode cX9_isMethod 11 = .ok (.invokestatic 44, 3) := by decide +kernel
theorem dX9_isMethod_14 : decode cX9_isMethod 14 = .ok (.ireturn, 1) := by decide +kernel
set_option maxRecDepth 20000 in
theorem ggX9_isNamed_X9_of : GoodIn wsX9_isNamed wsX9_of := goodIn_r _ [5, 6, 7, 8, 9, 10, 11, 12, 13, 14, 15, 16, 17, 18, 19] (by decide +kernel) (by decide +kernel)
set_option maxRecDepth 20000 in
theorem gX9_isNamed_X9_of : GoodIn wsX9_isNamed (wsV RX9 63 RX9 yX9_of wsX9_of) := goodIn_app (goodIn_of _ (by decide +kernel)) ggX9_isNamed_X9_of
theorem dX9_isNamed_0 : decode cX9_isNamed 0 = .ok (.aload_n 0, 1) := by decide +kernel
theorem dX9_isNamed_1 : decode cX9_isNamed 1 = .ok (.iload_n 1, 1) := by decide +kernel
theorem dX9_isNamed_2 : decode cX9_isNamed 2 = .ok (.iconst 1, 1) := by decide +kernel
theorem dX9_isNamed_3 : decode cX9_isNamed 3 = .ok (.invokevirtual 63, 3) := by decide +kernel
theorem dX9_isNamed_6 : decode cX9_isNamed 6 = .ok (.iload_n 2, 1) := by decide +kernel
theorem dX9_isNamed_7 : decode cX9_isNamed 7 = .ok (.if_icmp .ne 17, 3) := by decide +kernel
theorem dX9_isNamed_10 : decode cX9_isNamed 10 = .ok (.aload_n 0, 1) := by decide +kernel
theorem dX9_isNamed_11 : decode cX9_isNamed 11 = .ok (.iload_n 1, 1) := by decide +kernel
theorem dX9_isNamed_12 : decode cX9_isNamed 12 = .ok (.iconst 2, 1) := by decide +kernel
theorem dX9_isNamed_13 : decode cX9_isNamed 13 = .ok (.invokevirtual 63, 3) := by decide +kernel
theorem dX9_isNamed_16 : decode cX9_isNamed 16 = .ok (.iload_n 3, 1) := by decide +kernel
theorem dX9_isNamed_17 : decode cX9_isNamed 17 = .ok (.if_icmp .ne 7, 3) := by decide +kernel
theorem dX9_isNamed_20 : decode cX9_isNamed 20 = .ok (.iconst 1, 1) := by decide +kernel
theorem dX9_isNamed_21 : decode cX9_isNamed 21 = .ok (.goto 4, 3) := by decide +kernel
theorem dX9_isNamed_24 : decode cX9_isNamed 24 = .ok (.iconst 0, 1) := by decide +kernel
theorem dX9_isNamed_25 : decode cX9_isNamed 25 = .ok (.ireturn, 1) := by decide +kernel
set_option maxRecDepth 20000 in
theorem ggX9_areAlikeNamed_X9_of : GoodIn wsX9_areAlikeNamed wsX9_of := goodIn_r _ [5, 6, 11, 12, 13, 14, 15, 16, 17, 18, 19, 20, 21, 22, 23] (by decide +kernel) (by decide +kernel)
set_option maxRecDepth 20000 in
theorem gX9_areAlikeNamed_X9_of : GoodIn wsX9_areAlikeNamed (wsV RX9 63 RX9 yX9_of wsX9_of) := goodIn_app (goodIn_of _ (by decide +kernel)) ggX9_areAlikeNamed_X9_of
set_option maxRecDepth 20000 in
theorem ggX9_areAlikeNamed_X9_isNamed : GoodIn wsX9_areAlikeNamed wsX9_isNamed := goodIn_r _ [10, 1, 2, 3, 4, 5, 6, 11, 12, 13, 14, 15, 16, 17, 18, 19, 20, 21, 22, 23] (by decide +kernel) (by decide +kernel)
set_option maxRecDepth 20000 in
theorem gX9_areAlikeNamed_X9_isNamed : GoodIn wsX9_areAlikeNamed (wsV RX9 67 RX9 yX9_isNamed wsX9_isNamed) := goodIn_app (goodIn_of _ (by decide +kernel)) ggX9_areAlikeNamed_X9_isNamed
theorem dX9_areAlikeNamed_0 : decode cX9_areAlikeNamed 0 = .ok (.aload_n 0, 1) := by decide +kernel
theorem dX9_areAlikeNamed_1 : decode cX9_areAlikeNamed 1 = .ok (.iload_n 1, 1) := by decide +kernel
theorem dX9_areAlikeNamed_2 : decode cX9_areAlikeNamed 2 = .ok (.aload_n 0, 1) := by decide +kernel
theorem dX9_areAlikeNamed_3 : decode cX9_areAlikeNamed 3 = .ok (.iload_n 2, 1) := by decide +kernel
theorem dX9_areAlikeNamed_4 : decode cX9_areAlikeNamed 4 = .ok (.iconst 1, 1) := by decide +kernel
theorem dX9_areAlikeNamed_5 : decode cX9_areAlikeNamed 5 = .ok (.invokevirtual 63, 3) := by decide +kernel
theorem dX9_areAlikeNamed_8 : decode cX9_areAlikeNamed 8 = .ok (.aload_n 0, 1) := by decide +kernel
theorem dX9_areAlikeNamed_9 : decode cX9_areAlikeNamed 9 = .ok (.iload_n 2, 1) := by decide +kernel
theorem dX9_areAlikeNamed_10 : decode cX9_areAlikeNamed 10 = .ok (.iconst 2, 1) := by decide +kernel
theorem dX9_areAlikeNamed_11 : decode cX9_areAlikeNamed 11 = .ok (.invokevirtual 63, 3) := by decide +kernel
theorem dX9_areAlikeNamed_14 : decode cX9_areAlikeNamed 14 = .ok (.invokevirtual 67, 3) := by decide +kernel
theorem dX9_areAlikeNamed_17 : decode cX9_areAlikeNamed 17 = .ok (.ireturn, 1) := by decide +kernel
set_option maxRecDepth 20000 in
theorem ggX9_haveSameList_X9_of : GoodIn wsX9_haveSameList wsX9_of := goodIn_r _ [5, 6, 7, 8, 9, 10, 11, 12, 13, 14, 15, 16, 17, 18, 19] (by decide +kernel) (by decide +kernel)
set_option maxRecDepth 20000 in
theorem gX9_haveSameList_X9_of : GoodIn wsX9_haveSameList (wsV RX9 63 RX9 yX9_of wsX9_of) := goodIn_app (goodIn_of _ (by decide +kernel)) ggX9_haveSameList_X9_of
theorem dX9_haveSameList_0 : decode cX9_haveSameList 0 = .ok (.aload_n 0, 1) := by decide +kernel
theorem dX9_haveSameList_1 : decode cX9_haveSameList 1 = .ok (.iload_n 1, 1) := by decide +kernel
theorem dX9_haveSameList_2 : decode cX9_haveSameList 2 = .ok (.iconst 2, 1) := by decide +kernel
theorem dX9_haveSameList_3 : decode cX9_haveSameList 3 = .ok (.invokevirtual 63, 3) := by decide +kernel
theorem dX9_haveSameList_6 : decode cX9_haveSameList 6 = .ok (.aload_n 0, 1) := by decide +kernel
theorem dX9_haveSameList_7 : decode cX9_haveSameList 7 = .ok (.iload_n 2, 1) := by decide +kernel
theorem dX9_haveSameList_8 : decode cX9_haveSameList 8 = .ok (.iconst 2, 1) := by decide +kernel
theorem dX9_haveSameList_9 : decode cX9_haveSameList 9 = .ok (.invokevirtual 63, 3) := by decide +kernel
theorem dX9_haveSameList_12 : decode cX9_haveSameList 12 = .ok (.if_icmp .ne 7, 3) := by decide +kernel
theorem dX9_haveSameList_15 : decode cX9_haveSameList 15 = .ok (.iconst 1, 1) := by decide +kernel
theorem dX9_haveSameList_16 : decode cX9_haveSameList 16 = .ok (.goto 4, 3) := by decide +kernel
theorem dX9_haveSameList_19 : decode cX9_haveSameList 19 = .ok (.iconst 0, 1) := by decide +kernel
theorem dX9_haveSameList_20 : decode cX9_haveSameList 20 = .ok (.istore_n 3, 1) := by decide +kernel
theorem dX9_haveSameList_21 : decode cX9_haveSameList 21 = .ok (.iconst 0, 1) := by decide +kernel
theorem dX9_haveSameList_22 : decode cX9_haveSameList 22 = .ok (.istore 4, 2) := by decide +kernel
theorem dX9_haveSameList_24 : decode cX9_haveSameList 24 = .ok (.iload 4, 2) := by decide +kernel
theorem dX9_haveSameList_26 : decode cX9_haveSameList 26 = .ok (.iconst 5, 1) := by decide +kernel
theorem dX9_haveSameList_27 : decode cX9_haveSameList 27 = .ok (.if_icmp .ge 74, 3) := by decide +kernel
theorem dX9_haveSameList_30 : decode cX9_haveSameList 30 = .ok (.iload_n 3, 1) := by decide +kernel
theorem dX9_haveSameList_31 : decode cX9_haveSameList 31 = .ok (.ifCond .eq 70, 3) := by decide +kernel
theorem dX9_haveSameList_34 : decode cX9_haveSameList 34 = .ok (.iload 4, 2) := by decide +kernel
theorem dX9_haveSameList_36 : decode cX9_haveSameList 36 = .ok (.aload_n 0, 1) := by decide +kernel
theorem dX9_haveSameList_37 : decode cX9_haveSameList 37 = .ok (.iload_n 1, 1) := by decide +kernel
theorem dX9_haveSameList_38 : decode cX9_haveSameList 38 = .ok (.iconst 2, 1) := by decide +kernel
theorem dX9_haveSameList_39 : decode cX9_haveSameList 39 = .ok (.invokevirtual 63, 3) := by decide +kernel
theorem dX9_haveSameList_42 : decode cX9_haveSameList 42 = .ok (.if_icmp .ge 47, 3) := by decide +kernel
theorem dX9_haveSameList_45 : decode cX9_haveSameList 45 = .ok (.aload_n 0, 1) := by decide +kernel
theorem dX9_haveSameList_46 : decode cX9_haveSameList 46 = .ok (.iload_n 1, 1) := by decide +kernel
theorem dX9_haveSameList_47 : decode cX9_haveSameList 47 = .ok (.iconst 3, 1) := by decide +kernel
theorem dX9_haveSameList_48 : decode cX9_haveSameList 48 = .ok (.iload 4, 2) := by decide +kernel
theorem dX9_haveSameList_50 : decode cX9_haveSameList 50 = .ok (.iadd, 1) := by decide +kernel
theorem dX9_haveSameList_51 : decode cX9_haveSameList 51 = .ok (.invokevirtual 63, 3) := by decide +kernel
theorem dX9_haveSameList_54 : decode cX9_haveSameList 54 = .ok (.aload_n 0, 1) := by decide +kernel
theorem dX9_haveSameList_55 : decode cX9_haveSameList 55 = .ok (.iload_n 2, 1) := by decide +kernel
theorem dX9_haveSameList_56 : decode cX9_haveSameList 56 = .ok (.iconst 3, 1) := by decide +kernel
theorem dX9_haveSameList_57 : decode cX9_haveSameList 57 = .ok (.iload 4, 2) := by decide +kernel
theorem dX9_haveSameList_59 : decode cX9_haveSameList 59 = .ok (.iadd, 1) := by decide +kernel
theorem dX9_haveSameList_60 : decode cX9_haveSameList 60 = .ok (.invokevirtual 63, 3) := by decide +kernel
theorem dX9_haveSameList_63 : decode cX9_haveSameList 63 = .ok (.if_icmp .ne 30, 3) := by decide +kernel
theorem dX9_haveSameList_66 : decode cX9_haveSameList 66 = .ok (.aload_n 0, 1) := by decide +kernel
theorem dX9_haveSameList_67 : decode cX9_haveSameList 67 = .ok (.iload_n 1, 1) := by decide +kernel
theorem dX9_haveSameList_68 : decode cX9_haveSameList 68 = .ok (.bipush 8, 2) := by decide +kernel
theorem dX9_haveSameList_70 : decode cX9_haveSameList 70 = .ok (.iload 4, 2) := by decide +kernel
theorem dX9_haveSameList_72 : decode cX9_haveSameList 72 = .ok (.iadd, 1) := by decide +kernel
theorem dX9_haveSameList_73 : decode cX9_haveSameList 73 = .ok (.invokevirtual 63, 3) := by decide +kernel
theorem dX9_haveSameList_76 : decode cX9_haveSameList 76 = .ok (.aload_n 0, 1) := by decide +kernel
theorem dX9_haveSameList_77 : decode cX9_haveSameList 77 = .ok (.iload_n 2, 1) := by decide +kernel
theorem dX9_haveSameList_78 : decode cX9_haveSameList 78 = .ok (.bipush 8, 2) := by decide +kernel
theorem dX9_haveSameList_80 : decode cX9_haveSameList 80 = .ok (.iload 4, 2) := by decide +kernel
theorem dX9_haveSameList_82 : decode cX9_haveSameList 82 = .ok (.iadd, 1) := by decide +kernel
theorem dX9_haveSameList_83 : decode cX9_haveSameList 83 = .ok (.invokevirtual 63, 3) := by decide +kernel
theorem dX9_haveSameList_86 : decode cX9_haveSameList 86 = .ok (.if_icmp .ne 7, 3) := by decide +kernel
theorem dX9_haveSameList_89 : decode cX9_haveSameList 89 = .ok (.iconst 1, 1) := by decide +kernel
theorem dX9_haveSameList_90 : decode cX9_haveSameList 90 = .ok (.goto 4, 3) := by decide +kernel
theorem dX9_haveSameList_93 : decode cX9_haveSameList 93 = .ok (.iconst 0, 1) := by decide +kernel
theorem dX9_haveSameList_94 : decode cX9_haveSameList 94 = .ok (.istore_n 3, 1) := by decide +kernel
theorem dX9_haveSameList_95 : decode cX9_haveSameList 95 = .ok (.iinc 4 1, 3) := by decide +kernel
theorem dX9_haveSameList_98 : decode cX9_haveSameList 98 = .ok (.goto (-74), 3) := by decide +kernel
theorem dX9_haveSameList_101 : decode cX9_haveSameList 101 = .ok (.iload_n 3, 1) := by decide +kernel
theorem dX9_haveSameList_102 : decode cX9_haveSameList 102 = .ok (.ireturn, 1) := by decide +kernel
set_option maxRecDepth 20000 in
theorem ggX9_areAtOdds_X9_of : GoodIn wsX9_areAtOdds wsX9_of := goodIn_r _ [6, 1, 22, 23, 24, 25, 26, 27, 28, 29, 30, 31, 32, 33, 34] (by decide +kernel) (by decide +kernel)
set_option maxRecDepth 20000 in
theorem gX9_areAtOdds_X9_of : GoodIn wsX9_areAtOdds (wsV RX9 63 RX9 yX9_of wsX9_of) := goodIn_app (goodIn_of _ (by decide +kernel)) ggX9_areAtOdds_X9_of
set_option maxRecDepth 20000 in
theorem ggX9_areAtOdds_X9_has : GoodIn wsX9_areAtOdds wsX9_has := goodIn_r _ [9] (by decide +kernel) (by decide +kernel)
set_option maxRecDepth 20000 in
theorem gX9_areAtOdds_X9_has : GoodIn wsX9_areAtOdds (va_wsS RX9 48 yX9_has wsX9_has) := goodIn_app (goodIn_of _ (by decide +kernel)) ggX9_areAtOdds_X9_has
set_option maxRecDepth 20000 in
theorem ggX9_areAtOdds_X9_areAlikeNamed : GoodIn wsX9_areAtOdds wsX9_areAlikeNamed := goodIn_r _ [13, 2, 3, 4, 5, 6, 1, 14, 15, 16, 17, 22, 23, 24, 25, 26, 27, 28, 29, 30, 31, 32, 33, 34] (by decide +kernel) (by decide +kernel)
set_option maxRecDepth 20000 in
theorem gX9_areAtOdds_X9_areAlikeNamed : GoodIn wsX9_areAtOdds (wsV RX9 70 RX9 yX9_areAlikeNamed wsX9_areAlikeNamed) := goodIn_app (goodIn_of _ (by decide +kernel)) ggX9_areAtOdds_X9_areAlikeNamed
set_option maxRecDepth 20000 in
theorem ggX9_areAtOdds_X9_haveSameList : GoodIn wsX9_areAtOdds wsX9_haveSameList := goodIn_r _ [21, 2, 3, 4, 5, 6, 1, 22, 23, 24, 25, 26, 27, 28, 29, 30, 31, 32, 33, 34] (by decide +kernel) (by decide +kernel)
set_option maxRecDepth 20000 in
theorem gX9_areAtOdds_X9_haveSameList : GoodIn wsX9_areAtOdds (wsV RX9 73 RX9 yX9_haveSameList wsX9_haveSameList) := goodIn_app (goodIn_of _ (by decide +kernel)) ggX9_areAtOdds_X9_haveSameList
theorem dX9_areAtOdds_0 : decode cX9_areAtOdds 0 = .ok (.iconst 0, 1) := by decide +kernel
theorem dX9_areAtOdds_1 : decode cX9_areAtOdds 1 = .ok (.istore_n 2, 1) := by decide +kernel
theorem dX9_areAtOdds_2 : decode cX9_areAtOdds 2 = .ok (.iconst 0, 1) := by decide +kernel
theorem dX9_areAtOdds_3 : decode cX9_areAtOdds 3 = .ok (.istore_n 3, 1) := by decide +kernel
theorem dX9_areAtOdds_4 : decode cX9_areAtOdds 4 = .ok (.iload_n 3, 1) := by decide +kernel
theorem dX9_areAtOdds_5 : decode cX9_areAtOdds 5 = .ok (.aload_n 0, 1) := by decide +kernel
theorem dX9_areAtOdds_6 : decode cX9_areAtOdds 6 = .ok (.getfield 7, 3) := by decide +kernel
theorem dX9_areAtOdds_9 : decode cX9_areAtOdds 9 = .ok (.bipush 25, 2) := by decide +kernel
theorem dX9_areAtOdds_11 : decode cX9_areAtOdds 11 = .ok (.iaload, 1) := by decide +kernel
theorem dX9_areAtOdds_12 : decode cX9_areAtOdds 12 = .ok (.if_icmp .ge 81, 3) := by decide +kernel
theorem dX9_areAtOdds_15 : decode cX9_areAtOdds 15 = .ok (.iconst 0, 1) := by decide +kernel
theorem dX9_areAtOdds_16 : decode cX9_areAtOdds 16 = .ok (.istore 4, 2) := by decide +kernel
theorem dX9_areAtOdds_18 : decode cX9_areAtOdds 18 = .ok (.iload 4, 2) := by decide +kernel
theorem dX9_areAtOdds_20 : decode cX9_areAtOdds 20 = .ok (.iload_n 3, 1) := by decide +kernel
theorem dX9_areAtOdds_21 : decode cX9_areAtOdds 21 = .ok (.if_icmp .ge 66, 3) := by decide +kernel
theorem dX9_areAtOdds_24 : decode cX9_areAtOdds 24 = .ok (.iload_n 2, 1) := by decide +kernel
theorem dX9_areAtOdds_25 : decode cX9_areAtOdds 25 = .ok (.ifCond .ne 50, 3) := by decide +kernel
theorem dX9_areAtOdds_28 : decode cX9_areAtOdds 28 = .ok (.iload_n 1, 1) := by decide +kernel
theorem dX9_areAtOdds_29 : decode cX9_areAtOdds 29 = .ok (.aload_n 0, 1) := by decide +kernel
theorem dX9_areAtOdds_30 : decode cX9_areAtOdds 30 = .ok (.iload_n 3, 1) := by decide +kernel
theorem dX9_areAtOdds_31 : decode cX9_areAtOdds 31 = .ok (.iconst 0, 1) := by decide +kernel
theorem dX9_areAtOdds_32 : decode cX9_areAtOdds 32 = .ok (.invokevirtual 63, 3) := by decide +kernel
theorem dX9_areAtOdds_35 : decode cX9_areAtOdds 35 = .ok (.invokestatic 48, 3) := by decide +kernel
theorem dX9_areAtOdds_38 : decode cX9_areAtOdds 38 = .ok (.ifCond .eq 41, 3) := by decide +kernel
theorem dX9_areAtOdds_41 : decode cX9_areAtOdds 41 = .ok (.iload_n 1, 1) := by decide +kernel
theorem dX9_areAtOdds_42 : decode cX9_areAtOdds 42 = .ok (.aload_n 0, 1) := by decide +kernel
theorem dX9_areAtOdds_43 : decode cX9_areAtOdds 43 = .ok (.iload 4, 2) := by decide +kernel
theorem dX9_areAtOdds_45 : decode cX9_areAtOdds 45 = .ok (.iconst 0, 1) := by decide +kernel
theorem dX9_areAtOdds_46 : decode cX9_areAtOdds 46 = .ok (.invokevirtual 63, 3) := by decide +kernel
theorem dX9_areAtOdds_49 : decode cX9_areAtOdds 49 = .ok (.invokestatic 48, 3) := by decide +kernel
theorem dX9_areAtOdds_52 : decode cX9_areAtOdds 52 = .ok (.ifCond .eq 27, 3) := by decide +kernel
theorem dX9_areAtOdds_55 : decode cX9_areAtOdds 55 = .ok (.aload_n 0, 1) := by decide +kernel
theorem dX9_areAtOdds_56 : decode cX9_areAtOdds 56 = .ok (.iload_n 3, 1) := by decide +kernel
theorem dX9_areAtOdds_57 : decode cX9_areAtOdds 57 = .ok (.iload 4, 2) := by decide +kernel
theorem dX9_areAtOdds_59 : decode cX9_areAtOdds 59 = .ok (.invokevirtual 70, 3) := by decide +kernel
theorem dX9_areAtOdds_62 : decode cX9_areAtOdds 62 = .ok (.ifCond .eq 17, 3) := by decide +kernel
theorem dX9_areAtOdds_65 : decode cX9_areAtOdds 65 = .ok (.aload_n 0, 1) := by decide +kernel
theorem dX9_areAtOdds_66 : decode cX9_areAtOdds 66 = .ok (.iload_n 3, 1) := by decide +kernel
theorem dX9_areAtOdds_67 : decode cX9_areAtOdds 67 = .ok (.iload 4, 2) := by decide +kernel
theorem dX9_areAtOdds_69 : decode cX9_areAtOdds 69 = .ok (.invokevirtual 73, 3) := by decide +kernel
theorem dX9_areAtOdds_72 : decode cX9_areAtOdds 72 = .ok (.ifCond .ne 7, 3) := by decide +kernel
theorem dX9_areAtOdds_75 : decode cX9_areAtOdds 75 = .ok (.iconst 1, 1) := by decide +kernel
theorem dX9_areAtOdds_76 : decode cX9_areAtOdds 76 = .ok (.goto 4, 3) := by decide +kernel
theorem dX9_areAtOdds_79 : decode cX9_areAtOdds 79 = .ok (.iconst 0, 1) := by decide +kernel
theorem dX9_areAtOdds_80 : decode cX9_areAtOdds 80 = .ok (.istore_n 2, 1) := by decide +kernel
theorem dX9_areAtOdds_81 : decode cX9_areAtOdds 81 = .ok (.iinc 4 1, 3) := by decide +kernel
theorem dX9_areAtOdds_84 : decode cX9_areAtOdds 84 = .ok (.goto (-66), 3) := by decide +kernel
theorem dX9_areAtOdds_87 : decode cX9_areAtOdds 87 = .ok (.iinc 3 1, 3) := by decide +kernel
theorem dX9_areAtOdds_90 : decode cX9_areAtOdds 90 = .ok (.goto (-86), 3) := by decide +kernel
theorem dX9_areAtOdds_93 : decode cX9_areAtOdds 93 = .ok (.iload_n 2, 1) := by decide +kernel
theorem dX9_areAtOdds_94 : decode cX9_areAtOdds 94 = .ok (.ireturn, 1) := by decide +kernel
set_option maxRecDepth 20000 in
theorem ggX9_declareType_X9_in : GoodIn wsX9_declareType wsX9_in := goodIn_r _ [5] (by decide +kernel) (by decide +kernel)
set_option maxRecDepth 20000 in
theorem gX9_declareType_X9_in : GoodIn wsX9_declareType (va_wsS RX9 44 yX9_in wsX9_in) := goodIn_app (goodIn_of _ (by decide +kernel)) ggX9_declareType_X9_in
set_option maxRecDepth 20000 in
theorem ggX9_declareType_X9_allInterfaces : GoodIn wsX9_declareType wsX9_allInterfaces := goodIn_r _ [9, 1, 10, 11, 12, 4, 13, 52, 53, 54, 55, 56, 57, 58, 59, 60, 61, 62, 63, 64] (by decide +kernel) (by decide +kernel)
set_option maxRecDepth 20000 in
theorem gX9_declareType_X9_allInterfaces : GoodIn wsX9_declareType (wsV RX9 76 RX9 yX9_allInterfaces wsX9_allInterfaces) := goodIn_app (goodIn_of _ (by decide +kernel)) ggX9_declareType_X9_allInterfaces
set_option maxRecDepth 20000 in
theorem ggX9_declareType_X9_isType : GoodIn wsX9_declareType wsX9_isType := goodIn_r _ [17, 1, 2, 3, 4, 5, 52, 53, 54, 55, 56, 57, 58, 59, 60, 61, 62, 63, 64] (by decide +kernel) (by decide +kernel)
set_option maxRecDepth 20000 in
theorem gX9_declareType_X9_isType : GoodIn wsX9_declareType (wsV RX9 80 RX9 yX9_isType wsX9_isType) := goodIn_app (goodIn_of _ (by decide +kernel)) ggX9_declareType_X9_isType
set_option maxRecDepth 20000 in
theorem ggX9_declareType_X9_isInterface : GoodIn wsX9_declareType wsX9_isInterface := goodIn_r _ [13, 1, 52, 53, 54, 55, 56, 57, 58, 59, 60, 61, 62, 63, 64] (by decide +kernel) (by decide +kernel)
set_option maxRecDepth 20000 in
theorem gX9_declareType_X9_isInterface : GoodIn wsX9_declareType (wsV RX9 59 RX9 yX9_isInterface wsX9_isInterface) := goodIn_app (goodIn_of _ (by decide +kernel)) ggX9_declareType_X9_isInterface
set_option maxRecDepth 20000 in
theorem ggX9_declareType_X9_closed : GoodIn wsX9_declareType wsX9_closed := goodIn_r _ [21, 1, 22, 23, 4, 24, 52, 53, 54, 55, 56, 57, 58, 59, 60, 61, 62, 63, 64] (by decide +kernel) (by decide +kernel)
set_option maxRecDepth 20000 in
theorem gX9_declareType_X9_closed : GoodIn wsX9_declareType (wsV RX9 52 RX9 yX9_closed wsX9_closed) := goodIn_app (goodIn_of _ (by decide +kernel)) ggX9_declareType_X9_closed
set_option maxRecDepth 20000 in
theorem ggX9_declareType_X9_areAtOdds : GoodIn wsX9_declareType wsX9_areAtOdds := goodIn_r _ [28, 1, 29, 30, 31, 4, 32, 22, 23, 24, 33, 34, 35, 36, 37, 38, 39, 40, 41, 42, 43, 44, 52, 53, 54, 55, 56, 57, 58, 59, 60, 61, 62, 63, 64] (by decide +kernel) (by decide +kernel)
set_option maxRecDepth 20000 in
theorem gX9_declareType_X9_areAtOdds : GoodIn wsX9_declareType (wsV RX9 83 RX9 yX9_areAtOdds wsX9_areAtOdds) := goodIn_app (goodIn_of _ (by decide +kernel)) ggX9_declareType_X9_areAtOdds
set_option maxRecDepth 20000 in
theorem ggX9_declareType_X9_edit : GoodIn wsX9_declareType wsX9_edit := goodIn_r _ [48, 49, 50, 51, 1, 52, 53, 54, 55, 56, 57, 58, 59, 60, 61, 62, 63, 64] (by decide +kernel) (by decide +kernel)
set_option maxRecDepth 20000 in
theorem gX9_declareType_X9_edit : GoodIn wsX9_declareType (wsV RX9 86 RX9 yX9_edit wsX9_edit) := goodIn_app (goodIn_of _ (by decide +kernel)) ggX9_declareType_X9_edit
theorem dX9_declareType_0 : decode cX9_declareType 0 = .ok (.iload_n 1, 1) := by decide +kernel
theorem dX9_declareType_1 : decode cX9_declareType 1 = .ok (.iconst 0, 1) := by decide +kernel
theorem dX9_declareType_2 : decode cX9_declareType 2 = .ok (.iconst 1, 1) := by decide +kernel
theorem dX9_declareType_3 : decode cX9_declareType 3 = .ok (.invokestatic 44, 3) := by decide +kernel
theorem dX9_declareType_6 : decode cX9_declareType 6 = .ok (.ifCond .eq 18, 3) := by decide +kernel
theorem dX9_declareType_9 : decode cX9_declareType 9 = .ok (.iload_n 3, 1) := by decide +kernel
theorem dX9_declareType_10 : decode cX9_declareType 10 = .ok (.ifCond .lt 14, 3) := by decide +kernel
theorem dX9_declareType_13 : decode cX9_declareType 13 = .ok (.iload_n 3, 1) := by decide +kernel
theorem dX9_declareType_14 : decode cX9_declareType 14 = .ok (.aload_n 0, 1) := by decide +kernel
theorem dX9_declareType_15 : decode cX9_declareType 15 = .ok (.invokevirtual 76, 3) := by decide +kernel
theorem dX9_declareType_18 : decode cX9_declareType 18 = .ok (.iconst (-1), 1) := by decide +kernel
theorem dX9_declareType_19 : decode cX9_declareType 19 = .ok (.ixor, 1) := by decide +kernel
theorem dX9_declareType_20 : decode cX9_declareType 20 = .ok (.iand, 1) := by decide +kernel
theorem dX9_declareType_21 : decode cX9_declareType 21 = .ok (.ifCond .eq 5, 3) := by decide +kernel
theorem dX9_declareType_24 : decode cX9_declareType 24 = .ok (.iconst (-1), 1) := by decide +kernel
theorem dX9_declareType_25 : decode cX9_declareType 25 = .ok (.ireturn, 1) := by decide +kernel
theorem dX9_declareType_26 : decode cX9_declareType 26 = .ok (.iload_n 2, 1) := by decide +kernel
theorem dX9_declareType_27 : decode cX9_declareType 27 = .ok (.iconst (-1), 1) := by decide +kernel
theorem dX9_declareType_28 : decode cX9_declareType 28 = .ok (.if_icmp .eq 26, 3) := by decide +kernel
theorem dX9_declareType_31 : decode cX9_declareType 31 = .ok (.iload_n 1, 1) := by decide +kernel
theorem dX9_declareType_32 : decode cX9_declareType 32 = .ok (.iconst 1, 1) := by decide +kernel
theorem dX9_declareType_33 : decode cX9_declareType 33 = .ok (.if_icmp .eq 19, 3) := by decide +kernel
theorem dX9_declareType_36 : decode cX9_declareType 36 = .ok (.aload_n 0, 1) := by decide +kernel
theorem dX9_declareType_37 : decode cX9_declareType 37 = .ok (.iload_n 2, 1) := by decide +kernel
theorem dX9_declareType_38 : decode cX9_declareType 38 = .ok (.invokevirtual 80, 3) := by decide +kernel
theorem dX9_declareType_41 : decode cX9_declareType 41 = .ok (.ifCond .eq 11, 3) := by decide +kernel
theorem dX9_declareType_44 : decode cX9_declareType 44 = .ok (.aload_n 0, 1) := by decide +kernel
theorem dX9_declareType_45 : decode cX9_declareType 45 = .ok (.iload_n 2, 1) := by decide +kernel
theorem dX9_declareType_46 : decode cX9_declareType 46 = .ok (.invokevirtual 59, 3) := by decide +kernel
theorem dX9_declareType_49 : decode cX9_declareType 49 = .ok (.ifCond .eq 5, 3) := by decide +kernel
theorem dX9_declareType_52 : decode cX9_declareType 52 = .ok (.iconst (-1), 1) := by decide +kernel
theorem dX9_declareType_53 : decode cX9_declareType 53 = .ok (.ireturn, 1) := by decide +kernel
theorem dX9_declareType_54 : decode cX9_declareType 54 = .ok (.aload_n 0, 1) := by decide +kernel
theorem dX9_declareType_55 : decode cX9_declareType 55 = .ok (.iload_n 3, 1) := by decide +kernel
theorem dX9_declareType_56 : decode cX9_declareType 56 = .ok (.iload_n 2, 1) := by decide +kernel
theorem dX9_declareType_57 : decode cX9_declareType 57 = .ok (.ifCond .ge 7, 3) := by decide +kernel
theorem dX9_declareType_60 : decode cX9_declareType 60 = .ok (.iconst 0, 1) := by decide +kernel
theorem dX9_declareType_61 : decode cX9_declareType 61 = .ok (.goto 6, 3) := by decide +kernel
theorem dX9_declareType_64 : decode cX9_declareType 64 = .ok (.iconst 1, 1) := by decide +kernel
theorem dX9_declareType_65 : decode cX9_declareType 65 = .ok (.iload_n 2, 1) := by decide +kernel
theorem dX9_declareType_66 : decode cX9_declareType 66 = .ok (.ishl, 1) := by decide +kernel
theorem dX9_declareType_67 : decode cX9_declareType 67 = .ok (.ior, 1) := by decide +kernel
theorem dX9_declareType_68 : decode cX9_declareType 68 = .ok (.invokevirtual 52, 3) := by decide +kernel
theorem dX9_declareType_71 : decode cX9_declareType 71 = .ok (.istore 4, 2) := by decide +kernel
theorem dX9_declareType_73 : decode cX9_declareType 73 = .ok (.aload_n 0, 1) := by decide +kernel
theorem dX9_declareType_74 : decode cX9_declareType 74 = .ok (.iload 4, 2) := by decide +kernel
theorem dX9_declareType_76 : decode cX9_declareType 76 = .ok (.invokevirtual 83, 3) := by decide +kernel
theorem dX9_declareType_79 : decode cX9_declareType 79 = .ok (.ifCond .eq 6, 3) := by decide +kernel
theorem dX9_declareType_82 : decode cX9_declareType 82 = .ok (.bipush (-2), 2) := by decide +kernel
theorem dX9_declareType_84 : decode cX9_declareType 84 = .ok (.ireturn, 1) := by decide +kernel
theorem dX9_declareType_85 : decode cX9_declareType 85 = .ok (.aload_n 0, 1) := by decide +kernel
theorem dX9_declareType_86 : decode cX9_declareType 86 = .ok (.getfield 7, 3) := by decide +kernel
theorem dX9_declareType_89 : decode cX9_declareType 89 = .ok (.iconst 0, 1) := by decide +kernel
theorem dX9_declareType_90 : decode cX9_declareType 90 = .ok (.iaload, 1) := by decide +kernel
theorem dX9_declareType_91 : decode cX9_declareType 91 = .ok (.bipush 8, 2) := by decide +kernel
theorem dX9_declareType_93 : decode cX9_declareType 93 = .ok (.if_icmp .ne 6, 3) := by decide +kernel
theorem dX9_declareType_96 : decode cX9_declareType 96 = .ok (.bipush (-3), 2) := by decide +kernel
theorem dX9_declareType_98 : decode cX9_declareType 98 = .ok (.ireturn, 1) := by decide +kernel
theorem dX9_declareType_99 : decode cX9_declareType 99 = .ok (.aload_n 0, 1) := by decide +kernel
theorem dX9_declareType_100 : decode cX9_declareType 100 = .ok (.invokevirtual 86, 3) := by decide +kernel
theorem dX9_declareType_103 : decode cX9_declareType 103 = .ok (.iconst 1, 1) := by decide +kernel
theorem dX9_declareType_104 : decode cX9_declareType 104 = .ok (.iconst 3, 1) := by decide +kernel
theorem dX9_declareType_105 : decode cX9_declareType 105 = .ok (.aload_n 0, 1) := by decide +kernel
theorem dX9_declareType_106 : decode cX9_declareType 106 = .ok (.getfield 7, 3) := by decide +kernel
theorem dX9_declareType_109 : decode cX9_declareType 109 = .ok (.iconst 0, 1) := by decide +kernel
theorem dX9_declareType_110 : decode cX9_declareType 110 = .ok (.iaload, 1) := by decide +kernel
theorem dX9_declareType_111 : decode cX9_declareType 111 = .ok (.imul, 1) := by decide +kernel
theorem dX9_declareType_112 : decode cX9_declareType 112 = .ok (.iadd, 1) := by decide +kernel
theorem dX9_declareType_113 : decode cX9_declareType 113 = .ok (.istore 5, 2) := by decide +kernel
theorem dX9_declareType_115 : decode cX9_declareType 115 = .ok (.aload_n 0, 1) := by decide +kernel
theorem dX9_declareType_116 : decode cX9_declareType 116 = .ok (.getfield 7, 3) := by decide +kernel
theorem dX9_declareType_119 : decode cX9_declareType 119 = .ok (.iload 5, 2) := by decide +kernel
theorem dX9_declareType_121 : decode cX9_declareType 121 = .ok (.iload_n 1, 1) := by decide +kernel
theorem dX9_declareType_122 : decode cX9_declareType 122 = .ok (.iastore, 1) := by decide +kernel
theorem dX9_declareType_123 : decode cX9_declareType 123 = .ok (.aload_n 0, 1) := by decide +kernel
theorem dX9_declareType_124 : decode cX9_declareType 124 = .ok (.getfield 7, 3) := by decide +kernel
theorem dX9_declareType_127 : decode cX9_declareType 127 = .ok (.iload 5, 2) := by decide +kernel
theorem dX9_declareType_129 : decode cX9_declareType 129 = .ok (.iconst 1, 1) := by decide +kernel
theorem dX9_declareType_130 : decode cX9_declareType 130 = .ok (.iadd, 1) := by decide +kernel
theorem dX9_declareType_131 : decode cX9_declareType 131 = .ok (.iload_n 2, 1) := by decide +kernel
theorem dX9_declareType_132 : decode cX9_declareType 132 = .ok (.iastore, 1) := by decide +kernel
theorem dX9_declareType_133 : decode cX9_declareType 133 = .ok (.aload_n 0, 1) := by decide +kernel
theorem dX9_declareType_134 : decode cX9_declareType 134 = .ok (.getfield 7, 3) := by decide +kernel
theorem dX9_declareType_137 : decode cX9_declareType 137 = .ok (.iload 5, 2) := by decide +kernel
theorem dX9_declareType_139 : decode cX9_declareType 139 = .ok (.iconst 2, 1) := by decide +kernel
theorem dX9_declareType_140 : decode cX9_declareType 140 = .ok (.iadd, 1) := by decide +kernel
theorem dX9_declareType_141 : decode cX9_declareType 141 = .ok (.iload_n 3, 1) := by decide +kernel
theorem dX9_declareType_142 : decode cX9_declareType 142 = .ok (.iastore, 1) := by decide +kernel
theorem dX9_declareType_143 : decode cX9_declareType 143 = .ok (.aload_n 0, 1) := by decide +kernel
theorem dX9_declareType_144 : decode cX9_declareType 144 = .ok (.getfield 7, 3) := by decide +kernel
theorem dX9_declareType_147 : decode cX9_declareType 147 = .ok (.iconst 0, 1) := by decide +kernel
theorem dX9_declareType_148 : decode cX9_declareType 148 = .ok (.dup2, 1) := by decide +kernel
theorem dX9_declareType_149 : decode cX9_declareType 149 = .ok (.iaload, 1) := by decide +kernel
theorem dX9_declareType_150 : decode cX9_declareType 150 = .ok (.iconst 1, 1) := by decide +kernel
theorem dX9_declareType_151 : decode cX9_declareType 151 = .ok (.iadd, 1) := by decide +kernel
theorem dX9_declareType_152 : decode cX9_declareType 152 = .ok (.iastore, 1) := by decide +kernel
theorem dX9_declareType_153 : decode cX9_declareType 153 = .ok (.aload_n 0, 1) := by decide +kernel
theorem dX9_declareType_154 : decode cX9_declareType 154 = .ok (.getfield 7, 3) := by decide +kernel
theorem dX9_declareType_157 : decode cX9_declareType 157 = .ok (.iconst 0, 1) := by decide +kernel
theorem dX9_declareType_158 : decode cX9_declareType 158 = .ok (.iaload, 1) := by decide +kernel
theorem dX9_declareType_159 : decode cX9_declareType 159 = .ok (.iconst 1, 1) := by decide +kernel
theorem dX9_declareType_160 : decode cX9_declareType 160 = .ok (.isub, 1) := by decide +kernel
theorem dX9_declareType_161 : decode cX9_declareType 161 = .ok (.ireturn, 1) := by decide +kernel
set_option maxRecDepth 20000 in
theorem ggX9_relatives_X9_isNamed : GoodIn wsX9_relatives wsX9_isNamed := goodIn_r _ [6, 7, 8, 9, 5, 10, 1, 26, 27, 28, 29, 30, 31, 32, 33, 34, 35, 36, 37, 38] (by decide +kernel) (by decide +kernel)
set_option maxRecDepth 20000 in
theorem gX9_relatives_X9_isNamed : GoodIn wsX9_relatives (wsV RX9 67 RX9 yX9_isNamed wsX9_isNamed) := goodIn_app (goodIn_of _ (by decide +kernel)) ggX9_relatives_X9_isNamed
set_option maxRecDepth 20000 in
theorem ggX9_relatives_X9_of : GoodIn wsX9_relatives wsX9_of := goodIn_r _ [10, 1, 26, 27, 28, 29, 30, 31, 32, 33, 34, 35, 36, 37, 38] (by decide +kernel) (by decide +kernel)
set_option maxRecDepth 20000 in
theorem gX9_relatives_X9_of : GoodIn wsX9_relatives (wsV RX9 63 RX9 yX9_of wsX9_of) := goodIn_app (goodIn_of _ (by decide +kernel)) ggX9_relatives_X9_of
set_option maxRecDepth 20000 in
theorem ggX9_relatives_X9_areConnected : GoodIn wsX9_relatives wsX9_areConnected := goodIn_r _ [14, 1, 15, 16, 17, 5, 18, 19, 20, 21, 22, 23, 24, 25, 26, 27, 28, 29, 30, 31, 32, 33, 34, 35, 36, 37, 38] (by decide +kernel) (by decide +kernel)
set_option maxRecDepth 20000 in
theorem gX9_relatives_X9_areConnected : GoodIn wsX9_relatives (wsV RX9 89 RX9 yX9_areConnected wsX9_areConnected) := goodIn_app (goodIn_of _ (by decide +kernel)) ggX9_relatives_X9_areConnected
theorem dX9_relatives_0 : decode cX9_relatives 0 = .ok (.iconst 0, 1) := by decide +kernel
theorem dX9_relatives_1 : decode cX9_relatives 1 = .ok (.istore 4, 2) := by decide +kernel
theorem dX9_relatives_3 : decode cX9_relatives 3 = .ok (.iconst 0, 1) := by decide +kernel
theorem dX9_relatives_4 : decode cX9_relatives 4 = .ok (.istore 5, 2) := by decide +kernel
theorem dX9_relatives_6 : decode cX9_relatives 6 = .ok (.iload 5, 2) := by decide +kernel
theorem dX9_relatives_8 : decode cX9_relatives 8 = .ok (.aload_n 0, 1) := by decide +kernel
theorem dX9_relatives_9 : decode cX9_relatives 9 = .ok (.getfield 7, 3) := by decide +kernel
theorem dX9_relatives_12 : decode cX9_relatives 12 = .ok (.bipush 25, 2) := by decide +kernel
theorem dX9_relatives_14 : decode cX9_relatives 14 = .ok (.iaload, 1) := by decide +kernel
theorem dX9_relatives_15 : decode cX9_relatives 15 = .ok (.if_icmp .ge 48, 3) := by decide +kernel
theorem dX9_relatives_18 : decode cX9_relatives 18 = .ok (.iload 4, 2) := by decide +kernel
theorem dX9_relatives_20 : decode cX9_relatives 20 = .ok (.aload_n 0, 1) := by decide +kernel
theorem dX9_relatives_21 : decode cX9_relatives 21 = .ok (.iload 5, 2) := by decide +kernel
theorem dX9_relatives_23 : decode cX9_relatives 23 = .ok (.iload_n 2, 1) := by decide +kernel
theorem dX9_relatives_24 : decode cX9_relatives 24 = .ok (.iload_n 3, 1) := by decide +kernel
theorem dX9_relatives_25 : decode cX9_relatives 25 = .ok (.invokevirtual 67, 3) := by decide +kernel
theorem dX9_relatives_28 : decode cX9_relatives 28 = .ok (.ifCond .eq 25, 3) := by decide +kernel
theorem dX9_relatives_31 : decode cX9_relatives 31 = .ok (.aload_n 0, 1) := by decide +kernel
theorem dX9_relatives_32 : decode cX9_relatives 32 = .ok (.iload_n 1, 1) := by decide +kernel
theorem dX9_relatives_33 : decode cX9_relatives 33 = .ok (.aload_n 0, 1) := by decide +kernel
theorem dX9_relatives_34 : decode cX9_relatives 34 = .ok (.iload 5, 2) := by decide +kernel
theorem dX9_relatives_36 : decode cX9_relatives 36 = .ok (.iconst 0, 1) := by decide +kernel
theorem dX9_relatives_37 : decode cX9_relatives 37 = .ok (.invokevirtual 63, 3) := by decide +kernel
theorem dX9_relatives_40 : decode cX9_relatives 40 = .ok (.invokevirtual 89, 3) := by decide +kernel
theorem dX9_relatives_43 : decode cX9_relatives 43 = .ok (.ifCond .eq 10, 3) := by decide +kernel
theorem dX9_relatives_46 : decode cX9_relatives 46 = .ok (.iconst 1, 1) := by decide +kernel
theorem dX9_relatives_47 : decode cX9_relatives 47 = .ok (.iload 5, 2) := by decide +kernel
theorem dX9_relatives_49 : decode cX9_relatives 49 = .ok (.ishl, 1) := by decide +kernel
theorem dX9_relatives_50 : decode cX9_relatives 50 = .ok (.goto 4, 3) := by decide +kernel
theorem dX9_relatives_53 : decode cX9_relatives 53 = .ok (.iconst 0, 1) := by decide +kernel
theorem dX9_relatives_54 : decode cX9_relatives 54 = .ok (.ior, 1) := by decide +kernel
theorem dX9_relatives_55 : decode cX9_relatives 55 = .ok (.istore 4, 2) := by decide +kernel
theorem dX9_relatives_57 : decode cX9_relatives 57 = .ok (.iinc 5 1, 3) := by decide +kernel
theorem dX9_relatives_60 : decode cX9_relatives 60 = .ok (.goto (-54), 3) := by decide +kernel
theorem dX9_relatives_63 : decode cX9_relatives 63 = .ok (.iload 4, 2) := by decide +kernel
theorem dX9_relatives_65 : decode cX9_relatives 65 = .ok (.ireturn, 1) := by decide +kernel
set_option maxRecDepth 20000 in
theorem ggX9_lowest_X9_has : GoodIn wsX9_lowest wsX9_has := goodIn_r _ [4] (by decide +kernel) (by decide +kernel)
set_option maxRecDepth 20000 in
theorem gX9_lowest_X9_has : GoodIn wsX9_lowest (va_wsS RX9 48 yX9_has wsX9_has) := goodIn_app (goodIn_of _ (by decide +kernel)) ggX9_lowest_X9_has
theorem dX9_lowest_0 : decode cX9_lowest 0 = .ok (.iconst 0, 1) := by decide +kernel
theorem dX9_lowest_1 : decode cX9_lowest 1 = .ok (.istore_n 2, 1) := by decide +kernel
theorem dX9_lowest_2 : decode cX9_lowest 2 = .ok (.iload_n 1, 1) := by decide +kernel
theorem dX9_lowest_3 : decode cX9_lowest 3 = .ok (.iload_n 2, 1) := by decide +kernel
theorem dX9_lowest_4 : decode cX9_lowest 4 = .ok (.invokestatic 48, 3) := by decide +kernel
theorem dX9_lowest_7 : decode cX9_lowest 7 = .ok (.ifCond .ne 9, 3) := by decide +kernel
theorem dX9_lowest_10 : decode cX9_lowest 10 = .ok (.iinc 2 1, 3) := by decide +kernel
theorem dX9_lowest_13 : decode cX9_lowest 13 = .ok (.goto (-11), 3) := by decide +kernel
theorem dX9_lowest_16 : decode cX9_lowest 16 = .ok (.iload_n 2, 1) := by decide +kernel
theorem dX9_lowest_17 : decode cX9_lowest 17 = .ok (.ireturn, 1) := by decide +kernel
set_option maxRecDepth 20000 in
theorem ggX9_haveOneList_X9_has : GoodIn wsX9_haveOneList wsX9_has := goodIn_r _ [5] (by decide +kernel) (by decide +kernel)
set_option maxRecDepth 20000 in
theorem gX9_haveOneList_X9_has : GoodIn wsX9_haveOneList (va_wsS RX9 48 yX9_has wsX9_has) := goodIn_app (goodIn_of _ (by decide +kernel)) ggX9_haveOneList_X9_has
set_option maxRecDepth 20000 in
theorem ggX9_haveOneList_X9_lowest : GoodIn wsX9_haveOneList wsX9_lowest := goodIn_r _ [9, 2, 3, 4, 5] (by decide +kernel) (by decide +kernel)
set_option maxRecDepth 20000 in
theorem gX9_haveOneList_X9_lowest : GoodIn wsX9_haveOneList (wsV RX9 92 RX9 yX9_lowest wsX9_lowest) := goodIn_app (goodIn_of _ (by decide +kernel)) ggX9_haveOneList_X9_lowest
set_option maxRecDepth 20000 in
theorem ggX9_haveOneList_X9_haveSameList : GoodIn wsX9_haveOneList wsX9_haveSameList := goodIn_r _ [13, 14, 15, 16, 4, 17, 1, 18, 19, 20, 21, 22, 23, 24, 25, 26, 27, 28, 29, 30] (by decide +kernel) (by decide +kernel)
set_option maxRecDepth 20000 in
theorem gX9_haveOneList_X9_haveSameList : GoodIn wsX9_haveOneList (wsV RX9 73 RX9 yX9_haveSameList wsX9_haveSameList) := goodIn_app (goodIn_of _ (by decide +kernel)) ggX9_haveOneList_X9_haveSameList
theorem dX9_haveOneList_0 : decode cX9_haveOneList 0 = .ok (.iconst 1, 1) := by decide +kernel
theorem dX9_haveOneList_1 : decode cX9_haveOneList 1 = .ok (.istore_n 2, 1) := by decide +kernel
theorem dX9_haveOneList_2 : decode cX9_haveOneList 2 = .ok (.iconst 0, 1) := by decide +kernel
theorem dX9_haveOneList_3 : decode cX9_haveOneList 3 = .ok (.istore_n 3, 1) := by decide +kernel
theorem dX9_haveOneList_4 : decode cX9_haveOneList 4 = .ok (.iload_n 3, 1) := by decide +kernel
theorem dX9_haveOneList_5 : decode cX9_haveOneList 5 = .ok (.aload_n 0, 1) := by decide +kernel
theorem dX9_haveOneList_6 : decode cX9_haveOneList 6 = .ok (.getfield 7, 3) := by decide +kernel
theorem dX9_haveOneList_9 : decode cX9_haveOneList 9 = .ok (.bipush 25, 2) := by decide +kernel
theorem dX9_haveOneList_11 : decode cX9_haveOneList 11 = .ok (.iaload, 1) := by decide +kernel
theorem dX9_haveOneList_12 : decode cX9_haveOneList 12 = .ok (.if_icmp .ge 40, 3) := by decide +kernel
theorem dX9_haveOneList_15 : decode cX9_haveOneList 15 = .ok (.iload_n 2, 1) := by decide +kernel
theorem dX9_haveOneList_16 : decode cX9_haveOneList 16 = .ok (.ifCond .eq 28, 3) := by decide +kernel
theorem dX9_haveOneList_19 : decode cX9_haveOneList 19 = .ok (.iload_n 1, 1) := by decide +kernel
theorem dX9_haveOneList_20 : decode cX9_haveOneList 20 = .ok (.iload_n 3, 1) := by decide +kernel
theorem dX9_haveOneList_21 : decode cX9_haveOneList 21 = .ok (.invokestatic 48, 3) := by decide +kernel
theorem dX9_haveOneList_24 : decode cX9_haveOneList 24 = .ok (.ifCond .eq 16, 3) := by decide +kernel
theorem dX9_haveOneList_27 : decode cX9_haveOneList 27 = .ok (.aload_n 0, 1) := by decide +kernel
theorem dX9_haveOneList_28 : decode cX9_haveOneList 28 = .ok (.iload_n 3, 1) := by decide +kernel
theorem dX9_haveOneList_29 : decode cX9_haveOneList 29 = .ok (.aload_n 0, 1) := by decide +kernel
theorem dX9_haveOneList_30 : decode cX9_haveOneList 30 = .ok (.iload_n 1, 1) := by decide +kernel
theorem dX9_haveOneList_31 : decode cX9_haveOneList 31 = .ok (.invokevirtual 92, 3) := by decide +kernel
theorem dX9_haveOneList_34 : decode cX9_haveOneList 34 = .ok (.invokevirtual 73, 3) := by decide +kernel
theorem dX9_haveOneList_37 : decode cX9_haveOneList 37 = .ok (.ifCond .eq 7, 3) := by decide +kernel
theorem dX9_haveOneList_40 : decode cX9_haveOneList 40 = .ok (.iconst 1, 1) := by decide +kernel
theorem dX9_haveOneList_41 : decode cX9_haveOneList 41 = .ok (.goto 4, 3) := by decide +kernel
theorem dX9_haveOneList_44 : decode cX9_haveOneList 44 = .ok (.iconst 0, 1) := by decide +kernel
theorem dX9_haveOneList_45 : decode cX9_haveOneList 45 = .ok (.istore_n 2, 1) := by decide +kernel
theorem dX9_haveOneList_46 : decode cX9_haveOneList 46 = .ok (.iinc 3 1, 3) := by decide +kernel
theorem dX9_haveOneList_49 : decode cX9_haveOneList 49 = .ok (.goto (-45), 3) := by decide +kernel
theorem dX9_haveOneList_52 : decode cX9_haveOneList 52 = .ok (.iload_n 2, 1) := by decide +kernel
theorem dX9_haveOneList_53 : decode cX9_haveOneList 53 = .ok (.ireturn, 1) := by decide +kernel
set_option maxRecDepth 20000 in
theorem ggX9_declares_X9_of : GoodIn wsX9_declares wsX9_of := goodIn_r _ [6, 1, 11, 12, 13, 14, 15, 16, 17, 18, 19, 20, 21, 22, 23] (by decide +kernel) (by decide +kernel)
set_option maxRecDepth 20000 in
theorem gX9_declares_X9_of : GoodIn wsX9_declares (wsV RX9 63 RX9 yX9_of wsX9_of) := goodIn_app (goodIn_of _ (by decide +kernel)) ggX9_declares_X9_of
set_option maxRecDepth 20000 in
theorem ggX9_declares_X9_isNamed : GoodIn wsX9_declares wsX9_isNamed := goodIn_r _ [10, 2, 3, 4, 5, 6, 1, 11, 12, 13, 14, 15, 16, 17, 18, 19, 20, 21, 22, 23] (by decide +kernel) (by decide +kernel)
set_option maxRecDepth 20000 in
theorem gX9_declares_X9_isNamed : GoodIn wsX9_declares (wsV RX9 67 RX9 yX9_isNamed wsX9_isNamed) := goodIn_app (goodIn_of _ (by decide +kernel)) ggX9_declares_X9_isNamed
theorem dX9_declares_0 : decode cX9_declares 0 = .ok (.iconst 0, 1) := by decide +kernel
theorem dX9_declares_1 : decode cX9_declares 1 = .ok (.istore 4, 2) := by decide +kernel
theorem dX9_declares_3 : decode cX9_declares 3 = .ok (.iconst 0, 1) := by decide +kernel
theorem dX9_declares_4 : decode cX9_declares 4 = .ok (.istore 5, 2) := by decide +kernel
theorem dX9_declares_6 : decode cX9_declares 6 = .ok (.iload 5, 2) := by decide +kernel
theorem dX9_declares_8 : decode cX9_declares 8 = .ok (.aload_n 0, 1) := by decide +kernel
theorem dX9_declares_9 : decode cX9_declares 9 = .ok (.getfield 7, 3) := by decide +kernel
theorem dX9_declares_12 : decode cX9_declares 12 = .ok (.bipush 25, 2) := by decide +kernel
theorem dX9_declares_14 : decode cX9_declares 14 = .ok (.iaload, 1) := by decide +kernel
theorem dX9_declares_15 : decode cX9_declares 15 = .ok (.if_icmp .ge 43, 3) := by decide +kernel
theorem dX9_declares_18 : decode cX9_declares 18 = .ok (.iload 4, 2) := by decide +kernel
theorem dX9_declares_20 : decode cX9_declares 20 = .ok (.ifCond .ne 25, 3) := by decide +kernel
theorem dX9_declares_23 : decode cX9_declares 23 = .ok (.aload_n 0, 1) := by decide +kernel
theorem dX9_declares_24 : decode cX9_declares 24 = .ok (.iload 5, 2) := by decide +kernel
theorem dX9_declares_26 : decode cX9_declares 26 = .ok (.iconst 0, 1) := by decide +kernel
theorem dX9_declares_27 : decode cX9_declares 27 = .ok (.invokevirtual 63, 3) := by decide +kernel
theorem dX9_declares_30 : decode cX9_declares 30 = .ok (.iload_n 1, 1) := by decide +kernel
theorem dX9_declares_31 : decode cX9_declares 31 = .ok (.if_icmp .ne 18, 3) := by decide +kernel
theorem dX9_declares_34 : decode cX9_declares 34 = .ok (.aload_n 0, 1) := by decide +kernel
theorem dX9_declares_35 : decode cX9_declares 35 = .ok (.iload 5, 2) := by decide +kernel
theorem dX9_declares_37 : decode cX9_declares 37 = .ok (.iload_n 2, 1) := by decide +kernel
theorem dX9_declares_38 : decode cX9_declares 38 = .ok (.iload_n 3, 1) := by decide +kernel
theorem dX9_declares_39 : decode cX9_declares 39 = .ok (.invokevirtual 67, 3) := by decide +kernel
theorem dX9_declares_42 : decode cX9_declares 42 = .ok (.ifCond .eq 7, 3) := by decide +kernel
theorem dX9_declares_45 : decode cX9_declares 45 = .ok (.iconst 1, 1) := by decide +kernel
theorem dX9_declares_46 : decode cX9_declares 46 = .ok (.goto 4, 3) := by decide +kernel
theorem dX9_declares_49 : decode cX9_declares 49 = .ok (.iconst 0, 1) := by decide +kernel
theorem dX9_declares_50 : decode cX9_declares 50 = .ok (.istore 4, 2) := by decide +kernel
theorem dX9_declares_52 : decode cX9_declares 52 = .ok (.iinc 5 1, 3) := by decide +kernel
theorem dX9_declares_55 : decode cX9_declares 55 = .ok (.goto (-49), 3) := by decide +kernel
theorem dX9_declares_58 : decode cX9_declares 58 = .ok (.iload 4, 2) := by decide +kernel
theorem dX9_declares_60 : decode cX9_declares 60 = .ok (.ireturn, 1) := by decide +kernel
set_option maxRecDepth 20000 in
theorem ggX9_declareMethod_X9_isType : GoodIn wsX9_declareMethod wsX9_isType := goodIn_r _ [6, 1, 7, 8, 5, 9, 60, 61, 62, 63, 64, 65, 66, 67, 68, 69, 70, 71, 72] (by decide +kernel) (by decide +kernel)
set_option maxRecDepth 20000 in
theorem gX9_declareMethod_X9_isType : GoodIn wsX9_declareMethod (wsV RX9 80 RX9 yX9_isType wsX9_isType) := goodIn_app (goodIn_of _ (by decide +kernel)) ggX9_declareMethod_X9_isType
set_option maxRecDepth 20000 in
theorem ggX9_declareMethod_X9_in : GoodIn wsX9_declareMethod wsX9_in := goodIn_r _ [9] (by decide +kernel) (by decide +kernel)
set_option maxRecDepth 20000 in
theorem gX9_declareMethod_X9_in : GoodIn wsX9_declareMethod (va_wsS RX9 44 yX9_in wsX9_in) := goodIn_app (goodIn_of _ (by decide +kernel)) ggX9_declareMethod_X9_in
set_option maxRecDepth 20000 in
theorem ggX9_declareMethod_X9_relatives : GoodIn wsX9_declareMethod wsX9_relatives := goodIn_r _ [13, 1, 14, 15, 16, 5, 17, 18, 19, 20, 21, 22, 23, 24, 25, 26, 27, 28, 29, 30, 31, 32, 33, 34, 35, 36, 60, 61, 62, 63, 64, 65, 66, 67, 68, 69, 70, 71, 72] (by decide +kernel) (by decide +kernel)
set_option maxRecDepth 20000 in
theorem gX9_declareMethod_X9_relatives : GoodIn wsX9_declareMethod (wsV RX9 95 RX9 yX9_relatives wsX9_relatives) := goodIn_app (goodIn_of _ (by decide +kernel)) ggX9_declareMethod_X9_relatives
set_option maxRecDepth 20000 in
theorem ggX9_declareMethod_X9_declares : GoodIn wsX9_declareMethod wsX9_declares := goodIn_r _ [40, 1, 18, 19, 20, 5, 21, 14, 15, 16, 17, 60, 61, 62, 63, 64, 65, 66, 67, 68, 69, 70, 71, 72] (by decide +kernel) (by decide +kernel)
set_option maxRecDepth 20000 in
theorem gX9_declareMethod_X9_declares : GoodIn wsX9_declareMethod (wsV RX9 99 RX9 yX9_declares wsX9_declares) := goodIn_app (goodIn_of _ (by decide +kernel)) ggX9_declareMethod_X9_declares
set_option maxRecDepth 20000 in
theorem ggX9_declareMethod_X9_haveOneList : GoodIn wsX9_declareMethod wsX9_haveOneList := goodIn_r _ [44, 1, 34, 35, 5, 36, 45, 46, 47, 48, 49, 50, 51, 52, 18, 19, 20, 21, 60, 61, 62, 63, 64, 65, 66, 67, 68, 69, 70, 71, 72] (by decide +kernel) (by decide +kernel)
set_option maxRecDepth 20000 in
theorem gX9_declareMethod_X9_haveOneList : GoodIn wsX9_declareMethod (wsV RX9 102 RX9 yX9_haveOneList wsX9_haveOneList) := goodIn_app (goodIn_of _ (by decide +kernel)) ggX9_declareMethod_X9_haveOneList
set_option maxRecDepth 20000 in
theorem ggX9_declareMethod_X9_edit : GoodIn wsX9_declareMethod wsX9_edit := goodIn_r _ [56, 57, 58, 59, 1, 60, 61, 62, 63, 64, 65, 66, 67, 68, 69, 70, 71, 72] (by decide +kernel) (by decide +kernel)
set_option maxRecDepth 20000 in
theorem gX9_declareMethod_X9_edit : GoodIn wsX9_declareMethod (wsV RX9 86 RX9 yX9_edit wsX9_edit) := goodIn_app (goodIn_of _ (by decide +kernel)) ggX9_declareMethod_X9_edit
set_option maxRecDepth 20000 in
theorem ggX9_declareMethod_X9_lowest : GoodIn wsX9_declareMethod wsX9_lowest := goodIn_r _ [48, 34, 35, 5, 36] (by decide +kernel) (by decide +kernel)
set_option maxRecDepth 20000 in
theorem gX9_declareMethod_X9_lowest : GoodIn wsX9_declareMethod (wsV RX9 92 RX9 yX9_lowest wsX9_lowest) := goodIn_app (goodIn_of _ (by decide +kernel)) ggX9_declareMethod_X9_lowest
set_option maxRecDepth 20000 in
theorem ggX9_declareMethod_X9_of : GoodIn wsX9_declareMethod wsX9_of := goodIn_r _ [21, 1, 60, 61, 62, 63, 64, 65, 66, 67, 68, 69, 70, 71, 72] (by decide +kernel) (by decide +kernel)
set_option maxRecDepth 20000 in
theorem gX9_declareMethod_X9_of : GoodIn wsX9_declareMethod (wsV RX9 63 RX9 yX9_of wsX9_of) := goodIn_app (goodIn_of _ (by decide +kernel)) ggX9_declareMethod_X9_of
theorem dX9_declareMethod_0 : decode cX9_declareMethod 0 = .ok (.aload_n 0, 1) := by decide +kernel
theorem dX9_declareMethod_1 : decode cX9_declareMethod 1 = .ok (.iload_n 1, 1) := by decide +kernel
theorem dX9_declareMethod_2 : decode cX9_declareMethod 2 = .ok (.invokevirtual 80, 3) := by decide +kernel
theorem dX9_declareMethod_5 : decode cX9_declareMethod 5 = .ok (.ifCond .eq 21, 3) := by decide +kernel
theorem dX9_declareMethod_8 : decode cX9_declareMethod 8 = .ok (.iload_n 2, 1) := by decide +kernel
theorem dX9_declareMethod_9 : decode cX9_declareMethod 9 = .ok (.iconst 0, 1) := by decide +kernel
theorem dX9_declareMethod_10 : decode cX9_declareMethod 10 = .ok (.iconst 5, 1) := by decide +kernel
theorem dX9_declareMethod_11 : decode cX9_declareMethod 11 = .ok (.invokestatic 44, 3) := by decide +kernel
theorem dX9_declareMethod_14 : decode cX9_declareMethod 14 = .ok (.ifCond .eq 12, 3) := by decide +kernel
theorem dX9_declareMethod_17 : decode cX9_declareMethod 17 = .ok (.iload_n 3, 1) := by decide +kernel
theorem dX9_declareMethod_18 : decode cX9_declareMethod 18 = .ok (.iconst 0, 1) := by decide +kernel
theorem dX9_declareMethod_19 : decode cX9_declareMethod 19 = .ok (.iconst 5, 1) := by decide +kernel
theorem dX9_declareMethod_20 : decode cX9_declareMethod 20 = .ok (.invokestatic 44, 3) := by decide +kernel
theorem dX9_declareMethod_23 : decode cX9_declareMethod 23 = .ok (.ifCond .ne 5, 3) := by decide +kernel
theorem dX9_declareMethod_26 : decode cX9_declareMethod 26 = .ok (.iconst (-1), 1) := by decide +kernel
theorem dX9_declareMethod_27 : decode cX9_declareMethod 27 = .ok (.ireturn, 1) := by decide +kernel
theorem dX9_declareMethod_28 : decode cX9_declareMethod 28 = .ok (.aload_n 0, 1) := by decide +kernel
theorem dX9_declareMethod_29 : decode cX9_declareMethod 29 = .ok (.iload_n 1, 1) := by decide +kernel
theorem dX9_declareMethod_30 : decode cX9_declareMethod 30 = .ok (.iload_n 2, 1) := by decide +kernel
theorem dX9_declareMethod_31 : decode cX9_declareMethod 31 = .ok (.iload_n 3, 1) := by decide +kernel
theorem dX9_declareMethod_32 : decode cX9_declareMethod 32 = .ok (.invokevirtual 95, 3) := by decide +kernel
theorem dX9_declareMethod_35 : decode cX9_declareMethod 35 = .ok (.istore 4, 2) := by decide +kernel
theorem dX9_declareMethod_37 : decode cX9_declareMethod 37 = .ok (.aload_n 0, 1) := by decide +kernel
theorem dX9_declareMethod_38 : decode cX9_declareMethod 38 = .ok (.iload_n 1, 1) := by decide +kernel
theorem dX9_declareMethod_39 : decode cX9_declareMethod 39 = .ok (.iload_n 2, 1) := by decide +kernel
theorem dX9_declareMethod_40 : decode cX9_declareMethod 40 = .ok (.iload_n 3, 1) := by decide +kernel
theorem dX9_declareMethod_41 : decode cX9_declareMethod 41 = .ok (.invokevirtual 99, 3) := by decide +kernel
theorem dX9_declareMethod_44 : decode cX9_declareMethod 44 = .ok (.ifCond .ne 12, 3) := by decide +kernel
theorem dX9_declareMethod_47 : decode cX9_declareMethod 47 = .ok (.aload_n 0, 1) := by decide +kernel
theorem dX9_declareMethod_48 : decode cX9_declareMethod 48 = .ok (.iload 4, 2) := by decide +kernel
theorem dX9_declareMethod_50 : decode cX9_declareMethod 50 = .ok (.invokevirtual 102, 3) := by decide +kernel
theorem dX9_declareMethod_53 : decode cX9_declareMethod 53 = .ok (.ifCond .ne 6, 3) := by decide +kernel
theorem dX9_declareMethod_56 : decode cX9_declareMethod 56 = .ok (.bipush (-2), 2) := by decide +kernel
theorem dX9_declareMethod_58 : decode cX9_declareMethod 58 = .ok (.ireturn, 1) := by decide +kernel
theorem dX9_declareMethod_59 : decode cX9_declareMethod 59 = .ok (.aload_n 0, 1) := by decide +kernel
theorem dX9_declareMethod_60 : decode cX9_declareMethod 60 = .ok (.getfield 7, 3) := by decide +kernel
theorem dX9_declareMethod_63 : decode cX9_declareMethod 63 = .ok (.bipush 25, 2) := by decide +kernel
theorem dX9_declareMethod_65 : decode cX9_declareMethod 65 = .ok (.iaload, 1) := by decide +kernel
theorem dX9_declareMethod_66 : decode cX9_declareMethod 66 = .ok (.bipush 16, 2) := by decide +kernel
theorem dX9_declareMethod_68 : decode cX9_declareMethod 68 = .ok (.if_icmp .ne 6, 3) := by decide +kernel
theorem dX9_declareMethod_71 : decode cX9_declareMethod 71 = .ok (.bipush (-3), 2) := by decide +kernel
theorem dX9_declareMethod_73 : decode cX9_declareMethod 73 = .ok (.ireturn, 1) := by decide +kernel
theorem dX9_declareMethod_74 : decode cX9_declareMethod 74 = .ok (.aload_n 0, 1) := by decide +kernel
theorem dX9_declareMethod_75 : decode cX9_declareMethod 75 = .ok (.invokevirtual 86, 3) := by decide +kernel
theorem dX9_declareMethod_78 : decode cX9_declareMethod 78 = .ok (.aload_n 0, 1) := by decide +kernel
theorem dX9_declareMethod_79 : decode cX9_declareMethod 79 = .ok (.getfield 7, 3) := by decide +kernel
theorem dX9_declareMethod_82 : decode cX9_declareMethod 82 = .ok (.bipush 25, 2) := by decide +kernel
theorem dX9_declareMethod_84 : decode cX9_declareMethod 84 = .ok (.iaload, 1) := by decide +kernel
theorem dX9_declareMethod_85 : decode cX9_declareMethod 85 = .ok (.istore 5, 2) := by decide +kernel
theorem dX9_declareMethod_87 : decode cX9_declareMethod 87 = .ok (.bipush 26, 2) := by decide +kernel
theorem dX9_declareMethod_89 : decode cX9_declareMethod 89 = .ok (.bipush 13, 2) := by decide +kernel
theorem dX9_declareMethod_91 : decode cX9_declareMethod 91 = .ok (.iload 5, 2) := by decide +kernel
theorem dX9_declareMethod_93 : decode cX9_declareMethod 93 = .ok (.imul, 1) := by decide +kernel
theorem dX9_declareMethod_94 : decode cX9_declareMethod 94 = .ok (.iadd, 1) := by decide +kernel
theorem dX9_declareMethod_95 : decode cX9_declareMethod 95 = .ok (.istore 6, 2) := by decide +kernel
theorem dX9_declareMethod_97 : decode cX9_declareMethod 97 = .ok (.aload_n 0, 1) := by decide +kernel
theorem dX9_declareMethod_98 : decode cX9_declareMethod 98 = .ok (.getfield 7, 3) := by decide +kernel
theorem dX9_declareMethod_101 : decode cX9_declareMethod 101 = .ok (.iload 6, 2) := by decide +kernel
theorem dX9_declareMethod_103 : decode cX9_declareMethod 103 = .ok (.iload_n 1, 1) := by decide +kernel
theorem dX9_declareMethod_104 : decode cX9_declareMethod 104 = .ok (.iastore, 1) := by decide +kernel
theorem dX9_declareMethod_105 : decode cX9_declareMethod 105 = .ok (.aload_n 0, 1) := by decide +kernel
theorem dX9_declareMethod_106 : decode cX9_declareMethod 106 = .ok (.getfield 7, 3) := by decide +kernel
theorem dX9_declareMethod_109 : decode cX9_declareMethod 109 = .ok (.iload 6, 2) := by decide +kernel
theorem dX9_declareMethod_111 : decode cX9_declareMethod 111 = .ok (.iconst 1, 1) := by decide +kernel
theorem dX9_declareMethod_112 : decode cX9_declareMethod 112 = .ok (.iadd, 1) := by decide +kernel
theorem dX9_declareMethod_113 : decode cX9_declareMethod 113 = .ok (.iload_n 2, 1) := by decide +kernel
theorem dX9_declareMethod_114 : decode cX9_declareMethod 114 = .ok (.iastore, 1) := by decide +kernel
theorem dX9_declareMethod_115 : decode cX9_declareMethod 115 = .ok (.aload_n 0, 1) := by decide +kernel
theorem dX9_declareMethod_116 : decode cX9_declareMethod 116 = .ok (.getfield 7, 3) := by decide +kernel
theorem dX9_declareMethod_119 : decode cX9_declareMethod 119 = .ok (.iload 6, 2) := by decide +kernel
theorem dX9_declareMethod_121 : decode cX9_declareMethod 121 = .ok (.iconst 2, 1) := by decide +kernel
theorem dX9_declareMethod_122 : decode cX9_declareMethod 122 = .ok (.iadd, 1) := by decide +kernel
theorem dX9_declareMethod_123 : decode cX9_declareMethod 123 = .ok (.iload_n 3, 1) := by decide +kernel
theorem dX9_declareMethod_124 : decode cX9_declareMethod 124 = .ok (.iastore, 1) := by decide +kernel
theorem dX9_declareMethod_125 : decode cX9_declareMethod 125 = .ok (.iconst 0, 1) := by decide +kernel
theorem dX9_declareMethod_126 : decode cX9_declareMethod 126 = .ok (.istore 7, 2) := by decide +kernel
theorem dX9_declareMethod_128 : decode cX9_declareMethod 128 = .ok (.iload 7, 2) := by decide +kernel
theorem dX9_declareMethod_130 : decode cX9_declareMethod 130 = .ok (.iconst 5, 1) := by decide +kernel
theorem dX9_declareMethod_131 : decode cX9_declareMethod 131 = .ok (.if_icmp .ge 82, 3) := by decide +kernel
theorem dX9_declareMethod_134 : decode cX9_declareMethod 134 = .ok (.aload_n 0, 1) := by decide +kernel
theorem dX9_declareMethod_135 : decode cX9_declareMethod 135 = .ok (.getfield 7, 3) := by decide +kernel
theorem dX9_declareMethod_138 : decode cX9_declareMethod 138 = .ok (.iload 6, 2) := by decide +kernel
theorem dX9_declareMethod_140 : decode cX9_declareMethod 140 = .ok (.iconst 3, 1) := by decide +kernel
theorem dX9_declareMethod_141 : decode cX9_declareMethod 141 = .ok (.iadd, 1) := by decide +kernel
theorem dX9_declareMethod_142 : decode cX9_declareMethod 142 = .ok (.iload 7, 2) := by decide +kernel
theorem dX9_declareMethod_144 : decode cX9_declareMethod 144 = .ok (.iadd, 1) := by decide +kernel
theorem dX9_declareMethod_145 : decode cX9_declareMethod 145 = .ok (.iload 4, 2) := by decide +kernel
theorem dX9_declareMethod_147 : decode cX9_declareMethod 147 = .ok (.ifCond .ne 8, 3) := by decide +kernel
theorem dX9_declareMethod_150 : decode cX9_declareMethod 150 = .ok (.iload 7, 2) := by decide +kernel
theorem dX9_declareMethod_152 : decode cX9_declareMethod 152 = .ok (.goto 17, 3) := by decide +kernel
theorem dX9_declareMethod_155 : decode cX9_declareMethod 155 = .ok (.aload_n 0, 1) := by decide +kernel
theorem dX9_declareMethod_156 : decode cX9_declareMethod 156 = .ok (.aload_n 0, 1) := by decide +kernel
theorem dX9_declareMethod_157 : decode cX9_declareMethod 157 = .ok (.iload 4, 2) := by decide +kernel
theorem dX9_declareMethod_159 : decode cX9_declareMethod 159 = .ok (.invokevirtual 92, 3) := by decide +kernel
theorem dX9_declareMethod_162 : decode cX9_declareMethod 162 = .ok (.iconst 3, 1) := by decide +kernel
theorem dX9_declareMethod_163 : decode cX9_declareMethod 163 = .ok (.iload 7, 2) := by decide +kernel
theorem dX9_declareMethod_165 : decode cX9_declareMethod 165 = .ok (.iadd, 1) := by decide +kernel
theorem dX9_declareMethod_166 : decode cX9_declareMethod 166 = .ok (.invokevirtual 63, 3) := by decide +kernel
theorem dX9_declareMethod_169 : decode cX9_declareMethod 169 = .ok (.iastore, 1) := by decide +kernel
theorem dX9_declareMethod_170 : decode cX9_declareMethod 170 = .ok (.aload_n 0, 1) := by decide +kernel
theorem dX9_declareMethod_171 : decode cX9_declareMethod 171 = .ok (.getfield 7, 3) := by decide +kernel
theorem dX9_declareMethod_174 : decode cX9_declareMethod 174 = .ok (.iload 6, 2) := by decide +kernel
theorem dX9_declareMethod_176 : decode cX9_declareMethod 176 = .ok (.bipush 8, 2) := by decide +kernel
theorem dX9_declareMethod_178 : decode cX9_declareMethod 178 = .ok (.iadd, 1) := by decide +kernel
theorem dX9_declareMethod_179 : decode cX9_declareMethod 179 = .ok (.iload 7, 2) := by decide +kernel
theorem dX9_declareMethod_181 : decode cX9_declareMethod 181 = .ok (.iadd, 1) := by decide +kernel
theorem dX9_declareMethod_182 : decode cX9_declareMethod 182 = .ok (.iload 4, 2) := by decide +kernel
theorem dX9_declareMethod_184 : decode cX9_declareMethod 184 = .ok (.ifCond .ne 7, 3) := by decide +kernel
theorem dX9_declareMethod_187 : decode cX9_declareMethod 187 = .ok (.iconst 0, 1) := by decide +kernel
theorem dX9_declareMethod_188 : decode cX9_declareMethod 188 = .ok (.goto 18, 3) := by decide +kernel
theorem dX9_declareMethod_191 : decode cX9_declareMethod 191 = .ok (.aload_n 0, 1) := by decide +kernel
theorem dX9_declareMethod_192 : decode cX9_declareMethod 192 = .ok (.aload_n 0, 1) := by decide +kernel
theorem dX9_declareMethod_193 : decode cX9_declareMethod 193 = .ok (.iload 4, 2) := by decide +kernel
theorem dX9_declareMethod_195 : decode cX9_declareMethod 195 = .ok (.invokevirtual 92, 3) := by decide +kernel
theorem dX9_declareMethod_198 : decode cX9_declareMethod 198 = .ok (.bipush 8, 2) := by decide +kernel
theorem dX9_declareMethod_200 : decode cX9_declareMethod 200 = .ok (.iload 7, 2) := by decide +kernel
theorem dX9_declareMethod_202 : decode cX9_declareMethod 202 = .ok (.iadd, 1) := by decide +kernel
theorem dX9_declareMethod_203 : decode cX9_declareMethod 203 = .ok (.invokevirtual 63, 3) := by decide +kernel
theorem dX9_declareMethod_206 : decode cX9_declareMethod 206 = .ok (.iastore, 1) := by decide +kernel
theorem dX9_declareMethod_207 : decode cX9_declareMethod 207 = .ok (.iinc 7 1, 3) := by decide +kernel
theorem dX9_declareMethod_210 : decode cX9_declareMethod 210 = .ok (.goto (-82), 3) := by decide +kernel
theorem dX9_declareMethod_213 : decode cX9_declareMethod 213 = .ok (.aload_n 0, 1) := by decide +kernel
theorem dX9_declareMethod_214 : decode cX9_declareMethod 214 = .ok (.getfield 7, 3) := by decide +kernel
theorem dX9_declareMethod_217 : decode cX9_declareMethod 217 = .ok (.bipush 25, 2) := by decide +kernel
theorem dX9_declareMethod_219 : decode cX9_declareMethod 219 = .ok (.dup2, 1) := by decide +kernel
theorem dX9_declareMethod_220 : decode cX9_declareMethod 220 = .ok (.iaload, 1) := by decide +kernel
theorem dX9_declareMethod_221 : decode cX9_declareMethod 221 = .ok (.iconst 1, 1) := by decide +kernel
theorem dX9_declareMethod_222 : decode cX9_declareMethod 222 = .ok (.iadd, 1) := by decide +kernel
theorem dX9_declareMethod_223 : decode cX9_declareMethod 223 = .ok (.iastore, 1) := by decide +kernel
theorem dX9_declareMethod_224 : decode cX9_declareMethod 224 = .ok (.iload 5, 2) := by decide +kernel
theorem dX9_declareMethod_226 : decode cX9_declareMethod 226 = .ok (.ireturn, 1) := by decide +kernel
set_option maxRecDepth 20000 in
theorem ggX9_familyOf_X9_has : GoodIn wsX9_familyOf wsX9_has := goodIn_r _ [5] (by decide +kernel) (by decide +kernel)
set_option maxRecDepth 20000 in
theorem gX9_familyOf_X9_has : GoodIn wsX9_familyOf (va_wsS RX9 48 yX9_has wsX9_has) := goodIn_app (goodIn_of _ (by decide +kernel)) ggX9_familyOf_X9_has
set_option maxRecDepth 20000 in
theorem ggX9_familyOf_X9_of : GoodIn wsX9_familyOf wsX9_of := goodIn_r _ [9, 1, 30, 31, 32, 33, 34, 35, 36, 37, 38, 39, 40, 41, 42] (by decide +kernel) (by decide +kernel)
set_option maxRecDepth 20000 in
theorem gX9_familyOf_X9_of : GoodIn wsX9_familyOf (wsV RX9 63 RX9 yX9_of wsX9_of) := goodIn_app (goodIn_of _ (by decide +kernel)) ggX9_familyOf_X9_of
set_option maxRecDepth 20000 in
theorem ggX9_familyOf_X9_relatives : GoodIn wsX9_familyOf wsX9_relatives := goodIn_r _ [13, 1, 14, 15, 16, 4, 17, 6, 7, 8, 9, 18, 19, 20, 21, 22, 23, 24, 25, 26, 27, 28, 29, 2, 3, 5, 30, 31, 32, 33, 34, 35, 36, 37, 38, 39, 40, 41, 42] (by decide +kernel) (by decide +kernel)
set_option maxRecDepth 20000 in
theorem gX9_familyOf_X9_relatives : GoodIn wsX9_familyOf (wsV RX9 95 RX9 yX9_relatives wsX9_relatives) := goodIn_app (goodIn_of _ (by decide +kernel)) ggX9_familyOf_X9_relatives
theorem dX9_familyOf_0 : decode cX9_familyOf 0 = .ok (.iconst 1, 1) := by decide +kernel
theorem dX9_familyOf_1 : decode cX9_familyOf 1 = .ok (.iload_n 1, 1) := by decide +kernel
theorem dX9_familyOf_2 : decode cX9_familyOf 2 = .ok (.ishl, 1) := by decide +kernel
theorem dX9_familyOf_3 : decode cX9_familyOf 3 = .ok (.istore_n 2, 1) := by decide +kernel
theorem dX9_familyOf_4 : decode cX9_familyOf 4 = .ok (.iconst 1, 1) := by decide +kernel
theorem dX9_familyOf_5 : decode cX9_familyOf 5 = .ok (.istore_n 3, 1) := by decide +kernel
theorem dX9_familyOf_6 : decode cX9_familyOf 6 = .ok (.iload_n 3, 1) := by decide +kernel
theorem dX9_familyOf_7 : decode cX9_familyOf 7 = .ok (.ifCond .eq 83, 3) := by decide +kernel
theorem dX9_familyOf_10 : decode cX9_familyOf 10 = .ok (.iload_n 2, 1) := by decide +kernel
theorem dX9_familyOf_11 : decode cX9_familyOf 11 = .ok (.istore 4, 2) := by decide +kernel
theorem dX9_familyOf_13 : decode cX9_familyOf 13 = .ok (.iconst 0, 1) := by decide +kernel
theorem dX9_familyOf_14 : decode cX9_familyOf 14 = .ok (.istore 5, 2) := by decide +kernel
theorem dX9_familyOf_16 : decode cX9_familyOf 16 = .ok (.iload 5, 2) := by decide +kernel
theorem dX9_familyOf_18 : decode cX9_familyOf 18 = .ok (.aload_n 0, 1) := by decide +kernel
theorem dX9_familyOf_19 : decode cX9_familyOf 19 = .ok (.getfield 7, 3) := by decide +kernel
theorem dX9_familyOf_22 : decode cX9_familyOf 22 = .ok (.bipush 25, 2) := by decide +kernel
theorem dX9_familyOf_24 : decode cX9_familyOf 24 = .ok (.iaload, 1) := by decide +kernel
theorem dX9_familyOf_25 : decode cX9_familyOf 25 = .ok (.if_icmp .ge 50, 3) := by decide +kernel
theorem dX9_familyOf_28 : decode cX9_familyOf 28 = .ok (.iload_n 2, 1) := by decide +kernel
theorem dX9_familyOf_29 : decode cX9_familyOf 29 = .ok (.iload_n 2, 1) := by decide +kernel
theorem dX9_familyOf_30 : decode cX9_familyOf 30 = .ok (.iload 5, 2) := by decide +kernel
theorem dX9_familyOf_32 : decode cX9_familyOf 32 = .ok (.invokestatic 48, 3) := by decide +kernel
theorem dX9_familyOf_35 : decode cX9_familyOf 35 = .ok (.ifCond .eq 31, 3) := by decide +kernel
theorem dX9_familyOf_38 : decode cX9_familyOf 38 = .ok (.aload_n 0, 1) := by decide +kernel
theorem dX9_familyOf_39 : decode cX9_familyOf 39 = .ok (.aload_n 0, 1) := by decide +kernel
theorem dX9_familyOf_40 : decode cX9_familyOf 40 = .ok (.iload 5, 2) := by decide +kernel
theorem dX9_familyOf_42 : decode cX9_familyOf 42 = .ok (.iconst 0, 1) := by decide +kernel
theorem dX9_familyOf_43 : decode cX9_familyOf 43 = .ok (.invokevirtual 63, 3) := by decide +kernel
theorem dX9_familyOf_46 : decode cX9_familyOf 46 = .ok (.aload_n 0, 1) := by decide +kernel
theorem dX9_familyOf_47 : decode cX9_familyOf 47 = .ok (.iload 5, 2) := by decide +kernel
theorem dX9_familyOf_49 : decode cX9_familyOf 49 = .ok (.iconst 1, 1) := by decide +kernel
theorem dX9_familyOf_50 : decode cX9_familyOf 50 = .ok (.invokevirtual 63, 3) := by decide +kernel
theorem dX9_familyOf_53 : decode cX9_familyOf 53 = .ok (.aload_n 0, 1) := by decide +kernel
theorem dX9_familyOf_54 : decode cX9_familyOf 54 = .ok (.iload 5, 2) := by decide +kernel
theorem dX9_familyOf_56 : decode cX9_familyOf 56 = .ok (.iconst 2, 1) := by decide +kernel
theorem dX9_familyOf_57 : decode cX9_familyOf 57 = .ok (.invokevirtual 63, 3) := by decide +kernel
theorem dX9_familyOf_60 : decode cX9_familyOf 60 = .ok (.invokevirtual 95, 3) := by decide +kernel
theorem dX9_familyOf_63 : decode cX9_familyOf 63 = .ok (.goto 4, 3) := by decide +kernel
theorem dX9_familyOf_66 : decode cX9_familyOf 66 = .ok (.iconst 0, 1) := by decide +kernel
theorem dX9_familyOf_67 : decode cX9_familyOf 67 = .ok (.ior, 1) := by decide +kernel
theorem dX9_familyOf_68 : decode cX9_familyOf 68 = .ok (.istore_n 2, 1) := by decide +kernel
theorem dX9_familyOf_69 : decode cX9_familyOf 69 = .ok (.iinc 5 1, 3) := by decide +kernel
theorem dX9_familyOf_72 : decode cX9_familyOf 72 = .ok (.goto (-56), 3) := by decide +kernel
theorem dX9_familyOf_75 : decode cX9_familyOf 75 = .ok (.iload_n 2, 1) := by decide +kernel
theorem dX9_familyOf_76 : decode cX9_familyOf 76 = .ok (.iload 4, 2) := by decide +kernel
theorem dX9_familyOf_78 : decode cX9_familyOf 78 = .ok (.if_icmp .eq 7, 3) := by decide +kernel
theorem dX9_familyOf_81 : decode cX9_familyOf 81 = .ok (.iconst 1, 1) := by decide +kernel
theorem dX9_familyOf_82 : decode cX9_familyOf 82 = .ok (.goto 4, 3) := by decide +kernel
theorem dX9_familyOf_85 : decode cX9_familyOf 85 = .ok (.iconst 0, 1) := by decide +kernel
theorem dX9_familyOf_86 : decode cX9_familyOf 86 = .ok (.istore_n 3, 1) := by decide +kernel
theorem dX9_familyOf_87 : decode cX9_familyOf 87 = .ok (.goto (-81), 3) := by decide +kernel
theorem dX9_familyOf_90 : decode cX9_familyOf 90 = .ok (.iload_n 2, 1) := by decide +kernel
theorem dX9_familyOf_91 : decode cX9_familyOf 91 = .ok (.ireturn, 1) := by decide +kernel
theorem dX9_typeCount_0 : decode cX9_typeCount 0 = .ok (.aload_n 0, 1) := by decide +kernel
theorem dX9_typeCount_1 : decode cX9_typeCount 1 = .ok (.getfield 7, 3) := by decide +kernel
theorem dX9_typeCount_4 : decode cX9_typeCount 4 = .ok (.iconst 0, 1) := by decide +kernel
theorem dX9_typeCount_5 : decode cX9_typeCount 5 = .ok (.iaload, 1) := by decide +kernel
theorem dX9_typeCount_6 : decode cX9_typeCount 6 = .ok (.ireturn, 1) := by decide +kernel
set_option maxRecDepth 20000 in
theorem ggX9_isSubtype_X9_isType : GoodIn wsX9_isSubtype wsX9_isType := goodIn_r _ [5, 6, 7, 8, 4, 9, 21, 22, 23, 24, 25, 26, 27, 28, 29, 30, 31, 32, 33] (by decide +kernel) (by decide +kernel)
set_option maxRecDepth 20000 in
theorem gX9_isSubtype_X9_isType : GoodIn wsX9_isSubtype (wsV RX9 80 RX9 yX9_isType wsX9_isType) := goodIn_app (goodIn_of _ (by decide +kernel)) ggX9_isSubtype_X9_isType
set_option maxRecDepth 20000 in
theorem ggX9_isSubtype_X9_supers : GoodIn wsX9_isSubtype wsX9_supers := goodIn_r _ [13, 14, 15, 16, 4, 17, 6, 18, 19, 20, 21, 22, 23, 24, 25, 26, 27, 28, 29, 30, 31, 32, 33] (by decide +kernel) (by decide +kernel)
set_option maxRecDepth 20000 in
theorem gX9_isSubtype_X9_supers : GoodIn wsX9_isSubtype (wsV RX9 56 RX9 yX9_supers wsX9_supers) := goodIn_app (goodIn_of _ (by decide +kernel)) ggX9_isSubtype_X9_supers
set_option maxRecDepth 20000 in
theorem ggX9_isSubtype_X9_has : GoodIn wsX9_isSubtype wsX9_has := goodIn_r _ [20] (by decide +kernel) (by decide +kernel)
set_option maxRecDepth 20000 in
theorem gX9_isSubtype_X9_has : GoodIn wsX9_isSubtype (va_wsS RX9 48 yX9_has wsX9_has) := goodIn_app (goodIn_of _ (by decide +kernel)) ggX9_isSubtype_X9_has
theorem dX9_isSubtype_0 : decode cX9_isSubtype 0 = .ok (.aload_n 0, 1) := by decide +kernel
theorem dX9_isSubtype_1 : decode cX9_isSubtype 1 = .ok (.iload_n 1, 1) := by decide +kernel
theorem dX9_isSubtype_2 : decode cX9_isSubtype 2 = .ok (.invokevirtual 80, 3) := by decide +kernel
theorem dX9_isSubtype_5 : decode cX9_isSubtype 5 = .ok (.ifCond .eq 11, 3) := by decide +kernel
theorem dX9_isSubtype_8 : decode cX9_isSubtype 8 = .ok (.aload_n 0, 1) := by decide +kernel
theorem dX9_isSubtype_9 : decode cX9_isSubtype 9 = .ok (.iload_n 2, 1) := by decide +kernel
theorem dX9_isSubtype_10 : decode cX9_isSubtype 10 = .ok (.invokevirtual 80, 3) := by decide +kernel
theorem dX9_isSubtype_13 : decode cX9_isSubtype 13 = .ok (.ifCond .ne 7, 3) := by decide +kernel
theorem dX9_isSubtype_16 : decode cX9_isSubtype 16 = .ok (.iconst (-1), 1) := by decide +kernel
theorem dX9_isSubtype_17 : decode cX9_isSubtype 17 = .ok (.goto 20, 3) := by decide +kernel
theorem dX9_isSubtype_20 : decode cX9_isSubtype 20 = .ok (.aload_n 0, 1) := by decide +kernel
theorem dX9_isSubtype_21 : decode cX9_isSubtype 21 = .ok (.iload_n 1, 1) := by decide +kernel
theorem dX9_isSubtype_22 : decode cX9_isSubtype 22 = .ok (.invokevirtual 56, 3) := by decide +kernel
theorem dX9_isSubtype_25 : decode cX9_isSubtype 25 = .ok (.iload_n 2, 1) := by decide +kernel
theorem dX9_isSubtype_26 : decode cX9_isSubtype 26 = .ok (.invokestatic 48, 3) := by decide +kernel
theorem dX9_isSubtype_29 : decode cX9_isSubtype 29 = .ok (.ifCond .eq 7, 3) := by decide +kernel
theorem dX9_isSubtype_32 : decode cX9_isSubtype 32 = .ok (.iconst 1, 1) := by decide +kernel
theorem dX9_isSubtype_33 : decode cX9_isSubtype 33 = .ok (.goto 4, 3) := by decide +kernel
theorem dX9_isSubtype_36 : decode cX9_isSubtype 36 = .ok (.iconst 0, 1) := by decide +kernel
theorem dX9_isSubtype_37 : decode cX9_isSubtype 37 = .ok (.ireturn, 1) := by decide +kernel
set_option maxRecDepth 20000 in
theorem ggX9_family_X9_isMethod : GoodIn wsX9_family wsX9_isMethod := goodIn_r _ [5, 6, 7, 8, 4, 9, 41, 42, 43, 44, 45, 46, 47, 48, 49, 50, 51, 52, 53] (by decide +kernel) (by decide +kernel)
set_option maxRecDepth 20000 in
theorem gX9_family_X9_isMethod : GoodIn wsX9_family (wsV RX9 105 RX9 yX9_isMethod wsX9_isMethod) := goodIn_app (goodIn_of _ (by decide +kernel)) ggX9_family_X9_isMethod
set_option maxRecDepth 20000 in
theorem ggX9_family_X9_familyOf : GoodIn wsX9_family wsX9_familyOf := goodIn_r _ [13, 6, 14, 15, 4, 16, 17, 18, 19, 20, 21, 22, 23, 24, 25, 26, 27, 28, 29, 30, 31, 32, 33, 34, 35, 36, 37, 38, 39, 40, 41, 42, 43, 44, 45, 46, 47, 48, 49, 50, 51, 52, 53] (by decide +kernel) (by decide +kernel)
set_option maxRecDepth 20000 in
theorem gX9_family_X9_familyOf : GoodIn wsX9_family (wsV RX9 108 RX9 yX9_familyOf wsX9_familyOf) := goodIn_app (goodIn_of _ (by decide +kernel)) ggX9_family_X9_familyOf
theorem dX9_family_0 : decode cX9_family 0 = .ok (.aload_n 0, 1) := by decide +kernel
theorem dX9_family_1 : decode cX9_family 1 = .ok (.iload_n 1, 1) := by decide +kernel
theorem dX9_family_2 : decode cX9_family 2 = .ok (.invokevirtual 105, 3) := by decide +kernel
theorem dX9_family_5 : decode cX9_family 5 = .ok (.ifCond .eq 11, 3) := by decide +kernel
theorem dX9_family_8 : decode cX9_family 8 = .ok (.aload_n 0, 1) := by decide +kernel
theorem dX9_family_9 : decode cX9_family 9 = .ok (.iload_n 1, 1) := by decide +kernel
theorem dX9_family_10 : decode cX9_family 10 = .ok (.invokevirtual 108, 3) := by decide +kernel
theorem dX9_family_13 : decode cX9_family 13 = .ok (.goto 4, 3) := by decide +kernel
theorem dX9_family_16 : decode cX9_family 16 = .ok (.iconst (-1), 1) := by decide +kernel
theorem dX9_family_17 : decode cX9_family 17 = .ok (.ireturn, 1) := by decide +kernel
set_option maxRecDepth 20000 in
theorem ggX9_parameterCount_X9_isMethod : GoodIn wsX9_parameterCount wsX9_isMethod := goodIn_r _ [5, 6, 7, 8, 4, 9, 14, 15, 16, 17, 18, 19, 20, 21, 22, 23, 24, 25, 26] (by decide +kernel) (by decide +kernel)
set_option maxRecDepth 20000 in
theorem gX9_parameterCount_X9_isMethod : GoodIn wsX9_parameterCount (wsV RX9 105 RX9 yX9_isMethod wsX9_isMethod) := goodIn_app (goodIn_of _ (by decide +kernel)) ggX9_parameterCount_X9_isMethod
set_option maxRecDepth 20000 in
theorem ggX9_parameterCount_X9_of : GoodIn wsX9_parameterCount wsX9_of := goodIn_r _ [13, 6, 14, 15, 16, 17, 18, 19, 20, 21, 22, 23, 24, 25, 26] (by decide +kernel) (by decide +kernel)
set_option maxRecDepth 20000 in
theorem gX9_parameterCount_X9_of : GoodIn wsX9_parameterCount (wsV RX9 63 RX9 yX9_of wsX9_of) := goodIn_app (goodIn_of _ (by decide +kernel)) ggX9_parameterCount_X9_of
theorem dX9_parameterCount_0 : decode cX9_parameterCount 0 = .ok (.aload_n 0, 1) := by decide +kernel
theorem dX9_parameterCount_1 : decode cX9_parameterCount 1 = .ok (.iload_n 1, 1) := by decide +kernel
theorem dX9_parameterCount_2 : decode cX9_parameterCount 2 = .ok (.invokevirtual 105, 3) := by decide +kernel
theorem dX9_parameterCount_5 : decode cX9_parameterCount 5 = .ok (.ifCond .eq 12, 3) := by decide +kernel
theorem dX9_parameterCount_8 : decode cX9_parameterCount 8 = .ok (.aload_n 0, 1) := by decide +kernel
theorem dX9_parameterCount_9 : decode cX9_parameterCount 9 = .ok (.iload_n 1, 1) := by decide +kernel
theorem dX9_parameterCount_10 : decode cX9_parameterCount 10 = .ok (.iconst 2, 1) := by decide +kernel
theorem dX9_parameterCount_11 : decode cX9_parameterCount 11 = .ok (.invokevirtual 63, 3) := by decide +kernel
theorem dX9_parameterCount_14 : decode cX9_parameterCount 14 = .ok (.goto 4, 3) := by decide +kernel
theorem dX9_parameterCount_17 : decode cX9_parameterCount 17 = .ok (.iconst (-1), 1) := by decide +kernel
theorem dX9_parameterCount_18 : decode cX9_parameterCount 18 = .ok (.ireturn, 1) := by decide +kernel
set_option maxRecDepth 20000 in
theorem ggX9_parameterKey_X9_isMethod : GoodIn wsX9_parameterKey wsX9_isMethod := goodIn_r _ [5, 6, 7, 8, 4, 9, 14, 15, 16, 17, 18, 19, 20, 21, 22, 23, 24, 25, 26] (by decide +kernel) (by decide +kernel)
set_option maxRecDepth 20000 in
theorem gX9_parameterKey_X9_isMethod : GoodIn wsX9_parameterKey (wsV RX9 105 RX9 yX9_isMethod wsX9_isMethod) := goodIn_app (goodIn_of _ (by decide +kernel)) ggX9_parameterKey_X9_isMethod
set_option maxRecDepth 20000 in
theorem ggX9_parameterKey_X9_of : GoodIn wsX9_parameterKey wsX9_of := goodIn_r _ [13, 6, 14, 15, 16, 17, 18, 19, 20, 21, 22, 23, 24, 25, 26] (by decide +kernel) (by decide +kernel)
set_option maxRecDepth 20000 in
theorem gX9_parameterKey_X9_of : GoodIn wsX9_parameterKey (wsV RX9 63 RX9 yX9_of wsX9_of) := goodIn_app (goodIn_of _ (by decide +kernel)) ggX9_parameterKey_X9_of
set_option maxRecDepth 20000 in
theorem ggX9_parameterKey_X9_in : GoodIn wsX9_parameterKey wsX9_in := goodIn_r _ [9] (by decide +kernel) (by decide +kernel)
set_option maxRecDepth 20000 in
theorem gX9_parameterKey_X9_in : GoodIn wsX9_parameterKey (va_wsS RX9 44 yX9_in wsX9_in) := goodIn_app (goodIn_of _ (by decide +kernel)) ggX9_parameterKey_X9_in
theorem dX9_parameterKey_0 : decode cX9_parameterKey 0 = .ok (.aload_n 0, 1) := by decide +kernel
theorem dX9_parameterKey_1 : decode cX9_parameterKey 1 = .ok (.iload_n 1, 1) := by decide +kernel
theorem dX9_parameterKey_2 : decode cX9_parameterKey 2 = .ok (.invokevirtual 105, 3) := by decide +kernel
theorem dX9_parameterKey_5 : decode cX9_parameterKey 5 = .ok (.ifCond .eq 30, 3) := by decide +kernel
theorem dX9_parameterKey_8 : decode cX9_parameterKey 8 = .ok (.iload_n 2, 1) := by decide +kernel
theorem dX9_parameterKey_9 : decode cX9_parameterKey 9 = .ok (.iconst 0, 1) := by decide +kernel
theorem dX9_parameterKey_10 : decode cX9_parameterKey 10 = .ok (.aload_n 0, 1) := by decide +kernel
theorem dX9_parameterKey_11 : decode cX9_parameterKey 11 = .ok (.iload_n 1, 1) := by decide +kernel
theorem dX9_parameterKey_12 : decode cX9_parameterKey 12 = .ok (.iconst 2, 1) := by decide +kernel
theorem dX9_parameterKey_13 : decode cX9_parameterKey 13 = .ok (.invokevirtual 63, 3) := by decide +kernel
theorem dX9_parameterKey_16 : decode cX9_parameterKey 16 = .ok (.iconst 1, 1) := by decide +kernel
theorem dX9_parameterKey_17 : decode cX9_parameterKey 17 = .ok (.isub, 1) := by decide +kernel
theorem dX9_parameterKey_18 : decode cX9_parameterKey 18 = .ok (.invokestatic 44, 3) := by decide +kernel
theorem dX9_parameterKey_21 : decode cX9_parameterKey 21 = .ok (.ifCond .eq 14, 3) := by decide +kernel
theorem dX9_parameterKey_24 : decode cX9_parameterKey 24 = .ok (.aload_n 0, 1) := by decide +kernel
theorem dX9_parameterKey_25 : decode cX9_parameterKey 25 = .ok (.iload_n 1, 1) := by decide +kernel
theorem dX9_parameterKey_26 : decode cX9_parameterKey 26 = .ok (.iconst 3, 1) := by decide +kernel
theorem dX9_parameterKey_27 : decode cX9_parameterKey 27 = .ok (.iload_n 2, 1) := by decide +kernel
theorem dX9_parameterKey_28 : decode cX9_parameterKey 28 = .ok (.iadd, 1) := by decide +kernel
theorem dX9_parameterKey_29 : decode cX9_parameterKey 29 = .ok (.invokevirtual 63, 3) := by decide +kernel
theorem dX9_parameterKey_32 : decode cX9_parameterKey 32 = .ok (.goto 4, 3) := by decide +kernel
theorem dX9_parameterKey_35 : decode cX9_parameterKey 35 = .ok (.iconst (-1), 1) := by decide +kernel
theorem dX9_parameterKey_36 : decode cX9_parameterKey 36 = .ok (.ireturn, 1) := by decide +kernel
theorem dX9_at_0 : decode cX9_at 0 = .ok (.sipush 235, 3) := by decide +kernel
theorem dX9_at_3 : decode cX9_at 3 = .ok (.bipush 29, 2) := by decide +kernel
theorem dX9_at_5 : decode cX9_at 5 = .ok (.iload_n 1, 1) := by decide +kernel
theorem dX9_at_6 : decode cX9_at 6 = .ok (.imul, 1) := by decide +kernel
theorem dX9_at_7 : decode cX9_at 7 = .ok (.iadd, 1) := by decide +kernel
theorem dX9_at_8 : decode cX9_at 8 = .ok (.iload_n 2, 1) := by decide +kernel
theorem dX9_at_9 : decode cX9_at 9 = .ok (.iadd, 1) := by decide +kernel
theorem dX9_at_10 : decode cX9_at 10 = .ok (.ireturn, 1) := by decide +kernel
set_option maxRecDepth 20000 in
theorem ggX9_isCall_X9_in : GoodIn wsX9_isCall wsX9_in := goodIn_r _ [5] (by decide +kernel) (by decide +kernel)
set_option maxRecDepth 20000 in
theorem gX9_isCall_X9_in : GoodIn wsX9_isCall (va_wsS RX9 44 yX9_in wsX9_in) := goodIn_app (goodIn_of _ (by decide +kernel)) ggX9_isCall_X9_in
theorem dX9_isCall_0 : decode cX9_isCall 0 = .ok (.iload_n 1, 1) := by decide +kernel
theorem dX9_isCall_1 : decode cX9_isCall 1 = .ok (.iconst 0, 1) := by decide +kernel
theorem dX9_isCall_2 : decode cX9_isCall 2 = .ok (.aload_n 0, 1) := by decide +kernel
theorem dX9_isCall_3 : decode cX9_isCall 3 = .ok (.getfield 7, 3) := by decide +kernel
theorem dX9_isCall_6 : decode cX9_isCall 6 = .ok (.sipush 234, 3) := by decide +kernel
theorem dX9_isCall_9 : decode cX9_isCall 9 = .ok (.iaload, 1) := by decide +kernel
theorem dX9_isCall_10 : decode cX9_isCall 10 = .ok (.iconst 1, 1) := by decide +kernel
theorem dX9_isCall_11 : decode cX9_isCall 11 = .ok (.isub, 1) := by decide +kernel
theorem dX9_isCall_12 : decode cX9_isCall 12 = .ok (.invokestatic 44, 3) := by decide +kernel
theorem dX9_isCall_15 : decode cX9_isCall 15 = .ok (.ireturn, 1) := by decide +kernel
set_option maxRecDepth 20000 in
theorem ggX9_isFrozen_X9_at : GoodIn wsX9_isFrozen wsX9_at := goodIn_r _ [6] (by decide +kernel) (by decide +kernel)
set_option maxRecDepth 20000 in
theorem gX9_isFrozen_X9_at : GoodIn wsX9_isFrozen (wsV RX9 111 RX9 yX9_at wsX9_at) := goodIn_app (goodIn_of _ (by decide +kernel)) ggX9_isFrozen_X9_at
theorem dX9_isFrozen_0 : decode cX9_isFrozen 0 = .ok (.aload_n 0, 1) := by decide +kernel
theorem dX9_isFrozen_1 : decode cX9_isFrozen 1 = .ok (.getfield 7, 3) := by decide +kernel
theorem dX9_isFrozen_4 : decode cX9_isFrozen 4 = .ok (.aload_n 0, 1) := by decide +kernel
theorem dX9_isFrozen_5 : decode cX9_isFrozen 5 = .ok (.iload_n 1, 1) := by decide +kernel
theorem dX9_isFrozen_6 : decode cX9_isFrozen 6 = .ok (.iconst 3, 1) := by decide +kernel
theorem dX9_isFrozen_7 : decode cX9_isFrozen 7 = .ok (.invokevirtual 111, 3) := by decide +kernel
theorem dX9_isFrozen_10 : decode cX9_isFrozen 10 = .ok (.iaload, 1) := by decide +kernel
theorem dX9_isFrozen_11 : decode cX9_isFrozen 11 = .ok (.iconst 1, 1) := by decide +kernel
theorem dX9_isFrozen_12 : decode cX9_isFrozen 12 = .ok (.if_icmp .ne 7, 3) := by decide +kernel
theorem dX9_isFrozen_15 : decode cX9_isFrozen 15 = .ok (.iconst 1, 1) := by decide +kernel
theorem dX9_isFrozen_16 : decode cX9_isFrozen 16 = .ok (.goto 4, 3) := by decide +kernel
theorem dX9_isFrozen_19 : decode cX9_isFrozen 19 = .ok (.iconst 0, 1) := by decide +kernel
theorem dX9_isFrozen_20 : decode cX9_isFrozen 20 = .ok (.ireturn, 1) := by decide +kernel
set_option maxRecDepth 20000 in
theorem ggX9_targetOf_X9_isNamed : GoodIn wsX9_targetOf wsX9_isNamed := goodIn_r _ [6, 7, 8, 9, 5, 10, 1, 22, 23, 24, 25, 26, 27, 28, 29, 30, 31, 32, 33, 34] (by decide +kernel) (by decide +kernel)
set_option maxRecDepth 20000 in
theorem gX9_targetOf_X9_isNamed : GoodIn wsX9_targetOf (wsV RX9 67 RX9 yX9_isNamed wsX9_isNamed) := goodIn_app (goodIn_of _ (by decide +kernel)) ggX9_targetOf_X9_isNamed
set_option maxRecDepth 20000 in
theorem ggX9_targetOf_X9_supers : GoodIn wsX9_targetOf wsX9_supers := goodIn_r _ [14, 15, 16, 17, 5, 18, 1, 19, 20, 21, 22, 23, 24, 25, 26, 27, 28, 29, 30, 31, 32, 33, 34] (by decide +kernel) (by decide +kernel)
set_option maxRecDepth 20000 in
theorem gX9_targetOf_X9_supers : GoodIn wsX9_targetOf (wsV RX9 56 RX9 yX9_supers wsX9_supers) := goodIn_app (goodIn_of _ (by decide +kernel)) ggX9_targetOf_X9_supers
set_option maxRecDepth 20000 in
theorem ggX9_targetOf_X9_of : GoodIn wsX9_targetOf wsX9_of := goodIn_r _ [10, 1, 22, 23, 24, 25, 26, 27, 28, 29, 30, 31, 32, 33, 34] (by decide +kernel) (by decide +kernel)
set_option maxRecDepth 20000 in
theorem gX9_targetOf_X9_of : GoodIn wsX9_targetOf (wsV RX9 63 RX9 yX9_of wsX9_of) := goodIn_app (goodIn_of _ (by decide +kernel)) ggX9_targetOf_X9_of
set_option maxRecDepth 20000 in
theorem ggX9_targetOf_X9_has : GoodIn wsX9_targetOf wsX9_has := goodIn_r _ [21] (by decide +kernel) (by decide +kernel)
set_option maxRecDepth 20000 in
theorem gX9_targetOf_X9_has : GoodIn wsX9_targetOf (va_wsS RX9 48 yX9_has wsX9_has) := goodIn_app (goodIn_of _ (by decide +kernel)) ggX9_targetOf_X9_has
theorem dX9_targetOf_0 : decode cX9_targetOf 0 = .ok (.iconst 0, 1) := by decide +kernel
theorem dX9_targetOf_1 : decode cX9_targetOf 1 = .ok (.istore 4, 2) := by decide +kernel
theorem dX9_targetOf_3 : decode cX9_targetOf 3 = .ok (.iload 4, 2) := by decide +kernel
theorem dX9_targetOf_5 : decode cX9_targetOf 5 = .ok (.aload_n 0, 1) := by decide +kernel
theorem dX9_targetOf_6 : decode cX9_targetOf 6 = .ok (.getfield 7, 3) := by decide +kernel
theorem dX9_targetOf_9 : decode cX9_targetOf 9 = .ok (.bipush 25, 2) := by decide +kernel
theorem dX9_targetOf_11 : decode cX9_targetOf 11 = .ok (.iaload, 1) := by decide +kernel
theorem dX9_targetOf_12 : decode cX9_targetOf 12 = .ok (.if_icmp .ge 41, 3) := by decide +kernel
theorem dX9_targetOf_15 : decode cX9_targetOf 15 = .ok (.aload_n 0, 1) := by decide +kernel
theorem dX9_targetOf_16 : decode cX9_targetOf 16 = .ok (.iload 4, 2) := by decide +kernel
theorem dX9_targetOf_18 : decode cX9_targetOf 18 = .ok (.iload_n 2, 1) := by decide +kernel
theorem dX9_targetOf_19 : decode cX9_targetOf 19 = .ok (.iload_n 3, 1) := by decide +kernel
theorem dX9_targetOf_20 : decode cX9_targetOf 20 = .ok (.invokevirtual 67, 3) := by decide +kernel
theorem dX9_targetOf_23 : decode cX9_targetOf 23 = .ok (.ifCond .eq 24, 3) := by decide +kernel
theorem dX9_targetOf_26 : decode cX9_targetOf 26 = .ok (.aload_n 0, 1) := by decide +kernel
theorem dX9_targetOf_27 : decode cX9_targetOf 27 = .ok (.iload_n 1, 1) := by decide +kernel
theorem dX9_targetOf_28 : decode cX9_targetOf 28 = .ok (.invokevirtual 56, 3) := by decide +kernel
theorem dX9_targetOf_31 : decode cX9_targetOf 31 = .ok (.aload_n 0, 1) := by decide +kernel
theorem dX9_targetOf_32 : decode cX9_targetOf 32 = .ok (.iload 4, 2) := by decide +kernel
theorem dX9_targetOf_34 : decode cX9_targetOf 34 = .ok (.iconst 0, 1) := by decide +kernel
theorem dX9_targetOf_35 : decode cX9_targetOf 35 = .ok (.invokevirtual 63, 3) := by decide +kernel
theorem dX9_targetOf_38 : decode cX9_targetOf 38 = .ok (.invokestatic 48, 3) := by decide +kernel
theorem dX9_targetOf_41 : decode cX9_targetOf 41 = .ok (.ifCond .eq 6, 3) := by decide +kernel
theorem dX9_targetOf_44 : decode cX9_targetOf 44 = .ok (.iload 4, 2) := by decide +kernel
theorem dX9_targetOf_46 : decode cX9_targetOf 46 = .ok (.ireturn, 1) := by decide +kernel
theorem dX9_targetOf_47 : decode cX9_targetOf 47 = .ok (.iinc 4 1, 3) := by decide +kernel
theorem dX9_targetOf_50 : decode cX9_targetOf 50 = .ok (.goto (-47), 3) := by decide +kernel
theorem dX9_targetOf_53 : decode cX9_targetOf 53 = .ok (.bipush (-9), 2) := by decide +kernel
theorem dX9_targetOf_55 : decode cX9_targetOf 55 = .ok (.ireturn, 1) := by decide +kernel
set_option maxRecDepth 20000 in
theorem ggX9_declareCall_X9_isType : GoodIn wsX9_declareCall wsX9_isType := goodIn_r _ [6, 1, 7, 8, 5, 9, 48, 49, 50, 51, 52, 53, 54, 55, 56, 57, 58, 59, 60] (by decide +kernel) (by decide +kernel)
set_option maxRecDepth 20000 in
theorem gX9_declareCall_X9_isType : GoodIn wsX9_declareCall (wsV RX9 80 RX9 yX9_isType wsX9_isType) := goodIn_app (goodIn_of _ (by decide +kernel)) ggX9_declareCall_X9_isType
set_option maxRecDepth 20000 in
theorem ggX9_declareCall_X9_in : GoodIn wsX9_declareCall wsX9_in := goodIn_r _ [9] (by decide +kernel) (by decide +kernel)
set_option maxRecDepth 20000 in
theorem gX9_declareCall_X9_in : GoodIn wsX9_declareCall (va_wsS RX9 44 yX9_in wsX9_in) := goodIn_app (goodIn_of _ (by decide +kernel)) ggX9_declareCall_X9_in
set_option maxRecDepth 20000 in
theorem ggX9_declareCall_X9_targetOf : GoodIn wsX9_declareCall wsX9_targetOf := goodIn_r _ [13, 1, 14, 15, 16, 5, 17, 18, 19, 20, 21, 22, 23, 24, 25, 26, 27, 28, 29, 30, 31, 32, 48, 49, 50, 51, 52, 53, 54, 55, 56, 57, 58, 59, 60] (by decide +kernel) (by decide +kernel)
set_option maxRecDepth 20000 in
theorem gX9_declareCall_X9_targetOf : GoodIn wsX9_declareCall (wsV RX9 114 RX9 yX9_targetOf wsX9_targetOf) := goodIn_app (goodIn_of _ (by decide +kernel)) ggX9_declareCall_X9_targetOf
set_option maxRecDepth 20000 in
theorem ggX9_declareCall_X9_isInterface : GoodIn wsX9_declareCall wsX9_isInterface := goodIn_r _ [36, 1, 48, 49, 50, 51, 52, 53, 54, 55, 56, 57, 58, 59, 60] (by decide +kernel) (by decide +kernel)
set_option maxRecDepth 20000 in
theorem gX9_declareCall_X9_isInterface : GoodIn wsX9_declareCall (wsV RX9 59 RX9 yX9_isInterface wsX9_isInterface) := goodIn_app (goodIn_of _ (by decide +kernel)) ggX9_declareCall_X9_isInterface
set_option maxRecDepth 20000 in
theorem ggX9_declareCall_X9_supers : GoodIn wsX9_declareCall wsX9_supers := goodIn_r _ [25, 26, 27, 28, 5, 29, 1, 30, 31, 32, 48, 49, 50, 51, 52, 53, 54, 55, 56, 57, 58, 59, 60] (by decide +kernel) (by decide +kernel)
set_option maxRecDepth 20000 in
theorem gX9_declareCall_X9_supers : GoodIn wsX9_declareCall (wsV RX9 56 RX9 yX9_supers wsX9_supers) := goodIn_app (goodIn_of _ (by decide +kernel)) ggX9_declareCall_X9_supers
set_option maxRecDepth 20000 in
theorem ggX9_declareCall_X9_has : GoodIn wsX9_declareCall wsX9_has := goodIn_r _ [32] (by decide +kernel) (by decide +kernel)
set_option maxRecDepth 20000 in
theorem gX9_declareCall_X9_has : GoodIn wsX9_declareCall (va_wsS RX9 48 yX9_has wsX9_has) := goodIn_app (goodIn_of _ (by decide +kernel)) ggX9_declareCall_X9_has
set_option maxRecDepth 20000 in
theorem ggX9_declareCall_X9_edit : GoodIn wsX9_declareCall wsX9_edit := goodIn_r _ [40, 41, 42, 43, 1, 48, 49, 50, 51, 52, 53, 54, 55, 56, 57, 58, 59, 60] (by decide +kernel) (by decide +kernel)
set_option maxRecDepth 20000 in
theorem gX9_declareCall_X9_edit : GoodIn wsX9_declareCall (wsV RX9 86 RX9 yX9_edit wsX9_edit) := goodIn_app (goodIn_of _ (by decide +kernel)) ggX9_declareCall_X9_edit
set_option maxRecDepth 20000 in
theorem ggX9_declareCall_X9_at : GoodIn wsX9_declareCall wsX9_at := goodIn_r _ [47] (by decide +kernel) (by decide +kernel)
set_option maxRecDepth 20000 in
theorem gX9_declareCall_X9_at : GoodIn wsX9_declareCall (wsV RX9 111 RX9 yX9_at wsX9_at) := goodIn_app (goodIn_of _ (by decide +kernel)) ggX9_declareCall_X9_at
set_option maxRecDepth 20000 in
theorem ggX9_declareCall_X9_of : GoodIn wsX9_declareCall wsX9_of := goodIn_r _ [21, 1, 48, 49, 50, 51, 52, 53, 54, 55, 56, 57, 58, 59, 60] (by decide +kernel) (by decide +kernel)
set_option maxRecDepth 20000 in
theorem gX9_declareCall_X9_of : GoodIn wsX9_declareCall (wsV RX9 63 RX9 yX9_of wsX9_of) := goodIn_app (goodIn_of _ (by decide +kernel)) ggX9_declareCall_X9_of
theorem dX9_declareCall_0 : decode cX9_declareCall 0 = .ok (.aload_n 0, 1) := by decide +kernel
theorem dX9_declareCall_1 : decode cX9_declareCall 1 = .ok (.iload_n 1, 1) := by decide +kernel
theorem dX9_declareCall_2 : decode cX9_declareCall 2 = .ok (.invokevirtual 80, 3) := by decide +kernel
theorem dX9_declareCall_5 : decode cX9_declareCall 5 = .ok (.ifCond .eq 30, 3) := by decide +kernel
theorem dX9_declareCall_8 : decode cX9_declareCall 8 = .ok (.aload_n 0, 1) := by decide +kernel
theorem dX9_declareCall_9 : decode cX9_declareCall 9 = .ok (.iload_n 2, 1) := by decide +kernel
theorem dX9_declareCall_10 : decode cX9_declareCall 10 = .ok (.invokevirtual 80, 3) := by decide +kernel
theorem dX9_declareCall_13 : decode cX9_declareCall 13 = .ok (.ifCond .eq 22, 3) := by decide +kernel
theorem dX9_declareCall_16 : decode cX9_declareCall 16 = .ok (.iload_n 3, 1) := by decide +kernel
theorem dX9_declareCall_17 : decode cX9_declareCall 17 = .ok (.iconst 0, 1) := by decide +kernel
theorem dX9_declareCall_18 : decode cX9_declareCall 18 = .ok (.iconst 5, 1) := by decide +kernel
theorem dX9_declareCall_19 : decode cX9_declareCall 19 = .ok (.invokestatic 44, 3) := by decide +kernel
theorem dX9_declareCall_22 : decode cX9_declareCall 22 = .ok (.ifCond .eq 13, 3) := by decide +kernel
theorem dX9_declareCall_25 : decode cX9_declareCall 25 = .ok (.iload 4, 2) := by decide +kernel
theorem dX9_declareCall_27 : decode cX9_declareCall 27 = .ok (.iconst 0, 1) := by decide +kernel
theorem dX9_declareCall_28 : decode cX9_declareCall 28 = .ok (.iconst 5, 1) := by decide +kernel
theorem dX9_declareCall_29 : decode cX9_declareCall 29 = .ok (.invokestatic 44, 3) := by decide +kernel
theorem dX9_declareCall_32 : decode cX9_declareCall 32 = .ok (.ifCond .ne 5, 3) := by decide +kernel
theorem dX9_declareCall_35 : decode cX9_declareCall 35 = .ok (.iconst (-1), 1) := by decide +kernel
theorem dX9_declareCall_36 : decode cX9_declareCall 36 = .ok (.ireturn, 1) := by decide +kernel
theorem dX9_declareCall_37 : decode cX9_declareCall 37 = .ok (.aload_n 0, 1) := by decide +kernel
theorem dX9_declareCall_38 : decode cX9_declareCall 38 = .ok (.iload_n 1, 1) := by decide +kernel
theorem dX9_declareCall_39 : decode cX9_declareCall 39 = .ok (.iload_n 3, 1) := by decide +kernel
theorem dX9_declareCall_40 : decode cX9_declareCall 40 = .ok (.iload 4, 2) := by decide +kernel
theorem dX9_declareCall_42 : decode cX9_declareCall 42 = .ok (.invokevirtual 114, 3) := by decide +kernel
theorem dX9_declareCall_45 : decode cX9_declareCall 45 = .ok (.istore 5, 2) := by decide +kernel
theorem dX9_declareCall_47 : decode cX9_declareCall 47 = .ok (.aload_n 0, 1) := by decide +kernel
theorem dX9_declareCall_48 : decode cX9_declareCall 48 = .ok (.iload_n 2, 1) := by decide +kernel
theorem dX9_declareCall_49 : decode cX9_declareCall 49 = .ok (.invokevirtual 59, 3) := by decide +kernel
theorem dX9_declareCall_52 : decode cX9_declareCall 52 = .ok (.ifCond .ne 22, 3) := by decide +kernel
theorem dX9_declareCall_55 : decode cX9_declareCall 55 = .ok (.aload_n 0, 1) := by decide +kernel
theorem dX9_declareCall_56 : decode cX9_declareCall 56 = .ok (.iload_n 2, 1) := by decide +kernel
theorem dX9_declareCall_57 : decode cX9_declareCall 57 = .ok (.invokevirtual 56, 3) := by decide +kernel
theorem dX9_declareCall_60 : decode cX9_declareCall 60 = .ok (.iload_n 1, 1) := by decide +kernel
theorem dX9_declareCall_61 : decode cX9_declareCall 61 = .ok (.invokestatic 48, 3) := by decide +kernel
theorem dX9_declareCall_64 : decode cX9_declareCall 64 = .ok (.ifCond .eq 10, 3) := by decide +kernel
theorem dX9_declareCall_67 : decode cX9_declareCall 67 = .ok (.iload 5, 2) := by decide +kernel
theorem dX9_declareCall_69 : decode cX9_declareCall 69 = .ok (.bipush (-9), 2) := by decide +kernel
theorem dX9_declareCall_71 : decode cX9_declareCall 71 = .ok (.if_icmp .ne 6, 3) := by decide +kernel
theorem dX9_declareCall_74 : decode cX9_declareCall 74 = .ok (.bipush (-2), 2) := by decide +kernel
theorem dX9_declareCall_76 : decode cX9_declareCall 76 = .ok (.ireturn, 1) := by decide +kernel
theorem dX9_declareCall_77 : decode cX9_declareCall 77 = .ok (.aload_n 0, 1) := by decide +kernel
theorem dX9_declareCall_78 : decode cX9_declareCall 78 = .ok (.getfield 7, 3) := by decide +kernel
theorem dX9_declareCall_81 : decode cX9_declareCall 81 = .ok (.sipush 234, 3) := by decide +kernel
