set_option maxRecDepth 20000 in
theorem ggX0_init_X1_init : GoodIn wsX0_init wsX1_init := goodIn_r _ [4, 5, 6, 7, 8, 9, 10, 11, 12, 13, 14, 15, 16, 17, 18, 19, 20, 21, 22, 23, 24, 25, 26, 27, 28, 29, 30, 31, 32, 33, 34, 35, 36, 37, 38, 39, 40, 41, 42, 43] (by decide +kernel) (by decide +kernel)
set_option maxRecDepth 20000 in
theorem gX0_init_X1_init : GoodIn wsX0_init (wsX1_init) := ggX0_init_X1_init
theorem dX0_init_0 : decode cX0_init 0 = .ok (.aload_n 0, 1) := by decide +kernel
theorem dX0_init_1 : decode cX0_init 1 = .ok (.iload_n 1, 1) := by decide +kernel
theorem dX0_init_2 : decode cX0_init 2 = .ok (.iload_n 2, 1) := by decide +kernel
theorem dX0_init_3 : decode cX0_init 3 = .ok (.iload_n 3, 1) := by decide +kernel
theorem dX0_init_4 : decode cX0_init 4 = .ok (.lload 4, 2) := by decide +kernel
theorem dX0_init_6 : decode cX0_init 6 = .ok (.invokespecial 3, 3) := by decide +kernel
theorem dX0_init_9 : decode cX0_init 9 = .ok (.return_, 1) := by decide +kernel
theorem dX0_kind_0 : decode cX0_kind 0 = .ok (.iconst 4, 1) := by decide +kernel
theorem dX0_kind_1 : decode cX0_kind 1 = .ok (.ireturn, 1) := by decide +kernel
set_option maxRecDepth 20000 in
theorem ggX0_isOf_X1_isOf : GoodIn wsX0_isOf wsX1_isOf := goodIn_r _ [6] (by decide +kernel) (by decide +kernel)
set_option maxRecDepth 20000 in
theorem gX0_isOf_X1_isOf_s9 : GoodIn wsX0_isOf (va_wsSU RX0 9 yX1_isOf wsX1_isOf) := goodIn_app (goodIn_of _ (by decide +kernel)) ggX0_isOf_X1_isOf
theorem dX0_isOf_0 : decode cX0_isOf 0 = .ok (.iload_n 1, 1) := by decide +kernel
theorem dX0_isOf_1 : decode cX0_isOf 1 = .ok (.iconst 4, 1) := by decide +kernel
theorem dX0_isOf_2 : decode cX0_isOf 2 = .ok (.if_icmp .eq 11, 3) := by decide +kernel
theorem dX0_isOf_5 : decode cX0_isOf 5 = .ok (.aload_n 0, 1) := by decide +kernel
theorem dX0_isOf_6 : decode cX0_isOf 6 = .ok (.iload_n 1, 1) := by decide +kernel
theorem dX0_isOf_7 : decode cX0_isOf 7 = .ok (.invokespecial 9, 3) := by decide +kernel
theorem dX0_isOf_10 : decode cX0_isOf 10 = .ok (.ifCond .eq 7, 3) := by decide +kernel
theorem dX0_isOf_13 : decode cX0_isOf 13 = .ok (.iconst 1, 1) := by decide +kernel
theorem dX0_isOf_14 : decode cX0_isOf 14 = .ok (.goto 4, 3) := by decide +kernel
theorem dX0_isOf_17 : decode cX0_isOf 17 = .ok (.iconst 0, 1) := by decide +kernel
theorem dX0_isOf_18 : decode cX0_isOf 18 = .ok (.ireturn, 1) := by decide +kernel
set_option maxRecDepth 20000 in
theorem ggX0_creaseAt_X8_corners : GoodIn wsX0_creaseAt wsX8_corners := goodIn_r _ [6, 7, 8, 9, 10, 5, 11, 12, 13, 14, 15, 16, 17, 18, 19, 20, 21, 22, 23, 24, 25, 26, 27, 28, 29, 30, 31, 32, 33, 34, 35, 36, 37, 38, 39, 40, 41, 42, 43, 44, 45, 46, 47, 48, 103, 104, 105, 106, 107, 108, 109, 110, 111, 112, 113, 114, 115, 116, 117, 118, 119, 120, 121, 122, 123, 124, 125, 126, 127, 128, 129, 130] (by decide +kernel) (by decide +kernel)
set_option maxRecDepth 20000 in
theorem gX0_creaseAt_X8_corners_u13X0 : GoodIn wsX0_creaseAt (va_wsU RX0 13 RX0 "FoldedInHalf$Strip" ⟨"FoldedInHalf$Back", "corners", "()J"⟩ yX8_corners wsX8_corners) := goodIn_app (goodIn_of _ (by decide +kernel)) ggX0_creaseAt_X8_corners
set_option maxRecDepth 20000 in
theorem ggX0_creaseAt_X1_creaseAt : GoodIn wsX0_creaseAt wsX1_creaseAt := goodIn_r _ [53, 54, 55, 56, 31, 32, 33, 34, 35, 36, 37, 38, 10, 5, 11, 12, 39, 57, 58, 59, 60, 61, 62, 63, 64, 65, 66, 67, 68, 69, 70, 71, 72, 73, 74, 75, 76, 77, 78, 79, 80, 81, 82, 83, 84, 85, 86, 87, 88, 89, 90, 91, 92, 93, 94, 95, 96, 97, 98, 99, 100, 101, 102, 103, 104, 105, 106, 107, 108, 109, 110, 111, 112, 113, 114, 115, 116, 117, 118, 119, 120, 121, 122, 123, 124, 125, 126, 127, 128, 129, 130] (by decide +kernel) (by decide +kernel)
set_option maxRecDepth 20000 in
theorem gX0_creaseAt_X1_creaseAt_s19 : GoodIn wsX0_creaseAt (va_wsSU RX0 19 yX1_creaseAt wsX1_creaseAt) := goodIn_app (goodIn_of _ (by decide +kernel)) ggX0_creaseAt_X1_creaseAt
theorem dX0_creaseAt_0 : decode cX0_creaseAt 0 = .ok (.iconst 1, 1) := by decide +kernel
theorem dX0_creaseAt_1 : decode cX0_creaseAt 1 = .ok (.aload_n 0, 1) := by decide +kernel
theorem dX0_creaseAt_2 : decode cX0_creaseAt 2 = .ok (.aload_n 0, 1) := by decide +kernel
theorem dX0_creaseAt_3 : decode cX0_creaseAt 3 = .ok (.invokevirtual 13, 3) := by decide +kernel
theorem dX0_creaseAt_6 : decode cX0_creaseAt 6 = .ok (.lconst 1, 1) := by decide +kernel
theorem dX0_creaseAt_7 : decode cX0_creaseAt 7 = .ok (.ladd, 1) := by decide +kernel
theorem dX0_creaseAt_8 : decode cX0_creaseAt 8 = .ok (.lload_n 1, 1) := by decide +kernel
theorem dX0_creaseAt_9 : decode cX0_creaseAt 9 = .ok (.lsub, 1) := by decide +kernel
theorem dX0_creaseAt_10 : decode cX0_creaseAt 10 = .ok (.invokespecial 19, 3) := by decide +kernel
theorem dX0_creaseAt_13 : decode cX0_creaseAt 13 = .ok (.isub, 1) := by decide +kernel
theorem dX0_creaseAt_14 : decode cX0_creaseAt 14 = .ok (.ireturn, 1) := by decide +kernel
set_option maxRecDepth 20000 in
theorem ggX0_walkTo_X8_wholeSides : GoodIn wsX0_walkTo wsX8_wholeSides := goodIn_r _ [6, 7, 137, 138, 139, 140, 141, 142, 143, 144, 145, 146, 147, 148, 149, 150, 151, 152, 153, 154, 155, 156, 157, 158, 159, 160, 161, 162, 163, 164] (by decide +kernel) (by decide +kernel)
set_option maxRecDepth 20000 in
theorem gX0_walkTo_X8_wholeSides_u23X0 : GoodIn wsX0_walkTo (va_wsU RX0 23 RX0 "FoldedInHalf$Strip" ⟨"FoldedInHalf$Back", "wholeSides", "()J"⟩ yX8_wholeSides wsX8_wholeSides) := goodIn_app (goodIn_of _ (by decide +kernel)) ggX0_walkTo_X8_wholeSides
set_option maxRecDepth 20000 in
theorem ggX0_walkTo_X8_wholeWalkTo : GoodIn wsX0_walkTo wsX8_wholeWalkTo := goodIn_r _ [12, 13, 14, 15, 7, 16, 17, 18, 19, 5, 20, 21, 22, 23, 4, 6, 24, 25, 26, 27, 28, 29, 30, 31, 32, 33, 34, 35, 36, 37, 38, 39, 40, 41, 42, 43, 44, 45, 46, 47, 48, 49, 50, 51, 52, 53, 54, 55, 56, 57, 58, 59, 60, 61, 62, 63, 64, 65, 66, 67, 68, 69, 70, 71, 72, 73, 74, 75, 76, 77, 78, 79, 80, 81, 82, 83, 84, 85, 86, 87, 88, 89, 90, 91, 92, 93, 94, 95, 96, 97, 98, 99, 100, 101, 102, 103, 104, 105, 106, 107, 108, 109, 110, 111, 112, 113, 114, 115, 116, 117, 118, 119, 120, 121, 131, 132, 133, 134, 135, 136, 137, 138, 139, 140, 141, 142, 143, 144, 145, 146, 147, 148, 149, 150, 151, 152, 153, 154, 155, 156, 157, 158, 159, 160, 161, 162, 163, 164] (by decide +kernel) (by decide +kernel)
set_option maxRecDepth 20000 in
theorem gX0_walkTo_X8_wholeWalkTo_u26X0 : GoodIn wsX0_walkTo (va_wsU RX0 26 RX0 "FoldedInHalf$Strip" ⟨"FoldedInHalf$Back", "wholeWalkTo", "(J)LFoldedInHalf$Walk;"⟩ yX8_wholeWalkTo wsX8_wholeWalkTo) := goodIn_app (goodIn_of _ (by decide +kernel)) ggX0_walkTo_X8_wholeWalkTo
set_option maxRecDepth 20000 in
theorem ggX0_walkTo_X0_backAlong : GoodIn wsX0_walkTo wsX0_backAlong := goodIn_r _ [126, 8, 9, 10, 11, 5, 12, 13, 14, 15, 7, 16, 17, 18, 19, 20, 21, 22, 23, 4, 6, 24, 25, 26, 27, 28, 29, 30, 31, 32, 33, 34, 35, 36, 37, 38, 39, 40, 41, 42, 43, 44, 45, 46, 47, 48, 49, 50, 51, 52, 53, 54, 55, 56, 57, 58, 59, 60, 61, 62, 63, 64, 65, 66, 67, 68, 69, 70, 71, 72, 73, 74, 75, 76, 77, 78, 79, 80, 81, 82, 83, 84, 85, 86, 87, 88, 89, 90, 91, 92, 93, 94, 95, 96, 97, 98, 99, 100, 101, 102, 103, 104, 105, 106, 107, 108, 109, 110, 111, 112, 113, 114, 115, 116, 117, 118, 119, 120, 121, 131, 132, 133, 134, 135, 136, 137, 138, 139, 140, 141, 142, 143, 144, 145, 146, 147, 148, 149, 150, 151, 152, 153, 154, 155, 156, 157, 158, 159, 160, 161, 162, 163, 164] (by decide +kernel) (by decide +kernel)
set_option maxRecDepth 20000 in
theorem gX0_walkTo_X0_backAlong : GoodIn wsX0_walkTo (wsV RX0 30 RX0 yX0_backAlong wsX0_backAlong) := goodIn_app (goodIn_of _ (by decide +kernel)) ggX0_walkTo_X0_backAlong
set_option maxRecDepth 20000 in
theorem ggX0_walkTo_X10_seeFrom : GoodIn wsX0_walkTo wsX10_seeFrom := goodIn_r _ [129, 73, 74, 75, 130, 116, 117, 15, 118, 131, 132, 133, 134, 135, 136] (by decide +kernel) (by decide +kernel)
set_option maxRecDepth 20000 in
theorem gX0_walkTo_X10_seeFrom_n39 : GoodIn wsX0_walkTo (wsX10_seeFrom) := ggX0_walkTo_X10_seeFrom
theorem dX0_walkTo_0 : decode cX0_walkTo 0 = .ok (.aload_n 0, 1) := by decide +kernel
theorem dX0_walkTo_1 : decode cX0_walkTo 1 = .ok (.aload_n 0, 1) := by decide +kernel
theorem dX0_walkTo_2 : decode cX0_walkTo 2 = .ok (.invokevirtual 23, 3) := by decide +kernel
theorem dX0_walkTo_5 : decode cX0_walkTo 5 = .ok (.invokevirtual 26, 3) := by decide +kernel
theorem dX0_walkTo_8 : decode cX0_walkTo 8 = .ok (.astore_n 3, 1) := by decide +kernel
theorem dX0_walkTo_9 : decode cX0_walkTo 9 = .ok (.aload_n 3, 1) := by decide +kernel
theorem dX0_walkTo_10 : decode cX0_walkTo 10 = .ok (.aload_n 0, 1) := by decide +kernel
theorem dX0_walkTo_11 : decode cX0_walkTo 11 = .ok (.aload_n 0, 1) := by decide +kernel
theorem dX0_walkTo_12 : decode cX0_walkTo 12 = .ok (.invokevirtual 23, 3) := by decide +kernel
theorem dX0_walkTo_15 : decode cX0_walkTo 15 = .ok (.invokevirtual 30, 3) := by decide +kernel
theorem dX0_walkTo_18 : decode cX0_walkTo 18 = .ok (.putfield 33, 3) := by decide +kernel
theorem dX0_walkTo_21 : decode cX0_walkTo 21 = .ok (.aload_n 0, 1) := by decide +kernel
theorem dX0_walkTo_22 : decode cX0_walkTo 22 = .ok (.aload_n 0, 1) := by decide +kernel
theorem dX0_walkTo_23 : decode cX0_walkTo 23 = .ok (.invokevirtual 23, 3) := by decide +kernel
theorem dX0_walkTo_26 : decode cX0_walkTo 26 = .ok (.lload_n 1, 1) := by decide +kernel
theorem dX0_walkTo_27 : decode cX0_walkTo 27 = .ok (.lsub, 1) := by decide +kernel
theorem dX0_walkTo_28 : decode cX0_walkTo 28 = .ok (.invokevirtual 26, 3) := by decide +kernel
theorem dX0_walkTo_31 : decode cX0_walkTo 31 = .ok (.astore 4, 2) := by decide +kernel
theorem dX0_walkTo_33 : decode cX0_walkTo 33 = .ok (.aload 4, 2) := by decide +kernel
theorem dX0_walkTo_35 : decode cX0_walkTo 35 = .ok (.aload_n 0, 1) := by decide +kernel
theorem dX0_walkTo_36 : decode cX0_walkTo 36 = .ok (.aload_n 0, 1) := by decide +kernel
theorem dX0_walkTo_37 : decode cX0_walkTo 37 = .ok (.invokevirtual 23, 3) := by decide +kernel
theorem dX0_walkTo_40 : decode cX0_walkTo 40 = .ok (.lload_n 1, 1) := by decide +kernel
theorem dX0_walkTo_41 : decode cX0_walkTo 41 = .ok (.lsub, 1) := by decide +kernel
theorem dX0_walkTo_42 : decode cX0_walkTo 42 = .ok (.invokevirtual 30, 3) := by decide +kernel
theorem dX0_walkTo_45 : decode cX0_walkTo 45 = .ok (.putfield 33, 3) := by decide +kernel
theorem dX0_walkTo_48 : decode cX0_walkTo 48 = .ok (.aload 4, 2) := by decide +kernel
theorem dX0_walkTo_50 : decode cX0_walkTo 50 = .ok (.aload_n 3, 1) := by decide +kernel
theorem dX0_walkTo_51 : decode cX0_walkTo 51 = .ok (.invokevirtual 39, 3) := by decide +kernel
theorem dX0_walkTo_54 : decode cX0_walkTo 54 = .ok (.aload 4, 2) := by decide +kernel
theorem dX0_walkTo_56 : decode cX0_walkTo 56 = .ok (.areturn, 1) := by decide +kernel
set_option maxRecDepth 20000 in
theorem ggX0_backAlong_X8_wholeWalkTo : GoodIn wsX0_backAlong wsX8_wholeWalkTo := goodIn_r _ [6, 7, 8, 9, 10, 11, 12, 13, 14, 5, 15, 16, 17, 18, 19, 20, 21, 22, 23, 24, 25, 26, 27, 28, 29, 30, 31, 32, 33, 34, 35, 36, 37, 38, 39, 40, 41, 42, 43, 44, 45, 46, 47, 48, 49, 50, 51, 52, 53, 54, 55, 56, 57, 58, 59, 60, 61, 62, 63, 64, 65, 66, 67, 68, 69, 70, 71, 72, 73, 74, 75, 76, 77, 78, 79, 80, 81, 82, 83, 84, 85, 86, 87, 88, 89, 90, 91, 92, 93, 94, 95, 96, 97, 98, 99, 100, 101, 102, 103, 104, 105, 106, 107, 108, 109, 110, 111, 112, 113, 114, 115, 116, 117, 118, 119, 120, 121, 122, 123, 124, 125, 126, 127, 128, 129, 130, 131, 132, 133, 134, 135, 136, 137, 138, 139, 140, 141, 142, 143, 144, 145, 146, 147, 148, 149, 150, 151, 152] (by decide +kernel) (by decide +kernel)
set_option maxRecDepth 20000 in
theorem gX0_backAlong_X8_wholeWalkTo_u26X0 : GoodIn wsX0_backAlong (va_wsU RX0 26 RX0 "FoldedInHalf$Strip" ⟨"FoldedInHalf$Back", "wholeWalkTo", "(J)LFoldedInHalf$Walk;"⟩ yX8_wholeWalkTo wsX8_wholeWalkTo) := goodIn_app (goodIn_of _ (by decide +kernel)) ggX0_backAlong_X8_wholeWalkTo
theorem dX0_backAlong_0 : decode cX0_backAlong 0 = .ok (.lload_n 1, 1) := by decide +kernel
theorem dX0_backAlong_1 : decode cX0_backAlong 1 = .ok (.lconst 0, 1) := by decide +kernel
theorem dX0_backAlong_2 : decode cX0_backAlong 2 = .ok (.lcmp, 1) := by decide +kernel
theorem dX0_backAlong_3 : decode cX0_backAlong 3 = .ok (.ifCond .le 18, 3) := by decide +kernel
theorem dX0_backAlong_6 : decode cX0_backAlong 6 = .ok (.aload_n 0, 1) := by decide +kernel
theorem dX0_backAlong_7 : decode cX0_backAlong 7 = .ok (.lload_n 1, 1) := by decide +kernel
theorem dX0_backAlong_8 : decode cX0_backAlong 8 = .ok (.lconst 1, 1) := by decide +kernel
theorem dX0_backAlong_9 : decode cX0_backAlong 9 = .ok (.lsub, 1) := by decide +kernel
theorem dX0_backAlong_10 : decode cX0_backAlong 10 = .ok (.invokevirtual 26, 3) := by decide +kernel
theorem dX0_backAlong_13 : decode cX0_backAlong 13 = .ok (.getfield 33, 3) := by decide +kernel
theorem dX0_backAlong_16 : decode cX0_backAlong 16 = .ok (.iconst 2, 1) := by decide +kernel
theorem dX0_backAlong_17 : decode cX0_backAlong 17 = .ok (.iadd, 1) := by decide +kernel
theorem dX0_backAlong_18 : decode cX0_backAlong 18 = .ok (.goto 4, 3) := by decide +kernel
theorem dX0_backAlong_21 : decode cX0_backAlong 21 = .ok (.iconst 0, 1) := by decide +kernel
theorem dX0_backAlong_22 : decode cX0_backAlong 22 = .ok (.ireturn, 1) := by decide +kernel
set_option maxRecDepth 20000 in
theorem ggX0_lies_X11_began : GoodIn wsX0_lies wsX11_began := goodIn_r _ [4, 5, 6, 7, 8, 9, 10, 11, 12, 13, 14, 15, 16, 17, 18, 19] (by decide +kernel) (by decide +kernel)
set_option maxRecDepth 20000 in
theorem gX0_lies_X11_began_n43 : GoodIn wsX0_lies (wsX11_began) := ggX0_lies_X11_began
theorem dX0_lies_0 : decode cX0_lies 0 = .ok (.aload_n 2, 1) := by decide +kernel
theorem dX0_lies_1 : decode cX0_lies 1 = .ok (.bipush 50, 2) := by decide +kernel
theorem dX0_lies_3 : decode cX0_lies 3 = .ok (.invokevirtual 43, 3) := by decide +kernel
theorem dX0_lies_6 : decode cX0_lies 6 = .ok (.aload_n 0, 1) := by decide +kernel
theorem dX0_lies_7 : decode cX0_lies 7 = .ok (.iload_n 1, 1) := by decide +kernel
theorem dX0_lies_8 : decode cX0_lies 8 = .ok (.aload_n 2, 1) := by decide +kernel
theorem dX0_lies_9 : decode cX0_lies 9 = .ok (.invokespecial 47, 3) := by decide +kernel
theorem dX0_lies_12 : decode cX0_lies 12 = .ok (.ineg, 1) := by decide +kernel
theorem dX0_lies_13 : decode cX0_lies 13 = .ok (.ireturn, 1) := by decide +kernel
set_option maxRecDepth 20000 in
theorem ggX0_folds_X11_began : GoodIn wsX0_folds wsX11_began := goodIn_r _ [6, 7, 8, 37, 38, 39, 40, 41, 42, 43, 44, 45, 46, 47, 48, 49] (by decide +kernel) (by decide +kernel)
set_option maxRecDepth 20000 in
theorem gX0_folds_X11_began_n43 : GoodIn wsX0_folds (wsX11_began) := ggX0_folds_X11_began
theorem dX0_folds_0 : decode cX0_folds 0 = .ok (.aload_n 2, 1) := by decide +kernel
theorem dX0_folds_1 : decode cX0_folds 1 = .ok (.bipush 51, 2) := by decide +kernel
theorem dX0_folds_3 : decode cX0_folds 3 = .ok (.invokevirtual 43, 3) := by decide +kernel
theorem dX0_folds_6 : decode cX0_folds 6 = .ok (.aload_n 0, 1) := by decide +kernel
theorem dX0_folds_7 : decode cX0_folds 7 = .ok (.iload_n 1, 1) := by decide +kernel
theorem dX0_folds_8 : decode cX0_folds 8 = .ok (.aload_n 2, 1) := by decide +kernel
theorem dX0_folds_9 : decode cX0_folds 9 = .ok (.invokespecial 51, 3) := by decide +kernel
theorem dX0_folds_12 : decode cX0_folds 12 = .ok (.aload_n 0, 1) := by decide +kernel
theorem dX0_folds_13 : decode cX0_folds 13 = .ok (.getfield 54, 3) := by decide +kernel
theorem dX0_folds_16 : decode cX0_folds 16 = .ok (.isub, 1) := by decide +kernel
theorem dX0_folds_17 : decode cX0_folds 17 = .ok (.ireturn, 1) := by decide +kernel
set_option maxRecDepth 20000 in
theorem ggX1_init_X8_init : GoodIn wsX1_init wsX8_init := goodIn_r _ [4, 5, 6, 7, 8, 9, 10, 11, 12, 13, 14, 15, 16, 17, 18, 19, 20, 21, 22, 23, 24, 25, 26, 27, 28, 29, 30, 31, 32, 33, 34, 35, 36, 37, 38, 39] (by decide +kernel) (by decide +kernel)
set_option maxRecDepth 20000 in
theorem gX1_init_X8_init : GoodIn wsX1_init (wsX8_init) := ggX1_init_X8_init
theorem dX1_init_0 : decode cX1_init 0 = .ok (.aload_n 0, 1) := by decide +kernel
theorem dX1_init_1 : decode cX1_init 1 = .ok (.iload_n 1, 1) := by decide +kernel
theorem dX1_init_2 : decode cX1_init 2 = .ok (.iload_n 2, 1) := by decide +kernel
theorem dX1_init_3 : decode cX1_init 3 = .ok (.iload_n 3, 1) := by decide +kernel
theorem dX1_init_4 : decode cX1_init 4 = .ok (.lload 4, 2) := by decide +kernel
theorem dX1_init_6 : decode cX1_init 6 = .ok (.invokespecial 3, 3) := by decide +kernel
theorem dX1_init_9 : decode cX1_init 9 = .ok (.return_, 1) := by decide +kernel
theorem dX1_kind_0 : decode cX1_kind 0 = .ok (.iconst 3, 1) := by decide +kernel
theorem dX1_kind_1 : decode cX1_kind 1 = .ok (.ireturn, 1) := by decide +kernel
theorem dX1_isOf_0 : decode cX1_isOf 0 = .ok (.iload_n 1, 1) := by decide +kernel
theorem dX1_isOf_1 : decode cX1_isOf 1 = .ok (.iconst 3, 1) := by decide +kernel
theorem dX1_isOf_2 : decode cX1_isOf 2 = .ok (.if_icmp .eq 7, 3) := by decide +kernel
theorem dX1_isOf_5 : decode cX1_isOf 5 = .ok (.iload_n 1, 1) := by decide +kernel
theorem dX1_isOf_6 : decode cX1_isOf 6 = .ok (.ifCond .ne 7, 3) := by decide +kernel
theorem dX1_isOf_9 : decode cX1_isOf 9 = .ok (.iconst 1, 1) := by decide +kernel
theorem dX1_isOf_10 : decode cX1_isOf 10 = .ok (.goto 4, 3) := by decide +kernel
theorem dX1_isOf_13 : decode cX1_isOf 13 = .ok (.iconst 0, 1) := by decide +kernel
theorem dX1_isOf_14 : decode cX1_isOf 14 = .ok (.ireturn, 1) := by decide +kernel
set_option maxRecDepth 20000 in
theorem ggX1_behind_X8_wholeSides : GoodIn wsX1_behind wsX8_wholeSides := goodIn_r _ [8, 9, 11, 12, 13, 14, 15, 16, 17, 18, 19, 20, 21, 22, 23, 24, 25, 26, 27, 28, 29, 30, 31, 32, 33, 34, 35, 36, 37, 38] (by decide +kernel) (by decide +kernel)
set_option maxRecDepth 20000 in
theorem gX1_behind_X8_wholeSides_u9X0 : GoodIn wsX1_behind (va_wsU RX1 9 RX0 "FoldedInHalf$Strip" ⟨"FoldedInHalf$Cut", "wholeSides", "()J"⟩ yX8_wholeSides wsX8_wholeSides) := goodIn_app (goodIn_of _ (by decide +kernel)) ggX1_behind_X8_wholeSides
set_option maxRecDepth 20000 in
theorem gX1_behind_X8_wholeSides_u9X1 : GoodIn wsX1_behind (va_wsU RX1 9 RX1 "FoldedInHalf$Strip" ⟨"FoldedInHalf$Cut", "wholeSides", "()J"⟩ yX8_wholeSides wsX8_wholeSides) := goodIn_app (goodIn_of _ (by decide +kernel)) ggX1_behind_X8_wholeSides
theorem dX1_behind_0 : decode cX1_behind 0 = .ok (.aload_n 0, 1) := by decide +kernel
theorem dX1_behind_1 : decode cX1_behind 1 = .ok (.invokevirtual 9, 3) := by decide +kernel
theorem dX1_behind_4 : decode cX1_behind 4 = .ok (.lconst 1, 1) := by decide +kernel
theorem dX1_behind_5 : decode cX1_behind 5 = .ok (.lsub, 1) := by decide +kernel
theorem dX1_behind_6 : decode cX1_behind 6 = .ok (.lstore_n 1, 1) := by decide +kernel
theorem dX1_behind_7 : decode cX1_behind 7 = .ok (.lload_n 1, 1) := by decide +kernel
theorem dX1_behind_8 : decode cX1_behind 8 = .ok (.lconst 0, 1) := by decide +kernel
theorem dX1_behind_9 : decode cX1_behind 9 = .ok (.lcmp, 1) := by decide +kernel
theorem dX1_behind_10 : decode cX1_behind 10 = .ok (.ifCond .le 13, 3) := by decide +kernel
theorem dX1_behind_13 : decode cX1_behind 13 = .ok (.aload_n 0, 1) := by decide +kernel
theorem dX1_behind_14 : decode cX1_behind 14 = .ok (.getfield 15, 3) := by decide +kernel
theorem dX1_behind_17 : decode cX1_behind 17 = .ok (.i2l, 1) := by decide +kernel
theorem dX1_behind_18 : decode cX1_behind 18 = .ok (.lload_n 1, 1) := by decide +kernel
theorem dX1_behind_19 : decode cX1_behind 19 = .ok (.lrem, 1) := by decide +kernel
theorem dX1_behind_20 : decode cX1_behind 20 = .ok (.goto 4, 3) := by decide +kernel
theorem dX1_behind_23 : decode cX1_behind 23 = .ok (.lconst 0, 1) := by decide +kernel
theorem dX1_behind_24 : decode cX1_behind 24 = .ok (.lreturn, 1) := by decide +kernel
set_option maxRecDepth 20000 in
theorem ggX1_creaseAt_X1_behind : GoodIn wsX1_creaseAt wsX1_behind := goodIn_r _ [6, 7, 8, 9, 10, 11, 12, 13, 14, 15, 16, 63, 64, 65, 66, 67, 68, 69, 70, 71, 72, 73, 74, 75, 76, 77, 78, 79, 80, 81, 82, 83, 84, 85, 86, 87, 88, 89, 90] (by decide +kernel) (by decide +kernel)
set_option maxRecDepth 20000 in
theorem gX1_creaseAt_X1_behind_u19X0 : GoodIn wsX1_creaseAt (va_wsU RX1 19 RX0 "FoldedInHalf$Cut" ⟨"FoldedInHalf$Cut", "behind", "()J"⟩ yX1_behind wsX1_behind) := goodIn_app (goodIn_of _ (by decide +kernel)) ggX1_creaseAt_X1_behind
set_option maxRecDepth 20000 in
theorem gX1_creaseAt_X1_behind : GoodIn wsX1_creaseAt (wsV RX1 19 RX1 yX1_behind wsX1_behind) := goodIn_app (goodIn_of _ (by decide +kernel)) ggX1_creaseAt_X1_behind
set_option maxRecDepth 20000 in
theorem ggX1_creaseAt_X8_creaseAt : GoodIn wsX1_creaseAt wsX8_creaseAt := goodIn_r _ [23, 24, 25, 26, 27, 28, 13, 29, 30, 31, 32, 33, 34, 35, 36, 37, 38, 39, 40, 41, 42, 43, 44, 45, 46, 47, 48, 49, 50, 51, 52, 53, 54, 55, 56, 57, 58, 59, 60, 61, 62, 63, 64, 65, 66, 67, 68, 69, 70, 71, 72, 73, 74, 75, 76, 77, 78, 79, 80, 81, 82, 83, 84, 85, 86, 87, 88, 89, 90] (by decide +kernel) (by decide +kernel)
set_option maxRecDepth 20000 in
theorem gX1_creaseAt_X8_creaseAt_s22 : GoodIn wsX1_creaseAt (va_wsSU RX1 22 yX8_creaseAt wsX8_creaseAt) := goodIn_app (goodIn_of _ (by decide +kernel)) ggX1_creaseAt_X8_creaseAt
theorem dX1_creaseAt_0 : decode cX1_creaseAt 0 = .ok (.aload_n 0, 1) := by decide +kernel
theorem dX1_creaseAt_1 : decode cX1_creaseAt 1 = .ok (.lload_n 1, 1) := by decide +kernel
theorem dX1_creaseAt_2 : decode cX1_creaseAt 2 = .ok (.aload_n 0, 1) := by decide +kernel
theorem dX1_creaseAt_3 : decode cX1_creaseAt 3 = .ok (.invokevirtual 19, 3) := by decide +kernel
theorem dX1_creaseAt_6 : decode cX1_creaseAt 6 = .ok (.ladd, 1) := by decide +kernel
theorem dX1_creaseAt_7 : decode cX1_creaseAt 7 = .ok (.invokespecial 22, 3) := by decide +kernel
theorem dX1_creaseAt_10 : decode cX1_creaseAt 10 = .ok (.ireturn, 1) := by decide +kernel
set_option maxRecDepth 20000 in
theorem ggX1_walkTo_X1_behind : GoodIn wsX1_walkTo wsX1_behind := goodIn_r _ [6, 7, 8, 9, 10, 11, 12, 13, 14, 15, 16, 129, 130, 131, 132, 133, 134, 135, 136, 137, 138, 139, 140, 141, 142, 143, 144, 145, 146, 147, 148, 149, 150, 151, 152, 153, 154, 155, 156] (by decide +kernel) (by decide +kernel)
set_option maxRecDepth 20000 in
theorem gX1_walkTo_X1_behind_u19X0 : GoodIn wsX1_walkTo (va_wsU RX1 19 RX0 "FoldedInHalf$Cut" ⟨"FoldedInHalf$Cut", "behind", "()J"⟩ yX1_behind wsX1_behind) := goodIn_app (goodIn_of _ (by decide +kernel)) ggX1_walkTo_X1_behind
set_option maxRecDepth 20000 in
theorem gX1_walkTo_X1_behind : GoodIn wsX1_walkTo (wsV RX1 19 RX1 yX1_behind wsX1_behind) := goodIn_app (goodIn_of _ (by decide +kernel)) ggX1_walkTo_X1_behind
set_option maxRecDepth 20000 in
theorem ggX1_walkTo_X8_wholeWalkTo : GoodIn wsX1_walkTo wsX8_wholeWalkTo := goodIn_r _ [23, 24, 25, 26, 15, 27, 28, 29, 30, 13, 31, 32, 33, 34, 12, 14, 35, 36, 37, 38, 39, 40, 41, 42, 43, 44, 45, 46, 47, 48, 49, 50, 51, 52, 4, 5, 6, 7, 8, 9, 10, 11, 16, 53, 54, 55, 56, 57, 58, 59, 60, 61, 62, 63, 64, 65, 66, 67, 68, 69, 70, 71, 72, 73, 74, 75, 76, 77, 78, 79, 80, 81, 82, 83, 84, 85, 86, 87, 88, 89, 90, 91, 92, 93, 94, 95, 96, 97, 98, 99, 100, 101, 102, 103, 104, 105, 106, 107, 108, 109, 110, 111, 112, 113, 114, 115, 116, 117, 118, 119, 120, 121, 122, 123, 157, 158, 159, 160, 161, 162, 129, 130, 131, 132, 133, 134, 135, 136, 137, 138, 139, 140, 141, 142, 143, 144, 145, 146, 147, 148, 149, 150, 151, 152, 153, 154, 155, 156] (by decide +kernel) (by decide +kernel)
set_option maxRecDepth 20000 in
theorem gX1_walkTo_X8_wholeWalkTo_u26X0 : GoodIn wsX1_walkTo (va_wsU RX1 26 RX0 "FoldedInHalf$Strip" ⟨"FoldedInHalf$Cut", "wholeWalkTo", "(J)LFoldedInHalf$Walk;"⟩ yX8_wholeWalkTo wsX8_wholeWalkTo) := goodIn_app (goodIn_of _ (by decide +kernel)) ggX1_walkTo_X8_wholeWalkTo
set_option maxRecDepth 20000 in
theorem gX1_walkTo_X8_wholeWalkTo_u26X1 : GoodIn wsX1_walkTo (va_wsU RX1 26 RX1 "FoldedInHalf$Strip" ⟨"FoldedInHalf$Cut", "wholeWalkTo", "(J)LFoldedInHalf$Walk;"⟩ yX8_wholeWalkTo wsX8_wholeWalkTo) := goodIn_app (goodIn_of _ (by decide +kernel)) ggX1_walkTo_X8_wholeWalkTo
set_option maxRecDepth 20000 in
theorem ggX1_walkTo_X10_seeFrom : GoodIn wsX1_walkTo wsX10_seeFrom := goodIn_r _ [127, 75, 76, 77, 128, 118, 119, 26, 120, 157, 158, 159, 160, 161, 162] (by decide +kernel) (by decide +kernel)
set_option maxRecDepth 20000 in
theorem gX1_walkTo_X10_seeFrom_n30 : GoodIn wsX1_walkTo (wsX10_seeFrom) := ggX1_walkTo_X10_seeFrom
theorem dX1_walkTo_0 : decode cX1_walkTo 0 = .ok (.aload_n 0, 1) := by decide +kernel
theorem dX1_walkTo_1 : decode cX1_walkTo 1 = .ok (.aload_n 0, 1) := by decide +kernel
theorem dX1_walkTo_2 : decode cX1_walkTo 2 = .ok (.invokevirtual 19, 3) := by decide +kernel
theorem dX1_walkTo_5 : decode cX1_walkTo 5 = .ok (.lload_n 1, 1) := by decide +kernel
theorem dX1_walkTo_6 : decode cX1_walkTo 6 = .ok (.ladd, 1) := by decide +kernel
theorem dX1_walkTo_7 : decode cX1_walkTo 7 = .ok (.invokevirtual 26, 3) := by decide +kernel
theorem dX1_walkTo_10 : decode cX1_walkTo 10 = .ok (.astore_n 3, 1) := by decide +kernel
theorem dX1_walkTo_11 : decode cX1_walkTo 11 = .ok (.aload_n 3, 1) := by decide +kernel
theorem dX1_walkTo_12 : decode cX1_walkTo 12 = .ok (.aload_n 0, 1) := by decide +kernel
theorem dX1_walkTo_13 : decode cX1_walkTo 13 = .ok (.aload_n 0, 1) := by decide +kernel
theorem dX1_walkTo_14 : decode cX1_walkTo 14 = .ok (.invokevirtual 19, 3) := by decide +kernel
theorem dX1_walkTo_17 : decode cX1_walkTo 17 = .ok (.invokevirtual 26, 3) := by decide +kernel
theorem dX1_walkTo_20 : decode cX1_walkTo 20 = .ok (.invokevirtual 30, 3) := by decide +kernel
theorem dX1_walkTo_23 : decode cX1_walkTo 23 = .ok (.aload_n 3, 1) := by decide +kernel
theorem dX1_walkTo_24 : decode cX1_walkTo 24 = .ok (.areturn, 1) := by decide +kernel
set_option maxRecDepth 20000 in
theorem ggX1_opens_X11_began : GoodIn wsX1_opens wsX11_began := goodIn_r _ [4, 5, 6, 42, 43, 44, 45, 46, 47, 48, 49, 50, 51, 52, 53, 54] (by decide +kernel) (by decide +kernel)
set_option maxRecDepth 20000 in
theorem gX1_opens_X11_began_n36 : GoodIn wsX1_opens (wsX11_began) := ggX1_opens_X11_began
set_option maxRecDepth 20000 in
theorem ggX1_opens_X8_opens : GoodIn wsX1_opens wsX8_opens := goodIn_r _ [12, 1, 2, 3, 4, 5, 6, 13, 14, 15, 16, 17, 18, 19, 20, 21, 22, 23, 24, 11, 25, 26, 27, 28, 29, 30, 31, 32, 33, 34, 35, 36, 37, 38, 39, 40, 41, 42, 43, 44, 45, 46, 47, 48, 49, 50, 51, 52, 53, 54, 55, 56, 57, 58, 59, 60, 61, 62, 63, 64, 65, 66, 67, 68, 69, 70, 71, 72, 73, 74, 75, 76, 77, 78, 79, 80, 81, 82] (by decide +kernel) (by decide +kernel)
set_option maxRecDepth 20000 in
theorem gX1_opens_X8_opens_s40 : GoodIn wsX1_opens (va_wsSU RX1 40 yX8_opens wsX8_opens) := goodIn_app (goodIn_of _ (by decide +kernel)) ggX1_opens_X8_opens
theorem dX1_opens_0 : decode cX1_opens 0 = .ok (.aload_n 2, 1) := by decide +kernel
theorem dX1_opens_1 : decode cX1_opens 1 = .ok (.bipush 40, 2) := by decide +kernel
theorem dX1_opens_3 : decode cX1_opens 3 = .ok (.invokevirtual 36, 3) := by decide +kernel
theorem dX1_opens_6 : decode cX1_opens 6 = .ok (.aload_n 0, 1) := by decide +kernel
theorem dX1_opens_7 : decode cX1_opens 7 = .ok (.iload_n 1, 1) := by decide +kernel
theorem dX1_opens_8 : decode cX1_opens 8 = .ok (.iconst 1, 1) := by decide +kernel
theorem dX1_opens_9 : decode cX1_opens 9 = .ok (.iadd, 1) := by decide +kernel
theorem dX1_opens_10 : decode cX1_opens 10 = .ok (.aload_n 2, 1) := by decide +kernel
theorem dX1_opens_11 : decode cX1_opens 11 = .ok (.invokespecial 40, 3) := by decide +kernel
theorem dX1_opens_14 : decode cX1_opens 14 = .ok (.ireturn, 1) := by decide +kernel
set_option maxRecDepth 20000 in
theorem ggX2_init_X8_init : GoodIn wsX2_init wsX8_init := goodIn_r _ [4, 5, 6, 7, 8, 9, 10, 11, 12, 13, 14, 15, 16, 17, 18, 19, 20, 21, 22, 23, 24, 25, 26, 27, 28, 29, 30, 31, 32, 33, 34, 35, 36, 37, 38, 39] (by decide +kernel) (by decide +kernel)
set_option maxRecDepth 20000 in
theorem gX2_init_X8_init : GoodIn wsX2_init (wsX8_init) := ggX2_init_X8_init
theorem dX2_init_0 : decode cX2_init 0 = .ok (.aload_n 0, 1) := by decide +kernel
theorem dX2_init_1 : decode cX2_init 1 = .ok (.iload_n 1, 1) := by decide +kernel
theorem dX2_init_2 : decode cX2_init 2 = .ok (.iload_n 2, 1) := by decide +kernel
theorem dX2_init_3 : decode cX2_init 3 = .ok (.iload_n 3, 1) := by decide +kernel
theorem dX2_init_4 : decode cX2_init 4 = .ok (.lload 4, 2) := by decide +kernel
theorem dX2_init_6 : decode cX2_init 6 = .ok (.invokespecial 3, 3) := by decide +kernel
theorem dX2_init_9 : decode cX2_init 9 = .ok (.return_, 1) := by decide +kernel
theorem dX2_kind_0 : decode cX2_kind 0 = .ok (.iconst 5, 1) := by decide +kernel
theorem dX2_kind_1 : decode cX2_kind 1 = .ok (.ireturn, 1) := by decide +kernel
theorem dX2_isOf_0 : decode cX2_isOf 0 = .ok (.iload_n 1, 1) := by decide +kernel
theorem dX2_isOf_1 : decode cX2_isOf 1 = .ok (.iconst 5, 1) := by decide +kernel
theorem dX2_isOf_2 : decode cX2_isOf 2 = .ok (.if_icmp .eq 7, 3) := by decide +kernel
theorem dX2_isOf_5 : decode cX2_isOf 5 = .ok (.iload_n 1, 1) := by decide +kernel
theorem dX2_isOf_6 : decode cX2_isOf 6 = .ok (.ifCond .ne 7, 3) := by decide +kernel
theorem dX2_isOf_9 : decode cX2_isOf 9 = .ok (.iconst 1, 1) := by decide +kernel
theorem dX2_isOf_10 : decode cX2_isOf 10 = .ok (.goto 4, 3) := by decide +kernel
theorem dX2_isOf_13 : decode cX2_isOf 13 = .ok (.iconst 0, 1) := by decide +kernel
theorem dX2_isOf_14 : decode cX2_isOf 14 = .ok (.ireturn, 1) := by decide +kernel
set_option maxRecDepth 20000 in
theorem ggX2_bend_X8_letter : GoodIn wsX2_bend wsX8_letter := goodIn_r _ [6, 7, 9, 10, 11, 12, 13, 14, 15, 16, 17, 18, 19, 20, 21, 22, 23, 24, 25, 26, 27, 28, 29, 30, 31, 32, 33, 34, 35, 36] (by decide +kernel) (by decide +kernel)
set_option maxRecDepth 20000 in
theorem gX2_bend_X8_letter_u9X2 : GoodIn wsX2_bend (va_wsU RX2 9 RX2 "FoldedInHalf$Strip" ⟨"FoldedInHalf$Glass", "letter", "(I)I"⟩ yX8_letter wsX8_letter) := goodIn_app (goodIn_of _ (by decide +kernel)) ggX2_bend_X8_letter
set_option maxRecDepth 20000 in
theorem gX2_bend_X8_letter_u9X4 : GoodIn wsX2_bend (va_wsU RX2 9 RX4 "FoldedInHalf$Strip" ⟨"FoldedInHalf$Glass", "letter", "(I)I"⟩ yX8_letter wsX8_letter) := goodIn_app (goodIn_of _ (by decide +kernel)) ggX2_bend_X8_letter
theorem dX2_bend_0 : decode cX2_bend 0 = .ok (.iconst 1, 1) := by decide +kernel
theorem dX2_bend_1 : decode cX2_bend 1 = .ok (.aload_n 0, 1) := by decide +kernel
theorem dX2_bend_2 : decode cX2_bend 2 = .ok (.iload_n 1, 1) := by decide +kernel
theorem dX2_bend_3 : decode cX2_bend 3 = .ok (.invokevirtual 9, 3) := by decide +kernel
theorem dX2_bend_6 : decode cX2_bend 6 = .ok (.isub, 1) := by decide +kernel
theorem dX2_bend_7 : decode cX2_bend 7 = .ok (.ireturn, 1) := by decide +kernel
set_option maxRecDepth 20000 in
theorem ggX2_lies_X11_began : GoodIn wsX2_lies wsX11_began := goodIn_r _ [4, 5, 6, 70, 71, 72, 73, 74, 75, 76, 77, 78, 79, 80, 81, 82] (by decide +kernel) (by decide +kernel)
set_option maxRecDepth 20000 in
theorem gX2_lies_X11_began_n15 : GoodIn wsX2_lies (wsX11_began) := ggX2_lies_X11_began
set_option maxRecDepth 20000 in
theorem ggX2_lies_X8_lies : GoodIn wsX2_lies wsX8_lies := goodIn_r _ [12, 13, 1, 2, 3, 4, 5, 6, 14, 15, 16, 17, 18, 19, 20, 21, 22, 23, 11, 24, 25, 26, 27, 28, 29, 30, 31, 32, 33, 34, 35, 36, 37, 38, 39, 40, 41, 42, 43, 44, 45, 46, 47, 48, 49, 50, 51, 52, 53, 54, 55, 56, 57, 58, 59, 60, 61, 62, 63, 64, 65, 66, 67, 68, 69, 83, 84, 85, 86, 87, 88, 89, 90, 91, 92, 93, 94, 95, 96, 97, 98, 99, 100, 101, 102, 103, 104, 105, 106, 107, 108, 109, 110, 70, 71, 72, 73, 74, 75, 76, 77, 78, 79, 80, 81, 82] (by decide +kernel) (by decide +kernel)
set_option maxRecDepth 20000 in
theorem gX2_lies_X8_lies_s19 : GoodIn wsX2_lies (va_wsSU RX2 19 yX8_lies wsX8_lies) := goodIn_app (goodIn_of _ (by decide +kernel)) ggX2_lies_X8_lies
theorem dX2_lies_0 : decode cX2_lies 0 = .ok (.aload_n 2, 1) := by decide +kernel
theorem dX2_lies_1 : decode cX2_lies 1 = .ok (.bipush 60, 2) := by decide +kernel
theorem dX2_lies_3 : decode cX2_lies 3 = .ok (.invokevirtual 15, 3) := by decide +kernel
theorem dX2_lies_6 : decode cX2_lies 6 = .ok (.aload_n 0, 1) := by decide +kernel
theorem dX2_lies_7 : decode cX2_lies 7 = .ok (.iload_n 1, 1) := by decide +kernel
theorem dX2_lies_8 : decode cX2_lies 8 = .ok (.aload_n 2, 1) := by decide +kernel
theorem dX2_lies_9 : decode cX2_lies 9 = .ok (.invokespecial 19, 3) := by decide +kernel
theorem dX2_lies_12 : decode cX2_lies 12 = .ok (.iconst 5, 1) := by decide +kernel
theorem dX2_lies_13 : decode cX2_lies 13 = .ok (.ixor, 1) := by decide +kernel
theorem dX2_lies_14 : decode cX2_lies 14 = .ok (.ireturn, 1) := by decide +kernel
theorem dX3_init_0 : decode cX3_init 0 = .ok (.aload_n 0, 1) := by decide +kernel
theorem dX3_init_1 : decode cX3_init 1 = .ok (.invokespecial 3, 3) := by decide +kernel
theorem dX3_init_4 : decode cX3_init 4 = .ok (.aload_n 0, 1) := by decide +kernel
theorem dX3_init_5 : decode cX3_init 5 = .ok (.sipush 2100, 3) := by decide +kernel
theorem dX3_init_8 : decode cX3_init 8 = .ok (.newarray .int, 2) := by decide +kernel
theorem dX3_init_10 : decode cX3_init 10 = .ok (.putfield 11, 3) := by decide +kernel
theorem dX3_init_13 : decode cX3_init 13 = .ok (.aload_n 0, 1) := by decide +kernel
theorem dX3_init_14 : decode cX3_init 14 = .ok (.bipush 9, 2) := by decide +kernel
theorem dX3_init_16 : decode cX3_init 16 = .ok (.newarray .int, 2) := by decide +kernel
theorem dX3_init_18 : decode cX3_init 18 = .ok (.putfield 15, 3) := by decide +kernel
theorem dX3_init_21 : decode cX3_init 21 = .ok (.aload_n 0, 1) := by decide +kernel
theorem dX3_init_22 : decode cX3_init 22 = .ok (.bipush 9, 2) := by decide +kernel
theorem dX3_init_24 : decode cX3_init 24 = .ok (.newarray .int, 2) := by decide +kernel
theorem dX3_init_26 : decode cX3_init 26 = .ok (.putfield 18, 3) := by decide +kernel
theorem dX3_init_29 : decode cX3_init 29 = .ok (.aload_n 0, 1) := by decide +kernel
theorem dX3_init_30 : decode cX3_init 30 = .ok (.bipush 8, 2) := by decide +kernel
theorem dX3_init_32 : decode cX3_init 32 = .ok (.newarray .int, 2) := by decide +kernel
theorem dX3_init_34 : decode cX3_init 34 = .ok (.putfield 21, 3) := by decide +kernel
theorem dX3_init_37 : decode cX3_init 37 = .ok (.aload_n 0, 1) := by decide +kernel
theorem dX3_init_38 : decode cX3_init 38 = .ok (.bipush 8, 2) := by decide +kernel
theorem dX3_init_40 : decode cX3_init 40 = .ok (.newarray .int, 2) := by decide +kernel
theorem dX3_init_42 : decode cX3_init 42 = .ok (.putfield 24, 3) := by decide +kernel
theorem dX3_init_45 : decode cX3_init 45 = .ok (.aload_n 0, 1) := by decide +kernel
theorem dX3_init_46 : decode cX3_init 46 = .ok (.iconst 0, 1) := by decide +kernel
theorem dX3_init_47 : decode cX3_init 47 = .ok (.putfield 27, 3) := by decide +kernel
theorem dX3_init_50 : decode cX3_init 50 = .ok (.aload_n 0, 1) := by decide +kernel
theorem dX3_init_51 : decode cX3_init 51 = .ok (.iconst 0, 1) := by decide +kernel
theorem dX3_init_52 : decode cX3_init 52 = .ok (.putfield 31, 3) := by decide +kernel
theorem dX3_init_55 : decode cX3_init 55 = .ok (.return_, 1) := by decide +kernel
set_option maxRecDepth 20000 in
theorem ggX3_clear_J7_fill_53178 : GoodIn wsX3_clear wsJ7_fill_53178 := goodIn_r _ [6] (by decide +kernel) (by decide +kernel)
set_option maxRecDepth 20000 in
theorem gX3_clear_J7_fill_53178 : GoodIn wsX3_clear (va_wsS RX3 34 yJ7_fill_53178 wsJ7_fill_53178) := goodIn_app (goodIn_of _ (by decide +kernel)) ggX3_clear_J7_fill_53178
theorem dX3_clear_0 : decode cX3_clear 0 = .ok (.aload_n 0, 1) := by decide +kernel
theorem dX3_clear_1 : decode cX3_clear 1 = .ok (.iload_n 1, 1) := by decide +kernel
theorem dX3_clear_2 : decode cX3_clear 2 = .ok (.putfield 31, 3) := by decide +kernel
theorem dX3_clear_5 : decode cX3_clear 5 = .ok (.aload_n 0, 1) := by decide +kernel
theorem dX3_clear_6 : decode cX3_clear 6 = .ok (.getfield 21, 3) := by decide +kernel
theorem dX3_clear_9 : decode cX3_clear 9 = .ok (.iconst (-1), 1) := by decide +kernel
theorem dX3_clear_10 : decode cX3_clear 10 = .ok (.invokestatic 34, 3) := by decide +kernel
theorem dX3_clear_13 : decode cX3_clear 13 = .ok (.return_, 1) := by decide +kernel
theorem dX3_placeOfLeaf_0 : decode cX3_placeOfLeaf 0 = .ok (.iload_n 1, 1) := by decide +kernel
theorem dX3_placeOfLeaf_1 : decode cX3_placeOfLeaf 1 = .ok (.ifCond .lt 18, 3) := by decide +kernel
theorem dX3_placeOfLeaf_4 : decode cX3_placeOfLeaf 4 = .ok (.iload_n 1, 1) := by decide +kernel
theorem dX3_placeOfLeaf_5 : decode cX3_placeOfLeaf 5 = .ok (.bipush 8, 2) := by decide +kernel
theorem dX3_placeOfLeaf_7 : decode cX3_placeOfLeaf 7 = .ok (.if_icmp .ge 12, 3) := by decide +kernel
theorem dX3_placeOfLeaf_10 : decode cX3_placeOfLeaf 10 = .ok (.aload_n 0, 1) := by decide +kernel
theorem dX3_placeOfLeaf_11 : decode cX3_placeOfLeaf 11 = .ok (.getfield 21, 3) := by decide +kernel
theorem dX3_placeOfLeaf_14 : decode cX3_placeOfLeaf 14 = .ok (.iload_n 1, 1) := by decide +kernel
theorem dX3_placeOfLeaf_15 : decode cX3_placeOfLeaf 15 = .ok (.iaload, 1) := by decide +kernel
theorem dX3_placeOfLeaf_16 : decode cX3_placeOfLeaf 16 = .ok (.goto 4, 3) := by decide +kernel
theorem dX3_placeOfLeaf_19 : decode cX3_placeOfLeaf 19 = .ok (.iconst (-1), 1) := by decide +kernel
theorem dX3_placeOfLeaf_20 : decode cX3_placeOfLeaf 20 = .ok (.ireturn, 1) := by decide +kernel
theorem dX3_leafAtPlace_0 : decode cX3_leafAtPlace 0 = .ok (.iload_n 1, 1) := by decide +kernel
theorem dX3_leafAtPlace_1 : decode cX3_leafAtPlace 1 = .ok (.ifCond .lt 18, 3) := by decide +kernel
theorem dX3_leafAtPlace_4 : decode cX3_leafAtPlace 4 = .ok (.iload_n 1, 1) := by decide +kernel
theorem dX3_leafAtPlace_5 : decode cX3_leafAtPlace 5 = .ok (.bipush 8, 2) := by decide +kernel
theorem dX3_leafAtPlace_7 : decode cX3_leafAtPlace 7 = .ok (.if_icmp .ge 12, 3) := by decide +kernel
theorem dX3_leafAtPlace_10 : decode cX3_leafAtPlace 10 = .ok (.aload_n 0, 1) := by decide +kernel
theorem dX3_leafAtPlace_11 : decode cX3_leafAtPlace 11 = .ok (.getfield 24, 3) := by decide +kernel
theorem dX3_leafAtPlace_14 : decode cX3_leafAtPlace 14 = .ok (.iload_n 1, 1) := by decide +kernel
theorem dX3_leafAtPlace_15 : decode cX3_leafAtPlace 15 = .ok (.iaload, 1) := by decide +kernel
theorem dX3_leafAtPlace_16 : decode cX3_leafAtPlace 16 = .ok (.goto 4, 3) := by decide +kernel
theorem dX3_leafAtPlace_19 : decode cX3_leafAtPlace 19 = .ok (.iconst (-1), 1) := by decide +kernel
theorem dX3_leafAtPlace_20 : decode cX3_leafAtPlace 20 = .ok (.ireturn, 1) := by decide +kernel
theorem dX3_lay_0 : decode cX3_lay 0 = .ok (.iload_n 1, 1) := by decide +kernel
theorem dX3_lay_1 : decode cX3_lay 1 = .ok (.ifCond .lt 33, 3) := by decide +kernel
theorem dX3_lay_4 : decode cX3_lay 4 = .ok (.iload_n 1, 1) := by decide +kernel
theorem dX3_lay_5 : decode cX3_lay 5 = .ok (.bipush 8, 2) := by decide +kernel
theorem dX3_lay_7 : decode cX3_lay 7 = .ok (.if_icmp .ge 27, 3) := by decide +kernel
theorem dX3_lay_10 : decode cX3_lay 10 = .ok (.iload_n 2, 1) := by decide +kernel
theorem dX3_lay_11 : decode cX3_lay 11 = .ok (.ifCond .lt 23, 3) := by decide +kernel
theorem dX3_lay_14 : decode cX3_lay 14 = .ok (.iload_n 2, 1) := by decide +kernel
theorem dX3_lay_15 : decode cX3_lay 15 = .ok (.bipush 8, 2) := by decide +kernel
theorem dX3_lay_17 : decode cX3_lay 17 = .ok (.if_icmp .ge 17, 3) := by decide +kernel
theorem dX3_lay_20 : decode cX3_lay 20 = .ok (.aload_n 0, 1) := by decide +kernel
theorem dX3_lay_21 : decode cX3_lay 21 = .ok (.getfield 21, 3) := by decide +kernel
theorem dX3_lay_24 : decode cX3_lay 24 = .ok (.iload_n 1, 1) := by decide +kernel
theorem dX3_lay_25 : decode cX3_lay 25 = .ok (.iload_n 2, 1) := by decide +kernel
theorem dX3_lay_26 : decode cX3_lay 26 = .ok (.iastore, 1) := by decide +kernel
theorem dX3_lay_27 : decode cX3_lay 27 = .ok (.aload_n 0, 1) := by decide +kernel
theorem dX3_lay_28 : decode cX3_lay 28 = .ok (.getfield 24, 3) := by decide +kernel
theorem dX3_lay_31 : decode cX3_lay 31 = .ok (.iload_n 2, 1) := by decide +kernel
theorem dX3_lay_32 : decode cX3_lay 32 = .ok (.iload_n 1, 1) := by decide +kernel
theorem dX3_lay_33 : decode cX3_lay 33 = .ok (.iastore, 1) := by decide +kernel
theorem dX3_lay_34 : decode cX3_lay 34 = .ok (.return_, 1) := by decide +kernel
theorem dX3_lift_0 : decode cX3_lift 0 = .ok (.iload_n 1, 1) := by decide +kernel
theorem dX3_lift_1 : decode cX3_lift 1 = .ok (.ifCond .lt 16, 3) := by decide +kernel
theorem dX3_lift_4 : decode cX3_lift 4 = .ok (.iload_n 1, 1) := by decide +kernel
theorem dX3_lift_5 : decode cX3_lift 5 = .ok (.bipush 8, 2) := by decide +kernel
theorem dX3_lift_7 : decode cX3_lift 7 = .ok (.if_icmp .ge 10, 3) := by decide +kernel
theorem dX3_lift_10 : decode cX3_lift 10 = .ok (.aload_n 0, 1) := by decide +kernel
theorem dX3_lift_11 : decode cX3_lift 11 = .ok (.getfield 21, 3) := by decide +kernel
theorem dX3_lift_14 : decode cX3_lift 14 = .ok (.iload_n 1, 1) := by decide +kernel
theorem dX3_lift_15 : decode cX3_lift 15 = .ok (.iconst (-1), 1) := by decide +kernel
theorem dX3_lift_16 : decode cX3_lift 16 = .ok (.iastore, 1) := by decide +kernel
theorem dX3_lift_17 : decode cX3_lift 17 = .ok (.return_, 1) := by decide +kernel
theorem dX3_partner_0 : decode cX3_partner 0 = .ok (.iload_n 1, 1) := by decide +kernel
theorem dX3_partner_1 : decode cX3_partner 1 = .ok (.iload_n 2, 1) := by decide +kernel
theorem dX3_partner_2 : decode cX3_partner 2 = .ok (.iadd, 1) := by decide +kernel
theorem dX3_partner_3 : decode cX3_partner 3 = .ok (.iconst 1, 1) := by decide +kernel
theorem dX3_partner_4 : decode cX3_partner 4 = .ok (.ixor, 1) := by decide +kernel
theorem dX3_partner_5 : decode cX3_partner 5 = .ok (.iload_n 2, 1) := by decide +kernel
theorem dX3_partner_6 : decode cX3_partner 6 = .ok (.isub, 1) := by decide +kernel
theorem dX3_partner_7 : decode cX3_partner 7 = .ok (.istore_n 3, 1) := by decide +kernel
theorem dX3_partner_8 : decode cX3_partner 8 = .ok (.iload_n 3, 1) := by decide +kernel
theorem dX3_partner_9 : decode cX3_partner 9 = .ok (.ifCond .lt 15, 3) := by decide +kernel
theorem dX3_partner_12 : decode cX3_partner 12 = .ok (.iload_n 3, 1) := by decide +kernel
theorem dX3_partner_13 : decode cX3_partner 13 = .ok (.aload_n 0, 1) := by decide +kernel
theorem dX3_partner_14 : decode cX3_partner 14 = .ok (.getfield 31, 3) := by decide +kernel
theorem dX3_partner_17 : decode cX3_partner 17 = .ok (.if_icmp .ge 7, 3) := by decide +kernel
theorem dX3_partner_20 : decode cX3_partner 20 = .ok (.iload_n 3, 1) := by decide +kernel
theorem dX3_partner_21 : decode cX3_partner 21 = .ok (.goto 4, 3) := by decide +kernel
theorem dX3_partner_24 : decode cX3_partner 24 = .ok (.iconst (-1), 1) := by decide +kernel
theorem dX3_partner_25 : decode cX3_partner 25 = .ok (.ireturn, 1) := by decide +kernel
set_option maxRecDepth 20000 in
theorem ggX3_fits_X3_closes : GoodIn wsX3_fits wsX3_closes := goodIn_r _ [5, 6, 7, 8, 4, 9, 10, 11, 12, 13, 14, 15, 16, 17, 18, 19, 20, 21, 22, 23, 24, 25, 26, 27] (by decide +kernel) (by decide +kernel)
set_option maxRecDepth 20000 in
theorem gX3_fits_X3_closes : GoodIn wsX3_fits (wsV RX3 40 RX3 yX3_closes wsX3_closes) := goodIn_app (goodIn_of _ (by decide +kernel)) ggX3_fits_X3_closes
theorem dX3_fits_0 : decode cX3_fits 0 = .ok (.aload_n 0, 1) := by decide +kernel
theorem dX3_fits_1 : decode cX3_fits 1 = .ok (.iload_n 1, 1) := by decide +kernel
theorem dX3_fits_2 : decode cX3_fits 2 = .ok (.iload_n 2, 1) := by decide +kernel
theorem dX3_fits_3 : decode cX3_fits 3 = .ok (.iconst 0, 1) := by decide +kernel
theorem dX3_fits_4 : decode cX3_fits 4 = .ok (.invokevirtual 40, 3) := by decide +kernel
theorem dX3_fits_7 : decode cX3_fits 7 = .ok (.ifCond .eq 17, 3) := by decide +kernel
theorem dX3_fits_10 : decode cX3_fits 10 = .ok (.aload_n 0, 1) := by decide +kernel
theorem dX3_fits_11 : decode cX3_fits 11 = .ok (.iload_n 1, 1) := by decide +kernel
theorem dX3_fits_12 : decode cX3_fits 12 = .ok (.iload_n 2, 1) := by decide +kernel
theorem dX3_fits_13 : decode cX3_fits 13 = .ok (.iconst 1, 1) := by decide +kernel
theorem dX3_fits_14 : decode cX3_fits 14 = .ok (.invokevirtual 40, 3) := by decide +kernel
theorem dX3_fits_17 : decode cX3_fits 17 = .ok (.ifCond .eq 7, 3) := by decide +kernel
theorem dX3_fits_20 : decode cX3_fits 20 = .ok (.iconst 1, 1) := by decide +kernel
theorem dX3_fits_21 : decode cX3_fits 21 = .ok (.goto 4, 3) := by decide +kernel
theorem dX3_fits_24 : decode cX3_fits 24 = .ok (.iconst 0, 1) := by decide +kernel
theorem dX3_fits_25 : decode cX3_fits 25 = .ok (.ireturn, 1) := by decide +kernel
set_option maxRecDepth 20000 in
theorem ggX3_closes_X3_partner : GoodIn wsX3_closes wsX3_partner := goodIn_r _ [5, 6, 17, 18, 19, 20, 21, 22, 23] (by decide +kernel) (by decide +kernel)
set_option maxRecDepth 20000 in
theorem gX3_closes_X3_partner : GoodIn wsX3_closes (wsV RX3 44 RX3 yX3_partner wsX3_partner) := goodIn_app (goodIn_of _ (by decide +kernel)) ggX3_closes_X3_partner
set_option maxRecDepth 20000 in
theorem ggX3_closes_X3_placeOfLeaf : GoodIn wsX3_closes wsX3_placeOfLeaf := goodIn_r _ [10, 11, 17, 18, 19, 20, 21, 22, 23] (by decide +kernel) (by decide +kernel)
set_option maxRecDepth 20000 in
theorem gX3_closes_X3_placeOfLeaf : GoodIn wsX3_closes (wsV RX3 48 RX3 yX3_placeOfLeaf wsX3_placeOfLeaf) := goodIn_app (goodIn_of _ (by decide +kernel)) ggX3_closes_X3_placeOfLeaf
set_option maxRecDepth 20000 in
theorem ggX3_closes_X3_leafAtPlace : GoodIn wsX3_closes wsX3_leafAtPlace := goodIn_r _ [15, 16, 17, 18, 19, 20, 21, 22, 23] (by decide +kernel) (by decide +kernel)
set_option maxRecDepth 20000 in
theorem gX3_closes_X3_leafAtPlace : GoodIn wsX3_closes (wsV RX3 52 RX3 yX3_leafAtPlace wsX3_leafAtPlace) := goodIn_app (goodIn_of _ (by decide +kernel)) ggX3_closes_X3_leafAtPlace
theorem dX3_closes_0 : decode cX3_closes 0 = .ok (.aload_n 0, 1) := by decide +kernel
theorem dX3_closes_1 : decode cX3_closes 1 = .ok (.aload_n 0, 1) := by decide +kernel
theorem dX3_closes_2 : decode cX3_closes 2 = .ok (.iload_n 1, 1) := by decide +kernel
theorem dX3_closes_3 : decode cX3_closes 3 = .ok (.iload_n 3, 1) := by decide +kernel
theorem dX3_closes_4 : decode cX3_closes 4 = .ok (.invokevirtual 44, 3) := by decide +kernel
theorem dX3_closes_7 : decode cX3_closes 7 = .ok (.invokevirtual 48, 3) := by decide +kernel
theorem dX3_closes_10 : decode cX3_closes 10 = .ok (.istore 4, 2) := by decide +kernel
theorem dX3_closes_12 : decode cX3_closes 12 = .ok (.iload 4, 2) := by decide +kernel
theorem dX3_closes_14 : decode cX3_closes 14 = .ok (.iconst (-1), 1) := by decide +kernel
theorem dX3_closes_15 : decode cX3_closes 15 = .ok (.if_icmp .ne 5, 3) := by decide +kernel
theorem dX3_closes_18 : decode cX3_closes 18 = .ok (.iconst 1, 1) := by decide +kernel
theorem dX3_closes_19 : decode cX3_closes 19 = .ok (.ireturn, 1) := by decide +kernel
theorem dX3_closes_20 : decode cX3_closes 20 = .ok (.iload 4, 2) := by decide +kernel
theorem dX3_closes_22 : decode cX3_closes 22 = .ok (.iconst 1, 1) := by decide +kernel
theorem dX3_closes_23 : decode cX3_closes 23 = .ok (.iadd, 1) := by decide +kernel
theorem dX3_closes_24 : decode cX3_closes 24 = .ok (.istore 5, 2) := by decide +kernel
theorem dX3_closes_26 : decode cX3_closes 26 = .ok (.iload 5, 2) := by decide +kernel
theorem dX3_closes_28 : decode cX3_closes 28 = .ok (.iload_n 2, 1) := by decide +kernel
theorem dX3_closes_29 : decode cX3_closes 29 = .ok (.if_icmp .ge 41, 3) := by decide +kernel
theorem dX3_closes_32 : decode cX3_closes 32 = .ok (.aload_n 0, 1) := by decide +kernel
theorem dX3_closes_33 : decode cX3_closes 33 = .ok (.aload_n 0, 1) := by decide +kernel
theorem dX3_closes_34 : decode cX3_closes 34 = .ok (.iload 5, 2) := by decide +kernel
theorem dX3_closes_36 : decode cX3_closes 36 = .ok (.invokevirtual 52, 3) := by decide +kernel
theorem dX3_closes_39 : decode cX3_closes 39 = .ok (.iload_n 3, 1) := by decide +kernel
theorem dX3_closes_40 : decode cX3_closes 40 = .ok (.invokevirtual 44, 3) := by decide +kernel
theorem dX3_closes_43 : decode cX3_closes 43 = .ok (.istore 6, 2) := by decide +kernel
theorem dX3_closes_45 : decode cX3_closes 45 = .ok (.iload 6, 2) := by decide +kernel
theorem dX3_closes_47 : decode cX3_closes 47 = .ok (.iconst (-1), 1) := by decide +kernel
theorem dX3_closes_48 : decode cX3_closes 48 = .ok (.if_icmp .eq 16, 3) := by decide +kernel
theorem dX3_closes_51 : decode cX3_closes 51 = .ok (.aload_n 0, 1) := by decide +kernel
theorem dX3_closes_52 : decode cX3_closes 52 = .ok (.iload 6, 2) := by decide +kernel
theorem dX3_closes_54 : decode cX3_closes 54 = .ok (.invokevirtual 48, 3) := by decide +kernel
theorem dX3_closes_57 : decode cX3_closes 57 = .ok (.iload 4, 2) := by decide +kernel
theorem dX3_closes_59 : decode cX3_closes 59 = .ok (.if_icmp .ge 5, 3) := by decide +kernel
theorem dX3_closes_62 : decode cX3_closes 62 = .ok (.iconst 0, 1) := by decide +kernel
theorem dX3_closes_63 : decode cX3_closes 63 = .ok (.ireturn, 1) := by decide +kernel
theorem dX3_closes_64 : decode cX3_closes 64 = .ok (.iinc 5 1, 3) := by decide +kernel
theorem dX3_closes_67 : decode cX3_closes 67 = .ok (.goto (-41), 3) := by decide +kernel
theorem dX3_closes_70 : decode cX3_closes 70 = .ok (.iconst 1, 1) := by decide +kernel
theorem dX3_closes_71 : decode cX3_closes 71 = .ok (.ireturn, 1) := by decide +kernel
set_option maxRecDepth 20000 in
theorem ggX3_countOf_X3_clear : GoodIn wsX3_countOf wsX3_clear := goodIn_r _ [8, 9, 10, 11, 12, 13, 14, 52, 53, 54, 55, 56, 57, 58] (by decide +kernel) (by decide +kernel)
set_option maxRecDepth 20000 in
theorem gX3_countOf_X3_clear : GoodIn wsX3_countOf (wsV RX3 55 RX3 yX3_clear wsX3_clear) := goodIn_app (goodIn_of _ (by decide +kernel)) ggX3_countOf_X3_clear
set_option maxRecDepth 20000 in
theorem ggX3_countOf_X3_grow : GoodIn wsX3_countOf wsX3_grow := goodIn_r _ [17, 9, 18, 19, 20, 7, 21, 3, 22, 23, 24, 25, 26, 10, 27, 28, 29, 30, 31, 32, 33, 34, 35, 36, 37, 38, 39, 40, 41, 42, 43, 44, 45, 46, 47, 15, 16, 48, 49, 50, 51, 52, 53, 54, 55, 56, 57, 58] (by decide +kernel) (by decide +kernel)
set_option maxRecDepth 20000 in
theorem gX3_countOf_X3_grow : GoodIn wsX3_countOf (va_wsS RX3 59 yX3_grow wsX3_grow) := goodIn_app (goodIn_of _ (by decide +kernel)) ggX3_countOf_X3_grow
theorem dX3_countOf_0 : decode cX3_countOf 0 = .ok (.iload_n 1, 1) := by decide +kernel
theorem dX3_countOf_1 : decode cX3_countOf 1 = .ok (.iconst 1, 1) := by decide +kernel
theorem dX3_countOf_2 : decode cX3_countOf 2 = .ok (.if_icmp .lt 9, 3) := by decide +kernel
theorem dX3_countOf_5 : decode cX3_countOf 5 = .ok (.iload_n 1, 1) := by decide +kernel
theorem dX3_countOf_6 : decode cX3_countOf 6 = .ok (.bipush 8, 2) := by decide +kernel
theorem dX3_countOf_8 : decode cX3_countOf 8 = .ok (.if_icmp .le 5, 3) := by decide +kernel
theorem dX3_countOf_11 : decode cX3_countOf 11 = .ok (.iconst 0, 1) := by decide +kernel
theorem dX3_countOf_12 : decode cX3_countOf 12 = .ok (.ireturn, 1) := by decide +kernel
theorem dX3_countOf_13 : decode cX3_countOf 13 = .ok (.aload_n 0, 1) := by decide +kernel
theorem dX3_countOf_14 : decode cX3_countOf 14 = .ok (.getfield 18, 3) := by decide +kernel
theorem dX3_countOf_17 : decode cX3_countOf 17 = .ok (.iload_n 1, 1) := by decide +kernel
theorem dX3_countOf_18 : decode cX3_countOf 18 = .ok (.iaload, 1) := by decide +kernel
theorem dX3_countOf_19 : decode cX3_countOf 19 = .ok (.ifCond .ne 41, 3) := by decide +kernel
theorem dX3_countOf_22 : decode cX3_countOf 22 = .ok (.aload_n 0, 1) := by decide +kernel
theorem dX3_countOf_23 : decode cX3_countOf 23 = .ok (.iload_n 1, 1) := by decide +kernel
theorem dX3_countOf_24 : decode cX3_countOf 24 = .ok (.invokevirtual 55, 3) := by decide +kernel
theorem dX3_countOf_27 : decode cX3_countOf 27 = .ok (.aload_n 0, 1) := by decide +kernel
theorem dX3_countOf_28 : decode cX3_countOf 28 = .ok (.getfield 15, 3) := by decide +kernel
theorem dX3_countOf_31 : decode cX3_countOf 31 = .ok (.iload_n 1, 1) := by decide +kernel
theorem dX3_countOf_32 : decode cX3_countOf 32 = .ok (.aload_n 0, 1) := by decide +kernel
theorem dX3_countOf_33 : decode cX3_countOf 33 = .ok (.getfield 27, 3) := by decide +kernel
theorem dX3_countOf_36 : decode cX3_countOf 36 = .ok (.iastore, 1) := by decide +kernel
theorem dX3_countOf_37 : decode cX3_countOf 37 = .ok (.aload_n 0, 1) := by decide +kernel
theorem dX3_countOf_38 : decode cX3_countOf 38 = .ok (.iconst 0, 1) := by decide +kernel
theorem dX3_countOf_39 : decode cX3_countOf 39 = .ok (.iconst 0, 1) := by decide +kernel
theorem dX3_countOf_40 : decode cX3_countOf 40 = .ok (.invokestatic 59, 3) := by decide +kernel
theorem dX3_countOf_43 : decode cX3_countOf 43 = .ok (.aload_n 0, 1) := by decide +kernel
theorem dX3_countOf_44 : decode cX3_countOf 44 = .ok (.getfield 18, 3) := by decide +kernel
theorem dX3_countOf_47 : decode cX3_countOf 47 = .ok (.iload_n 1, 1) := by decide +kernel
theorem dX3_countOf_48 : decode cX3_countOf 48 = .ok (.aload_n 0, 1) := by decide +kernel
theorem dX3_countOf_49 : decode cX3_countOf 49 = .ok (.getfield 27, 3) := by decide +kernel
theorem dX3_countOf_52 : decode cX3_countOf 52 = .ok (.aload_n 0, 1) := by decide +kernel
theorem dX3_countOf_53 : decode cX3_countOf 53 = .ok (.getfield 15, 3) := by decide +kernel
theorem dX3_countOf_56 : decode cX3_countOf 56 = .ok (.iload_n 1, 1) := by decide +kernel
theorem dX3_countOf_57 : decode cX3_countOf 57 = .ok (.iaload, 1) := by decide +kernel
theorem dX3_countOf_58 : decode cX3_countOf 58 = .ok (.isub, 1) := by decide +kernel
theorem dX3_countOf_59 : decode cX3_countOf 59 = .ok (.iastore, 1) := by decide +kernel
theorem dX3_countOf_60 : decode cX3_countOf 60 = .ok (.aload_n 0, 1) := by decide +kernel
theorem dX3_countOf_61 : decode cX3_countOf 61 = .ok (.getfield 18, 3) := by decide +kernel
theorem dX3_countOf_64 : decode cX3_countOf 64 = .ok (.iload_n 1, 1) := by decide +kernel
theorem dX3_countOf_65 : decode cX3_countOf 65 = .ok (.iaload, 1) := by decide +kernel
theorem dX3_countOf_66 : decode cX3_countOf 66 = .ok (.ireturn, 1) := by decide +kernel
set_option maxRecDepth 20000 in
theorem ggX3_grow_X3_keep : GoodIn wsX3_grow wsX3_keep := goodIn_r _ [6, 7, 8, 41, 42, 43, 44, 45, 46, 47] (by decide +kernel) (by decide +kernel)
set_option maxRecDepth 20000 in
theorem gX3_grow_X3_keep : GoodIn wsX3_grow (wsV RX3 63 RX3 yX3_keep wsX3_keep) := goodIn_app (goodIn_of _ (by decide +kernel)) ggX3_grow_X3_keep
set_option maxRecDepth 20000 in
theorem ggX3_grow_X3_placeOfLeaf : GoodIn wsX3_grow wsX3_placeOfLeaf := goodIn_r _ [12, 13, 41, 42, 43, 44, 45, 46, 47] (by decide +kernel) (by decide +kernel)
set_option maxRecDepth 20000 in
theorem gX3_grow_X3_placeOfLeaf : GoodIn wsX3_grow (wsV RX3 48 RX3 yX3_placeOfLeaf wsX3_placeOfLeaf) := goodIn_app (goodIn_of _ (by decide +kernel)) ggX3_grow_X3_placeOfLeaf
set_option maxRecDepth 20000 in
theorem ggX3_grow_X3_fits : GoodIn wsX3_grow wsX3_fits := goodIn_r _ [17, 18, 19, 20, 5, 21, 22, 23, 24, 25, 1, 9, 10, 11, 12, 13, 26, 27, 28, 29, 30, 41, 42, 43, 44, 45, 46, 47] (by decide +kernel) (by decide +kernel)
set_option maxRecDepth 20000 in
theorem gX3_grow_X3_fits : GoodIn wsX3_grow (wsV RX3 66 RX3 yX3_fits wsX3_fits) := goodIn_app (goodIn_of _ (by decide +kernel)) ggX3_grow_X3_fits
set_option maxRecDepth 20000 in
theorem ggX3_grow_X3_lay : GoodIn wsX3_grow wsX3_lay := goodIn_r _ [34, 13, 30, 41, 42, 43, 44, 45, 46, 47] (by decide +kernel) (by decide +kernel)
set_option maxRecDepth 20000 in
theorem gX3_grow_X3_lay : GoodIn wsX3_grow (wsV RX3 70 RX3 yX3_lay wsX3_lay) := goodIn_app (goodIn_of _ (by decide +kernel)) ggX3_grow_X3_lay
set_option maxRecDepth 20000 in
theorem ggX3_grow_X3_grow : GoodIn wsX3_grow wsX3_grow := goodIn_r _ [0, 1, 2, 3, 4, 5, 6, 7, 8, 9, 10, 11, 12, 13, 14, 15, 16, 17, 18, 19, 20, 21, 22, 23, 24, 25, 26, 27, 28, 29, 30, 31, 32, 33, 34, 35, 36, 37, 38, 39, 40, 41, 42, 43, 44, 45, 46, 47] (by decide +kernel) (by decide +kernel)
set_option maxRecDepth 20000 in
theorem gX3_grow_X3_grow : GoodIn wsX3_grow (va_wsS RX3 59 yX3_grow wsX3_grow) := goodIn_app (goodIn_of _ (by decide +kernel)) ggX3_grow_X3_grow
set_option maxRecDepth 20000 in
theorem ggX3_grow_X3_lift : GoodIn wsX3_grow wsX3_lift := goodIn_r _ [40, 13, 41, 42, 43, 44, 45, 46, 47] (by decide +kernel) (by decide +kernel)
set_option maxRecDepth 20000 in
theorem gX3_grow_X3_lift : GoodIn wsX3_grow (wsV RX3 74 RX3 yX3_lift wsX3_lift) := goodIn_app (goodIn_of _ (by decide +kernel)) ggX3_grow_X3_lift
theorem dX3_grow_0 : decode cX3_grow 0 = .ok (.iload_n 1, 1) := by decide +kernel
theorem dX3_grow_1 : decode cX3_grow 1 = .ok (.aload_n 0, 1) := by decide +kernel
theorem dX3_grow_2 : decode cX3_grow 2 = .ok (.getfield 31, 3) := by decide +kernel
theorem dX3_grow_5 : decode cX3_grow 5 = .ok (.if_icmp .ge 9, 3) := by decide +kernel
theorem dX3_grow_8 : decode cX3_grow 8 = .ok (.iload_n 1, 1) := by decide +kernel
theorem dX3_grow_9 : decode cX3_grow 9 = .ok (.bipush 8, 2) := by decide +kernel
theorem dX3_grow_11 : decode cX3_grow 11 = .ok (.if_icmp .lt 9, 3) := by decide +kernel
theorem dX3_grow_14 : decode cX3_grow 14 = .ok (.aload_n 0, 1) := by decide +kernel
theorem dX3_grow_15 : decode cX3_grow 15 = .ok (.iload_n 2, 1) := by decide +kernel
theorem dX3_grow_16 : decode cX3_grow 16 = .ok (.invokevirtual 63, 3) := by decide +kernel
theorem dX3_grow_19 : decode cX3_grow 19 = .ok (.return_, 1) := by decide +kernel
theorem dX3_grow_20 : decode cX3_grow 20 = .ok (.iconst 0, 1) := by decide +kernel
theorem dX3_grow_21 : decode cX3_grow 21 = .ok (.istore_n 3, 1) := by decide +kernel
theorem dX3_grow_22 : decode cX3_grow 22 = .ok (.iload_n 3, 1) := by decide +kernel
theorem dX3_grow_23 : decode cX3_grow 23 = .ok (.aload_n 0, 1) := by decide +kernel
theorem dX3_grow_24 : decode cX3_grow 24 = .ok (.getfield 31, 3) := by decide +kernel
theorem dX3_grow_27 : decode cX3_grow 27 = .ok (.if_icmp .ge 52, 3) := by decide +kernel
theorem dX3_grow_30 : decode cX3_grow 30 = .ok (.aload_n 0, 1) := by decide +kernel
theorem dX3_grow_31 : decode cX3_grow 31 = .ok (.iload_n 3, 1) := by decide +kernel
theorem dX3_grow_32 : decode cX3_grow 32 = .ok (.invokevirtual 48, 3) := by decide +kernel
theorem dX3_grow_35 : decode cX3_grow 35 = .ok (.iconst (-1), 1) := by decide +kernel
theorem dX3_grow_36 : decode cX3_grow 36 = .ok (.if_icmp .ne 37, 3) := by decide +kernel
theorem dX3_grow_39 : decode cX3_grow 39 = .ok (.aload_n 0, 1) := by decide +kernel
theorem dX3_grow_40 : decode cX3_grow 40 = .ok (.iload_n 3, 1) := by decide +kernel
theorem dX3_grow_41 : decode cX3_grow 41 = .ok (.iload_n 1, 1) := by decide +kernel
theorem dX3_grow_42 : decode cX3_grow 42 = .ok (.invokevirtual 66, 3) := by decide +kernel
theorem dX3_grow_45 : decode cX3_grow 45 = .ok (.ifCond .eq 28, 3) := by decide +kernel
theorem dX3_grow_48 : decode cX3_grow 48 = .ok (.aload_n 0, 1) := by decide +kernel
theorem dX3_grow_49 : decode cX3_grow 49 = .ok (.iload_n 3, 1) := by decide +kernel
theorem dX3_grow_50 : decode cX3_grow 50 = .ok (.iload_n 1, 1) := by decide +kernel
theorem dX3_grow_51 : decode cX3_grow 51 = .ok (.invokevirtual 70, 3) := by decide +kernel
theorem dX3_grow_54 : decode cX3_grow 54 = .ok (.aload_n 0, 1) := by decide +kernel
theorem dX3_grow_55 : decode cX3_grow 55 = .ok (.iload_n 1, 1) := by decide +kernel
theorem dX3_grow_56 : decode cX3_grow 56 = .ok (.iconst 1, 1) := by decide +kernel
theorem dX3_grow_57 : decode cX3_grow 57 = .ok (.iadd, 1) := by decide +kernel
theorem dX3_grow_58 : decode cX3_grow 58 = .ok (.iload_n 2, 1) := by decide +kernel
theorem dX3_grow_59 : decode cX3_grow 59 = .ok (.iload_n 3, 1) := by decide +kernel
theorem dX3_grow_60 : decode cX3_grow 60 = .ok (.iconst 3, 1) := by decide +kernel
theorem dX3_grow_61 : decode cX3_grow 61 = .ok (.iload_n 1, 1) := by decide +kernel
theorem dX3_grow_62 : decode cX3_grow 62 = .ok (.imul, 1) := by decide +kernel
theorem dX3_grow_63 : decode cX3_grow 63 = .ok (.ishl, 1) := by decide +kernel
theorem dX3_grow_64 : decode cX3_grow 64 = .ok (.ior, 1) := by decide +kernel
theorem dX3_grow_65 : decode cX3_grow 65 = .ok (.invokestatic 59, 3) := by decide +kernel
theorem dX3_grow_68 : decode cX3_grow 68 = .ok (.aload_n 0, 1) := by decide +kernel
theorem dX3_grow_69 : decode cX3_grow 69 = .ok (.iload_n 3, 1) := by decide +kernel
theorem dX3_grow_70 : decode cX3_grow 70 = .ok (.invokevirtual 74, 3) := by decide +kernel
theorem dX3_grow_73 : decode cX3_grow 73 = .ok (.iinc 3 1, 3) := by decide +kernel
theorem dX3_grow_76 : decode cX3_grow 76 = .ok (.goto (-54), 3) := by decide +kernel
theorem dX3_grow_79 : decode cX3_grow 79 = .ok (.return_, 1) := by decide +kernel
theorem dX3_keep_0 : decode cX3_keep 0 = .ok (.aload_n 0, 1) := by decide +kernel
theorem dX3_keep_1 : decode cX3_keep 1 = .ok (.getfield 27, 3) := by decide +kernel
theorem dX3_keep_4 : decode cX3_keep 4 = .ok (.sipush 2100, 3) := by decide +kernel
theorem dX3_keep_7 : decode cX3_keep 7 = .ok (.if_icmp .ge 23, 3) := by decide +kernel
theorem dX3_keep_10 : decode cX3_keep 10 = .ok (.aload_n 0, 1) := by decide +kernel
theorem dX3_keep_11 : decode cX3_keep 11 = .ok (.getfield 11, 3) := by decide +kernel
theorem dX3_keep_14 : decode cX3_keep 14 = .ok (.aload_n 0, 1) := by decide +kernel
theorem dX3_keep_15 : decode cX3_keep 15 = .ok (.getfield 27, 3) := by decide +kernel
theorem dX3_keep_18 : decode cX3_keep 18 = .ok (.iload_n 1, 1) := by decide +kernel
theorem dX3_keep_19 : decode cX3_keep 19 = .ok (.iastore, 1) := by decide +kernel
theorem dX3_keep_20 : decode cX3_keep 20 = .ok (.aload_n 0, 1) := by decide +kernel
theorem dX3_keep_21 : decode cX3_keep 21 = .ok (.dup, 1) := by decide +kernel
theorem dX3_keep_22 : decode cX3_keep 22 = .ok (.getfield 27, 3) := by decide +kernel
theorem dX3_keep_25 : decode cX3_keep 25 = .ok (.iconst 1, 1) := by decide +kernel
theorem dX3_keep_26 : decode cX3_keep 26 = .ok (.iadd, 1) := by decide +kernel
theorem dX3_keep_27 : decode cX3_keep 27 = .ok (.putfield 27, 3) := by decide +kernel
theorem dX3_keep_30 : decode cX3_keep 30 = .ok (.return_, 1) := by decide +kernel
set_option maxRecDepth 20000 in
theorem ggX3_leafOf_X3_countOf : GoodIn wsX3_leafOf wsX3_countOf := goodIn_r _ [7, 8, 1, 9, 10, 11, 12, 6, 13, 14, 15, 16, 17, 18, 19, 20, 21, 22, 23, 24, 25, 26, 2, 27, 28, 29, 30, 31, 32, 33, 34, 35, 36, 37, 38, 39, 40, 41, 42, 43, 44, 45, 46, 47, 48, 49, 50, 51, 52, 53, 54, 55, 56, 57, 58, 59, 60, 61, 62] (by decide +kernel) (by decide +kernel)
set_option maxRecDepth 20000 in
theorem gX3_leafOf_X3_countOf : GoodIn wsX3_leafOf (wsV RX3 77 RX3 yX3_countOf wsX3_countOf) := goodIn_app (goodIn_of _ (by decide +kernel)) ggX3_leafOf_X3_countOf
theorem dX3_leafOf_0 : decode cX3_leafOf 0 = .ok (.iload_n 1, 1) := by decide +kernel
theorem dX3_leafOf_1 : decode cX3_leafOf 1 = .ok (.iconst 1, 1) := by decide +kernel
theorem dX3_leafOf_2 : decode cX3_leafOf 2 = .ok (.if_icmp .lt 31, 3) := by decide +kernel
theorem dX3_leafOf_5 : decode cX3_leafOf 5 = .ok (.iload_n 1, 1) := by decide +kernel
theorem dX3_leafOf_6 : decode cX3_leafOf 6 = .ok (.bipush 8, 2) := by decide +kernel
theorem dX3_leafOf_8 : decode cX3_leafOf 8 = .ok (.if_icmp .gt 25, 3) := by decide +kernel
theorem dX3_leafOf_11 : decode cX3_leafOf 11 = .ok (.iload_n 3, 1) := by decide +kernel
theorem dX3_leafOf_12 : decode cX3_leafOf 12 = .ok (.ifCond .lt 21, 3) := by decide +kernel
theorem dX3_leafOf_15 : decode cX3_leafOf 15 = .ok (.iload_n 3, 1) := by decide +kernel
theorem dX3_leafOf_16 : decode cX3_leafOf 16 = .ok (.iload_n 1, 1) := by decide +kernel
theorem dX3_leafOf_17 : decode cX3_leafOf 17 = .ok (.if_icmp .ge 16, 3) := by decide +kernel
theorem dX3_leafOf_20 : decode cX3_leafOf 20 = .ok (.iload_n 2, 1) := by decide +kernel
theorem dX3_leafOf_21 : decode cX3_leafOf 21 = .ok (.ifCond .lt 12, 3) := by decide +kernel
theorem dX3_leafOf_24 : decode cX3_leafOf 24 = .ok (.iload_n 2, 1) := by decide +kernel
theorem dX3_leafOf_25 : decode cX3_leafOf 25 = .ok (.aload_n 0, 1) := by decide +kernel
theorem dX3_leafOf_26 : decode cX3_leafOf 26 = .ok (.iload_n 1, 1) := by decide +kernel
theorem dX3_leafOf_27 : decode cX3_leafOf 27 = .ok (.invokevirtual 77, 3) := by decide +kernel
theorem dX3_leafOf_30 : decode cX3_leafOf 30 = .ok (.if_icmp .lt 5, 3) := by decide +kernel
theorem dX3_leafOf_33 : decode cX3_leafOf 33 = .ok (.iconst (-1), 1) := by decide +kernel
theorem dX3_leafOf_34 : decode cX3_leafOf 34 = .ok (.ireturn, 1) := by decide +kernel
theorem dX3_leafOf_35 : decode cX3_leafOf 35 = .ok (.aload_n 0, 1) := by decide +kernel
theorem dX3_leafOf_36 : decode cX3_leafOf 36 = .ok (.getfield 15, 3) := by decide +kernel
theorem dX3_leafOf_39 : decode cX3_leafOf 39 = .ok (.iload_n 1, 1) := by decide +kernel
theorem dX3_leafOf_40 : decode cX3_leafOf 40 = .ok (.iaload, 1) := by decide +kernel
theorem dX3_leafOf_41 : decode cX3_leafOf 41 = .ok (.iload_n 2, 1) := by decide +kernel
theorem dX3_leafOf_42 : decode cX3_leafOf 42 = .ok (.iadd, 1) := by decide +kernel
theorem dX3_leafOf_43 : decode cX3_leafOf 43 = .ok (.istore 4, 2) := by decide +kernel
theorem dX3_leafOf_45 : decode cX3_leafOf 45 = .ok (.iload 4, 2) := by decide +kernel
theorem dX3_leafOf_47 : decode cX3_leafOf 47 = .ok (.ifCond .lt 28, 3) := by decide +kernel
theorem dX3_leafOf_50 : decode cX3_leafOf 50 = .ok (.iload 4, 2) := by decide +kernel
theorem dX3_leafOf_52 : decode cX3_leafOf 52 = .ok (.sipush 2100, 3) := by decide +kernel
theorem dX3_leafOf_55 : decode cX3_leafOf 55 = .ok (.if_icmp .ge 20, 3) := by decide +kernel
theorem dX3_leafOf_58 : decode cX3_leafOf 58 = .ok (.aload_n 0, 1) := by decide +kernel
theorem dX3_leafOf_59 : decode cX3_leafOf 59 = .ok (.getfield 11, 3) := by decide +kernel
theorem dX3_leafOf_62 : decode cX3_leafOf 62 = .ok (.iload 4, 2) := by decide +kernel
theorem dX3_leafOf_64 : decode cX3_leafOf 64 = .ok (.iaload, 1) := by decide +kernel
theorem dX3_leafOf_65 : decode cX3_leafOf 65 = .ok (.iconst 3, 1) := by decide +kernel
theorem dX3_leafOf_66 : decode cX3_leafOf 66 = .ok (.iload_n 3, 1) := by decide +kernel
theorem dX3_leafOf_67 : decode cX3_leafOf 67 = .ok (.imul, 1) := by decide +kernel
theorem dX3_leafOf_68 : decode cX3_leafOf 68 = .ok (.ishr, 1) := by decide +kernel
theorem dX3_leafOf_69 : decode cX3_leafOf 69 = .ok (.bipush 7, 2) := by decide +kernel
theorem dX3_leafOf_71 : decode cX3_leafOf 71 = .ok (.iand, 1) := by decide +kernel
theorem dX3_leafOf_72 : decode cX3_leafOf 72 = .ok (.goto 4, 3) := by decide +kernel
theorem dX3_leafOf_75 : decode cX3_leafOf 75 = .ok (.iconst (-1), 1) := by decide +kernel
theorem dX3_leafOf_76 : decode cX3_leafOf 76 = .ok (.ireturn, 1) := by decide +kernel
set_option maxRecDepth 20000 in
theorem ggX4_init_X2_init : GoodIn wsX4_init wsX2_init := goodIn_r _ [4, 5, 6, 7, 8, 9, 10, 11, 12, 13, 14, 15, 16, 17, 18, 19, 20, 21, 22, 23, 24, 25, 26, 27, 28, 29, 30, 31, 32, 33, 34, 35, 36, 37, 38, 39, 40, 41, 42, 43] (by decide +kernel) (by decide +kernel)
set_option maxRecDepth 20000 in
theorem gX4_init_X2_init : GoodIn wsX4_init (wsX2_init) := ggX4_init_X2_init
theorem dX4_init_0 : decode cX4_init 0 = .ok (.aload_n 0, 1) := by decide +kernel
theorem dX4_init_1 : decode cX4_init 1 = .ok (.iload_n 1, 1) := by decide +kernel
theorem dX4_init_2 : decode cX4_init 2 = .ok (.iload_n 2, 1) := by decide +kernel
theorem dX4_init_3 : decode cX4_init 3 = .ok (.iload_n 3, 1) := by decide +kernel
theorem dX4_init_4 : decode cX4_init 4 = .ok (.lload 4, 2) := by decide +kernel
theorem dX4_init_6 : decode cX4_init 6 = .ok (.invokespecial 3, 3) := by decide +kernel
theorem dX4_init_9 : decode cX4_init 9 = .ok (.return_, 1) := by decide +kernel
theorem dX4_kind_0 : decode cX4_kind 0 = .ok (.bipush 6, 2) := by decide +kernel
theorem dX4_kind_2 : decode cX4_kind 2 = .ok (.ireturn, 1) := by decide +kernel
set_option maxRecDepth 20000 in
theorem ggX4_isOf_X2_isOf : GoodIn wsX4_isOf wsX2_isOf := goodIn_r _ [6] (by decide +kernel) (by decide +kernel)
set_option maxRecDepth 20000 in
theorem gX4_isOf_X2_isOf_s9 : GoodIn wsX4_isOf (va_wsSU RX4 9 yX2_isOf wsX2_isOf) := goodIn_app (goodIn_of _ (by decide +kernel)) ggX4_isOf_X2_isOf
theorem dX4_isOf_0 : decode cX4_isOf 0 = .ok (.iload_n 1, 1) := by decide +kernel
theorem dX4_isOf_1 : decode cX4_isOf 1 = .ok (.bipush 6, 2) := by decide +kernel
theorem dX4_isOf_3 : decode cX4_isOf 3 = .ok (.if_icmp .eq 11, 3) := by decide +kernel
theorem dX4_isOf_6 : decode cX4_isOf 6 = .ok (.aload_n 0, 1) := by decide +kernel
theorem dX4_isOf_7 : decode cX4_isOf 7 = .ok (.iload_n 1, 1) := by decide +kernel
theorem dX4_isOf_8 : decode cX4_isOf 8 = .ok (.invokespecial 9, 3) := by decide +kernel
theorem dX4_isOf_11 : decode cX4_isOf 11 = .ok (.ifCond .eq 7, 3) := by decide +kernel
theorem dX4_isOf_14 : decode cX4_isOf 14 = .ok (.iconst 1, 1) := by decide +kernel
theorem dX4_isOf_15 : decode cX4_isOf 15 = .ok (.goto 4, 3) := by decide +kernel
theorem dX4_isOf_18 : decode cX4_isOf 18 = .ok (.iconst 0, 1) := by decide +kernel
theorem dX4_isOf_19 : decode cX4_isOf 19 = .ok (.ireturn, 1) := by decide +kernel
theorem dX4_creaseAt_0 : decode cX4_creaseAt 0 = .ok (.lload_n 1, 1) := by decide +kernel
theorem dX4_creaseAt_1 : decode cX4_creaseAt 1 = .ok (.ldc2_w 13, 3) := by decide +kernel
theorem dX4_creaseAt_4 : decode cX4_creaseAt 4 = .ok (.land, 1) := by decide +kernel
theorem dX4_creaseAt_5 : decode cX4_creaseAt 5 = .ok (.lconst 0, 1) := by decide +kernel
theorem dX4_creaseAt_6 : decode cX4_creaseAt 6 = .ok (.lcmp, 1) := by decide +kernel
theorem dX4_creaseAt_7 : decode cX4_creaseAt 7 = .ok (.ifCond .ne 7, 3) := by decide +kernel
theorem dX4_creaseAt_10 : decode cX4_creaseAt 10 = .ok (.iconst 1, 1) := by decide +kernel
theorem dX4_creaseAt_11 : decode cX4_creaseAt 11 = .ok (.goto 8, 3) := by decide +kernel
theorem dX4_creaseAt_14 : decode cX4_creaseAt 14 = .ok (.aload_n 0, 1) := by decide +kernel
theorem dX4_creaseAt_15 : decode cX4_creaseAt 15 = .ok (.lload_n 1, 1) := by decide +kernel
theorem dX4_creaseAt_16 : decode cX4_creaseAt 16 = .ok (.invokespecial 15, 3) := by decide +kernel
theorem dX4_creaseAt_19 : decode cX4_creaseAt 19 = .ok (.ireturn, 1) := by decide +kernel
set_option maxRecDepth 20000 in
theorem ggX4_walkTo_X8_corners : GoodIn wsX4_walkTo wsX8_corners := goodIn_r _ [10, 11, 12, 13, 14, 9, 15, 16, 17, 18, 19, 20, 21, 22, 23, 24, 25, 26, 27, 28, 29, 30, 31, 32, 33, 34, 35, 36, 37, 38, 39, 40, 41, 42, 43, 44, 45, 46, 47, 48, 49, 50, 51, 52, 156, 157, 158, 159, 160, 161, 162, 163, 164, 165, 166, 167, 168, 169, 170, 171, 172, 173, 174, 175, 176, 177, 178, 179, 180, 181, 182, 183] (by decide +kernel) (by decide +kernel)
set_option maxRecDepth 20000 in
theorem gX4_walkTo_X8_corners_u21X4 : GoodIn wsX4_walkTo (va_wsU RX4 21 RX4 "FoldedInHalf$Strip" ⟨"FoldedInHalf$Left", "corners", "()J"⟩ yX8_corners wsX8_corners) := goodIn_app (goodIn_of _ (by decide +kernel)) ggX4_walkTo_X8_corners
set_option maxRecDepth 20000 in
theorem ggX4_walkTo_X10_init : GoodIn wsX4_walkTo wsX10_init := goodIn_r _ [54, 55, 56, 57, 58, 59, 60, 61, 62, 63, 150, 151, 152, 153, 154, 155] (by decide +kernel) (by decide +kernel)
set_option maxRecDepth 20000 in
theorem gX4_walkTo_X10_init_n27 : GoodIn wsX4_walkTo (wsX10_init) := ggX4_walkTo_X10_init
set_option maxRecDepth 20000 in
theorem ggX4_walkTo_X10_step : GoodIn wsX4_walkTo wsX10_step := goodIn_r _ [66, 58, 63, 61, 62, 67, 68, 69, 3, 70, 59, 60, 71, 72, 73, 74, 75, 76, 77, 78, 79, 80, 8, 9, 10, 11, 12, 13, 14, 15, 16, 17, 18, 19, 20, 21, 22, 23, 24, 25, 26, 27, 28, 29, 30, 31, 32, 33, 34, 35, 36, 37, 38, 39, 40, 41, 42, 43, 44, 45, 46, 47, 48, 49, 50, 51, 52, 81, 82, 83, 84, 85, 86, 87, 88, 89, 90, 91, 92, 93, 94, 95, 96, 97, 98, 99, 100, 101, 102, 103, 104, 105, 106, 107, 108, 109, 110, 111, 112, 113, 114, 115, 116, 117, 118, 119, 120, 121, 122, 123, 124, 125, 126, 127, 128, 129, 130, 131, 132, 133, 134, 135, 136, 137, 138, 139, 140, 141, 142, 143, 144, 145, 146, 147, 148, 149, 150, 151, 152, 153, 154, 155, 156, 157, 158, 159, 160, 161, 162, 163, 164, 165, 166, 167, 168, 169, 170, 171, 172, 173, 174, 175, 176, 177, 178, 179, 180, 181, 182, 183] (by decide +kernel) (by decide +kernel)
set_option maxRecDepth 20000 in
theorem gX4_walkTo_X10_step_n32 : GoodIn wsX4_walkTo (wsX10_step) := ggX4_walkTo_X10_step
theorem dX4_walkTo_0 : decode cX4_walkTo 0 = .ok (.new 19, 3) := by decide +kernel
theorem dX4_walkTo_3 : decode cX4_walkTo 3 = .ok (.dup, 1) := by decide +kernel
theorem dX4_walkTo_4 : decode cX4_walkTo 4 = .ok (.aload_n 0, 1) := by decide +kernel
theorem dX4_walkTo_5 : decode cX4_walkTo 5 = .ok (.aload_n 0, 1) := by decide +kernel
theorem dX4_walkTo_6 : decode cX4_walkTo 6 = .ok (.invokevirtual 21, 3) := by decide +kernel
theorem dX4_walkTo_9 : decode cX4_walkTo 9 = .ok (.invokespecial 27, 3) := by decide +kernel
theorem dX4_walkTo_12 : decode cX4_walkTo 12 = .ok (.astore_n 3, 1) := by decide +kernel
theorem dX4_walkTo_13 : decode cX4_walkTo 13 = .ok (.lload_n 1, 1) := by decide +kernel
theorem dX4_walkTo_14 : decode cX4_walkTo 14 = .ok (.ldc2_w 30, 3) := by decide +kernel
theorem dX4_walkTo_17 : decode cX4_walkTo 17 = .ok (.land, 1) := by decide +kernel
theorem dX4_walkTo_18 : decode cX4_walkTo 18 = .ok (.l2i, 1) := by decide +kernel
theorem dX4_walkTo_19 : decode cX4_walkTo 19 = .ok (.istore 4, 2) := by decide +kernel
theorem dX4_walkTo_21 : decode cX4_walkTo 21 = .ok (.iconst 0, 1) := by decide +kernel
theorem dX4_walkTo_22 : decode cX4_walkTo 22 = .ok (.istore 5, 2) := by decide +kernel
theorem dX4_walkTo_24 : decode cX4_walkTo 24 = .ok (.iload 5, 2) := by decide +kernel
theorem dX4_walkTo_26 : decode cX4_walkTo 26 = .ok (.iload 4, 2) := by decide +kernel
theorem dX4_walkTo_28 : decode cX4_walkTo 28 = .ok (.if_icmp .ge 13, 3) := by decide +kernel
theorem dX4_walkTo_31 : decode cX4_walkTo 31 = .ok (.aload_n 3, 1) := by decide +kernel
theorem dX4_walkTo_32 : decode cX4_walkTo 32 = .ok (.invokevirtual 32, 3) := by decide +kernel
theorem dX4_walkTo_35 : decode cX4_walkTo 35 = .ok (.iinc 5 1, 3) := by decide +kernel
theorem dX4_walkTo_38 : decode cX4_walkTo 38 = .ok (.goto (-14), 3) := by decide +kernel
theorem dX4_walkTo_41 : decode cX4_walkTo 41 = .ok (.aload_n 3, 1) := by decide +kernel
theorem dX4_walkTo_42 : decode cX4_walkTo 42 = .ok (.areturn, 1) := by decide +kernel
set_option maxRecDepth 20000 in
theorem ggX4_folds_X11_began : GoodIn wsX4_folds wsX11_began := goodIn_r _ [4, 5, 6, 7, 8, 9, 10, 11, 12, 13, 14, 15, 16, 17, 18, 19] (by decide +kernel) (by decide +kernel)
set_option maxRecDepth 20000 in
theorem gX4_folds_X11_began_n36 : GoodIn wsX4_folds (wsX11_began) := ggX4_folds_X11_began
theorem dX4_folds_0 : decode cX4_folds 0 = .ok (.aload_n 2, 1) := by decide +kernel
theorem dX4_folds_1 : decode cX4_folds 1 = .ok (.bipush 70, 2) := by decide +kernel
theorem dX4_folds_3 : decode cX4_folds 3 = .ok (.invokevirtual 36, 3) := by decide +kernel
theorem dX4_folds_6 : decode cX4_folds 6 = .ok (.aload_n 0, 1) := by decide +kernel
theorem dX4_folds_7 : decode cX4_folds 7 = .ok (.iload_n 1, 1) := by decide +kernel
theorem dX4_folds_8 : decode cX4_folds 8 = .ok (.aload_n 2, 1) := by decide +kernel
theorem dX4_folds_9 : decode cX4_folds 9 = .ok (.invokespecial 40, 3) := by decide +kernel
theorem dX4_folds_12 : decode cX4_folds 12 = .ok (.iconst 2, 1) := by decide +kernel
theorem dX4_folds_13 : decode cX4_folds 13 = .ok (.imul, 1) := by decide +kernel
theorem dX4_folds_14 : decode cX4_folds 14 = .ok (.ireturn, 1) := by decide +kernel
set_option maxRecDepth 20000 in
theorem ggX4_opens_X11_began : GoodIn wsX4_opens wsX11_began := goodIn_r _ [6, 7, 8, 37, 38, 39, 40, 41, 42, 43, 44, 45, 46, 47, 48, 49] (by decide +kernel) (by decide +kernel)
set_option maxRecDepth 20000 in
theorem gX4_opens_X11_began_n36 : GoodIn wsX4_opens (wsX11_began) := ggX4_opens_X11_began
theorem dX4_opens_0 : decode cX4_opens 0 = .ok (.aload_n 2, 1) := by decide +kernel
theorem dX4_opens_1 : decode cX4_opens 1 = .ok (.bipush 71, 2) := by decide +kernel
theorem dX4_opens_3 : decode cX4_opens 3 = .ok (.invokevirtual 36, 3) := by decide +kernel
theorem dX4_opens_6 : decode cX4_opens 6 = .ok (.aload_n 0, 1) := by decide +kernel
theorem dX4_opens_7 : decode cX4_opens 7 = .ok (.iload_n 1, 1) := by decide +kernel
theorem dX4_opens_8 : decode cX4_opens 8 = .ok (.aload_n 0, 1) := by decide +kernel
theorem dX4_opens_9 : decode cX4_opens 9 = .ok (.getfield 44, 3) := by decide +kernel
theorem dX4_opens_12 : decode cX4_opens 12 = .ok (.isub, 1) := by decide +kernel
theorem dX4_opens_13 : decode cX4_opens 13 = .ok (.aload_n 2, 1) := by decide +kernel
theorem dX4_opens_14 : decode cX4_opens 14 = .ok (.invokespecial 48, 3) := by decide +kernel
theorem dX4_opens_17 : decode cX4_opens 17 = .ok (.ireturn, 1) := by decide +kernel
theorem dX5_init_0 : decode cX5_init 0 = .ok (.aload_n 0, 1) := by decide +kernel
theorem dX5_init_1 : decode cX5_init 1 = .ok (.invokespecial 3, 3) := by decide +kernel
theorem dX5_init_4 : decode cX5_init 4 = .ok (.aload_n 0, 1) := by decide +kernel
theorem dX5_init_5 : decode cX5_init 5 = .ok (.bipush 8, 2) := by decide +kernel
theorem dX5_init_7 : decode cX5_init 7 = .ok (.anewarray 9, 3) := by decide +kernel
theorem dX5_init_10 : decode cX5_init 10 = .ok (.putfield 11, 3) := by decide +kernel
theorem dX5_init_13 : decode cX5_init 13 = .ok (.aload_n 0, 1) := by decide +kernel
theorem dX5_init_14 : decode cX5_init 14 = .ok (.iconst 0, 1) := by decide +kernel
theorem dX5_init_15 : decode cX5_init 15 = .ok (.putfield 17, 3) := by decide +kernel
theorem dX5_init_18 : decode cX5_init 18 = .ok (.aload_n 0, 1) := by decide +kernel
theorem dX5_init_19 : decode cX5_init 19 = .ok (.iconst 0, 1) := by decide +kernel
theorem dX5_init_20 : decode cX5_init 20 = .ok (.putfield 21, 3) := by decide +kernel
theorem dX5_init_23 : decode cX5_init 23 = .ok (.aload_n 0, 1) := by decide +kernel
theorem dX5_init_24 : decode cX5_init 24 = .ok (.iconst (-1), 1) := by decide +kernel
theorem dX5_init_25 : decode cX5_init 25 = .ok (.putfield 24, 3) := by decide +kernel
theorem dX5_init_28 : decode cX5_init 28 = .ok (.aload_n 0, 1) := by decide +kernel
theorem dX5_init_29 : decode cX5_init 29 = .ok (.aconst_null, 1) := by decide +kernel
theorem dX5_init_30 : decode cX5_init 30 = .ok (.putfield 27, 3) := by decide +kernel
theorem dX5_init_33 : decode cX5_init 33 = .ok (.aload_n 0, 1) := by decide +kernel
theorem dX5_init_34 : decode cX5_init 34 = .ok (.iconst 0, 1) := by decide +kernel
theorem dX5_init_35 : decode cX5_init 35 = .ok (.putfield 31, 3) := by decide +kernel
theorem dX5_init_38 : decode cX5_init 38 = .ok (.aload_n 0, 1) := by decide +kernel
theorem dX5_init_39 : decode cX5_init 39 = .ok (.iconst 0, 1) := by decide +kernel
theorem dX5_init_40 : decode cX5_init 40 = .ok (.putfield 34, 3) := by decide +kernel
theorem dX5_init_43 : decode cX5_init 43 = .ok (.return_, 1) := by decide +kernel
set_option maxRecDepth 20000 in
theorem ggX5_tell_X5_stands : GoodIn wsX5_tell wsX5_stands := goodIn_r _ [9, 1, 2, 10, 11, 12, 13, 14, 15, 231, 232, 233, 234, 235, 236, 237, 238, 239, 240, 241] (by decide +kernel) (by decide +kernel)
set_option maxRecDepth 20000 in
theorem gX5_tell_X5_stands : GoodIn wsX5_tell (wsV RX5 37 RX5 yX5_stands wsX5_stands) := goodIn_app (goodIn_of _ (by decide +kernel)) ggX5_tell_X5_stands
set_option maxRecDepth 20000 in
theorem ggX5_tell_X5_tellStrip : GoodIn wsX5_tell wsX5_tellStrip := goodIn_r _ [19, 2, 4, 20, 21, 22, 23, 8, 24, 25, 26, 27, 28, 29, 30, 31, 32, 33, 34, 35, 36, 37, 38, 39, 40, 41, 42, 43, 44, 45, 46, 47, 48, 49, 50, 51, 52, 53, 54, 55, 56, 57, 58, 59, 60, 61, 62, 63, 64, 65, 66, 67, 68, 69, 70, 71, 72, 73, 74, 75, 76, 77, 5, 6, 7, 9, 1, 10, 11, 12, 13, 14, 15, 78, 79, 80, 81, 82, 83, 84, 85, 86, 87, 88, 89, 90, 91, 92, 93, 94, 95, 96, 97, 98, 99, 100, 101, 102, 103, 104, 105, 106, 107, 108, 109, 110, 111, 112, 113, 114, 115, 116, 117, 118, 119, 120, 121, 122, 123, 124, 125, 126, 127, 128, 129, 130, 131, 132, 133, 134, 135, 136, 137, 138, 139, 140, 141, 142, 143, 144, 145, 146, 147, 148, 149, 150, 151, 152, 153, 154, 155, 156, 157, 158, 159, 160, 161, 162, 163, 164, 165, 166, 167, 231, 232, 233, 234, 235, 236, 237, 238, 239, 240, 241, 242, 243, 244, 245, 246, 247, 248, 249, 250, 251, 252, 253, 254, 255, 256, 257, 258, 259, 260, 261, 262, 263, 264, 265, 266, 267, 268, 269] (by decide +kernel) (by decide +kernel)
set_option maxRecDepth 20000 in
theorem gX5_tell_X5_tellStrip : GoodIn wsX5_tell (wsV RX5 41 RX5 yX5_tellStrip wsX5_tellStrip) := goodIn_app (goodIn_of _ (by decide +kernel)) ggX5_tell_X5_tellStrip
set_option maxRecDepth 20000 in
theorem ggX5_tell_X5_tellTurn : GoodIn wsX5_tell wsX5_tellTurn := goodIn_r _ [171, 20, 172, 4, 173, 21, 22, 23, 8, 24, 25, 26, 27, 28, 29, 30, 31, 32, 33, 34, 35, 36, 37, 38, 39, 40, 41, 42, 43, 44, 45, 46, 47, 48, 49, 50, 51, 52, 53, 54, 55, 56, 57, 58, 59, 60, 61, 62, 63, 64, 65, 66, 67, 68, 69, 70, 71, 72, 73, 74, 75, 76, 77, 2, 5, 6, 7, 9, 1, 10, 11, 12, 13, 14, 15, 78, 79, 80, 81, 82, 83, 84, 85, 86, 87, 88, 89, 90, 91, 92, 93, 94, 95, 96, 97, 98, 174, 175, 176, 177, 167, 178, 179, 180, 181, 182, 119, 183, 184, 185, 186, 116, 187, 188, 189, 122, 190, 191, 192, 125, 193, 194, 195, 110, 196, 197, 198, 199, 128, 200, 201, 113, 202, 203, 204, 205, 206, 207, 141, 208, 209, 210, 211, 212, 213, 214, 106, 100, 107, 108, 109, 111, 112, 114, 115, 117, 118, 120, 121, 123, 124, 126, 127, 129, 130, 131, 132, 133, 134, 135, 136, 137, 138, 139, 140, 142, 143, 144, 145, 146, 147, 148, 149, 150, 151, 152, 153, 154, 155, 156, 157, 158, 159, 160, 161, 162, 163, 164, 165, 166, 231, 232, 233, 234, 235, 236, 237, 254, 255, 256, 257, 250, 251, 252, 253, 258, 259, 260, 261, 262, 263, 264, 265, 242, 243, 244, 245, 266, 267, 268, 269, 246, 247, 248, 249, 238, 239, 240, 241] (by decide +kernel) (by decide +kernel)
set_option maxRecDepth 20000 in
theorem gX5_tell_X5_tellTurn : GoodIn wsX5_tell (wsV RX5 44 RX5 yX5_tellTurn wsX5_tellTurn) := goodIn_app (goodIn_of _ (by decide +kernel)) ggX5_tell_X5_tellTurn
set_option maxRecDepth 20000 in
theorem ggX5_tell_X5_tellLess : GoodIn wsX5_tell wsX5_tellLess := goodIn_r _ [218, 20, 172, 82, 4, 173, 21, 22, 23, 8, 24, 25, 26, 27, 28, 29, 30, 31, 32, 33, 34, 35, 36, 37, 38, 39, 40, 41, 42, 43, 44, 45, 46, 47, 48, 49, 50, 51, 52, 53, 54, 55, 56, 57, 58, 59, 60, 61, 62, 63, 64, 65, 66, 67, 68, 69, 70, 71, 72, 73, 74, 75, 76, 77, 2, 5, 6, 7, 9, 1, 10, 11, 12, 13, 14, 15, 78, 79, 80, 81, 83, 84, 85, 86, 87, 88, 89, 90, 91, 92, 93, 94, 95, 96, 97, 98, 174, 175, 176, 177, 167, 178, 179, 180, 181, 182, 119, 183, 184, 185, 186, 116, 187, 188, 189, 122, 190, 191, 192, 125, 193, 194, 195, 110, 196, 197, 198, 199, 128, 200, 201, 113, 202, 219, 220, 221, 222, 223, 141, 140, 224, 225, 226, 227, 228, 229, 230, 106, 100, 107, 108, 109, 111, 112, 114, 115, 117, 118, 120, 121, 123, 124, 126, 127, 129, 130, 131, 132, 133, 134, 135, 136, 137, 138, 139, 142, 143, 144, 145, 146, 147, 148, 149, 150, 151, 152, 153, 154, 155, 156, 157, 158, 159, 160, 161, 162, 163, 164, 165, 166, 231, 232, 233, 234, 235, 236, 237, 254, 255, 256, 257, 250, 251, 252, 253, 258, 259, 260, 261, 262, 263, 264, 265, 242, 243, 244, 245, 266, 267, 268, 269, 246, 247, 248, 249, 238, 239, 240, 241] (by decide +kernel) (by decide +kernel)
set_option maxRecDepth 20000 in
theorem gX5_tell_X5_tellLess : GoodIn wsX5_tell (wsV RX5 47 RX5 yX5_tellLess wsX5_tellLess) := goodIn_app (goodIn_of _ (by decide +kernel)) ggX5_tell_X5_tellLess
set_option maxRecDepth 20000 in
theorem ggX5_tell_X5_expect : GoodIn wsX5_tell wsX5_expect := goodIn_r _ [77, 4, 2, 5, 6, 7, 8, 9, 1, 10, 11, 12, 13, 14, 15, 231, 232, 233, 234, 235, 236, 237, 238, 239, 240, 241] (by decide +kernel) (by decide +kernel)
set_option maxRecDepth 20000 in
theorem gX5_tell_X5_expect : GoodIn wsX5_tell (wsV RX5 55 RX5 yX5_expect wsX5_expect) := goodIn_app (goodIn_of _ (by decide +kernel)) ggX5_tell_X5_expect
theorem dX5_tell_0 : decode cX5_tell 0 = .ok (.aload_n 0, 1) := by decide +kernel
theorem dX5_tell_1 : decode cX5_tell 1 = .ok (.aload_n 1, 1) := by decide +kernel
theorem dX5_tell_2 : decode cX5_tell 2 = .ok (.putfield 27, 3) := by decide +kernel
theorem dX5_tell_5 : decode cX5_tell 5 = .ok (.aload_n 0, 1) := by decide +kernel
theorem dX5_tell_6 : decode cX5_tell 6 = .ok (.iconst 0, 1) := by decide +kernel
theorem dX5_tell_7 : decode cX5_tell 7 = .ok (.putfield 31, 3) := by decide +kernel
theorem dX5_tell_10 : decode cX5_tell 10 = .ok (.aload_n 0, 1) := by decide +kernel
theorem dX5_tell_11 : decode cX5_tell 11 = .ok (.iconst 0, 1) := by decide +kernel
theorem dX5_tell_12 : decode cX5_tell 12 = .ok (.putfield 21, 3) := by decide +kernel
theorem dX5_tell_15 : decode cX5_tell 15 = .ok (.aload_n 0, 1) := by decide +kernel
theorem dX5_tell_16 : decode cX5_tell 16 = .ok (.iconst (-1), 1) := by decide +kernel
theorem dX5_tell_17 : decode cX5_tell 17 = .ok (.putfield 24, 3) := by decide +kernel
theorem dX5_tell_20 : decode cX5_tell 20 = .ok (.iconst 0, 1) := by decide +kernel
theorem dX5_tell_21 : decode cX5_tell 21 = .ok (.istore_n 2, 1) := by decide +kernel
theorem dX5_tell_22 : decode cX5_tell 22 = .ok (.iload_n 2, 1) := by decide +kernel
theorem dX5_tell_23 : decode cX5_tell 23 = .ok (.sipush 160, 3) := by decide +kernel
theorem dX5_tell_26 : decode cX5_tell 26 = .ok (.if_icmp .gt 94, 3) := by decide +kernel
theorem dX5_tell_29 : decode cX5_tell 29 = .ok (.aload_n 0, 1) := by decide +kernel
theorem dX5_tell_30 : decode cX5_tell 30 = .ok (.bipush 115, 2) := by decide +kernel
theorem dX5_tell_32 : decode cX5_tell 32 = .ok (.invokevirtual 37, 3) := by decide +kernel
theorem dX5_tell_35 : decode cX5_tell 35 = .ok (.ifCond .eq 10, 3) := by decide +kernel
theorem dX5_tell_38 : decode cX5_tell 38 = .ok (.aload_n 0, 1) := by decide +kernel
theorem dX5_tell_39 : decode cX5_tell 39 = .ok (.invokevirtual 41, 3) := by decide +kernel
theorem dX5_tell_42 : decode cX5_tell 42 = .ok (.goto 23, 3) := by decide +kernel
theorem dX5_tell_45 : decode cX5_tell 45 = .ok (.aload_n 0, 1) := by decide +kernel
theorem dX5_tell_46 : decode cX5_tell 46 = .ok (.bipush 116, 2) := by decide +kernel
theorem dX5_tell_48 : decode cX5_tell 48 = .ok (.invokevirtual 37, 3) := by decide +kernel
theorem dX5_tell_51 : decode cX5_tell 51 = .ok (.ifCond .eq 10, 3) := by decide +kernel
theorem dX5_tell_54 : decode cX5_tell 54 = .ok (.aload_n 0, 1) := by decide +kernel
theorem dX5_tell_55 : decode cX5_tell 55 = .ok (.invokevirtual 44, 3) := by decide +kernel
theorem dX5_tell_58 : decode cX5_tell 58 = .ok (.goto 7, 3) := by decide +kernel
theorem dX5_tell_61 : decode cX5_tell 61 = .ok (.aload_n 0, 1) := by decide +kernel
theorem dX5_tell_62 : decode cX5_tell 62 = .ok (.invokevirtual 47, 3) := by decide +kernel
theorem dX5_tell_65 : decode cX5_tell 65 = .ok (.aload_n 0, 1) := by decide +kernel
theorem dX5_tell_66 : decode cX5_tell 66 = .ok (.getfield 24, 3) := by decide +kernel
theorem dX5_tell_69 : decode cX5_tell 69 = .ok (.iconst (-1), 1) := by decide +kernel
theorem dX5_tell_70 : decode cX5_tell 70 = .ok (.if_icmp .eq 4, 3) := by decide +kernel
theorem dX5_tell_73 : decode cX5_tell 73 = .ok (.return_, 1) := by decide +kernel
theorem dX5_tell_74 : decode cX5_tell 74 = .ok (.aload_n 0, 1) := by decide +kernel
theorem dX5_tell_75 : decode cX5_tell 75 = .ok (.dup, 1) := by decide +kernel
theorem dX5_tell_76 : decode cX5_tell 76 = .ok (.getfield 21, 3) := by decide +kernel
theorem dX5_tell_79 : decode cX5_tell 79 = .ok (.iconst 1, 1) := by decide +kernel
theorem dX5_tell_80 : decode cX5_tell 80 = .ok (.iadd, 1) := by decide +kernel
theorem dX5_tell_81 : decode cX5_tell 81 = .ok (.putfield 21, 3) := by decide +kernel
theorem dX5_tell_84 : decode cX5_tell 84 = .ok (.aload_n 0, 1) := by decide +kernel
theorem dX5_tell_85 : decode cX5_tell 85 = .ok (.getfield 31, 3) := by decide +kernel
theorem dX5_tell_88 : decode cX5_tell 88 = .ok (.aload_n 0, 1) := by decide +kernel
theorem dX5_tell_89 : decode cX5_tell 89 = .ok (.getfield 27, 3) := by decide +kernel
theorem dX5_tell_92 : decode cX5_tell 92 = .ok (.getfield 50, 3) := by decide +kernel
theorem dX5_tell_95 : decode cX5_tell 95 = .ok (.if_icmp .lt 4, 3) := by decide +kernel
theorem dX5_tell_98 : decode cX5_tell 98 = .ok (.return_, 1) := by decide +kernel
theorem dX5_tell_99 : decode cX5_tell 99 = .ok (.aload_n 0, 1) := by decide +kernel
theorem dX5_tell_100 : decode cX5_tell 100 = .ok (.bipush 59, 2) := by decide +kernel
theorem dX5_tell_102 : decode cX5_tell 102 = .ok (.invokevirtual 55, 3) := by decide +kernel
theorem dX5_tell_105 : decode cX5_tell 105 = .ok (.aload_n 0, 1) := by decide +kernel
theorem dX5_tell_106 : decode cX5_tell 106 = .ok (.getfield 24, 3) := by decide +kernel
theorem dX5_tell_109 : decode cX5_tell 109 = .ok (.iconst (-1), 1) := by decide +kernel
theorem dX5_tell_110 : decode cX5_tell 110 = .ok (.if_icmp .eq 4, 3) := by decide +kernel
theorem dX5_tell_113 : decode cX5_tell 113 = .ok (.return_, 1) := by decide +kernel
theorem dX5_tell_114 : decode cX5_tell 114 = .ok (.iinc 2 1, 3) := by decide +kernel
theorem dX5_tell_117 : decode cX5_tell 117 = .ok (.goto (-95), 3) := by decide +kernel
theorem dX5_tell_120 : decode cX5_tell 120 = .ok (.return_, 1) := by decide +kernel
set_option maxRecDepth 20000 in
theorem ggX5_stands_X7_number : GoodIn wsX5_stands wsX7_number := goodIn_r _ [6, 7, 8, 16, 17, 18, 19] (by decide +kernel) (by decide +kernel)
set_option maxRecDepth 20000 in
theorem gX5_stands_X7_number_n59 : GoodIn wsX5_stands (wsX7_number) := ggX5_stands_X7_number
theorem dX5_stands_0 : decode cX5_stands 0 = .ok (.aload_n 0, 1) := by decide +kernel
theorem dX5_stands_1 : decode cX5_stands 1 = .ok (.getfield 27, 3) := by decide +kernel
theorem dX5_stands_4 : decode cX5_stands 4 = .ok (.ifnull 36, 3) := by decide +kernel
theorem dX5_stands_7 : decode cX5_stands 7 = .ok (.aload_n 0, 1) := by decide +kernel
theorem dX5_stands_8 : decode cX5_stands 8 = .ok (.getfield 31, 3) := by decide +kernel
theorem dX5_stands_11 : decode cX5_stands 11 = .ok (.aload_n 0, 1) := by decide +kernel
theorem dX5_stands_12 : decode cX5_stands 12 = .ok (.getfield 27, 3) := by decide +kernel
theorem dX5_stands_15 : decode cX5_stands 15 = .ok (.getfield 50, 3) := by decide +kernel
theorem dX5_stands_18 : decode cX5_stands 18 = .ok (.if_icmp .ge 22, 3) := by decide +kernel
theorem dX5_stands_21 : decode cX5_stands 21 = .ok (.aload_n 0, 1) := by decide +kernel
theorem dX5_stands_22 : decode cX5_stands 22 = .ok (.getfield 27, 3) := by decide +kernel
theorem dX5_stands_25 : decode cX5_stands 25 = .ok (.aload_n 0, 1) := by decide +kernel
theorem dX5_stands_26 : decode cX5_stands 26 = .ok (.getfield 31, 3) := by decide +kernel
theorem dX5_stands_29 : decode cX5_stands 29 = .ok (.invokevirtual 59, 3) := by decide +kernel
theorem dX5_stands_32 : decode cX5_stands 32 = .ok (.iload_n 1, 1) := by decide +kernel
theorem dX5_stands_33 : decode cX5_stands 33 = .ok (.if_icmp .ne 7, 3) := by decide +kernel
theorem dX5_stands_36 : decode cX5_stands 36 = .ok (.iconst 1, 1) := by decide +kernel
theorem dX5_stands_37 : decode cX5_stands 37 = .ok (.goto 4, 3) := by decide +kernel
theorem dX5_stands_40 : decode cX5_stands 40 = .ok (.iconst 0, 1) := by decide +kernel
theorem dX5_stands_41 : decode cX5_stands 41 = .ok (.ireturn, 1) := by decide +kernel
set_option maxRecDepth 20000 in
theorem ggX5_expect_X5_stands : GoodIn wsX5_expect wsX5_stands := goodIn_r _ [7, 8, 2, 9, 10, 11, 12, 13, 14, 15, 16, 17, 18, 19, 20, 21, 22, 23, 24, 25] (by decide +kernel) (by decide +kernel)
set_option maxRecDepth 20000 in
theorem gX5_expect_X5_stands : GoodIn wsX5_expect (wsV RX5 37 RX5 yX5_stands wsX5_stands) := goodIn_app (goodIn_of _ (by decide +kernel)) ggX5_expect_X5_stands
theorem dX5_expect_0 : decode cX5_expect 0 = .ok (.aload_n 0, 1) := by decide +kernel
theorem dX5_expect_1 : decode cX5_expect 1 = .ok (.getfield 24, 3) := by decide +kernel
theorem dX5_expect_4 : decode cX5_expect 4 = .ok (.iconst (-1), 1) := by decide +kernel
theorem dX5_expect_5 : decode cX5_expect 5 = .ok (.if_icmp .eq 4, 3) := by decide +kernel
theorem dX5_expect_8 : decode cX5_expect 8 = .ok (.return_, 1) := by decide +kernel
theorem dX5_expect_9 : decode cX5_expect 9 = .ok (.aload_n 0, 1) := by decide +kernel
theorem dX5_expect_10 : decode cX5_expect 10 = .ok (.iload_n 1, 1) := by decide +kernel
theorem dX5_expect_11 : decode cX5_expect 11 = .ok (.invokevirtual 37, 3) := by decide +kernel
theorem dX5_expect_14 : decode cX5_expect 14 = .ok (.ifCond .eq 16, 3) := by decide +kernel
theorem dX5_expect_17 : decode cX5_expect 17 = .ok (.aload_n 0, 1) := by decide +kernel
theorem dX5_expect_18 : decode cX5_expect 18 = .ok (.dup, 1) := by decide +kernel
theorem dX5_expect_19 : decode cX5_expect 19 = .ok (.getfield 31, 3) := by decide +kernel
theorem dX5_expect_22 : decode cX5_expect 22 = .ok (.iconst 1, 1) := by decide +kernel
theorem dX5_expect_23 : decode cX5_expect 23 = .ok (.iadd, 1) := by decide +kernel
theorem dX5_expect_24 : decode cX5_expect 24 = .ok (.putfield 31, 3) := by decide +kernel
theorem dX5_expect_27 : decode cX5_expect 27 = .ok (.goto 11, 3) := by decide +kernel
theorem dX5_expect_30 : decode cX5_expect 30 = .ok (.aload_n 0, 1) := by decide +kernel
theorem dX5_expect_31 : decode cX5_expect 31 = .ok (.aload_n 0, 1) := by decide +kernel
theorem dX5_expect_32 : decode cX5_expect 32 = .ok (.getfield 31, 3) := by decide +kernel
theorem dX5_expect_35 : decode cX5_expect 35 = .ok (.putfield 24, 3) := by decide +kernel
theorem dX5_expect_38 : decode cX5_expect 38 = .ok (.return_, 1) := by decide +kernel
set_option maxRecDepth 20000 in
theorem ggX5_expectAll_J0_length_8abf5 : GoodIn wsX5_expectAll wsJ0_length_8abf5 := goodIn_r _ [5, 6, 7, 8, 9, 4, 10, 11, 12] (by decide +kernel) (by decide +kernel)
set_option maxRecDepth 20000 in
theorem gX5_expectAll_J0_length_8abf5 : GoodIn wsX5_expectAll (wsV RX5 63 RJ0 yJ0_length_8abf5 wsJ0_length_8abf5) := goodIn_app (goodIn_of _ (by decide +kernel)) ggX5_expectAll_J0_length_8abf5
set_option maxRecDepth 20000 in
theorem ggX5_expectAll_J0_charAt_5068e : GoodIn wsX5_expectAll wsJ0_charAt_5068e := goodIn_r _ [16, 6, 17, 18, 19, 4, 20, 11, 12, 21, 22, 23, 24, 25, 26, 27, 28, 29, 30, 31, 32, 33, 34, 35, 36, 37, 38, 39, 40, 41, 42, 43, 44, 45, 46, 47, 48, 49] (by decide +kernel) (by decide +kernel)
set_option maxRecDepth 20000 in
theorem gX5_expectAll_J0_charAt_5068e : GoodIn wsX5_expectAll (wsV RX5 68 RJ0 yJ0_charAt_5068e wsJ0_charAt_5068e) := goodIn_app (goodIn_of _ (by decide +kernel)) ggX5_expectAll_J0_charAt_5068e
set_option maxRecDepth 20000 in
theorem ggX5_expectAll_X5_expect : GoodIn wsX5_expectAll wsX5_expect := goodIn_r _ [54, 55, 56, 57, 58, 59, 53, 60, 61, 62, 63, 64, 65, 66, 67, 68, 69, 70, 71, 72, 73, 74, 75, 76, 77, 78] (by decide +kernel) (by decide +kernel)
set_option maxRecDepth 20000 in
theorem gX5_expectAll_X5_expect : GoodIn wsX5_expectAll (wsV RX5 55 RX5 yX5_expect wsX5_expect) := goodIn_app (goodIn_of _ (by decide +kernel)) ggX5_expectAll_X5_expect
theorem dX5_expectAll_0 : decode cX5_expectAll 0 = .ok (.iconst 0, 1) := by decide +kernel
theorem dX5_expectAll_1 : decode cX5_expectAll 1 = .ok (.istore_n 2, 1) := by decide +kernel
theorem dX5_expectAll_2 : decode cX5_expectAll 2 = .ok (.iload_n 2, 1) := by decide +kernel
theorem dX5_expectAll_3 : decode cX5_expectAll 3 = .ok (.aload_n 1, 1) := by decide +kernel
theorem dX5_expectAll_4 : decode cX5_expectAll 4 = .ok (.invokevirtual 63, 3) := by decide +kernel
theorem dX5_expectAll_7 : decode cX5_expectAll 7 = .ok (.if_icmp .ge 18, 3) := by decide +kernel
theorem dX5_expectAll_10 : decode cX5_expectAll 10 = .ok (.aload_n 0, 1) := by decide +kernel
theorem dX5_expectAll_11 : decode cX5_expectAll 11 = .ok (.aload_n 1, 1) := by decide +kernel
theorem dX5_expectAll_12 : decode cX5_expectAll 12 = .ok (.iload_n 2, 1) := by decide +kernel
theorem dX5_expectAll_13 : decode cX5_expectAll 13 = .ok (.invokevirtual 68, 3) := by decide +kernel
theorem dX5_expectAll_16 : decode cX5_expectAll 16 = .ok (.invokevirtual 55, 3) := by decide +kernel
theorem dX5_expectAll_19 : decode cX5_expectAll 19 = .ok (.iinc 2 1, 3) := by decide +kernel
theorem dX5_expectAll_22 : decode cX5_expectAll 22 = .ok (.goto (-20), 3) := by decide +kernel
theorem dX5_expectAll_25 : decode cX5_expectAll 25 = .ok (.return_, 1) := by decide +kernel
set_option maxRecDepth 20000 in
theorem ggX5_tellNumber_X5_standsDigit : GoodIn wsX5_tellNumber wsX5_standsDigit := goodIn_r _ [17, 4, 1, 18, 19, 20, 21, 22, 23, 24, 25, 26, 27, 28, 29, 30, 31, 32, 33, 34] (by decide +kernel) (by decide +kernel)
set_option maxRecDepth 20000 in
theorem gX5_tellNumber_X5_standsDigit : GoodIn wsX5_tellNumber (wsV RX5 72 RX5 yX5_standsDigit wsX5_standsDigit) := goodIn_app (goodIn_of _ (by decide +kernel)) ggX5_tellNumber_X5_standsDigit
set_option maxRecDepth 20000 in
theorem ggX5_tellNumber_X7_number : GoodIn wsX5_tellNumber wsX7_number := goodIn_r _ [21, 22, 23, 31, 32, 33, 34] (by decide +kernel) (by decide +kernel)
set_option maxRecDepth 20000 in
theorem gX5_tellNumber_X7_number_n59 : GoodIn wsX5_tellNumber (wsX7_number) := ggX5_tellNumber_X7_number
theorem dX5_tellNumber_0 : decode cX5_tellNumber 0 = .ok (.aload_n 0, 1) := by decide +kernel
theorem dX5_tellNumber_1 : decode cX5_tellNumber 1 = .ok (.aload_n 0, 1) := by decide +kernel
theorem dX5_tellNumber_2 : decode cX5_tellNumber 2 = .ok (.getfield 31, 3) := by decide +kernel
theorem dX5_tellNumber_5 : decode cX5_tellNumber 5 = .ok (.putfield 34, 3) := by decide +kernel
theorem dX5_tellNumber_8 : decode cX5_tellNumber 8 = .ok (.iconst (-1), 1) := by decide +kernel
theorem dX5_tellNumber_9 : decode cX5_tellNumber 9 = .ok (.istore_n 2, 1) := by decide +kernel
theorem dX5_tellNumber_10 : decode cX5_tellNumber 10 = .ok (.iconst 0, 1) := by decide +kernel
theorem dX5_tellNumber_11 : decode cX5_tellNumber 11 = .ok (.istore_n 3, 1) := by decide +kernel
theorem dX5_tellNumber_12 : decode cX5_tellNumber 12 = .ok (.aload_n 0, 1) := by decide +kernel
theorem dX5_tellNumber_13 : decode cX5_tellNumber 13 = .ok (.getfield 24, 3) := by decide +kernel
theorem dX5_tellNumber_16 : decode cX5_tellNumber 16 = .ok (.iconst (-1), 1) := by decide +kernel
theorem dX5_tellNumber_17 : decode cX5_tellNumber 17 = .ok (.if_icmp .ne 75, 3) := by decide +kernel
theorem dX5_tellNumber_20 : decode cX5_tellNumber 20 = .ok (.iload_n 3, 1) := by decide +kernel
theorem dX5_tellNumber_21 : decode cX5_tellNumber 21 = .ok (.iload_n 1, 1) := by decide +kernel
theorem dX5_tellNumber_22 : decode cX5_tellNumber 22 = .ok (.if_icmp .ge 70, 3) := by decide +kernel
theorem dX5_tellNumber_25 : decode cX5_tellNumber 25 = .ok (.aload_n 0, 1) := by decide +kernel
theorem dX5_tellNumber_26 : decode cX5_tellNumber 26 = .ok (.invokevirtual 72, 3) := by decide +kernel
theorem dX5_tellNumber_29 : decode cX5_tellNumber 29 = .ok (.ifCond .eq 63, 3) := by decide +kernel
theorem dX5_tellNumber_32 : decode cX5_tellNumber 32 = .ok (.aload_n 0, 1) := by decide +kernel
theorem dX5_tellNumber_33 : decode cX5_tellNumber 33 = .ok (.getfield 27, 3) := by decide +kernel
theorem dX5_tellNumber_36 : decode cX5_tellNumber 36 = .ok (.ifnonnull 7, 3) := by decide +kernel
theorem dX5_tellNumber_39 : decode cX5_tellNumber 39 = .ok (.iconst 0, 1) := by decide +kernel
theorem dX5_tellNumber_40 : decode cX5_tellNumber 40 = .ok (.goto 17, 3) := by decide +kernel
theorem dX5_tellNumber_43 : decode cX5_tellNumber 43 = .ok (.aload_n 0, 1) := by decide +kernel
theorem dX5_tellNumber_44 : decode cX5_tellNumber 44 = .ok (.getfield 27, 3) := by decide +kernel
theorem dX5_tellNumber_47 : decode cX5_tellNumber 47 = .ok (.aload_n 0, 1) := by decide +kernel
theorem dX5_tellNumber_48 : decode cX5_tellNumber 48 = .ok (.getfield 31, 3) := by decide +kernel
theorem dX5_tellNumber_51 : decode cX5_tellNumber 51 = .ok (.invokevirtual 59, 3) := by decide +kernel
theorem dX5_tellNumber_54 : decode cX5_tellNumber 54 = .ok (.bipush 48, 2) := by decide +kernel
theorem dX5_tellNumber_56 : decode cX5_tellNumber 56 = .ok (.isub, 1) := by decide +kernel
theorem dX5_tellNumber_57 : decode cX5_tellNumber 57 = .ok (.istore 4, 2) := by decide +kernel
theorem dX5_tellNumber_59 : decode cX5_tellNumber 59 = .ok (.iload_n 2, 1) := by decide +kernel
theorem dX5_tellNumber_60 : decode cX5_tellNumber 60 = .ok (.iconst 0, 1) := by decide +kernel
theorem dX5_tellNumber_61 : decode cX5_tellNumber 61 = .ok (.invokestatic 76, 3) := by decide +kernel
theorem dX5_tellNumber_64 : decode cX5_tellNumber 64 = .ok (.bipush 10, 2) := by decide +kernel
theorem dX5_tellNumber_66 : decode cX5_tellNumber 66 = .ok (.imul, 1) := by decide +kernel
theorem dX5_tellNumber_67 : decode cX5_tellNumber 67 = .ok (.iload 4, 2) := by decide +kernel
theorem dX5_tellNumber_69 : decode cX5_tellNumber 69 = .ok (.iadd, 1) := by decide +kernel
theorem dX5_tellNumber_70 : decode cX5_tellNumber 70 = .ok (.ldc 82, 2) := by decide +kernel
theorem dX5_tellNumber_72 : decode cX5_tellNumber 72 = .ok (.invokestatic 83, 3) := by decide +kernel
theorem dX5_tellNumber_75 : decode cX5_tellNumber 75 = .ok (.istore_n 2, 1) := by decide +kernel
theorem dX5_tellNumber_76 : decode cX5_tellNumber 76 = .ok (.aload_n 0, 1) := by decide +kernel
theorem dX5_tellNumber_77 : decode cX5_tellNumber 77 = .ok (.dup, 1) := by decide +kernel
theorem dX5_tellNumber_78 : decode cX5_tellNumber 78 = .ok (.getfield 31, 3) := by decide +kernel
theorem dX5_tellNumber_81 : decode cX5_tellNumber 81 = .ok (.iconst 1, 1) := by decide +kernel
theorem dX5_tellNumber_82 : decode cX5_tellNumber 82 = .ok (.iadd, 1) := by decide +kernel
theorem dX5_tellNumber_83 : decode cX5_tellNumber 83 = .ok (.putfield 31, 3) := by decide +kernel
theorem dX5_tellNumber_86 : decode cX5_tellNumber 86 = .ok (.iinc 3 1, 3) := by decide +kernel
theorem dX5_tellNumber_89 : decode cX5_tellNumber 89 = .ok (.goto (-77), 3) := by decide +kernel
theorem dX5_tellNumber_92 : decode cX5_tellNumber 92 = .ok (.iload_n 2, 1) := by decide +kernel
theorem dX5_tellNumber_93 : decode cX5_tellNumber 93 = .ok (.iconst (-1), 1) := by decide +kernel
theorem dX5_tellNumber_94 : decode cX5_tellNumber 94 = .ok (.if_icmp .ne 19, 3) := by decide +kernel
theorem dX5_tellNumber_97 : decode cX5_tellNumber 97 = .ok (.aload_n 0, 1) := by decide +kernel
theorem dX5_tellNumber_98 : decode cX5_tellNumber 98 = .ok (.getfield 24, 3) := by decide +kernel
theorem dX5_tellNumber_101 : decode cX5_tellNumber 101 = .ok (.iconst (-1), 1) := by decide +kernel
theorem dX5_tellNumber_102 : decode cX5_tellNumber 102 = .ok (.if_icmp .ne 11, 3) := by decide +kernel
theorem dX5_tellNumber_105 : decode cX5_tellNumber 105 = .ok (.aload_n 0, 1) := by decide +kernel
theorem dX5_tellNumber_106 : decode cX5_tellNumber 106 = .ok (.aload_n 0, 1) := by decide +kernel
theorem dX5_tellNumber_107 : decode cX5_tellNumber 107 = .ok (.getfield 31, 3) := by decide +kernel
theorem dX5_tellNumber_110 : decode cX5_tellNumber 110 = .ok (.putfield 24, 3) := by decide +kernel
theorem dX5_tellNumber_113 : decode cX5_tellNumber 113 = .ok (.iload_n 2, 1) := by decide +kernel
theorem dX5_tellNumber_114 : decode cX5_tellNumber 114 = .ok (.ireturn, 1) := by decide +kernel
set_option maxRecDepth 20000 in
theorem ggX5_standsDigit_X7_number : GoodIn wsX5_standsDigit wsX7_number := goodIn_r _ [6, 7, 8, 16, 17, 18, 19] (by decide +kernel) (by decide +kernel)
set_option maxRecDepth 20000 in
theorem gX5_standsDigit_X7_number_n59 : GoodIn wsX5_standsDigit (wsX7_number) := ggX5_standsDigit_X7_number
theorem dX5_standsDigit_0 : decode cX5_standsDigit 0 = .ok (.aload_n 0, 1) := by decide +kernel
theorem dX5_standsDigit_1 : decode cX5_standsDigit 1 = .ok (.getfield 27, 3) := by decide +kernel
theorem dX5_standsDigit_4 : decode cX5_standsDigit 4 = .ok (.ifnull 31, 3) := by decide +kernel
theorem dX5_standsDigit_7 : decode cX5_standsDigit 7 = .ok (.aload_n 0, 1) := by decide +kernel
theorem dX5_standsDigit_8 : decode cX5_standsDigit 8 = .ok (.getfield 31, 3) := by decide +kernel
theorem dX5_standsDigit_11 : decode cX5_standsDigit 11 = .ok (.aload_n 0, 1) := by decide +kernel
theorem dX5_standsDigit_12 : decode cX5_standsDigit 12 = .ok (.getfield 27, 3) := by decide +kernel
theorem dX5_standsDigit_15 : decode cX5_standsDigit 15 = .ok (.getfield 50, 3) := by decide +kernel
theorem dX5_standsDigit_18 : decode cX5_standsDigit 18 = .ok (.if_icmp .ge 17, 3) := by decide +kernel
theorem dX5_standsDigit_21 : decode cX5_standsDigit 21 = .ok (.aload_n 0, 1) := by decide +kernel
theorem dX5_standsDigit_22 : decode cX5_standsDigit 22 = .ok (.getfield 27, 3) := by decide +kernel
theorem dX5_standsDigit_25 : decode cX5_standsDigit 25 = .ok (.aload_n 0, 1) := by decide +kernel
theorem dX5_standsDigit_26 : decode cX5_standsDigit 26 = .ok (.getfield 31, 3) := by decide +kernel
theorem dX5_standsDigit_29 : decode cX5_standsDigit 29 = .ok (.invokevirtual 59, 3) := by decide +kernel
theorem dX5_standsDigit_32 : decode cX5_standsDigit 32 = .ok (.goto 4, 3) := by decide +kernel
theorem dX5_standsDigit_35 : decode cX5_standsDigit 35 = .ok (.iconst 0, 1) := by decide +kernel
theorem dX5_standsDigit_36 : decode cX5_standsDigit 36 = .ok (.istore_n 1, 1) := by decide +kernel
theorem dX5_standsDigit_37 : decode cX5_standsDigit 37 = .ok (.iload_n 1, 1) := by decide +kernel
theorem dX5_standsDigit_38 : decode cX5_standsDigit 38 = .ok (.bipush 48, 2) := by decide +kernel
theorem dX5_standsDigit_40 : decode cX5_standsDigit 40 = .ok (.if_icmp .lt 13, 3) := by decide +kernel
theorem dX5_standsDigit_43 : decode cX5_standsDigit 43 = .ok (.iload_n 1, 1) := by decide +kernel
theorem dX5_standsDigit_44 : decode cX5_standsDigit 44 = .ok (.bipush 57, 2) := by decide +kernel
theorem dX5_standsDigit_46 : decode cX5_standsDigit 46 = .ok (.if_icmp .gt 7, 3) := by decide +kernel
theorem dX5_standsDigit_49 : decode cX5_standsDigit 49 = .ok (.iconst 1, 1) := by decide +kernel
theorem dX5_standsDigit_50 : decode cX5_standsDigit 50 = .ok (.goto 4, 3) := by decide +kernel
theorem dX5_standsDigit_53 : decode cX5_standsDigit 53 = .ok (.iconst 0, 1) := by decide +kernel
theorem dX5_standsDigit_54 : decode cX5_standsDigit 54 = .ok (.ireturn, 1) := by decide +kernel
set_option maxRecDepth 20000 in
theorem ggX5_tellBelow_X5_tellNumber : GoodIn wsX5_tellBelow wsX5_tellNumber := goodIn_r _ [7, 8, 2, 1, 9, 10, 11, 12, 13, 14, 15, 16, 17, 18, 19, 20, 6, 21, 22, 23, 24, 25, 26, 27, 28, 29, 30, 31, 32, 33, 34, 35, 36, 37, 38] (by decide +kernel) (by decide +kernel)
set_option maxRecDepth 20000 in
theorem gX5_tellBelow_X5_tellNumber : GoodIn wsX5_tellBelow (wsV RX5 86 RX5 yX5_tellNumber wsX5_tellNumber) := goodIn_app (goodIn_of _ (by decide +kernel)) ggX5_tellBelow_X5_tellNumber
theorem dX5_tellBelow_0 : decode cX5_tellBelow 0 = .ok (.aload_n 0, 1) := by decide +kernel
theorem dX5_tellBelow_1 : decode cX5_tellBelow 1 = .ok (.sipush 160, 3) := by decide +kernel
theorem dX5_tellBelow_4 : decode cX5_tellBelow 4 = .ok (.invokevirtual 86, 3) := by decide +kernel
theorem dX5_tellBelow_7 : decode cX5_tellBelow 7 = .ok (.istore_n 2, 1) := by decide +kernel
theorem dX5_tellBelow_8 : decode cX5_tellBelow 8 = .ok (.aload_n 0, 1) := by decide +kernel
theorem dX5_tellBelow_9 : decode cX5_tellBelow 9 = .ok (.getfield 24, 3) := by decide +kernel
theorem dX5_tellBelow_12 : decode cX5_tellBelow 12 = .ok (.iconst (-1), 1) := by decide +kernel
theorem dX5_tellBelow_13 : decode cX5_tellBelow 13 = .ok (.if_icmp .ne 16, 3) := by decide +kernel
theorem dX5_tellBelow_16 : decode cX5_tellBelow 16 = .ok (.iload_n 2, 1) := by decide +kernel
theorem dX5_tellBelow_17 : decode cX5_tellBelow 17 = .ok (.iload_n 1, 1) := by decide +kernel
theorem dX5_tellBelow_18 : decode cX5_tellBelow 18 = .ok (.if_icmp .lt 11, 3) := by decide +kernel
theorem dX5_tellBelow_21 : decode cX5_tellBelow 21 = .ok (.aload_n 0, 1) := by decide +kernel
theorem dX5_tellBelow_22 : decode cX5_tellBelow 22 = .ok (.aload_n 0, 1) := by decide +kernel
theorem dX5_tellBelow_23 : decode cX5_tellBelow 23 = .ok (.getfield 34, 3) := by decide +kernel
theorem dX5_tellBelow_26 : decode cX5_tellBelow 26 = .ok (.putfield 24, 3) := by decide +kernel
theorem dX5_tellBelow_29 : decode cX5_tellBelow 29 = .ok (.iload_n 2, 1) := by decide +kernel
theorem dX5_tellBelow_30 : decode cX5_tellBelow 30 = .ok (.ireturn, 1) := by decide +kernel
theorem dX5_draftAt_0 : decode cX5_draftAt 0 = .ok (.aload_n 0, 1) := by decide +kernel
theorem dX5_draftAt_1 : decode cX5_draftAt 1 = .ok (.getfield 24, 3) := by decide +kernel
theorem dX5_draftAt_4 : decode cX5_draftAt 4 = .ok (.iconst (-1), 1) := by decide +kernel
theorem dX5_draftAt_5 : decode cX5_draftAt 5 = .ok (.if_icmp .ne 25, 3) := by decide +kernel
theorem dX5_draftAt_8 : decode cX5_draftAt 8 = .ok (.iload_n 1, 1) := by decide +kernel
theorem dX5_draftAt_9 : decode cX5_draftAt 9 = .ok (.ifCond .lt 21, 3) := by decide +kernel
theorem dX5_draftAt_12 : decode cX5_draftAt 12 = .ok (.iload_n 1, 1) := by decide +kernel
theorem dX5_draftAt_13 : decode cX5_draftAt 13 = .ok (.aload_n 0, 1) := by decide +kernel
theorem dX5_draftAt_14 : decode cX5_draftAt 14 = .ok (.getfield 17, 3) := by decide +kernel
theorem dX5_draftAt_17 : decode cX5_draftAt 17 = .ok (.if_icmp .ge 13, 3) := by decide +kernel
theorem dX5_draftAt_20 : decode cX5_draftAt 20 = .ok (.iload_n 1, 1) := by decide +kernel
theorem dX5_draftAt_21 : decode cX5_draftAt 21 = .ok (.bipush 8, 2) := by decide +kernel
theorem dX5_draftAt_23 : decode cX5_draftAt 23 = .ok (.if_icmp .ge 7, 3) := by decide +kernel
theorem dX5_draftAt_26 : decode cX5_draftAt 26 = .ok (.iconst 1, 1) := by decide +kernel
theorem dX5_draftAt_27 : decode cX5_draftAt 27 = .ok (.goto 4, 3) := by decide +kernel
theorem dX5_draftAt_30 : decode cX5_draftAt 30 = .ok (.iconst 0, 1) := by decide +kernel
theorem dX5_draftAt_31 : decode cX5_draftAt 31 = .ok (.istore_n 2, 1) := by decide +kernel
theorem dX5_draftAt_32 : decode cX5_draftAt 32 = .ok (.iload_n 2, 1) := by decide +kernel
theorem dX5_draftAt_33 : decode cX5_draftAt 33 = .ok (.ifCond .eq 12, 3) := by decide +kernel
theorem dX5_draftAt_36 : decode cX5_draftAt 36 = .ok (.aload_n 0, 1) := by decide +kernel
theorem dX5_draftAt_37 : decode cX5_draftAt 37 = .ok (.getfield 11, 3) := by decide +kernel
theorem dX5_draftAt_40 : decode cX5_draftAt 40 = .ok (.iload_n 1, 1) := by decide +kernel
theorem dX5_draftAt_41 : decode cX5_draftAt 41 = .ok (.aaload, 1) := by decide +kernel
theorem dX5_draftAt_42 : decode cX5_draftAt 42 = .ok (.goto 4, 3) := by decide +kernel
theorem dX5_draftAt_45 : decode cX5_draftAt 45 = .ok (.aconst_null, 1) := by decide +kernel
theorem dX5_draftAt_46 : decode cX5_draftAt 46 = .ok (.areturn, 1) := by decide +kernel
theorem dX5_putDraft_0 : decode cX5_putDraft 0 = .ok (.iload_n 1, 1) := by decide +kernel
theorem dX5_putDraft_1 : decode cX5_putDraft 1 = .ok (.ifCond .lt 16, 3) := by decide +kernel
theorem dX5_putDraft_4 : decode cX5_putDraft 4 = .ok (.iload_n 1, 1) := by decide +kernel
theorem dX5_putDraft_5 : decode cX5_putDraft 5 = .ok (.bipush 8, 2) := by decide +kernel
theorem dX5_putDraft_7 : decode cX5_putDraft 7 = .ok (.if_icmp .ge 10, 3) := by decide +kernel
theorem dX5_putDraft_10 : decode cX5_putDraft 10 = .ok (.aload_n 0, 1) := by decide +kernel
theorem dX5_putDraft_11 : decode cX5_putDraft 11 = .ok (.getfield 11, 3) := by decide +kernel
theorem dX5_putDraft_14 : decode cX5_putDraft 14 = .ok (.iload_n 1, 1) := by decide +kernel
theorem dX5_putDraft_15 : decode cX5_putDraft 15 = .ok (.aload_n 2, 1) := by decide +kernel
theorem dX5_putDraft_16 : decode cX5_putDraft 16 = .ok (.aastore, 1) := by decide +kernel
theorem dX5_putDraft_17 : decode cX5_putDraft 17 = .ok (.return_, 1) := by decide +kernel
set_option maxRecDepth 20000 in
theorem ggX5_tellStrip_X5_expectAll : GoodIn wsX5_tellStrip wsX5_expectAll := goodIn_r _ [8, 9, 10, 11, 12, 13, 14, 15, 16, 17, 18, 19, 20, 21, 22, 23, 24, 25, 26, 27, 28, 29, 30, 31, 32, 33, 34, 35, 36, 37, 38, 39, 40, 41, 42, 43, 44, 45, 46, 47, 48, 49, 50, 51, 52, 53, 54, 55, 56, 57, 58, 59, 60, 7, 61, 2, 1, 62, 63, 64, 65, 66, 67, 68, 69, 70, 71, 72, 163, 164, 165, 166, 167, 168, 169, 170, 171, 172, 173] (by decide +kernel) (by decide +kernel)
set_option maxRecDepth 20000 in
theorem gX5_tellStrip_X5_expectAll : GoodIn wsX5_tellStrip (wsV RX5 91 RX5 yX5_expectAll wsX5_expectAll) := goodIn_app (goodIn_of _ (by decide +kernel)) ggX5_tellStrip_X5_expectAll
set_option maxRecDepth 20000 in
theorem ggX5_tellStrip_X5_expect : GoodIn wsX5_tellStrip wsX5_expect := goodIn_r _ [61, 2, 1, 62, 63, 64, 7, 65, 66, 67, 68, 69, 70, 71, 72, 163, 164, 165, 166, 167, 168, 169, 170, 171, 172, 173] (by decide +kernel) (by decide +kernel)
set_option maxRecDepth 20000 in
theorem gX5_tellStrip_X5_expect : GoodIn wsX5_tellStrip (wsV RX5 55 RX5 yX5_expect wsX5_expect) := goodIn_app (goodIn_of _ (by decide +kernel)) ggX5_tellStrip_X5_expect
set_option maxRecDepth 20000 in
theorem ggX5_tellStrip_X5_tellBelow : GoodIn wsX5_tellStrip wsX5_tellBelow := goodIn_r _ [76, 2, 77, 78, 79, 80, 7, 81, 1, 66, 82, 83, 84, 85, 86, 87, 88, 89, 90, 91, 92, 93, 67, 68, 69, 70, 71, 72, 163, 164, 165, 166, 167, 168, 169, 170, 171, 172, 173] (by decide +kernel) (by decide +kernel)
set_option maxRecDepth 20000 in
theorem gX5_tellStrip_X5_tellBelow : GoodIn wsX5_tellStrip (wsV RX5 95 RX5 yX5_tellBelow wsX5_tellBelow) := goodIn_app (goodIn_of _ (by decide +kernel)) ggX5_tellStrip_X5_tellBelow
set_option maxRecDepth 20000 in
theorem ggX5_tellStrip_X5_tellNumber : GoodIn wsX5_tellStrip wsX5_tellNumber := goodIn_r _ [81, 1, 77, 2, 66, 82, 83, 84, 85, 86, 87, 88, 89, 90, 91, 92, 7, 93, 67, 68, 69, 70, 71, 72, 163, 164, 165, 166, 167, 168, 169, 170, 171, 172, 173] (by decide +kernel) (by decide +kernel)
set_option maxRecDepth 20000 in
theorem gX5_tellStrip_X5_tellNumber : GoodIn wsX5_tellStrip (wsV RX5 86 RX5 yX5_tellNumber wsX5_tellNumber) := goodIn_app (goodIn_of _ (by decide +kernel)) ggX5_tellStrip_X5_tellNumber
set_option maxRecDepth 20000 in
theorem ggX5_tellStrip_X11_mostFolds : GoodIn wsX5_tellStrip wsX11_mostFolds := goodIn_r _ [96] (by decide +kernel) (by decide +kernel)
set_option maxRecDepth 20000 in
theorem gX5_tellStrip_X11_mostFolds_n98 : GoodIn wsX5_tellStrip (wsX11_mostFolds) := ggX5_tellStrip_X11_mostFolds
set_option maxRecDepth 20000 in
theorem ggX5_tellStrip_X5_tellWord : GoodIn wsX5_tellStrip wsX5_tellWord := goodIn_r _ [100, 2, 1, 62, 63, 64, 7, 65, 66, 67, 68, 69, 70, 71, 72, 163, 164, 165, 166, 167, 168, 169, 170, 171, 172, 173] (by decide +kernel) (by decide +kernel)
set_option maxRecDepth 20000 in
theorem gX5_tellStrip_X5_tellWord : GoodIn wsX5_tellStrip (wsV RX5 101 RX5 yX5_tellWord wsX5_tellWord) := goodIn_app (goodIn_of _ (by decide +kernel)) ggX5_tellStrip_X5_tellWord
set_option maxRecDepth 20000 in
theorem ggX5_tellStrip_X11_make : GoodIn wsX5_tellStrip wsX11_make := goodIn_r _ [102, 103, 104, 105, 106, 107, 108, 109, 110, 111, 112, 113, 114, 115, 116, 117, 118, 119, 120, 121, 122, 123, 124, 125, 126, 127, 128, 129, 130, 131, 132, 133, 134, 135, 136, 137, 138, 139, 140, 141, 142, 143, 144, 145, 146, 147, 148, 149, 150, 151, 152, 153, 154, 155, 156, 157, 174, 175, 176, 177, 178, 179, 180, 181, 182, 183, 184, 185, 186, 187, 188, 189, 190, 191, 192, 193, 194, 195, 196, 197, 198, 199, 200, 201] (by decide +kernel) (by decide +kernel)
set_option maxRecDepth 20000 in
theorem gX5_tellStrip_X11_make_n105 : GoodIn wsX5_tellStrip (wsX11_make) := ggX5_tellStrip_X11_make
set_option maxRecDepth 20000 in
theorem ggX5_tellStrip_X5_putDraft : GoodIn wsX5_tellStrip wsX5_putDraft := goodIn_r _ [161, 162, 163, 164, 165, 166, 167, 168, 169] (by decide +kernel) (by decide +kernel)
set_option maxRecDepth 20000 in
theorem gX5_tellStrip_X5_putDraft : GoodIn wsX5_tellStrip (wsV RX5 109 RX5 yX5_putDraft wsX5_putDraft) := goodIn_app (goodIn_of _ (by decide +kernel)) ggX5_tellStrip_X5_putDraft
theorem dX5_tellStrip_0 : decode cX5_tellStrip 0 = .ok (.aload_n 0, 1) := by decide +kernel
theorem dX5_tellStrip_1 : decode cX5_tellStrip 1 = .ok (.getfield 31, 3) := by decide +kernel
theorem dX5_tellStrip_4 : decode cX5_tellStrip 4 = .ok (.istore_n 1, 1) := by decide +kernel
theorem dX5_tellStrip_5 : decode cX5_tellStrip 5 = .ok (.aload_n 0, 1) := by decide +kernel
theorem dX5_tellStrip_6 : decode cX5_tellStrip 6 = .ok (.ldc 89, 2) := by decide +kernel
theorem dX5_tellStrip_8 : decode cX5_tellStrip 8 = .ok (.invokevirtual 91, 3) := by decide +kernel
theorem dX5_tellStrip_11 : decode cX5_tellStrip 11 = .ok (.aload_n 0, 1) := by decide +kernel
theorem dX5_tellStrip_12 : decode cX5_tellStrip 12 = .ok (.getfield 24, 3) := by decide +kernel
theorem dX5_tellStrip_15 : decode cX5_tellStrip 15 = .ok (.iconst (-1), 1) := by decide +kernel
theorem dX5_tellStrip_16 : decode cX5_tellStrip 16 = .ok (.if_icmp .ne 17, 3) := by decide +kernel
theorem dX5_tellStrip_19 : decode cX5_tellStrip 19 = .ok (.aload_n 0, 1) := by decide +kernel
theorem dX5_tellStrip_20 : decode cX5_tellStrip 20 = .ok (.getfield 17, 3) := by decide +kernel
theorem dX5_tellStrip_23 : decode cX5_tellStrip 23 = .ok (.bipush 8, 2) := by decide +kernel
theorem dX5_tellStrip_25 : decode cX5_tellStrip 25 = .ok (.if_icmp .lt 8, 3) := by decide +kernel
theorem dX5_tellStrip_28 : decode cX5_tellStrip 28 = .ok (.aload_n 0, 1) := by decide +kernel
theorem dX5_tellStrip_29 : decode cX5_tellStrip 29 = .ok (.iload_n 1, 1) := by decide +kernel
theorem dX5_tellStrip_30 : decode cX5_tellStrip 30 = .ok (.putfield 24, 3) := by decide +kernel
theorem dX5_tellStrip_33 : decode cX5_tellStrip 33 = .ok (.aload_n 0, 1) := by decide +kernel
theorem dX5_tellStrip_34 : decode cX5_tellStrip 34 = .ok (.bipush 32, 2) := by decide +kernel
theorem dX5_tellStrip_36 : decode cX5_tellStrip 36 = .ok (.invokevirtual 55, 3) := by decide +kernel
theorem dX5_tellStrip_39 : decode cX5_tellStrip 39 = .ok (.aload_n 0, 1) := by decide +kernel
theorem dX5_tellStrip_40 : decode cX5_tellStrip 40 = .ok (.bipush 7, 2) := by decide +kernel
theorem dX5_tellStrip_42 : decode cX5_tellStrip 42 = .ok (.invokevirtual 95, 3) := by decide +kernel
theorem dX5_tellStrip_45 : decode cX5_tellStrip 45 = .ok (.istore_n 2, 1) := by decide +kernel
theorem dX5_tellStrip_46 : decode cX5_tellStrip 46 = .ok (.aload_n 0, 1) := by decide +kernel
theorem dX5_tellStrip_47 : decode cX5_tellStrip 47 = .ok (.bipush 32, 2) := by decide +kernel
theorem dX5_tellStrip_49 : decode cX5_tellStrip 49 = .ok (.invokevirtual 55, 3) := by decide +kernel
theorem dX5_tellStrip_52 : decode cX5_tellStrip 52 = .ok (.aload_n 0, 1) := by decide +kernel
theorem dX5_tellStrip_53 : decode cX5_tellStrip 53 = .ok (.bipush 6, 2) := by decide +kernel
theorem dX5_tellStrip_55 : decode cX5_tellStrip 55 = .ok (.invokevirtual 86, 3) := by decide +kernel
theorem dX5_tellStrip_58 : decode cX5_tellStrip 58 = .ok (.istore_n 3, 1) := by decide +kernel
theorem dX5_tellStrip_59 : decode cX5_tellStrip 59 = .ok (.aload_n 0, 1) := by decide +kernel
theorem dX5_tellStrip_60 : decode cX5_tellStrip 60 = .ok (.bipush 32, 2) := by decide +kernel
theorem dX5_tellStrip_62 : decode cX5_tellStrip 62 = .ok (.invokevirtual 55, 3) := by decide +kernel
theorem dX5_tellStrip_65 : decode cX5_tellStrip 65 = .ok (.aload_n 0, 1) := by decide +kernel
theorem dX5_tellStrip_66 : decode cX5_tellStrip 66 = .ok (.getfield 31, 3) := by decide +kernel
theorem dX5_tellStrip_69 : decode cX5_tellStrip 69 = .ok (.istore 4, 2) := by decide +kernel
theorem dX5_tellStrip_71 : decode cX5_tellStrip 71 = .ok (.aload_n 0, 1) := by decide +kernel
theorem dX5_tellStrip_72 : decode cX5_tellStrip 72 = .ok (.iload_n 2, 1) := by decide +kernel
theorem dX5_tellStrip_73 : decode cX5_tellStrip 73 = .ok (.invokestatic 98, 3) := by decide +kernel
theorem dX5_tellStrip_76 : decode cX5_tellStrip 76 = .ok (.invokevirtual 101, 3) := by decide +kernel
theorem dX5_tellStrip_79 : decode cX5_tellStrip 79 = .ok (.lstore 5, 2) := by decide +kernel
theorem dX5_tellStrip_81 : decode cX5_tellStrip 81 = .ok (.aload_n 0, 1) := by decide +kernel
theorem dX5_tellStrip_82 : decode cX5_tellStrip 82 = .ok (.getfield 24, 3) := by decide +kernel
theorem dX5_tellStrip_85 : decode cX5_tellStrip 85 = .ok (.iconst (-1), 1) := by decide +kernel
theorem dX5_tellStrip_86 : decode cX5_tellStrip 86 = .ok (.if_icmp .ne 48, 3) := by decide +kernel
theorem dX5_tellStrip_89 : decode cX5_tellStrip 89 = .ok (.aload_n 0, 1) := by decide +kernel
theorem dX5_tellStrip_90 : decode cX5_tellStrip 90 = .ok (.getfield 17, 3) := by decide +kernel
theorem dX5_tellStrip_93 : decode cX5_tellStrip 93 = .ok (.bipush 8, 2) := by decide +kernel
theorem dX5_tellStrip_95 : decode cX5_tellStrip 95 = .ok (.if_icmp .ge 39, 3) := by decide +kernel
theorem dX5_tellStrip_98 : decode cX5_tellStrip 98 = .ok (.aload_n 0, 1) := by decide +kernel
theorem dX5_tellStrip_99 : decode cX5_tellStrip 99 = .ok (.aload_n 0, 1) := by decide +kernel
theorem dX5_tellStrip_100 : decode cX5_tellStrip 100 = .ok (.getfield 17, 3) := by decide +kernel
theorem dX5_tellStrip_103 : decode cX5_tellStrip 103 = .ok (.iload_n 2, 1) := by decide +kernel
theorem dX5_tellStrip_104 : decode cX5_tellStrip 104 = .ok (.aload_n 0, 1) := by decide +kernel
theorem dX5_tellStrip_105 : decode cX5_tellStrip 105 = .ok (.getfield 17, 3) := by decide +kernel
theorem dX5_tellStrip_108 : decode cX5_tellStrip 108 = .ok (.iload_n 3, 1) := by decide +kernel
theorem dX5_tellStrip_109 : decode cX5_tellStrip 109 = .ok (.aload_n 0, 1) := by decide +kernel
theorem dX5_tellStrip_110 : decode cX5_tellStrip 110 = .ok (.getfield 31, 3) := by decide +kernel
theorem dX5_tellStrip_113 : decode cX5_tellStrip 113 = .ok (.iload 4, 2) := by decide +kernel
theorem dX5_tellStrip_115 : decode cX5_tellStrip 115 = .ok (.isub, 1) := by decide +kernel
theorem dX5_tellStrip_116 : decode cX5_tellStrip 116 = .ok (.lload 5, 2) := by decide +kernel
theorem dX5_tellStrip_118 : decode cX5_tellStrip 118 = .ok (.invokestatic 105, 3) := by decide +kernel
theorem dX5_tellStrip_121 : decode cX5_tellStrip 121 = .ok (.invokevirtual 109, 3) := by decide +kernel
theorem dX5_tellStrip_124 : decode cX5_tellStrip 124 = .ok (.aload_n 0, 1) := by decide +kernel
theorem dX5_tellStrip_125 : decode cX5_tellStrip 125 = .ok (.dup, 1) := by decide +kernel
theorem dX5_tellStrip_126 : decode cX5_tellStrip 126 = .ok (.getfield 17, 3) := by decide +kernel
theorem dX5_tellStrip_129 : decode cX5_tellStrip 129 = .ok (.iconst 1, 1) := by decide +kernel
theorem dX5_tellStrip_130 : decode cX5_tellStrip 130 = .ok (.iadd, 1) := by decide +kernel
theorem dX5_tellStrip_131 : decode cX5_tellStrip 131 = .ok (.putfield 17, 3) := by decide +kernel
theorem dX5_tellStrip_134 : decode cX5_tellStrip 134 = .ok (.return_, 1) := by decide +kernel
set_option maxRecDepth 20000 in
theorem ggX5_tellWord_X5_stands : GoodIn wsX5_tellWord wsX5_stands := goodIn_r _ [7, 8, 2, 9, 10, 11, 12, 13, 14, 15, 16, 17, 18, 19, 20, 21, 22, 23, 24, 25] (by decide +kernel) (by decide +kernel)
set_option maxRecDepth 20000 in
theorem gX5_tellWord_X5_stands : GoodIn wsX5_tellWord (wsV RX5 37 RX5 yX5_stands wsX5_stands) := goodIn_app (goodIn_of _ (by decide +kernel)) ggX5_tellWord_X5_stands
theorem dX5_tellWord_0 : decode cX5_tellWord 0 = .ok (.lconst 0, 1) := by decide +kernel
theorem dX5_tellWord_1 : decode cX5_tellWord 1 = .ok (.lstore_n 2, 1) := by decide +kernel
theorem dX5_tellWord_2 : decode cX5_tellWord 2 = .ok (.iconst 0, 1) := by decide +kernel
theorem dX5_tellWord_3 : decode cX5_tellWord 3 = .ok (.istore 4, 2) := by decide +kernel
theorem dX5_tellWord_5 : decode cX5_tellWord 5 = .ok (.aload_n 0, 1) := by decide +kernel
theorem dX5_tellWord_6 : decode cX5_tellWord 6 = .ok (.getfield 24, 3) := by decide +kernel
theorem dX5_tellWord_9 : decode cX5_tellWord 9 = .ok (.iconst (-1), 1) := by decide +kernel
theorem dX5_tellWord_10 : decode cX5_tellWord 10 = .ok (.if_icmp .ne 63, 3) := by decide +kernel
theorem dX5_tellWord_13 : decode cX5_tellWord 13 = .ok (.iload 4, 2) := by decide +kernel
theorem dX5_tellWord_15 : decode cX5_tellWord 15 = .ok (.iload_n 1, 1) := by decide +kernel
theorem dX5_tellWord_16 : decode cX5_tellWord 16 = .ok (.if_icmp .ge 57, 3) := by decide +kernel
theorem dX5_tellWord_19 : decode cX5_tellWord 19 = .ok (.aload_n 0, 1) := by decide +kernel
theorem dX5_tellWord_20 : decode cX5_tellWord 20 = .ok (.bipush 108, 2) := by decide +kernel
theorem dX5_tellWord_22 : decode cX5_tellWord 22 = .ok (.invokevirtual 37, 3) := by decide +kernel
theorem dX5_tellWord_25 : decode cX5_tellWord 25 = .ok (.ifCond .ne 12, 3) := by decide +kernel
theorem dX5_tellWord_28 : decode cX5_tellWord 28 = .ok (.aload_n 0, 1) := by decide +kernel
theorem dX5_tellWord_29 : decode cX5_tellWord 29 = .ok (.bipush 114, 2) := by decide +kernel
theorem dX5_tellWord_31 : decode cX5_tellWord 31 = .ok (.invokevirtual 37, 3) := by decide +kernel
theorem dX5_tellWord_34 : decode cX5_tellWord 34 = .ok (.ifCond .eq 39, 3) := by decide +kernel
theorem dX5_tellWord_37 : decode cX5_tellWord 37 = .ok (.lload_n 2, 1) := by decide +kernel
theorem dX5_tellWord_38 : decode cX5_tellWord 38 = .ok (.aload_n 0, 1) := by decide +kernel
theorem dX5_tellWord_39 : decode cX5_tellWord 39 = .ok (.bipush 108, 2) := by decide +kernel
theorem dX5_tellWord_41 : decode cX5_tellWord 41 = .ok (.invokevirtual 37, 3) := by decide +kernel
theorem dX5_tellWord_44 : decode cX5_tellWord 44 = .ok (.ifCond .eq 7, 3) := by decide +kernel
theorem dX5_tellWord_47 : decode cX5_tellWord 47 = .ok (.lconst 1, 1) := by decide +kernel
theorem dX5_tellWord_48 : decode cX5_tellWord 48 = .ok (.goto 4, 3) := by decide +kernel
theorem dX5_tellWord_51 : decode cX5_tellWord 51 = .ok (.lconst 0, 1) := by decide +kernel
theorem dX5_tellWord_52 : decode cX5_tellWord 52 = .ok (.iload 4, 2) := by decide +kernel
theorem dX5_tellWord_54 : decode cX5_tellWord 54 = .ok (.lshl, 1) := by decide +kernel
theorem dX5_tellWord_55 : decode cX5_tellWord 55 = .ok (.lor, 1) := by decide +kernel
theorem dX5_tellWord_56 : decode cX5_tellWord 56 = .ok (.lstore_n 2, 1) := by decide +kernel
theorem dX5_tellWord_57 : decode cX5_tellWord 57 = .ok (.iinc 4 1, 3) := by decide +kernel
theorem dX5_tellWord_60 : decode cX5_tellWord 60 = .ok (.aload_n 0, 1) := by decide +kernel
theorem dX5_tellWord_61 : decode cX5_tellWord 61 = .ok (.dup, 1) := by decide +kernel
theorem dX5_tellWord_62 : decode cX5_tellWord 62 = .ok (.getfield 31, 3) := by decide +kernel
theorem dX5_tellWord_65 : decode cX5_tellWord 65 = .ok (.iconst 1, 1) := by decide +kernel
theorem dX5_tellWord_66 : decode cX5_tellWord 66 = .ok (.iadd, 1) := by decide +kernel
theorem dX5_tellWord_67 : decode cX5_tellWord 67 = .ok (.putfield 31, 3) := by decide +kernel
theorem dX5_tellWord_70 : decode cX5_tellWord 70 = .ok (.goto (-65), 3) := by decide +kernel
theorem dX5_tellWord_73 : decode cX5_tellWord 73 = .ok (.aload_n 0, 1) := by decide +kernel
theorem dX5_tellWord_74 : decode cX5_tellWord 74 = .ok (.getfield 24, 3) := by decide +kernel
theorem dX5_tellWord_77 : decode cX5_tellWord 77 = .ok (.iconst (-1), 1) := by decide +kernel
theorem dX5_tellWord_78 : decode cX5_tellWord 78 = .ok (.if_icmp .ne 16, 3) := by decide +kernel
theorem dX5_tellWord_81 : decode cX5_tellWord 81 = .ok (.iload 4, 2) := by decide +kernel
theorem dX5_tellWord_83 : decode cX5_tellWord 83 = .ok (.ifCond .ne 11, 3) := by decide +kernel
theorem dX5_tellWord_86 : decode cX5_tellWord 86 = .ok (.aload_n 0, 1) := by decide +kernel
theorem dX5_tellWord_87 : decode cX5_tellWord 87 = .ok (.aload_n 0, 1) := by decide +kernel
theorem dX5_tellWord_88 : decode cX5_tellWord 88 = .ok (.getfield 31, 3) := by decide +kernel
theorem dX5_tellWord_91 : decode cX5_tellWord 91 = .ok (.putfield 24, 3) := by decide +kernel
theorem dX5_tellWord_94 : decode cX5_tellWord 94 = .ok (.lload_n 2, 1) := by decide +kernel
theorem dX5_tellWord_95 : decode cX5_tellWord 95 = .ok (.lreturn, 1) := by decide +kernel
set_option maxRecDepth 20000 in
theorem ggX5_tellTurn_X5_expectAll : GoodIn wsX5_tellTurn wsX5_expectAll := goodIn_r _ [9, 10, 11, 12, 13, 14, 15, 16, 17, 18, 19, 20, 21, 22, 23, 24, 25, 26, 27, 28, 29, 30, 31, 32, 33, 34, 35, 36, 37, 38, 39, 40, 41, 42, 43, 44, 45, 46, 47, 48, 49, 50, 51, 52, 53, 54, 55, 56, 57, 58, 59, 60, 61, 8, 62, 3, 63, 64, 65, 66, 67, 68, 69, 70, 71, 72, 73, 74, 200, 201, 202, 203, 204, 205, 206, 235, 236, 237, 238] (by decide +kernel) (by decide +kernel)
set_option maxRecDepth 20000 in
theorem gX5_tellTurn_X5_expectAll : GoodIn wsX5_tellTurn (wsV RX5 91 RX5 yX5_expectAll wsX5_expectAll) := goodIn_app (goodIn_of _ (by decide +kernel)) ggX5_tellTurn_X5_expectAll
set_option maxRecDepth 20000 in
theorem ggX5_tellTurn_X5_expect : GoodIn wsX5_tellTurn wsX5_expect := goodIn_r _ [62, 3, 63, 64, 65, 66, 8, 67, 68, 69, 70, 71, 72, 73, 74, 200, 201, 202, 203, 204, 205, 206, 235, 236, 237, 238] (by decide +kernel) (by decide +kernel)
set_option maxRecDepth 20000 in
theorem gX5_tellTurn_X5_expect : GoodIn wsX5_tellTurn (wsV RX5 55 RX5 yX5_expect wsX5_expect) := goodIn_app (goodIn_of _ (by decide +kernel)) ggX5_tellTurn_X5_expect
set_option maxRecDepth 20000 in
theorem ggX5_tellTurn_X5_tellBelow : GoodIn wsX5_tellTurn wsX5_tellBelow := goodIn_r _ [78, 3, 79, 80, 81, 82, 8, 83, 63, 68, 84, 85, 86, 87, 88, 89, 90, 91, 92, 93, 94, 95, 69, 70, 71, 72, 73, 74, 200, 201, 202, 203, 204, 205, 206, 235, 236, 237, 238] (by decide +kernel) (by decide +kernel)
set_option maxRecDepth 20000 in
theorem gX5_tellTurn_X5_tellBelow : GoodIn wsX5_tellTurn (wsV RX5 95 RX5 yX5_tellBelow wsX5_tellBelow) := goodIn_app (goodIn_of _ (by decide +kernel)) ggX5_tellTurn_X5_tellBelow
set_option maxRecDepth 20000 in
theorem ggX5_tellTurn_X5_draftAt : GoodIn wsX5_tellTurn wsX5_draftAt := goodIn_r _ [99, 3, 1, 100, 200, 201, 202, 203, 204, 205, 206] (by decide +kernel) (by decide +kernel)
set_option maxRecDepth 20000 in
theorem gX5_tellTurn_X5_draftAt : GoodIn wsX5_tellTurn (wsV RX5 115 RX5 yX5_draftAt wsX5_draftAt) := goodIn_app (goodIn_of _ (by decide +kernel)) ggX5_tellTurn_X5_draftAt
set_option maxRecDepth 20000 in
theorem ggX5_tellTurn_X0_kind : GoodIn wsX5_tellTurn wsX0_kind := goodIn_r _ [107] (by decide +kernel) (by decide +kernel)
set_option maxRecDepth 20000 in
theorem gX5_tellTurn_X0_kind_u122X0 : GoodIn wsX5_tellTurn (va_wsO RX5 122 RX0 "FoldedInHalf$Strip" ⟨"FoldedInHalf$Strip", "kind", "()I"⟩ yX0_kind wsX0_kind) := goodIn_app (goodIn_of _ (by decide +kernel)) ggX5_tellTurn_X0_kind
set_option maxRecDepth 20000 in
theorem ggX5_tellTurn_X1_kind : GoodIn wsX5_tellTurn wsX1_kind := goodIn_r _ [112] (by decide +kernel) (by decide +kernel)
set_option maxRecDepth 20000 in
theorem gX5_tellTurn_X1_kind_u122X1 : GoodIn wsX5_tellTurn (va_wsO RX5 122 RX1 "FoldedInHalf$Strip" ⟨"FoldedInHalf$Strip", "kind", "()I"⟩ yX1_kind wsX1_kind) := goodIn_app (goodIn_of _ (by decide +kernel)) ggX5_tellTurn_X1_kind
set_option maxRecDepth 20000 in
theorem ggX5_tellTurn_X2_kind : GoodIn wsX5_tellTurn wsX2_kind := goodIn_r _ [116] (by decide +kernel) (by decide +kernel)
set_option maxRecDepth 20000 in
theorem gX5_tellTurn_X2_kind_u122X2 : GoodIn wsX5_tellTurn (va_wsO RX5 122 RX2 "FoldedInHalf$Strip" ⟨"FoldedInHalf$Strip", "kind", "()I"⟩ yX2_kind wsX2_kind) := goodIn_app (goodIn_of _ (by decide +kernel)) ggX5_tellTurn_X2_kind
set_option maxRecDepth 20000 in
theorem ggX5_tellTurn_X4_kind : GoodIn wsX5_tellTurn wsX4_kind := goodIn_r _ [120] (by decide +kernel) (by decide +kernel)
set_option maxRecDepth 20000 in
theorem gX5_tellTurn_X4_kind_u122X4 : GoodIn wsX5_tellTurn (va_wsO RX5 122 RX4 "FoldedInHalf$Strip" ⟨"FoldedInHalf$Strip", "kind", "()I"⟩ yX4_kind wsX4_kind) := goodIn_app (goodIn_of _ (by decide +kernel)) ggX5_tellTurn_X4_kind
set_option maxRecDepth 20000 in
theorem ggX5_tellTurn_X6_kind : GoodIn wsX5_tellTurn wsX6_kind := goodIn_r _ [124] (by decide +kernel) (by decide +kernel)
set_option maxRecDepth 20000 in
theorem gX5_tellTurn_X6_kind_u122X6 : GoodIn wsX5_tellTurn (va_wsO RX5 122 RX6 "FoldedInHalf$Strip" ⟨"FoldedInHalf$Strip", "kind", "()I"⟩ yX6_kind wsX6_kind) := goodIn_app (goodIn_of _ (by decide +kernel)) ggX5_tellTurn_X6_kind
set_option maxRecDepth 20000 in
theorem ggX5_tellTurn_X8_kind : GoodIn wsX5_tellTurn wsX8_kind := goodIn_r _ [108] (by decide +kernel) (by decide +kernel)
set_option maxRecDepth 20000 in
theorem gX5_tellTurn_X8_kind : GoodIn wsX5_tellTurn (wsV RX5 122 RX8 yX8_kind wsX8_kind) := goodIn_app (goodIn_of _ (by decide +kernel)) ggX5_tellTurn_X8_kind
set_option maxRecDepth 20000 in
theorem ggX5_tellTurn_X9_kind : GoodIn wsX5_tellTurn wsX9_kind := goodIn_r _ [132] (by decide +kernel) (by decide +kernel)
set_option maxRecDepth 20000 in
theorem gX5_tellTurn_X9_kind_u122X9 : GoodIn wsX5_tellTurn (va_wsO RX5 122 RX9 "FoldedInHalf$Strip" ⟨"FoldedInHalf$Strip", "kind", "()I"⟩ yX9_kind wsX9_kind) := goodIn_app (goodIn_of _ (by decide +kernel)) ggX5_tellTurn_X9_kind
set_option maxRecDepth 20000 in
theorem ggX5_tellTurn_X8_turnedWord : GoodIn wsX5_tellTurn wsX8_turnedWord := goodIn_r _ [137, 138, 207, 208, 209, 210, 211, 212, 213, 214, 215, 216, 217, 218, 219, 220, 221, 222, 223, 224, 225, 226, 227, 228, 229, 230, 231, 232, 233, 234] (by decide +kernel) (by decide +kernel)
set_option maxRecDepth 20000 in
theorem gX5_tellTurn_X8_turnedWord_u128X0 : GoodIn wsX5_tellTurn (va_wsU RX5 128 RX0 "FoldedInHalf$Strip" ⟨"FoldedInHalf$Strip", "turnedWord", "(I)J"⟩ yX8_turnedWord wsX8_turnedWord) := goodIn_app (goodIn_of _ (by decide +kernel)) ggX5_tellTurn_X8_turnedWord
set_option maxRecDepth 20000 in
theorem gX5_tellTurn_X8_turnedWord_u128X1 : GoodIn wsX5_tellTurn (va_wsU RX5 128 RX1 "FoldedInHalf$Strip" ⟨"FoldedInHalf$Strip", "turnedWord", "(I)J"⟩ yX8_turnedWord wsX8_turnedWord) := goodIn_app (goodIn_of _ (by decide +kernel)) ggX5_tellTurn_X8_turnedWord
set_option maxRecDepth 20000 in
theorem gX5_tellTurn_X8_turnedWord_u128X2 : GoodIn wsX5_tellTurn (va_wsU RX5 128 RX2 "FoldedInHalf$Strip" ⟨"FoldedInHalf$Strip", "turnedWord", "(I)J"⟩ yX8_turnedWord wsX8_turnedWord) := goodIn_app (goodIn_of _ (by decide +kernel)) ggX5_tellTurn_X8_turnedWord
set_option maxRecDepth 20000 in
theorem gX5_tellTurn_X8_turnedWord_u128X4 : GoodIn wsX5_tellTurn (va_wsU RX5 128 RX4 "FoldedInHalf$Strip" ⟨"FoldedInHalf$Strip", "turnedWord", "(I)J"⟩ yX8_turnedWord wsX8_turnedWord) := goodIn_app (goodIn_of _ (by decide +kernel)) ggX5_tellTurn_X8_turnedWord
set_option maxRecDepth 20000 in
theorem gX5_tellTurn_X8_turnedWord_u128X6 : GoodIn wsX5_tellTurn (va_wsU RX5 128 RX6 "FoldedInHalf$Strip" ⟨"FoldedInHalf$Strip", "turnedWord", "(I)J"⟩ yX8_turnedWord wsX8_turnedWord) := goodIn_app (goodIn_of _ (by decide +kernel)) ggX5_tellTurn_X8_turnedWord
set_option maxRecDepth 20000 in
theorem gX5_tellTurn_X8_turnedWord : GoodIn wsX5_tellTurn (wsV RX5 128 RX8 yX8_turnedWord wsX8_turnedWord) := goodIn_app (goodIn_of _ (by decide +kernel)) ggX5_tellTurn_X8_turnedWord
set_option maxRecDepth 20000 in
theorem gX5_tellTurn_X8_turnedWord_u128X9 : GoodIn wsX5_tellTurn (va_wsU RX5 128 RX9 "FoldedInHalf$Strip" ⟨"FoldedInHalf$Strip", "turnedWord", "(I)J"⟩ yX8_turnedWord wsX8_turnedWord) := goodIn_app (goodIn_of _ (by decide +kernel)) ggX5_tellTurn_X8_turnedWord
set_option maxRecDepth 20000 in
theorem ggX5_tellTurn_X11_make : GoodIn wsX5_tellTurn wsX11_make := goodIn_r _ [148, 149, 150, 123, 151, 152, 131, 153, 154, 111, 155, 156, 106, 157, 158, 115, 159, 160, 119, 161, 162, 128, 163, 164, 165, 166, 167, 168, 169, 170, 171, 172, 173, 174, 138, 175, 176, 177, 178, 179, 180, 181, 182, 183, 184, 185, 186, 187, 188, 189, 190, 191, 192, 193, 194, 195, 223, 224, 225, 226, 231, 232, 233, 234, 211, 212, 213, 214, 207, 208, 209, 210, 215, 216, 217, 218, 219, 220, 221, 222, 227, 228, 229, 230] (by decide +kernel) (by decide +kernel)
set_option maxRecDepth 20000 in
theorem gX5_tellTurn_X11_make_n105 : GoodIn wsX5_tellTurn (wsX11_make) := ggX5_tellTurn_X11_make
set_option maxRecDepth 20000 in
theorem ggX5_tellTurn_X5_putDraft : GoodIn wsX5_tellTurn wsX5_putDraft := goodIn_r _ [199, 100, 200, 201, 202, 203, 204, 205, 206] (by decide +kernel) (by decide +kernel)
set_option maxRecDepth 20000 in
theorem gX5_tellTurn_X5_putDraft : GoodIn wsX5_tellTurn (wsV RX5 109 RX5 yX5_putDraft wsX5_putDraft) := goodIn_app (goodIn_of _ (by decide +kernel)) ggX5_tellTurn_X5_putDraft
theorem dX5_tellTurn_0 : decode cX5_tellTurn 0 = .ok (.aload_n 0, 1) := by decide +kernel
theorem dX5_tellTurn_1 : decode cX5_tellTurn 1 = .ok (.ldc 113, 2) := by decide +kernel
theorem dX5_tellTurn_3 : decode cX5_tellTurn 3 = .ok (.invokevirtual 91, 3) := by decide +kernel
theorem dX5_tellTurn_6 : decode cX5_tellTurn 6 = .ok (.aload_n 0, 1) := by decide +kernel
theorem dX5_tellTurn_7 : decode cX5_tellTurn 7 = .ok (.bipush 32, 2) := by decide +kernel
theorem dX5_tellTurn_9 : decode cX5_tellTurn 9 = .ok (.invokevirtual 55, 3) := by decide +kernel
theorem dX5_tellTurn_12 : decode cX5_tellTurn 12 = .ok (.aload_n 0, 1) := by decide +kernel
theorem dX5_tellTurn_13 : decode cX5_tellTurn 13 = .ok (.aload_n 0, 1) := by decide +kernel
theorem dX5_tellTurn_14 : decode cX5_tellTurn 14 = .ok (.getfield 17, 3) := by decide +kernel
theorem dX5_tellTurn_17 : decode cX5_tellTurn 17 = .ok (.invokevirtual 95, 3) := by decide +kernel
theorem dX5_tellTurn_20 : decode cX5_tellTurn 20 = .ok (.istore_n 1, 1) := by decide +kernel
theorem dX5_tellTurn_21 : decode cX5_tellTurn 21 = .ok (.aload_n 0, 1) := by decide +kernel
theorem dX5_tellTurn_22 : decode cX5_tellTurn 22 = .ok (.bipush 32, 2) := by decide +kernel
theorem dX5_tellTurn_24 : decode cX5_tellTurn 24 = .ok (.invokevirtual 55, 3) := by decide +kernel
theorem dX5_tellTurn_27 : decode cX5_tellTurn 27 = .ok (.aload_n 0, 1) := by decide +kernel
theorem dX5_tellTurn_28 : decode cX5_tellTurn 28 = .ok (.iload_n 1, 1) := by decide +kernel
theorem dX5_tellTurn_29 : decode cX5_tellTurn 29 = .ok (.invokevirtual 115, 3) := by decide +kernel
theorem dX5_tellTurn_32 : decode cX5_tellTurn 32 = .ok (.astore_n 2, 1) := by decide +kernel
theorem dX5_tellTurn_33 : decode cX5_tellTurn 33 = .ok (.aload_n 0, 1) := by decide +kernel
theorem dX5_tellTurn_34 : decode cX5_tellTurn 34 = .ok (.aload_n 2, 1) := by decide +kernel
theorem dX5_tellTurn_35 : decode cX5_tellTurn 35 = .ok (.ifnonnull 7, 3) := by decide +kernel
theorem dX5_tellTurn_38 : decode cX5_tellTurn 38 = .ok (.iconst 0, 1) := by decide +kernel
theorem dX5_tellTurn_39 : decode cX5_tellTurn 39 = .ok (.goto 7, 3) := by decide +kernel
theorem dX5_tellTurn_42 : decode cX5_tellTurn 42 = .ok (.aload_n 2, 1) := by decide +kernel
theorem dX5_tellTurn_43 : decode cX5_tellTurn 43 = .ok (.getfield 119, 3) := by decide +kernel
theorem dX5_tellTurn_46 : decode cX5_tellTurn 46 = .ok (.invokevirtual 95, 3) := by decide +kernel
theorem dX5_tellTurn_49 : decode cX5_tellTurn 49 = .ok (.istore_n 3, 1) := by decide +kernel
theorem dX5_tellTurn_50 : decode cX5_tellTurn 50 = .ok (.aload_n 0, 1) := by decide +kernel
theorem dX5_tellTurn_51 : decode cX5_tellTurn 51 = .ok (.getfield 24, 3) := by decide +kernel
theorem dX5_tellTurn_54 : decode cX5_tellTurn 54 = .ok (.iconst (-1), 1) := by decide +kernel
theorem dX5_tellTurn_55 : decode cX5_tellTurn 55 = .ok (.if_icmp .ne 33, 3) := by decide +kernel
theorem dX5_tellTurn_58 : decode cX5_tellTurn 58 = .ok (.aload_n 2, 1) := by decide +kernel
theorem dX5_tellTurn_59 : decode cX5_tellTurn 59 = .ok (.ifnull 29, 3) := by decide +kernel
theorem dX5_tellTurn_62 : decode cX5_tellTurn 62 = .ok (.aload_n 0, 1) := by decide +kernel
theorem dX5_tellTurn_63 : decode cX5_tellTurn 63 = .ok (.iload_n 1, 1) := by decide +kernel
theorem dX5_tellTurn_64 : decode cX5_tellTurn 64 = .ok (.aload_n 2, 1) := by decide +kernel
theorem dX5_tellTurn_65 : decode cX5_tellTurn 65 = .ok (.invokevirtual 122, 3) := by decide +kernel
theorem dX5_tellTurn_68 : decode cX5_tellTurn 68 = .ok (.iload_n 1, 1) := by decide +kernel
theorem dX5_tellTurn_69 : decode cX5_tellTurn 69 = .ok (.aload_n 2, 1) := by decide +kernel
theorem dX5_tellTurn_70 : decode cX5_tellTurn 70 = .ok (.getfield 125, 3) := by decide +kernel
theorem dX5_tellTurn_73 : decode cX5_tellTurn 73 = .ok (.aload_n 2, 1) := by decide +kernel
theorem dX5_tellTurn_74 : decode cX5_tellTurn 74 = .ok (.getfield 119, 3) := by decide +kernel
theorem dX5_tellTurn_77 : decode cX5_tellTurn 77 = .ok (.aload_n 2, 1) := by decide +kernel
theorem dX5_tellTurn_78 : decode cX5_tellTurn 78 = .ok (.iload_n 3, 1) := by decide +kernel
theorem dX5_tellTurn_79 : decode cX5_tellTurn 79 = .ok (.invokevirtual 128, 3) := by decide +kernel
theorem dX5_tellTurn_82 : decode cX5_tellTurn 82 = .ok (.invokestatic 105, 3) := by decide +kernel
theorem dX5_tellTurn_85 : decode cX5_tellTurn 85 = .ok (.invokevirtual 109, 3) := by decide +kernel
theorem dX5_tellTurn_88 : decode cX5_tellTurn 88 = .ok (.return_, 1) := by decide +kernel
set_option maxRecDepth 20000 in
theorem ggX5_tellLess_X5_expectAll : GoodIn wsX5_tellLess wsX5_expectAll := goodIn_r _ [10, 11, 12, 13, 14, 15, 16, 17, 18, 19, 20, 21, 22, 23, 24, 25, 26, 27, 28, 29, 30, 31, 32, 33, 34, 35, 36, 37, 38, 39, 40, 41, 42, 43, 44, 45, 46, 47, 48, 49, 50, 51, 52, 53, 54, 55, 56, 57, 58, 59, 60, 61, 62, 9, 63, 4, 64, 65, 66, 67, 68, 69, 70, 71, 72, 73, 74, 75, 200, 201, 202, 203, 204, 205, 206, 235, 236, 237, 238] (by decide +kernel) (by decide +kernel)
set_option maxRecDepth 20000 in
theorem gX5_tellLess_X5_expectAll : GoodIn wsX5_tellLess (wsV RX5 91 RX5 yX5_expectAll wsX5_expectAll) := goodIn_app (goodIn_of _ (by decide +kernel)) ggX5_tellLess_X5_expectAll
set_option maxRecDepth 20000 in
theorem ggX5_tellLess_X5_expect : GoodIn wsX5_tellLess wsX5_expect := goodIn_r _ [63, 4, 64, 65, 66, 67, 9, 68, 69, 70, 71, 72, 73, 74, 75, 200, 201, 202, 203, 204, 205, 206, 235, 236, 237, 238] (by decide +kernel) (by decide +kernel)
set_option maxRecDepth 20000 in
theorem gX5_tellLess_X5_expect : GoodIn wsX5_tellLess (wsV RX5 55 RX5 yX5_expect wsX5_expect) := goodIn_app (goodIn_of _ (by decide +kernel)) ggX5_tellLess_X5_expect
set_option maxRecDepth 20000 in
theorem ggX5_tellLess_X5_tellBelow : GoodIn wsX5_tellLess wsX5_tellBelow := goodIn_r _ [79, 4, 3, 80, 81, 82, 9, 83, 64, 69, 84, 85, 86, 87, 88, 89, 90, 91, 92, 93, 94, 95, 70, 71, 72, 73, 74, 75, 200, 201, 202, 203, 204, 205, 206, 235, 236, 237, 238] (by decide +kernel) (by decide +kernel)
set_option maxRecDepth 20000 in
theorem gX5_tellLess_X5_tellBelow : GoodIn wsX5_tellLess (wsV RX5 95 RX5 yX5_tellBelow wsX5_tellBelow) := goodIn_app (goodIn_of _ (by decide +kernel)) ggX5_tellLess_X5_tellBelow
set_option maxRecDepth 20000 in
theorem ggX5_tellLess_X5_draftAt : GoodIn wsX5_tellLess wsX5_draftAt := goodIn_r _ [99, 4, 1, 100, 200, 201, 202, 203, 204, 205, 206] (by decide +kernel) (by decide +kernel)
set_option maxRecDepth 20000 in
theorem gX5_tellLess_X5_draftAt : GoodIn wsX5_tellLess (wsV RX5 115 RX5 yX5_draftAt wsX5_draftAt) := goodIn_app (goodIn_of _ (by decide +kernel)) ggX5_tellLess_X5_draftAt
set_option maxRecDepth 20000 in
theorem ggX5_tellLess_X0_kind : GoodIn wsX5_tellLess wsX0_kind := goodIn_r _ [107] (by decide +kernel) (by decide +kernel)
set_option maxRecDepth 20000 in
theorem gX5_tellLess_X0_kind_u122X0 : GoodIn wsX5_tellLess (va_wsO RX5 122 RX0 "FoldedInHalf$Strip" ⟨"FoldedInHalf$Strip", "kind", "()I"⟩ yX0_kind wsX0_kind) := goodIn_app (goodIn_of _ (by decide +kernel)) ggX5_tellLess_X0_kind
set_option maxRecDepth 20000 in
theorem ggX5_tellLess_X1_kind : GoodIn wsX5_tellLess wsX1_kind := goodIn_r _ [112] (by decide +kernel) (by decide +kernel)
set_option maxRecDepth 20000 in
theorem gX5_tellLess_X1_kind_u122X1 : GoodIn wsX5_tellLess (va_wsO RX5 122 RX1 "FoldedInHalf$Strip" ⟨"FoldedInHalf$Strip", "kind", "()I"⟩ yX1_kind wsX1_kind) := goodIn_app (goodIn_of _ (by decide +kernel)) ggX5_tellLess_X1_kind
set_option maxRecDepth 20000 in
theorem ggX5_tellLess_X2_kind : GoodIn wsX5_tellLess wsX2_kind := goodIn_r _ [116] (by decide +kernel) (by decide +kernel)
set_option maxRecDepth 20000 in
theorem gX5_tellLess_X2_kind_u122X2 : GoodIn wsX5_tellLess (va_wsO RX5 122 RX2 "FoldedInHalf$Strip" ⟨"FoldedInHalf$Strip", "kind", "()I"⟩ yX2_kind wsX2_kind) := goodIn_app (goodIn_of _ (by decide +kernel)) ggX5_tellLess_X2_kind
set_option maxRecDepth 20000 in
theorem ggX5_tellLess_X4_kind : GoodIn wsX5_tellLess wsX4_kind := goodIn_r _ [120] (by decide +kernel) (by decide +kernel)
set_option maxRecDepth 20000 in
theorem gX5_tellLess_X4_kind_u122X4 : GoodIn wsX5_tellLess (va_wsO RX5 122 RX4 "FoldedInHalf$Strip" ⟨"FoldedInHalf$Strip", "kind", "()I"⟩ yX4_kind wsX4_kind) := goodIn_app (goodIn_of _ (by decide +kernel)) ggX5_tellLess_X4_kind
set_option maxRecDepth 20000 in
theorem ggX5_tellLess_X6_kind : GoodIn wsX5_tellLess wsX6_kind := goodIn_r _ [124] (by decide +kernel) (by decide +kernel)
set_option maxRecDepth 20000 in
theorem gX5_tellLess_X6_kind_u122X6 : GoodIn wsX5_tellLess (va_wsO RX5 122 RX6 "FoldedInHalf$Strip" ⟨"FoldedInHalf$Strip", "kind", "()I"⟩ yX6_kind wsX6_kind) := goodIn_app (goodIn_of _ (by decide +kernel)) ggX5_tellLess_X6_kind
set_option maxRecDepth 20000 in
theorem ggX5_tellLess_X8_kind : GoodIn wsX5_tellLess wsX8_kind := goodIn_r _ [108] (by decide +kernel) (by decide +kernel)
set_option maxRecDepth 20000 in
theorem gX5_tellLess_X8_kind : GoodIn wsX5_tellLess (wsV RX5 122 RX8 yX8_kind wsX8_kind) := goodIn_app (goodIn_of _ (by decide +kernel)) ggX5_tellLess_X8_kind
set_option maxRecDepth 20000 in
theorem ggX5_tellLess_X9_kind : GoodIn wsX5_tellLess wsX9_kind := goodIn_r _ [132] (by decide +kernel) (by decide +kernel)
set_option maxRecDepth 20000 in
theorem gX5_tellLess_X9_kind_u122X9 : GoodIn wsX5_tellLess (va_wsO RX5 122 RX9 "FoldedInHalf$Strip" ⟨"FoldedInHalf$Strip", "kind", "()I"⟩ yX9_kind wsX9_kind) := goodIn_app (goodIn_of _ (by decide +kernel)) ggX5_tellLess_X9_kind
set_option maxRecDepth 20000 in
theorem ggX5_tellLess_X8_lessWord : GoodIn wsX5_tellLess wsX8_lessWord := goodIn_r _ [137, 138, 139, 207, 208, 209, 210, 211, 212, 213, 214, 215, 216, 217, 218, 219, 220, 221, 222, 223, 224, 225, 226, 227, 228, 229, 230, 231, 232, 233, 234] (by decide +kernel) (by decide +kernel)
set_option maxRecDepth 20000 in
theorem gX5_tellLess_X8_lessWord_u133X0 : GoodIn wsX5_tellLess (va_wsU RX5 133 RX0 "FoldedInHalf$Strip" ⟨"FoldedInHalf$Strip", "lessWord", "()J"⟩ yX8_lessWord wsX8_lessWord) := goodIn_app (goodIn_of _ (by decide +kernel)) ggX5_tellLess_X8_lessWord
set_option maxRecDepth 20000 in
theorem gX5_tellLess_X8_lessWord_u133X1 : GoodIn wsX5_tellLess (va_wsU RX5 133 RX1 "FoldedInHalf$Strip" ⟨"FoldedInHalf$Strip", "lessWord", "()J"⟩ yX8_lessWord wsX8_lessWord) := goodIn_app (goodIn_of _ (by decide +kernel)) ggX5_tellLess_X8_lessWord
set_option maxRecDepth 20000 in
theorem gX5_tellLess_X8_lessWord_u133X2 : GoodIn wsX5_tellLess (va_wsU RX5 133 RX2 "FoldedInHalf$Strip" ⟨"FoldedInHalf$Strip", "lessWord", "()J"⟩ yX8_lessWord wsX8_lessWord) := goodIn_app (goodIn_of _ (by decide +kernel)) ggX5_tellLess_X8_lessWord
set_option maxRecDepth 20000 in
theorem gX5_tellLess_X8_lessWord_u133X4 : GoodIn wsX5_tellLess (va_wsU RX5 133 RX4 "FoldedInHalf$Strip" ⟨"FoldedInHalf$Strip", "lessWord", "()J"⟩ yX8_lessWord wsX8_lessWord) := goodIn_app (goodIn_of _ (by decide +kernel)) ggX5_tellLess_X8_lessWord
set_option maxRecDepth 20000 in
theorem gX5_tellLess_X8_lessWord_u133X6 : GoodIn wsX5_tellLess (va_wsU RX5 133 RX6 "FoldedInHalf$Strip" ⟨"FoldedInHalf$Strip", "lessWord", "()J"⟩ yX8_lessWord wsX8_lessWord) := goodIn_app (goodIn_of _ (by decide +kernel)) ggX5_tellLess_X8_lessWord
set_option maxRecDepth 20000 in
theorem gX5_tellLess_X8_lessWord : GoodIn wsX5_tellLess (wsV RX5 133 RX8 yX8_lessWord wsX8_lessWord) := goodIn_app (goodIn_of _ (by decide +kernel)) ggX5_tellLess_X8_lessWord
set_option maxRecDepth 20000 in
theorem gX5_tellLess_X8_lessWord_u133X9 : GoodIn wsX5_tellLess (va_wsU RX5 133 RX9 "FoldedInHalf$Strip" ⟨"FoldedInHalf$Strip", "lessWord", "()J"⟩ yX8_lessWord wsX8_lessWord) := goodIn_app (goodIn_of _ (by decide +kernel)) ggX5_tellLess_X8_lessWord
set_option maxRecDepth 20000 in
theorem ggX5_tellLess_X11_make : GoodIn wsX5_tellLess wsX11_make := goodIn_r _ [149, 150, 151, 123, 152, 153, 131, 154, 155, 111, 156, 157, 106, 158, 159, 115, 160, 161, 119, 162, 163, 128, 164, 165, 166, 167, 168, 169, 170, 171, 172, 173, 174, 139, 138, 175, 176, 177, 178, 179, 180, 181, 182, 183, 184, 185, 186, 187, 188, 189, 190, 191, 192, 193, 194, 195, 223, 224, 225, 226, 231, 232, 233, 234, 211, 212, 213, 214, 207, 208, 209, 210, 215, 216, 217, 218, 219, 220, 221, 222, 227, 228, 229, 230] (by decide +kernel) (by decide +kernel)
set_option maxRecDepth 20000 in
theorem gX5_tellLess_X11_make_n105 : GoodIn wsX5_tellLess (wsX11_make) := ggX5_tellLess_X11_make
set_option maxRecDepth 20000 in
theorem ggX5_tellLess_X5_putDraft : GoodIn wsX5_tellLess wsX5_putDraft := goodIn_r _ [199, 100, 200, 201, 202, 203, 204, 205, 206] (by decide +kernel) (by decide +kernel)
set_option maxRecDepth 20000 in
theorem gX5_tellLess_X5_putDraft : GoodIn wsX5_tellLess (wsV RX5 109 RX5 yX5_putDraft wsX5_putDraft) := goodIn_app (goodIn_of _ (by decide +kernel)) ggX5_tellLess_X5_putDraft
theorem dX5_tellLess_0 : decode cX5_tellLess 0 = .ok (.aload_n 0, 1) := by decide +kernel
theorem dX5_tellLess_1 : decode cX5_tellLess 1 = .ok (.ldc 131, 2) := by decide +kernel
theorem dX5_tellLess_3 : decode cX5_tellLess 3 = .ok (.invokevirtual 91, 3) := by decide +kernel
theorem dX5_tellLess_6 : decode cX5_tellLess 6 = .ok (.aload_n 0, 1) := by decide +kernel
theorem dX5_tellLess_7 : decode cX5_tellLess 7 = .ok (.bipush 32, 2) := by decide +kernel
theorem dX5_tellLess_9 : decode cX5_tellLess 9 = .ok (.invokevirtual 55, 3) := by decide +kernel
theorem dX5_tellLess_12 : decode cX5_tellLess 12 = .ok (.aload_n 0, 1) := by decide +kernel
theorem dX5_tellLess_13 : decode cX5_tellLess 13 = .ok (.aload_n 0, 1) := by decide +kernel
theorem dX5_tellLess_14 : decode cX5_tellLess 14 = .ok (.getfield 17, 3) := by decide +kernel
theorem dX5_tellLess_17 : decode cX5_tellLess 17 = .ok (.invokevirtual 95, 3) := by decide +kernel
theorem dX5_tellLess_20 : decode cX5_tellLess 20 = .ok (.istore_n 1, 1) := by decide +kernel
theorem dX5_tellLess_21 : decode cX5_tellLess 21 = .ok (.aload_n 0, 1) := by decide +kernel
theorem dX5_tellLess_22 : decode cX5_tellLess 22 = .ok (.iload_n 1, 1) := by decide +kernel
theorem dX5_tellLess_23 : decode cX5_tellLess 23 = .ok (.invokevirtual 115, 3) := by decide +kernel
theorem dX5_tellLess_26 : decode cX5_tellLess 26 = .ok (.astore_n 2, 1) := by decide +kernel
theorem dX5_tellLess_27 : decode cX5_tellLess 27 = .ok (.aload_n 2, 1) := by decide +kernel
theorem dX5_tellLess_28 : decode cX5_tellLess 28 = .ok (.ifnull 22, 3) := by decide +kernel
theorem dX5_tellLess_31 : decode cX5_tellLess 31 = .ok (.aload_n 2, 1) := by decide +kernel
theorem dX5_tellLess_32 : decode cX5_tellLess 32 = .ok (.getfield 119, 3) := by decide +kernel
theorem dX5_tellLess_35 : decode cX5_tellLess 35 = .ok (.iconst 2, 1) := by decide +kernel
theorem dX5_tellLess_36 : decode cX5_tellLess 36 = .ok (.if_icmp .ge 14, 3) := by decide +kernel
theorem dX5_tellLess_39 : decode cX5_tellLess 39 = .ok (.aload_n 0, 1) := by decide +kernel
theorem dX5_tellLess_40 : decode cX5_tellLess 40 = .ok (.aload_n 0, 1) := by decide +kernel
theorem dX5_tellLess_41 : decode cX5_tellLess 41 = .ok (.getfield 34, 3) := by decide +kernel
theorem dX5_tellLess_44 : decode cX5_tellLess 44 = .ok (.putfield 24, 3) := by decide +kernel
theorem dX5_tellLess_47 : decode cX5_tellLess 47 = .ok (.goto 34, 3) := by decide +kernel
theorem dX5_tellLess_50 : decode cX5_tellLess 50 = .ok (.aload_n 2, 1) := by decide +kernel
theorem dX5_tellLess_51 : decode cX5_tellLess 51 = .ok (.ifnull 30, 3) := by decide +kernel
theorem dX5_tellLess_54 : decode cX5_tellLess 54 = .ok (.aload_n 0, 1) := by decide +kernel
theorem dX5_tellLess_55 : decode cX5_tellLess 55 = .ok (.iload_n 1, 1) := by decide +kernel
theorem dX5_tellLess_56 : decode cX5_tellLess 56 = .ok (.aload_n 2, 1) := by decide +kernel
theorem dX5_tellLess_57 : decode cX5_tellLess 57 = .ok (.invokevirtual 122, 3) := by decide +kernel
theorem dX5_tellLess_60 : decode cX5_tellLess 60 = .ok (.iload_n 1, 1) := by decide +kernel
theorem dX5_tellLess_61 : decode cX5_tellLess 61 = .ok (.aload_n 2, 1) := by decide +kernel
theorem dX5_tellLess_62 : decode cX5_tellLess 62 = .ok (.getfield 125, 3) := by decide +kernel
theorem dX5_tellLess_65 : decode cX5_tellLess 65 = .ok (.aload_n 2, 1) := by decide +kernel
theorem dX5_tellLess_66 : decode cX5_tellLess 66 = .ok (.getfield 119, 3) := by decide +kernel
theorem dX5_tellLess_69 : decode cX5_tellLess 69 = .ok (.iconst 1, 1) := by decide +kernel
theorem dX5_tellLess_70 : decode cX5_tellLess 70 = .ok (.isub, 1) := by decide +kernel
theorem dX5_tellLess_71 : decode cX5_tellLess 71 = .ok (.aload_n 2, 1) := by decide +kernel
theorem dX5_tellLess_72 : decode cX5_tellLess 72 = .ok (.invokevirtual 133, 3) := by decide +kernel
theorem dX5_tellLess_75 : decode cX5_tellLess 75 = .ok (.invokestatic 105, 3) := by decide +kernel
theorem dX5_tellLess_78 : decode cX5_tellLess 78 = .ok (.invokevirtual 109, 3) := by decide +kernel
theorem dX5_tellLess_81 : decode cX5_tellLess 81 = .ok (.return_, 1) := by decide +kernel
set_option maxRecDepth 20000 in
theorem ggX6_init_X8_init : GoodIn wsX6_init wsX8_init := goodIn_r _ [4, 5, 6, 7, 8, 9, 10, 11, 12, 13, 14, 15, 16, 17, 18, 19, 20, 21, 22, 23, 24, 25, 26, 27, 28, 29, 30, 31, 32, 33, 34, 35, 36, 37, 38, 39] (by decide +kernel) (by decide +kernel)
set_option maxRecDepth 20000 in
theorem gX6_init_X8_init : GoodIn wsX6_init (wsX8_init) := ggX6_init_X8_init
theorem dX6_init_0 : decode cX6_init 0 = .ok (.aload_n 0, 1) := by decide +kernel
theorem dX6_init_1 : decode cX6_init 1 = .ok (.iload_n 1, 1) := by decide +kernel
theorem dX6_init_2 : decode cX6_init 2 = .ok (.iload_n 2, 1) := by decide +kernel
theorem dX6_init_3 : decode cX6_init 3 = .ok (.iload_n 3, 1) := by decide +kernel
theorem dX6_init_4 : decode cX6_init 4 = .ok (.lload 4, 2) := by decide +kernel
theorem dX6_init_6 : decode cX6_init 6 = .ok (.invokespecial 3, 3) := by decide +kernel
theorem dX6_init_9 : decode cX6_init 9 = .ok (.return_, 1) := by decide +kernel
theorem dX6_kind_0 : decode cX6_kind 0 = .ok (.iconst 1, 1) := by decide +kernel
theorem dX6_kind_1 : decode cX6_kind 1 = .ok (.ireturn, 1) := by decide +kernel
theorem dX6_isOf_0 : decode cX6_isOf 0 = .ok (.iload_n 1, 1) := by decide +kernel
theorem dX6_isOf_1 : decode cX6_isOf 1 = .ok (.iconst 1, 1) := by decide +kernel
theorem dX6_isOf_2 : decode cX6_isOf 2 = .ok (.if_icmp .eq 7, 3) := by decide +kernel
theorem dX6_isOf_5 : decode cX6_isOf 5 = .ok (.iload_n 1, 1) := by decide +kernel
theorem dX6_isOf_6 : decode cX6_isOf 6 = .ok (.ifCond .ne 7, 3) := by decide +kernel
theorem dX6_isOf_9 : decode cX6_isOf 9 = .ok (.iconst 1, 1) := by decide +kernel
theorem dX6_isOf_10 : decode cX6_isOf 10 = .ok (.goto 4, 3) := by decide +kernel
theorem dX6_isOf_13 : decode cX6_isOf 13 = .ok (.iconst 0, 1) := by decide +kernel
theorem dX6_isOf_14 : decode cX6_isOf 14 = .ok (.ireturn, 1) := by decide +kernel
theorem dX6_bend_0 : decode cX6_bend 0 = .ok (.aload_n 0, 1) := by decide +kernel
theorem dX6_bend_1 : decode cX6_bend 1 = .ok (.getfield 9, 3) := by decide +kernel
theorem dX6_bend_4 : decode cX6_bend 4 = .ok (.iconst 1, 1) := by decide +kernel
theorem dX6_bend_5 : decode cX6_bend 5 = .ok (.iand, 1) := by decide +kernel
theorem dX6_bend_6 : decode cX6_bend 6 = .ok (.ireturn, 1) := by decide +kernel
set_option maxRecDepth 20000 in
theorem ggX6_folds_X11_began : GoodIn wsX6_folds wsX11_began := goodIn_r _ [6, 7, 8, 44, 45, 46, 47, 48, 49, 50, 51, 52, 53, 54, 55, 56] (by decide +kernel) (by decide +kernel)
set_option maxRecDepth 20000 in
theorem gX6_folds_X11_began_n15 : GoodIn wsX6_folds (wsX11_began) := ggX6_folds_X11_began
set_option maxRecDepth 20000 in
theorem ggX6_folds_X8_folds : GoodIn wsX6_folds wsX8_folds := goodIn_r _ [14, 15, 3, 4, 5, 6, 7, 8, 16, 17, 18, 19, 20, 21, 22, 23, 24, 25, 26, 27, 28, 29, 30, 31, 32, 33, 34, 35, 36, 37, 38, 39, 40, 41, 42, 43, 44, 45, 46, 47, 48, 49, 50, 51, 52, 53, 54, 55, 56] (by decide +kernel) (by decide +kernel)
set_option maxRecDepth 20000 in
theorem gX6_folds_X8_folds_s19 : GoodIn wsX6_folds (va_wsSU RX6 19 yX8_folds wsX8_folds) := goodIn_app (goodIn_of _ (by decide +kernel)) ggX6_folds_X8_folds
theorem dX6_folds_0 : decode cX6_folds 0 = .ok (.aload_n 2, 1) := by decide +kernel
theorem dX6_folds_1 : decode cX6_folds 1 = .ok (.bipush 20, 2) := by decide +kernel
theorem dX6_folds_3 : decode cX6_folds 3 = .ok (.invokevirtual 15, 3) := by decide +kernel
theorem dX6_folds_6 : decode cX6_folds 6 = .ok (.aload_n 0, 1) := by decide +kernel
theorem dX6_folds_7 : decode cX6_folds 7 = .ok (.iload_n 1, 1) := by decide +kernel
theorem dX6_folds_8 : decode cX6_folds 8 = .ok (.aload_n 2, 1) := by decide +kernel
theorem dX6_folds_9 : decode cX6_folds 9 = .ok (.invokespecial 19, 3) := by decide +kernel
theorem dX6_folds_12 : decode cX6_folds 12 = .ok (.aload_n 0, 1) := by decide +kernel
theorem dX6_folds_13 : decode cX6_folds 13 = .ok (.getfield 9, 3) := by decide +kernel
theorem dX6_folds_16 : decode cX6_folds 16 = .ok (.iadd, 1) := by decide +kernel
theorem dX6_folds_17 : decode cX6_folds 17 = .ok (.ireturn, 1) := by decide +kernel
theorem dX7_init_0 : decode cX7_init 0 = .ok (.aload_n 0, 1) := by decide +kernel
theorem dX7_init_1 : decode cX7_init 1 = .ok (.invokespecial 3, 3) := by decide +kernel
theorem dX7_init_4 : decode cX7_init 4 = .ok (.aload_n 0, 1) := by decide +kernel
theorem dX7_init_5 : decode cX7_init 5 = .ok (.sipush 160, 3) := by decide +kernel
theorem dX7_init_8 : decode cX7_init 8 = .ok (.newarray .long, 2) := by decide +kernel
theorem dX7_init_10 : decode cX7_init 10 = .ok (.putfield 9, 3) := by decide +kernel
theorem dX7_init_13 : decode cX7_init 13 = .ok (.aload_n 0, 1) := by decide +kernel
theorem dX7_init_14 : decode cX7_init 14 = .ok (.iconst 0, 1) := by decide +kernel
theorem dX7_init_15 : decode cX7_init 15 = .ok (.putfield 15, 3) := by decide +kernel
theorem dX7_init_18 : decode cX7_init 18 = .ok (.aload_n 0, 1) := by decide +kernel
theorem dX7_init_19 : decode cX7_init 19 = .ok (.iconst (-1), 1) := by decide +kernel
theorem dX7_init_20 : decode cX7_init 20 = .ok (.putfield 19, 3) := by decide +kernel
theorem dX7_init_23 : decode cX7_init 23 = .ok (.aload_n 0, 1) := by decide +kernel
theorem dX7_init_24 : decode cX7_init 24 = .ok (.iconst (-1), 1) := by decide +kernel
theorem dX7_init_25 : decode cX7_init 25 = .ok (.putfield 22, 3) := by decide +kernel
theorem dX7_init_28 : decode cX7_init 28 = .ok (.return_, 1) := by decide +kernel
set_option maxRecDepth 20000 in
theorem ggX7_holdRow_J7_fill_d0a16 : GoodIn wsX7_holdRow wsJ7_fill_d0a16 := goodIn_r _ [8] (by decide +kernel) (by decide +kernel)
set_option maxRecDepth 20000 in
theorem gX7_holdRow_J7_fill_d0a16 : GoodIn wsX7_holdRow (va_wsS RX7 25 yJ7_fill_d0a16 wsJ7_fill_d0a16) := goodIn_app (goodIn_of _ (by decide +kernel)) ggX7_holdRow_J7_fill_d0a16
theorem dX7_holdRow_0 : decode cX7_holdRow 0 = .ok (.aload_n 0, 1) := by decide +kernel
theorem dX7_holdRow_1 : decode cX7_holdRow 1 = .ok (.getfield 9, 3) := by decide +kernel
theorem dX7_holdRow_4 : decode cX7_holdRow 4 = .ok (.lconst 0, 1) := by decide +kernel
theorem dX7_holdRow_5 : decode cX7_holdRow 5 = .ok (.invokestatic 25, 3) := by decide +kernel
theorem dX7_holdRow_8 : decode cX7_holdRow 8 = .ok (.aload_n 0, 1) := by decide +kernel
theorem dX7_holdRow_9 : decode cX7_holdRow 9 = .ok (.iconst (-1), 1) := by decide +kernel
theorem dX7_holdRow_10 : decode cX7_holdRow 10 = .ok (.putfield 22, 3) := by decide +kernel
theorem dX7_holdRow_13 : decode cX7_holdRow 13 = .ok (.aload_n 0, 1) := by decide +kernel
theorem dX7_holdRow_14 : decode cX7_holdRow 14 = .ok (.iload_n 1, 1) := by decide +kernel
theorem dX7_holdRow_15 : decode cX7_holdRow 15 = .ok (.putfield 19, 3) := by decide +kernel
theorem dX7_holdRow_18 : decode cX7_holdRow 18 = .ok (.aload_n 0, 1) := by decide +kernel
theorem dX7_holdRow_19 : decode cX7_holdRow 19 = .ok (.iload_n 2, 1) := by decide +kernel
theorem dX7_holdRow_20 : decode cX7_holdRow 20 = .ok (.putfield 15, 3) := by decide +kernel
theorem dX7_holdRow_23 : decode cX7_holdRow 23 = .ok (.return_, 1) := by decide +kernel
theorem dX7_holdStrip_0 : decode cX7_holdStrip 0 = .ok (.aload_n 0, 1) := by decide +kernel
theorem dX7_holdStrip_1 : decode cX7_holdStrip 1 = .ok (.iload_n 1, 1) := by decide +kernel
theorem dX7_holdStrip_2 : decode cX7_holdStrip 2 = .ok (.putfield 22, 3) := by decide +kernel
theorem dX7_holdStrip_5 : decode cX7_holdStrip 5 = .ok (.aload_n 0, 1) := by decide +kernel
theorem dX7_holdStrip_6 : decode cX7_holdStrip 6 = .ok (.iconst (-1), 1) := by decide +kernel
theorem dX7_holdStrip_7 : decode cX7_holdStrip 7 = .ok (.putfield 19, 3) := by decide +kernel
theorem dX7_holdStrip_10 : decode cX7_holdStrip 10 = .ok (.aload_n 0, 1) := by decide +kernel
theorem dX7_holdStrip_11 : decode cX7_holdStrip 11 = .ok (.iconst 0, 1) := by decide +kernel
theorem dX7_holdStrip_12 : decode cX7_holdStrip 12 = .ok (.putfield 15, 3) := by decide +kernel
theorem dX7_holdStrip_15 : decode cX7_holdStrip 15 = .ok (.return_, 1) := by decide +kernel
set_option maxRecDepth 20000 in
theorem ggX7_put_X7_narrowed : GoodIn wsX7_put wsX7_narrowed := goodIn_r _ [7, 8, 9, 10, 11, 12] (by decide +kernel) (by decide +kernel)
set_option maxRecDepth 20000 in
theorem gX7_put_X7_narrowed : GoodIn wsX7_put (wsV RX7 31 RX7 yX7_narrowed wsX7_narrowed) := goodIn_app (goodIn_of _ (by decide +kernel)) ggX7_put_X7_narrowed
theorem dX7_put_0 : decode cX7_put 0 = .ok (.iload_n 1, 1) := by decide +kernel
theorem dX7_put_1 : decode cX7_put 1 = .ok (.ifCond .lt 29, 3) := by decide +kernel
theorem dX7_put_4 : decode cX7_put 4 = .ok (.iload_n 1, 1) := by decide +kernel
theorem dX7_put_5 : decode cX7_put 5 = .ok (.aload_n 0, 1) := by decide +kernel
theorem dX7_put_6 : decode cX7_put 6 = .ok (.getfield 15, 3) := by decide +kernel
theorem dX7_put_9 : decode cX7_put 9 = .ok (.if_icmp .ge 21, 3) := by decide +kernel
theorem dX7_put_12 : decode cX7_put 12 = .ok (.iload_n 1, 1) := by decide +kernel
theorem dX7_put_13 : decode cX7_put 13 = .ok (.sipush 160, 3) := by decide +kernel
theorem dX7_put_16 : decode cX7_put 16 = .ok (.if_icmp .ge 14, 3) := by decide +kernel
theorem dX7_put_19 : decode cX7_put 19 = .ok (.aload_n 0, 1) := by decide +kernel
theorem dX7_put_20 : decode cX7_put 20 = .ok (.getfield 9, 3) := by decide +kernel
theorem dX7_put_23 : decode cX7_put 23 = .ok (.iload_n 1, 1) := by decide +kernel
theorem dX7_put_24 : decode cX7_put 24 = .ok (.aload_n 0, 1) := by decide +kernel
theorem dX7_put_25 : decode cX7_put 25 = .ok (.lload_n 2, 1) := by decide +kernel
theorem dX7_put_26 : decode cX7_put 26 = .ok (.invokevirtual 31, 3) := by decide +kernel
theorem dX7_put_29 : decode cX7_put 29 = .ok (.lastore, 1) := by decide +kernel
theorem dX7_put_30 : decode cX7_put 30 = .ok (.return_, 1) := by decide +kernel
theorem dX7_narrowed_0 : decode cX7_narrowed 0 = .ok (.aload_n 0, 1) := by decide +kernel
theorem dX7_narrowed_1 : decode cX7_narrowed 1 = .ok (.getfield 19, 3) := by decide +kernel
theorem dX7_narrowed_4 : decode cX7_narrowed 4 = .ok (.tableswitch 42 0 2 #[28, 33, 38], 28) := by decide +kernel
theorem dX7_narrowed_32 : decode cX7_narrowed 32 = .ok (.lload_n 1, 1) := by decide +kernel
theorem dX7_narrowed_33 : decode cX7_narrowed 33 = .ok (.l2i, 1) := by decide +kernel
theorem dX7_narrowed_34 : decode cX7_narrowed 34 = .ok (.i2b, 1) := by decide +kernel
theorem dX7_narrowed_35 : decode cX7_narrowed 35 = .ok (.i2l, 1) := by decide +kernel
theorem dX7_narrowed_36 : decode cX7_narrowed 36 = .ok (.lreturn, 1) := by decide +kernel
theorem dX7_narrowed_37 : decode cX7_narrowed 37 = .ok (.lload_n 1, 1) := by decide +kernel
theorem dX7_narrowed_38 : decode cX7_narrowed 38 = .ok (.l2i, 1) := by decide +kernel
theorem dX7_narrowed_39 : decode cX7_narrowed 39 = .ok (.i2s, 1) := by decide +kernel
theorem dX7_narrowed_40 : decode cX7_narrowed 40 = .ok (.i2l, 1) := by decide +kernel
theorem dX7_narrowed_41 : decode cX7_narrowed 41 = .ok (.lreturn, 1) := by decide +kernel
theorem dX7_narrowed_42 : decode cX7_narrowed 42 = .ok (.lload_n 1, 1) := by decide +kernel
theorem dX7_narrowed_43 : decode cX7_narrowed 43 = .ok (.l2i, 1) := by decide +kernel
theorem dX7_narrowed_44 : decode cX7_narrowed 44 = .ok (.i2l, 1) := by decide +kernel
theorem dX7_narrowed_45 : decode cX7_narrowed 45 = .ok (.lreturn, 1) := by decide +kernel
theorem dX7_narrowed_46 : decode cX7_narrowed 46 = .ok (.lload_n 1, 1) := by decide +kernel
theorem dX7_narrowed_47 : decode cX7_narrowed 47 = .ok (.lreturn, 1) := by decide +kernel
theorem dX7_at_0 : decode cX7_at 0 = .ok (.iload_n 1, 1) := by decide +kernel
theorem dX7_at_1 : decode cX7_at 1 = .ok (.ifCond .lt 27, 3) := by decide +kernel
theorem dX7_at_4 : decode cX7_at 4 = .ok (.iload_n 1, 1) := by decide +kernel
theorem dX7_at_5 : decode cX7_at 5 = .ok (.aload_n 0, 1) := by decide +kernel
theorem dX7_at_6 : decode cX7_at 6 = .ok (.getfield 15, 3) := by decide +kernel
theorem dX7_at_9 : decode cX7_at 9 = .ok (.if_icmp .ge 19, 3) := by decide +kernel
theorem dX7_at_12 : decode cX7_at 12 = .ok (.iload_n 1, 1) := by decide +kernel
theorem dX7_at_13 : decode cX7_at 13 = .ok (.sipush 160, 3) := by decide +kernel
theorem dX7_at_16 : decode cX7_at 16 = .ok (.if_icmp .ge 12, 3) := by decide +kernel
theorem dX7_at_19 : decode cX7_at 19 = .ok (.aload_n 0, 1) := by decide +kernel
theorem dX7_at_20 : decode cX7_at 20 = .ok (.getfield 9, 3) := by decide +kernel
theorem dX7_at_23 : decode cX7_at 23 = .ok (.iload_n 1, 1) := by decide +kernel
theorem dX7_at_24 : decode cX7_at 24 = .ok (.laload, 1) := by decide +kernel
theorem dX7_at_25 : decode cX7_at 25 = .ok (.goto 4, 3) := by decide +kernel
theorem dX7_at_28 : decode cX7_at 28 = .ok (.lconst 0, 1) := by decide +kernel
theorem dX7_at_29 : decode cX7_at 29 = .ok (.lreturn, 1) := by decide +kernel
theorem dX7_number_0 : decode cX7_number 0 = .ok (.iload_n 1, 1) := by decide +kernel
theorem dX7_number_1 : decode cX7_number 1 = .ok (.ifCond .lt 28, 3) := by decide +kernel
theorem dX7_number_4 : decode cX7_number 4 = .ok (.iload_n 1, 1) := by decide +kernel
theorem dX7_number_5 : decode cX7_number 5 = .ok (.aload_n 0, 1) := by decide +kernel
theorem dX7_number_6 : decode cX7_number 6 = .ok (.getfield 15, 3) := by decide +kernel
theorem dX7_number_9 : decode cX7_number 9 = .ok (.if_icmp .ge 20, 3) := by decide +kernel
theorem dX7_number_12 : decode cX7_number 12 = .ok (.iload_n 1, 1) := by decide +kernel
theorem dX7_number_13 : decode cX7_number 13 = .ok (.sipush 160, 3) := by decide +kernel
theorem dX7_number_16 : decode cX7_number 16 = .ok (.if_icmp .ge 13, 3) := by decide +kernel
theorem dX7_number_19 : decode cX7_number 19 = .ok (.aload_n 0, 1) := by decide +kernel
theorem dX7_number_20 : decode cX7_number 20 = .ok (.getfield 9, 3) := by decide +kernel
theorem dX7_number_23 : decode cX7_number 23 = .ok (.iload_n 1, 1) := by decide +kernel
theorem dX7_number_24 : decode cX7_number 24 = .ok (.laload, 1) := by decide +kernel
theorem dX7_number_25 : decode cX7_number 25 = .ok (.l2i, 1) := by decide +kernel
theorem dX7_number_26 : decode cX7_number 26 = .ok (.goto 4, 3) := by decide +kernel
theorem dX7_number_29 : decode cX7_number 29 = .ok (.iconst 0, 1) := by decide +kernel
theorem dX7_number_30 : decode cX7_number 30 = .ok (.ireturn, 1) := by decide +kernel
theorem dX7_hasPiece_0 : decode cX7_hasPiece 0 = .ok (.iload_n 1, 1) := by decide +kernel
theorem dX7_hasPiece_1 : decode cX7_hasPiece 1 = .ok (.ifCond .lt 31, 3) := by decide +kernel
theorem dX7_hasPiece_4 : decode cX7_hasPiece 4 = .ok (.iload_n 2, 1) := by decide +kernel
theorem dX7_hasPiece_5 : decode cX7_hasPiece 5 = .ok (.ifCond .lt 27, 3) := by decide +kernel
theorem dX7_hasPiece_8 : decode cX7_hasPiece 8 = .ok (.aload_n 0, 1) := by decide +kernel
theorem dX7_hasPiece_9 : decode cX7_hasPiece 9 = .ok (.getfield 15, 3) := by decide +kernel
theorem dX7_hasPiece_12 : decode cX7_hasPiece 12 = .ok (.sipush 160, 3) := by decide +kernel
theorem dX7_hasPiece_15 : decode cX7_hasPiece 15 = .ok (.if_icmp .gt 17, 3) := by decide +kernel
theorem dX7_hasPiece_18 : decode cX7_hasPiece 18 = .ok (.iload_n 1, 1) := by decide +kernel
theorem dX7_hasPiece_19 : decode cX7_hasPiece 19 = .ok (.aload_n 0, 1) := by decide +kernel
theorem dX7_hasPiece_20 : decode cX7_hasPiece 20 = .ok (.getfield 15, 3) := by decide +kernel
theorem dX7_hasPiece_23 : decode cX7_hasPiece 23 = .ok (.iload_n 2, 1) := by decide +kernel
theorem dX7_hasPiece_24 : decode cX7_hasPiece 24 = .ok (.isub, 1) := by decide +kernel
theorem dX7_hasPiece_25 : decode cX7_hasPiece 25 = .ok (.if_icmp .gt 7, 3) := by decide +kernel
theorem dX7_hasPiece_28 : decode cX7_hasPiece 28 = .ok (.iconst 1, 1) := by decide +kernel
theorem dX7_hasPiece_29 : decode cX7_hasPiece 29 = .ok (.goto 4, 3) := by decide +kernel
theorem dX7_hasPiece_32 : decode cX7_hasPiece 32 = .ok (.iconst 0, 1) := by decide +kernel
theorem dX7_hasPiece_33 : decode cX7_hasPiece 33 = .ok (.ireturn, 1) := by decide +kernel
theorem dX8_init_0 : decode cX8_init 0 = .ok (.aload_n 0, 1) := by decide +kernel
theorem dX8_init_1 : decode cX8_init 1 = .ok (.invokespecial 3, 3) := by decide +kernel
theorem dX8_init_4 : decode cX8_init 4 = .ok (.aload_n 0, 1) := by decide +kernel
theorem dX8_init_5 : decode cX8_init 5 = .ok (.iload_n 1, 1) := by decide +kernel
theorem dX8_init_6 : decode cX8_init 6 = .ok (.putfield 9, 3) := by decide +kernel
theorem dX8_init_9 : decode cX8_init 9 = .ok (.aload_n 0, 1) := by decide +kernel
theorem dX8_init_10 : decode cX8_init 10 = .ok (.iload_n 2, 1) := by decide +kernel
theorem dX8_init_11 : decode cX8_init 11 = .ok (.putfield 15, 3) := by decide +kernel
theorem dX8_init_14 : decode cX8_init 14 = .ok (.aload_n 0, 1) := by decide +kernel
theorem dX8_init_15 : decode cX8_init 15 = .ok (.iload_n 3, 1) := by decide +kernel
theorem dX8_init_16 : decode cX8_init 16 = .ok (.putfield 18, 3) := by decide +kernel
theorem dX8_init_19 : decode cX8_init 19 = .ok (.aload_n 0, 1) := by decide +kernel
theorem dX8_init_20 : decode cX8_init 20 = .ok (.lload 4, 2) := by decide +kernel
theorem dX8_init_22 : decode cX8_init 22 = .ok (.putfield 21, 3) := by decide +kernel
theorem dX8_init_25 : decode cX8_init 25 = .ok (.return_, 1) := by decide +kernel
theorem dX8_kind_0 : decode cX8_kind 0 = .ok (.iconst 0, 1) := by decide +kernel
theorem dX8_kind_1 : decode cX8_kind 1 = .ok (.ireturn, 1) := by decide +kernel
theorem dX8_isOf_0 : decode cX8_isOf 0 = .ok (.iload_n 1, 1) := by decide +kernel
theorem dX8_isOf_1 : decode cX8_isOf 1 = .ok (.ifCond .ne 7, 3) := by decide +kernel
theorem dX8_isOf_4 : decode cX8_isOf 4 = .ok (.iconst 1, 1) := by decide +kernel
theorem dX8_isOf_5 : decode cX8_isOf 5 = .ok (.goto 4, 3) := by decide +kernel
theorem dX8_isOf_8 : decode cX8_isOf 8 = .ok (.iconst 0, 1) := by decide +kernel
theorem dX8_isOf_9 : decode cX8_isOf 9 = .ok (.ireturn, 1) := by decide +kernel
theorem dX8_hasLevel_0 : decode cX8_hasLevel 0 = .ok (.iload_n 1, 1) := by decide +kernel
theorem dX8_hasLevel_1 : decode cX8_hasLevel 1 = .ok (.ifCond .lt 15, 3) := by decide +kernel
theorem dX8_hasLevel_4 : decode cX8_hasLevel 4 = .ok (.iload_n 1, 1) := by decide +kernel
theorem dX8_hasLevel_5 : decode cX8_hasLevel 5 = .ok (.aload_n 0, 1) := by decide +kernel
theorem dX8_hasLevel_6 : decode cX8_hasLevel 6 = .ok (.getfield 18, 3) := by decide +kernel
theorem dX8_hasLevel_9 : decode cX8_hasLevel 9 = .ok (.if_icmp .ge 7, 3) := by decide +kernel
theorem dX8_hasLevel_12 : decode cX8_hasLevel 12 = .ok (.iconst 1, 1) := by decide +kernel
theorem dX8_hasLevel_13 : decode cX8_hasLevel 13 = .ok (.goto 4, 3) := by decide +kernel
theorem dX8_hasLevel_16 : decode cX8_hasLevel 16 = .ok (.iconst 0, 1) := by decide +kernel
theorem dX8_hasLevel_17 : decode cX8_hasLevel 17 = .ok (.ireturn, 1) := by decide +kernel
theorem dX8_letter_0 : decode cX8_letter 0 = .ok (.aload_n 0, 1) := by decide +kernel
theorem dX8_letter_1 : decode cX8_letter 1 = .ok (.getfield 21, 3) := by decide +kernel
theorem dX8_letter_4 : decode cX8_letter 4 = .ok (.iload_n 1, 1) := by decide +kernel
theorem dX8_letter_5 : decode cX8_letter 5 = .ok (.lushr, 1) := by decide +kernel
theorem dX8_letter_6 : decode cX8_letter 6 = .ok (.lconst 1, 1) := by decide +kernel
theorem dX8_letter_7 : decode cX8_letter 7 = .ok (.land, 1) := by decide +kernel
theorem dX8_letter_8 : decode cX8_letter 8 = .ok (.l2i, 1) := by decide +kernel
theorem dX8_letter_9 : decode cX8_letter 9 = .ok (.ireturn, 1) := by decide +kernel
set_option maxRecDepth 20000 in
theorem ggX8_bend_X8_letter : GoodIn wsX8_bend wsX8_letter := goodIn_r _ [6, 7, 15, 16, 17, 18, 19, 20, 21, 22, 23, 24, 25, 26, 27, 28, 29, 30, 31, 32, 33, 34, 35, 36, 37, 38, 39, 40, 41, 42] (by decide +kernel) (by decide +kernel)
set_option maxRecDepth 20000 in
theorem gX8_bend_X8_letter_u25X0 : GoodIn wsX8_bend (va_wsU RX8 25 RX0 "FoldedInHalf$Strip" ⟨"FoldedInHalf$Strip", "letter", "(I)I"⟩ yX8_letter wsX8_letter) := goodIn_app (goodIn_of _ (by decide +kernel)) ggX8_bend_X8_letter
set_option maxRecDepth 20000 in
theorem gX8_bend_X8_letter_u25X1 : GoodIn wsX8_bend (va_wsU RX8 25 RX1 "FoldedInHalf$Strip" ⟨"FoldedInHalf$Strip", "letter", "(I)I"⟩ yX8_letter wsX8_letter) := goodIn_app (goodIn_of _ (by decide +kernel)) ggX8_bend_X8_letter
set_option maxRecDepth 20000 in
theorem gX8_bend_X8_letter_u25X2 : GoodIn wsX8_bend (va_wsU RX8 25 RX2 "FoldedInHalf$Strip" ⟨"FoldedInHalf$Strip", "letter", "(I)I"⟩ yX8_letter wsX8_letter) := goodIn_app (goodIn_of _ (by decide +kernel)) ggX8_bend_X8_letter
set_option maxRecDepth 20000 in
theorem gX8_bend_X8_letter_u25X4 : GoodIn wsX8_bend (va_wsU RX8 25 RX4 "FoldedInHalf$Strip" ⟨"FoldedInHalf$Strip", "letter", "(I)I"⟩ yX8_letter wsX8_letter) := goodIn_app (goodIn_of _ (by decide +kernel)) ggX8_bend_X8_letter
set_option maxRecDepth 20000 in
theorem gX8_bend_X8_letter_u25X6 : GoodIn wsX8_bend (va_wsU RX8 25 RX6 "FoldedInHalf$Strip" ⟨"FoldedInHalf$Strip", "letter", "(I)I"⟩ yX8_letter wsX8_letter) := goodIn_app (goodIn_of _ (by decide +kernel)) ggX8_bend_X8_letter
set_option maxRecDepth 20000 in
theorem gX8_bend_X8_letter : GoodIn wsX8_bend (wsV RX8 25 RX8 yX8_letter wsX8_letter) := goodIn_app (goodIn_of _ (by decide +kernel)) ggX8_bend_X8_letter
set_option maxRecDepth 20000 in
theorem gX8_bend_X8_letter_u25X9 : GoodIn wsX8_bend (va_wsU RX8 25 RX9 "FoldedInHalf$Strip" ⟨"FoldedInHalf$Strip", "letter", "(I)I"⟩ yX8_letter wsX8_letter) := goodIn_app (goodIn_of _ (by decide +kernel)) ggX8_bend_X8_letter
theorem dX8_bend_0 : decode cX8_bend 0 = .ok (.aload_n 0, 1) := by decide +kernel
theorem dX8_bend_1 : decode cX8_bend 1 = .ok (.iload_n 1, 1) := by decide +kernel
theorem dX8_bend_2 : decode cX8_bend 2 = .ok (.invokevirtual 25, 3) := by decide +kernel
theorem dX8_bend_5 : decode cX8_bend 5 = .ok (.ireturn, 1) := by decide +kernel
theorem dX8_turnedWord_0 : decode cX8_turnedWord 0 = .ok (.aload_n 0, 1) := by decide +kernel
theorem dX8_turnedWord_1 : decode cX8_turnedWord 1 = .ok (.getfield 21, 3) := by decide +kernel
theorem dX8_turnedWord_4 : decode cX8_turnedWord 4 = .ok (.lconst 1, 1) := by decide +kernel
theorem dX8_turnedWord_5 : decode cX8_turnedWord 5 = .ok (.iload_n 1, 1) := by decide +kernel
theorem dX8_turnedWord_6 : decode cX8_turnedWord 6 = .ok (.lshl, 1) := by decide +kernel
theorem dX8_turnedWord_7 : decode cX8_turnedWord 7 = .ok (.lxor, 1) := by decide +kernel
theorem dX8_turnedWord_8 : decode cX8_turnedWord 8 = .ok (.lreturn, 1) := by decide +kernel
theorem dX8_lessWord_0 : decode cX8_lessWord 0 = .ok (.aload_n 0, 1) := by decide +kernel
theorem dX8_lessWord_1 : decode cX8_lessWord 1 = .ok (.getfield 21, 3) := by decide +kernel
theorem dX8_lessWord_4 : decode cX8_lessWord 4 = .ok (.lconst 1, 1) := by decide +kernel
theorem dX8_lessWord_5 : decode cX8_lessWord 5 = .ok (.aload_n 0, 1) := by decide +kernel
theorem dX8_lessWord_6 : decode cX8_lessWord 6 = .ok (.getfield 18, 3) := by decide +kernel
theorem dX8_lessWord_9 : decode cX8_lessWord 9 = .ok (.iconst 1, 1) := by decide +kernel
theorem dX8_lessWord_10 : decode cX8_lessWord 10 = .ok (.isub, 1) := by decide +kernel
theorem dX8_lessWord_11 : decode cX8_lessWord 11 = .ok (.lshl, 1) := by decide +kernel
theorem dX8_lessWord_12 : decode cX8_lessWord 12 = .ok (.lconst 1, 1) := by decide +kernel
theorem dX8_lessWord_13 : decode cX8_lessWord 13 = .ok (.lsub, 1) := by decide +kernel
theorem dX8_lessWord_14 : decode cX8_lessWord 14 = .ok (.land, 1) := by decide +kernel
theorem dX8_lessWord_15 : decode cX8_lessWord 15 = .ok (.lreturn, 1) := by decide +kernel
theorem dX8_wholeSides_0 : decode cX8_wholeSides 0 = .ok (.lconst 1, 1) := by decide +kernel
theorem dX8_wholeSides_1 : decode cX8_wholeSides 1 = .ok (.aload_n 0, 1) := by decide +kernel
theorem dX8_wholeSides_2 : decode cX8_wholeSides 2 = .ok (.getfield 18, 3) := by decide +kernel
theorem dX8_wholeSides_5 : decode cX8_wholeSides 5 = .ok (.lshl, 1) := by decide +kernel
theorem dX8_wholeSides_6 : decode cX8_wholeSides 6 = .ok (.lreturn, 1) := by decide +kernel
theorem dX8_behind_0 : decode cX8_behind 0 = .ok (.lconst 0, 1) := by decide +kernel
theorem dX8_behind_1 : decode cX8_behind 1 = .ok (.lreturn, 1) := by decide +kernel
set_option maxRecDepth 20000 in
theorem ggX8_corners_X8_wholeSides : GoodIn wsX8_corners wsX8_wholeSides := goodIn_r _ [6, 7, 44, 45, 46, 47, 48, 49, 50, 51, 52, 53, 54, 55, 56, 57, 58, 59, 60, 61, 62, 63, 64, 65, 66, 67, 68, 69, 70, 71] (by decide +kernel) (by decide +kernel)
set_option maxRecDepth 20000 in
theorem gX8_corners_X8_wholeSides_u29X0 : GoodIn wsX8_corners (va_wsU RX8 29 RX0 "FoldedInHalf$Strip" ⟨"FoldedInHalf$Strip", "wholeSides", "()J"⟩ yX8_wholeSides wsX8_wholeSides) := goodIn_app (goodIn_of _ (by decide +kernel)) ggX8_corners_X8_wholeSides
set_option maxRecDepth 20000 in
theorem gX8_corners_X8_wholeSides_u29X1 : GoodIn wsX8_corners (va_wsU RX8 29 RX1 "FoldedInHalf$Strip" ⟨"FoldedInHalf$Strip", "wholeSides", "()J"⟩ yX8_wholeSides wsX8_wholeSides) := goodIn_app (goodIn_of _ (by decide +kernel)) ggX8_corners_X8_wholeSides
set_option maxRecDepth 20000 in
theorem gX8_corners_X8_wholeSides_u29X2 : GoodIn wsX8_corners (va_wsU RX8 29 RX2 "FoldedInHalf$Strip" ⟨"FoldedInHalf$Strip", "wholeSides", "()J"⟩ yX8_wholeSides wsX8_wholeSides) := goodIn_app (goodIn_of _ (by decide +kernel)) ggX8_corners_X8_wholeSides
set_option maxRecDepth 20000 in
theorem gX8_corners_X8_wholeSides_u29X4 : GoodIn wsX8_corners (va_wsU RX8 29 RX4 "FoldedInHalf$Strip" ⟨"FoldedInHalf$Strip", "wholeSides", "()J"⟩ yX8_wholeSides wsX8_wholeSides) := goodIn_app (goodIn_of _ (by decide +kernel)) ggX8_corners_X8_wholeSides
set_option maxRecDepth 20000 in
theorem gX8_corners_X8_wholeSides_u29X6 : GoodIn wsX8_corners (va_wsU RX8 29 RX6 "FoldedInHalf$Strip" ⟨"FoldedInHalf$Strip", "wholeSides", "()J"⟩ yX8_wholeSides wsX8_wholeSides) := goodIn_app (goodIn_of _ (by decide +kernel)) ggX8_corners_X8_wholeSides
set_option maxRecDepth 20000 in
theorem gX8_corners_X8_wholeSides : GoodIn wsX8_corners (wsV RX8 29 RX8 yX8_wholeSides wsX8_wholeSides) := goodIn_app (goodIn_of _ (by decide +kernel)) ggX8_corners_X8_wholeSides
set_option maxRecDepth 20000 in
theorem ggX8_corners_X9_wholeSides : GoodIn wsX8_corners wsX9_wholeSides := goodIn_r _ [18, 19, 20, 21, 44, 45, 46, 47, 48, 49, 50, 51, 52, 53, 54, 55, 56, 57, 58, 59, 60, 61, 62, 63, 64, 65, 66, 67, 68, 69, 70, 71] (by decide +kernel) (by decide +kernel)
set_option maxRecDepth 20000 in
theorem gX8_corners_X9_wholeSides_u29X9 : GoodIn wsX8_corners (va_wsO RX8 29 RX9 "FoldedInHalf$Strip" ⟨"FoldedInHalf$Strip", "wholeSides", "()J"⟩ yX9_wholeSides wsX9_wholeSides) := goodIn_app (goodIn_of _ (by decide +kernel)) ggX8_corners_X9_wholeSides
set_option maxRecDepth 20000 in
theorem ggX8_corners_X1_behind : GoodIn wsX8_corners wsX1_behind := goodIn_r _ [28, 29, 30, 31, 32, 33, 4, 5, 6, 7, 34, 44, 45, 46, 47, 48, 49, 50, 51, 52, 53, 54, 55, 56, 57, 58, 59, 60, 61, 62, 63, 64, 65, 66, 67, 68, 69, 70, 71] (by decide +kernel) (by decide +kernel)
set_option maxRecDepth 20000 in
theorem gX8_corners_X1_behind_u33X0 : GoodIn wsX8_corners (va_wsO RX8 33 RX0 "FoldedInHalf$Strip" ⟨"FoldedInHalf$Strip", "behind", "()J"⟩ yX1_behind wsX1_behind) := goodIn_app (goodIn_of _ (by decide +kernel)) ggX8_corners_X1_behind
set_option maxRecDepth 20000 in
theorem gX8_corners_X1_behind_u33X1 : GoodIn wsX8_corners (va_wsO RX8 33 RX1 "FoldedInHalf$Strip" ⟨"FoldedInHalf$Strip", "behind", "()J"⟩ yX1_behind wsX1_behind) := goodIn_app (goodIn_of _ (by decide +kernel)) ggX8_corners_X1_behind
set_option maxRecDepth 20000 in
theorem ggX8_corners_X8_behind : GoodIn wsX8_corners wsX8_behind := goodIn_r _ [35] (by decide +kernel) (by decide +kernel)
set_option maxRecDepth 20000 in
theorem gX8_corners_X8_behind_u33X2 : GoodIn wsX8_corners (va_wsU RX8 33 RX2 "FoldedInHalf$Strip" ⟨"FoldedInHalf$Strip", "behind", "()J"⟩ yX8_behind wsX8_behind) := goodIn_app (goodIn_of _ (by decide +kernel)) ggX8_corners_X8_behind
set_option maxRecDepth 20000 in
theorem gX8_corners_X8_behind_u33X4 : GoodIn wsX8_corners (va_wsU RX8 33 RX4 "FoldedInHalf$Strip" ⟨"FoldedInHalf$Strip", "behind", "()J"⟩ yX8_behind wsX8_behind) := goodIn_app (goodIn_of _ (by decide +kernel)) ggX8_corners_X8_behind
set_option maxRecDepth 20000 in
theorem gX8_corners_X8_behind_u33X6 : GoodIn wsX8_corners (va_wsU RX8 33 RX6 "FoldedInHalf$Strip" ⟨"FoldedInHalf$Strip", "behind", "()J"⟩ yX8_behind wsX8_behind) := goodIn_app (goodIn_of _ (by decide +kernel)) ggX8_corners_X8_behind
set_option maxRecDepth 20000 in
theorem gX8_corners_X8_behind : GoodIn wsX8_corners (wsV RX8 33 RX8 yX8_behind wsX8_behind) := goodIn_app (goodIn_of _ (by decide +kernel)) ggX8_corners_X8_behind
set_option maxRecDepth 20000 in
theorem gX8_corners_X8_behind_u33X9 : GoodIn wsX8_corners (va_wsU RX8 33 RX9 "FoldedInHalf$Strip" ⟨"FoldedInHalf$Strip", "behind", "()J"⟩ yX8_behind wsX8_behind) := goodIn_app (goodIn_of _ (by decide +kernel)) ggX8_corners_X8_behind
theorem dX8_corners_0 : decode cX8_corners 0 = .ok (.aload_n 0, 1) := by decide +kernel
theorem dX8_corners_1 : decode cX8_corners 1 = .ok (.invokevirtual 29, 3) := by decide +kernel
theorem dX8_corners_4 : decode cX8_corners 4 = .ok (.lconst 1, 1) := by decide +kernel
theorem dX8_corners_5 : decode cX8_corners 5 = .ok (.lsub, 1) := by decide +kernel
theorem dX8_corners_6 : decode cX8_corners 6 = .ok (.aload_n 0, 1) := by decide +kernel
theorem dX8_corners_7 : decode cX8_corners 7 = .ok (.invokevirtual 33, 3) := by decide +kernel
theorem dX8_corners_10 : decode cX8_corners 10 = .ok (.lsub, 1) := by decide +kernel
theorem dX8_corners_11 : decode cX8_corners 11 = .ok (.lreturn, 1) := by decide +kernel
set_option maxRecDepth 20000 in
theorem ggX8_sides_X8_corners : GoodIn wsX8_sides wsX8_corners := goodIn_r _ [6, 7, 8, 9, 10, 5, 11, 12, 13, 14, 15, 16, 17, 18, 19, 20, 21, 22, 23, 24, 25, 26, 27, 28, 29, 30, 31, 32, 33, 34, 35, 36, 37, 38, 39, 40, 41, 42, 43, 44, 45, 46, 47, 48, 56, 57, 58, 59, 60, 61, 62, 63, 64, 65, 66, 67, 68, 69, 70, 71, 72, 73, 74, 75, 76, 77, 78, 79, 80, 81, 82, 83] (by decide +kernel) (by decide +kernel)
set_option maxRecDepth 20000 in
theorem gX8_sides_X8_corners_u36X0 : GoodIn wsX8_sides (va_wsU RX8 36 RX0 "FoldedInHalf$Strip" ⟨"FoldedInHalf$Strip", "corners", "()J"⟩ yX8_corners wsX8_corners) := goodIn_app (goodIn_of _ (by decide +kernel)) ggX8_sides_X8_corners
set_option maxRecDepth 20000 in
theorem gX8_sides_X8_corners_u36X1 : GoodIn wsX8_sides (va_wsU RX8 36 RX1 "FoldedInHalf$Strip" ⟨"FoldedInHalf$Strip", "corners", "()J"⟩ yX8_corners wsX8_corners) := goodIn_app (goodIn_of _ (by decide +kernel)) ggX8_sides_X8_corners
set_option maxRecDepth 20000 in
theorem gX8_sides_X8_corners_u36X2 : GoodIn wsX8_sides (va_wsU RX8 36 RX2 "FoldedInHalf$Strip" ⟨"FoldedInHalf$Strip", "corners", "()J"⟩ yX8_corners wsX8_corners) := goodIn_app (goodIn_of _ (by decide +kernel)) ggX8_sides_X8_corners
set_option maxRecDepth 20000 in
theorem gX8_sides_X8_corners_u36X4 : GoodIn wsX8_sides (va_wsU RX8 36 RX4 "FoldedInHalf$Strip" ⟨"FoldedInHalf$Strip", "corners", "()J"⟩ yX8_corners wsX8_corners) := goodIn_app (goodIn_of _ (by decide +kernel)) ggX8_sides_X8_corners
set_option maxRecDepth 20000 in
theorem gX8_sides_X8_corners_u36X6 : GoodIn wsX8_sides (va_wsU RX8 36 RX6 "FoldedInHalf$Strip" ⟨"FoldedInHalf$Strip", "corners", "()J"⟩ yX8_corners wsX8_corners) := goodIn_app (goodIn_of _ (by decide +kernel)) ggX8_sides_X8_corners
set_option maxRecDepth 20000 in
theorem gX8_sides_X8_corners : GoodIn wsX8_sides (wsV RX8 36 RX8 yX8_corners wsX8_corners) := goodIn_app (goodIn_of _ (by decide +kernel)) ggX8_sides_X8_corners
set_option maxRecDepth 20000 in
theorem gX8_sides_X8_corners_u36X9 : GoodIn wsX8_sides (va_wsU RX8 36 RX9 "FoldedInHalf$Strip" ⟨"FoldedInHalf$Strip", "corners", "()J"⟩ yX8_corners wsX8_corners) := goodIn_app (goodIn_of _ (by decide +kernel)) ggX8_sides_X8_corners
theorem dX8_sides_0 : decode cX8_sides 0 = .ok (.aload_n 0, 1) := by decide +kernel
theorem dX8_sides_1 : decode cX8_sides 1 = .ok (.invokevirtual 36, 3) := by decide +kernel
theorem dX8_sides_4 : decode cX8_sides 4 = .ok (.lconst 1, 1) := by decide +kernel
theorem dX8_sides_5 : decode cX8_sides 5 = .ok (.ladd, 1) := by decide +kernel
theorem dX8_sides_6 : decode cX8_sides 6 = .ok (.lreturn, 1) := by decide +kernel
set_option maxRecDepth 20000 in
theorem ggX8_creaseAt_X8_bend : GoodIn wsX8_creaseAt wsX8_bend := goodIn_r _ [7, 8, 9, 10, 11, 6, 12, 13, 14, 15, 16, 17, 18, 19, 20, 41, 42, 43, 44, 45, 46, 47, 48, 49, 50, 51, 52, 53, 54, 55, 56, 57, 58, 59, 60, 61, 62, 63, 64, 65, 66, 67, 68] (by decide +kernel) (by decide +kernel)
set_option maxRecDepth 20000 in
theorem gX8_creaseAt_X8_bend_u41X0 : GoodIn wsX8_creaseAt (va_wsU RX8 41 RX0 "FoldedInHalf$Strip" ⟨"FoldedInHalf$Strip", "bend", "(I)I"⟩ yX8_bend wsX8_bend) := goodIn_app (goodIn_of _ (by decide +kernel)) ggX8_creaseAt_X8_bend
set_option maxRecDepth 20000 in
theorem gX8_creaseAt_X8_bend_u41X1 : GoodIn wsX8_creaseAt (va_wsU RX8 41 RX1 "FoldedInHalf$Strip" ⟨"FoldedInHalf$Strip", "bend", "(I)I"⟩ yX8_bend wsX8_bend) := goodIn_app (goodIn_of _ (by decide +kernel)) ggX8_creaseAt_X8_bend
set_option maxRecDepth 20000 in
theorem ggX8_creaseAt_X2_bend : GoodIn wsX8_creaseAt wsX2_bend := goodIn_r _ [26, 27, 28, 29, 11, 6, 12, 13, 30, 41, 42, 43, 44, 45, 46, 47, 48, 49, 50, 51, 52, 53, 54, 55, 56, 57, 58, 59, 60, 61, 62, 63, 64, 65, 66, 67, 68] (by decide +kernel) (by decide +kernel)
set_option maxRecDepth 20000 in
theorem gX8_creaseAt_X2_bend_u41X2 : GoodIn wsX8_creaseAt (va_wsO RX8 41 RX2 "FoldedInHalf$Strip" ⟨"FoldedInHalf$Strip", "bend", "(I)I"⟩ yX2_bend wsX2_bend) := goodIn_app (goodIn_of _ (by decide +kernel)) ggX8_creaseAt_X2_bend
set_option maxRecDepth 20000 in
theorem gX8_creaseAt_X2_bend_u41X4 : GoodIn wsX8_creaseAt (va_wsO RX8 41 RX4 "FoldedInHalf$Strip" ⟨"FoldedInHalf$Strip", "bend", "(I)I"⟩ yX2_bend wsX2_bend) := goodIn_app (goodIn_of _ (by decide +kernel)) ggX8_creaseAt_X2_bend
set_option maxRecDepth 20000 in
theorem ggX8_creaseAt_X6_bend : GoodIn wsX8_creaseAt wsX6_bend := goodIn_r _ [35, 36, 37, 41, 42, 43, 44, 45, 46, 47, 48, 49, 50, 51, 52, 53, 54, 55, 56, 57, 58, 59, 60, 61, 62, 63, 64, 65, 66, 67, 68] (by decide +kernel) (by decide +kernel)
set_option maxRecDepth 20000 in
theorem gX8_creaseAt_X6_bend_u41X6 : GoodIn wsX8_creaseAt (va_wsO RX8 41 RX6 "FoldedInHalf$Strip" ⟨"FoldedInHalf$Strip", "bend", "(I)I"⟩ yX6_bend wsX6_bend) := goodIn_app (goodIn_of _ (by decide +kernel)) ggX8_creaseAt_X6_bend
set_option maxRecDepth 20000 in
theorem gX8_creaseAt_X8_bend : GoodIn wsX8_creaseAt (wsV RX8 41 RX8 yX8_bend wsX8_bend) := goodIn_app (goodIn_of _ (by decide +kernel)) ggX8_creaseAt_X8_bend
set_option maxRecDepth 20000 in
theorem gX8_creaseAt_X8_bend_u41X9 : GoodIn wsX8_creaseAt (va_wsU RX8 41 RX9 "FoldedInHalf$Strip" ⟨"FoldedInHalf$Strip", "bend", "(I)I"⟩ yX8_bend wsX8_bend) := goodIn_app (goodIn_of _ (by decide +kernel)) ggX8_creaseAt_X8_bend
theorem dX8_creaseAt_0 : decode cX8_creaseAt 0 = .ok (.lload_n 1, 1) := by decide +kernel
theorem dX8_creaseAt_1 : decode cX8_creaseAt 1 = .ok (.lstore_n 3, 1) := by decide +kernel
theorem dX8_creaseAt_2 : decode cX8_creaseAt 2 = .ok (.iconst 0, 1) := by decide +kernel
theorem dX8_creaseAt_3 : decode cX8_creaseAt 3 = .ok (.istore 5, 2) := by decide +kernel
theorem dX8_creaseAt_5 : decode cX8_creaseAt 5 = .ok (.lload_n 3, 1) := by decide +kernel
theorem dX8_creaseAt_6 : decode cX8_creaseAt 6 = .ok (.lconst 1, 1) := by decide +kernel
theorem dX8_creaseAt_7 : decode cX8_creaseAt 7 = .ok (.land, 1) := by decide +kernel
theorem dX8_creaseAt_8 : decode cX8_creaseAt 8 = .ok (.lconst 0, 1) := by decide +kernel
theorem dX8_creaseAt_9 : decode cX8_creaseAt 9 = .ok (.lcmp, 1) := by decide +kernel
theorem dX8_creaseAt_10 : decode cX8_creaseAt 10 = .ok (.ifCond .ne 20, 3) := by decide +kernel
theorem dX8_creaseAt_13 : decode cX8_creaseAt 13 = .ok (.iload 5, 2) := by decide +kernel
theorem dX8_creaseAt_15 : decode cX8_creaseAt 15 = .ok (.bipush 40, 2) := by decide +kernel
theorem dX8_creaseAt_17 : decode cX8_creaseAt 17 = .ok (.if_icmp .ge 13, 3) := by decide +kernel
theorem dX8_creaseAt_20 : decode cX8_creaseAt 20 = .ok (.lload_n 3, 1) := by decide +kernel
theorem dX8_creaseAt_21 : decode cX8_creaseAt 21 = .ok (.iconst 1, 1) := by decide +kernel
theorem dX8_creaseAt_22 : decode cX8_creaseAt 22 = .ok (.lshr, 1) := by decide +kernel
theorem dX8_creaseAt_23 : decode cX8_creaseAt 23 = .ok (.lstore_n 3, 1) := by decide +kernel
theorem dX8_creaseAt_24 : decode cX8_creaseAt 24 = .ok (.iinc 5 1, 3) := by decide +kernel
theorem dX8_creaseAt_27 : decode cX8_creaseAt 27 = .ok (.goto (-22), 3) := by decide +kernel
theorem dX8_creaseAt_30 : decode cX8_creaseAt 30 = .ok (.lload_n 3, 1) := by decide +kernel
theorem dX8_creaseAt_31 : decode cX8_creaseAt 31 = .ok (.ldc2_w 39, 3) := by decide +kernel
theorem dX8_creaseAt_34 : decode cX8_creaseAt 34 = .ok (.land, 1) := by decide +kernel
theorem dX8_creaseAt_35 : decode cX8_creaseAt 35 = .ok (.lconst 1, 1) := by decide +kernel
theorem dX8_creaseAt_36 : decode cX8_creaseAt 36 = .ok (.lcmp, 1) := by decide +kernel
theorem dX8_creaseAt_37 : decode cX8_creaseAt 37 = .ok (.ifCond .ne 12, 3) := by decide +kernel
theorem dX8_creaseAt_40 : decode cX8_creaseAt 40 = .ok (.aload_n 0, 1) := by decide +kernel
theorem dX8_creaseAt_41 : decode cX8_creaseAt 41 = .ok (.iload 5, 2) := by decide +kernel
theorem dX8_creaseAt_43 : decode cX8_creaseAt 43 = .ok (.invokevirtual 41, 3) := by decide +kernel
theorem dX8_creaseAt_46 : decode cX8_creaseAt 46 = .ok (.goto 11, 3) := by decide +kernel
theorem dX8_creaseAt_49 : decode cX8_creaseAt 49 = .ok (.iconst 1, 1) := by decide +kernel
theorem dX8_creaseAt_50 : decode cX8_creaseAt 50 = .ok (.aload_n 0, 1) := by decide +kernel
theorem dX8_creaseAt_51 : decode cX8_creaseAt 51 = .ok (.iload 5, 2) := by decide +kernel
theorem dX8_creaseAt_53 : decode cX8_creaseAt 53 = .ok (.invokevirtual 41, 3) := by decide +kernel
theorem dX8_creaseAt_56 : decode cX8_creaseAt 56 = .ok (.isub, 1) := by decide +kernel
theorem dX8_creaseAt_57 : decode cX8_creaseAt 57 = .ok (.ireturn, 1) := by decide +kernel
set_option maxRecDepth 20000 in
theorem ggX8_walkTo_X8_wholeWalkTo : GoodIn wsX8_walkTo wsX8_wholeWalkTo := goodIn_r _ [6, 7, 8, 9, 10, 11, 12, 13, 14, 5, 15, 16, 17, 18, 19, 20, 21, 22, 23, 24, 25, 26, 27, 28, 29, 30, 31, 32, 33, 34, 35, 36, 37, 38, 39, 40, 41, 42, 43, 44, 45, 46, 47, 48, 49, 50, 51, 52, 53, 54, 55, 56, 57, 58, 59, 60, 61, 62, 63, 64, 65, 66, 67, 68, 69, 70, 71, 72, 73, 74, 75, 76, 77, 78, 79, 80, 81, 82, 83, 84, 85, 86, 87, 88, 89, 90, 91, 92, 93, 94, 95, 96, 97, 98, 99, 100, 101, 102, 103, 104, 105, 106, 107, 108, 109, 110, 111, 112, 113, 114, 115, 116, 117, 118, 126, 127, 128, 129, 130, 131, 132, 133, 134, 135, 136, 137, 138, 139, 140, 141, 142, 143, 144, 145, 146, 147, 148, 149, 150, 151, 152, 153, 154, 155, 156, 157, 158, 159] (by decide +kernel) (by decide +kernel)
set_option maxRecDepth 20000 in
theorem gX8_walkTo_X8_wholeWalkTo_u44X0 : GoodIn wsX8_walkTo (va_wsU RX8 44 RX0 "FoldedInHalf$Strip" ⟨"FoldedInHalf$Strip", "wholeWalkTo", "(J)LFoldedInHalf$Walk;"⟩ yX8_wholeWalkTo wsX8_wholeWalkTo) := goodIn_app (goodIn_of _ (by decide +kernel)) ggX8_walkTo_X8_wholeWalkTo
set_option maxRecDepth 20000 in
theorem gX8_walkTo_X8_wholeWalkTo_u44X1 : GoodIn wsX8_walkTo (va_wsU RX8 44 RX1 "FoldedInHalf$Strip" ⟨"FoldedInHalf$Strip", "wholeWalkTo", "(J)LFoldedInHalf$Walk;"⟩ yX8_wholeWalkTo wsX8_wholeWalkTo) := goodIn_app (goodIn_of _ (by decide +kernel)) ggX8_walkTo_X8_wholeWalkTo
set_option maxRecDepth 20000 in
theorem gX8_walkTo_X8_wholeWalkTo_u44X2 : GoodIn wsX8_walkTo (va_wsU RX8 44 RX2 "FoldedInHalf$Strip" ⟨"FoldedInHalf$Strip", "wholeWalkTo", "(J)LFoldedInHalf$Walk;"⟩ yX8_wholeWalkTo wsX8_wholeWalkTo) := goodIn_app (goodIn_of _ (by decide +kernel)) ggX8_walkTo_X8_wholeWalkTo
set_option maxRecDepth 20000 in
theorem gX8_walkTo_X8_wholeWalkTo_u44X4 : GoodIn wsX8_walkTo (va_wsU RX8 44 RX4 "FoldedInHalf$Strip" ⟨"FoldedInHalf$Strip", "wholeWalkTo", "(J)LFoldedInHalf$Walk;"⟩ yX8_wholeWalkTo wsX8_wholeWalkTo) := goodIn_app (goodIn_of _ (by decide +kernel)) ggX8_walkTo_X8_wholeWalkTo
set_option maxRecDepth 20000 in
theorem gX8_walkTo_X8_wholeWalkTo_u44X6 : GoodIn wsX8_walkTo (va_wsU RX8 44 RX6 "FoldedInHalf$Strip" ⟨"FoldedInHalf$Strip", "wholeWalkTo", "(J)LFoldedInHalf$Walk;"⟩ yX8_wholeWalkTo wsX8_wholeWalkTo) := goodIn_app (goodIn_of _ (by decide +kernel)) ggX8_walkTo_X8_wholeWalkTo
set_option maxRecDepth 20000 in
theorem gX8_walkTo_X8_wholeWalkTo : GoodIn wsX8_walkTo (wsV RX8 44 RX8 yX8_wholeWalkTo wsX8_wholeWalkTo) := goodIn_app (goodIn_of _ (by decide +kernel)) ggX8_walkTo_X8_wholeWalkTo
set_option maxRecDepth 20000 in
theorem gX8_walkTo_X8_wholeWalkTo_u44X9 : GoodIn wsX8_walkTo (va_wsU RX8 44 RX9 "FoldedInHalf$Strip" ⟨"FoldedInHalf$Strip", "wholeWalkTo", "(J)LFoldedInHalf$Walk;"⟩ yX8_wholeWalkTo wsX8_wholeWalkTo) := goodIn_app (goodIn_of _ (by decide +kernel)) ggX8_walkTo_X8_wholeWalkTo
theorem dX8_walkTo_0 : decode cX8_walkTo 0 = .ok (.aload_n 0, 1) := by decide +kernel
theorem dX8_walkTo_1 : decode cX8_walkTo 1 = .ok (.lload_n 1, 1) := by decide +kernel
theorem dX8_walkTo_2 : decode cX8_walkTo 2 = .ok (.invokevirtual 44, 3) := by decide +kernel
theorem dX8_walkTo_5 : decode cX8_walkTo 5 = .ok (.areturn, 1) := by decide +kernel
set_option maxRecDepth 20000 in
theorem ggX8_wholeWalkTo_X8_corners : GoodIn wsX8_wholeWalkTo wsX8_corners := goodIn_r _ [10, 11, 12, 13, 14, 9, 15, 4, 16, 17, 18, 19, 20, 21, 22, 23, 24, 25, 26, 27, 28, 29, 30, 31, 32, 33, 34, 35, 36, 37, 38, 39, 40, 41, 42, 43, 44, 45, 46, 47, 48, 49, 50, 51, 120, 121, 122, 123, 124, 125, 126, 127, 128, 129, 130, 131, 132, 133, 134, 135, 136, 137, 138, 139, 140, 141, 142, 143, 144, 145, 146, 147] (by decide +kernel) (by decide +kernel)
set_option maxRecDepth 20000 in
theorem gX8_wholeWalkTo_X8_corners_u36X0 : GoodIn wsX8_wholeWalkTo (va_wsU RX8 36 RX0 "FoldedInHalf$Strip" ⟨"FoldedInHalf$Strip", "corners", "()J"⟩ yX8_corners wsX8_corners) := goodIn_app (goodIn_of _ (by decide +kernel)) ggX8_wholeWalkTo_X8_corners
set_option maxRecDepth 20000 in
theorem gX8_wholeWalkTo_X8_corners_u36X1 : GoodIn wsX8_wholeWalkTo (va_wsU RX8 36 RX1 "FoldedInHalf$Strip" ⟨"FoldedInHalf$Strip", "corners", "()J"⟩ yX8_corners wsX8_corners) := goodIn_app (goodIn_of _ (by decide +kernel)) ggX8_wholeWalkTo_X8_corners
set_option maxRecDepth 20000 in
theorem gX8_wholeWalkTo_X8_corners_u36X2 : GoodIn wsX8_wholeWalkTo (va_wsU RX8 36 RX2 "FoldedInHalf$Strip" ⟨"FoldedInHalf$Strip", "corners", "()J"⟩ yX8_corners wsX8_corners) := goodIn_app (goodIn_of _ (by decide +kernel)) ggX8_wholeWalkTo_X8_corners
set_option maxRecDepth 20000 in
theorem gX8_wholeWalkTo_X8_corners_u36X4 : GoodIn wsX8_wholeWalkTo (va_wsU RX8 36 RX4 "FoldedInHalf$Strip" ⟨"FoldedInHalf$Strip", "corners", "()J"⟩ yX8_corners wsX8_corners) := goodIn_app (goodIn_of _ (by decide +kernel)) ggX8_wholeWalkTo_X8_corners
set_option maxRecDepth 20000 in
theorem gX8_wholeWalkTo_X8_corners_u36X6 : GoodIn wsX8_wholeWalkTo (va_wsU RX8 36 RX6 "FoldedInHalf$Strip" ⟨"FoldedInHalf$Strip", "corners", "()J"⟩ yX8_corners wsX8_corners) := goodIn_app (goodIn_of _ (by decide +kernel)) ggX8_wholeWalkTo_X8_corners
set_option maxRecDepth 20000 in
theorem gX8_wholeWalkTo_X8_corners : GoodIn wsX8_wholeWalkTo (wsV RX8 36 RX8 yX8_corners wsX8_corners) := goodIn_app (goodIn_of _ (by decide +kernel)) ggX8_wholeWalkTo_X8_corners
set_option maxRecDepth 20000 in
theorem gX8_wholeWalkTo_X8_corners_u36X9 : GoodIn wsX8_wholeWalkTo (va_wsU RX8 36 RX9 "FoldedInHalf$Strip" ⟨"FoldedInHalf$Strip", "corners", "()J"⟩ yX8_corners wsX8_corners) := goodIn_app (goodIn_of _ (by decide +kernel)) ggX8_wholeWalkTo_X8_corners
set_option maxRecDepth 20000 in
theorem ggX8_wholeWalkTo_X10_init : GoodIn wsX8_wholeWalkTo wsX10_init := goodIn_r _ [60, 61, 62, 63, 64, 65, 66, 67, 68, 69, 114, 115, 116, 117, 118, 119] (by decide +kernel) (by decide +kernel)
set_option maxRecDepth 20000 in
theorem gX8_wholeWalkTo_X10_init_n50 : GoodIn wsX8_wholeWalkTo (wsX10_init) := ggX8_wholeWalkTo_X10_init
set_option maxRecDepth 20000 in
theorem ggX8_wholeWalkTo_X8_bend : GoodIn wsX8_wholeWalkTo wsX8_bend := goodIn_r _ [74, 75, 76, 77, 78, 9, 79, 80, 81, 82, 83, 84, 85, 86, 87, 120, 121, 122, 123, 124, 125, 126, 127, 128, 129, 130, 131, 132, 133, 134, 135, 136, 137, 138, 139, 140, 141, 142, 143, 144, 145, 146, 147] (by decide +kernel) (by decide +kernel)
set_option maxRecDepth 20000 in
theorem gX8_wholeWalkTo_X8_bend_u41X0 : GoodIn wsX8_wholeWalkTo (va_wsU RX8 41 RX0 "FoldedInHalf$Strip" ⟨"FoldedInHalf$Strip", "bend", "(I)I"⟩ yX8_bend wsX8_bend) := goodIn_app (goodIn_of _ (by decide +kernel)) ggX8_wholeWalkTo_X8_bend
set_option maxRecDepth 20000 in
theorem gX8_wholeWalkTo_X8_bend_u41X1 : GoodIn wsX8_wholeWalkTo (va_wsU RX8 41 RX1 "FoldedInHalf$Strip" ⟨"FoldedInHalf$Strip", "bend", "(I)I"⟩ yX8_bend wsX8_bend) := goodIn_app (goodIn_of _ (by decide +kernel)) ggX8_wholeWalkTo_X8_bend
set_option maxRecDepth 20000 in
theorem ggX8_wholeWalkTo_X2_bend : GoodIn wsX8_wholeWalkTo wsX2_bend := goodIn_r _ [93, 94, 95, 96, 78, 9, 79, 80, 97, 120, 121, 122, 123, 124, 125, 126, 127, 128, 129, 130, 131, 132, 133, 134, 135, 136, 137, 138, 139, 140, 141, 142, 143, 144, 145, 146, 147] (by decide +kernel) (by decide +kernel)
set_option maxRecDepth 20000 in
theorem gX8_wholeWalkTo_X2_bend_u41X2 : GoodIn wsX8_wholeWalkTo (va_wsO RX8 41 RX2 "FoldedInHalf$Strip" ⟨"FoldedInHalf$Strip", "bend", "(I)I"⟩ yX2_bend wsX2_bend) := goodIn_app (goodIn_of _ (by decide +kernel)) ggX8_wholeWalkTo_X2_bend
set_option maxRecDepth 20000 in
theorem gX8_wholeWalkTo_X2_bend_u41X4 : GoodIn wsX8_wholeWalkTo (va_wsO RX8 41 RX4 "FoldedInHalf$Strip" ⟨"FoldedInHalf$Strip", "bend", "(I)I"⟩ yX2_bend wsX2_bend) := goodIn_app (goodIn_of _ (by decide +kernel)) ggX8_wholeWalkTo_X2_bend
set_option maxRecDepth 20000 in
theorem ggX8_wholeWalkTo_X6_bend : GoodIn wsX8_wholeWalkTo wsX6_bend := goodIn_r _ [102, 103, 104, 120, 121, 122, 123, 124, 125, 126, 127, 128, 129, 130, 131, 132, 133, 134, 135, 136, 137, 138, 139, 140, 141, 142, 143, 144, 145, 146, 147] (by decide +kernel) (by decide +kernel)
set_option maxRecDepth 20000 in
theorem gX8_wholeWalkTo_X6_bend_u41X6 : GoodIn wsX8_wholeWalkTo (va_wsO RX8 41 RX6 "FoldedInHalf$Strip" ⟨"FoldedInHalf$Strip", "bend", "(I)I"⟩ yX6_bend wsX6_bend) := goodIn_app (goodIn_of _ (by decide +kernel)) ggX8_wholeWalkTo_X6_bend
set_option maxRecDepth 20000 in
theorem gX8_wholeWalkTo_X8_bend : GoodIn wsX8_wholeWalkTo (wsV RX8 41 RX8 yX8_bend wsX8_bend) := goodIn_app (goodIn_of _ (by decide +kernel)) ggX8_wholeWalkTo_X8_bend
set_option maxRecDepth 20000 in
theorem gX8_wholeWalkTo_X8_bend_u41X9 : GoodIn wsX8_wholeWalkTo (va_wsU RX8 41 RX9 "FoldedInHalf$Strip" ⟨"FoldedInHalf$Strip", "bend", "(I)I"⟩ yX8_bend wsX8_bend) := goodIn_app (goodIn_of _ (by decide +kernel)) ggX8_wholeWalkTo_X8_bend
set_option maxRecDepth 20000 in
theorem ggX8_wholeWalkTo_X10_spread : GoodIn wsX8_wholeWalkTo wsX10_spread := goodIn_r _ [110, 65, 66, 114, 115, 116, 117, 118, 119] (by decide +kernel) (by decide +kernel)
set_option maxRecDepth 20000 in
theorem gX8_wholeWalkTo_X10_spread_n59 : GoodIn wsX8_wholeWalkTo (wsX10_spread) := ggX8_wholeWalkTo_X10_spread
set_option maxRecDepth 20000 in
theorem ggX8_wholeWalkTo_X10_move : GoodIn wsX8_wholeWalkTo wsX10_move := goodIn_r _ [113, 65, 67, 66, 114, 115, 116, 117, 118, 119] (by decide +kernel) (by decide +kernel)
set_option maxRecDepth 20000 in
theorem gX8_wholeWalkTo_X10_move_n63 : GoodIn wsX8_wholeWalkTo (wsX10_move) := ggX8_wholeWalkTo_X10_move
theorem dX8_wholeWalkTo_0 : decode cX8_wholeWalkTo 0 = .ok (.new 48, 3) := by decide +kernel
theorem dX8_wholeWalkTo_3 : decode cX8_wholeWalkTo 3 = .ok (.dup, 1) := by decide +kernel
theorem dX8_wholeWalkTo_4 : decode cX8_wholeWalkTo 4 = .ok (.aload_n 0, 1) := by decide +kernel
theorem dX8_wholeWalkTo_5 : decode cX8_wholeWalkTo 5 = .ok (.aload_n 0, 1) := by decide +kernel
theorem dX8_wholeWalkTo_6 : decode cX8_wholeWalkTo 6 = .ok (.invokevirtual 36, 3) := by decide +kernel
theorem dX8_wholeWalkTo_9 : decode cX8_wholeWalkTo 9 = .ok (.invokespecial 50, 3) := by decide +kernel
theorem dX8_wholeWalkTo_12 : decode cX8_wholeWalkTo 12 = .ok (.astore_n 3, 1) := by decide +kernel
theorem dX8_wholeWalkTo_13 : decode cX8_wholeWalkTo 13 = .ok (.aload_n 3, 1) := by decide +kernel
theorem dX8_wholeWalkTo_14 : decode cX8_wholeWalkTo 14 = .ok (.lload_n 1, 1) := by decide +kernel
theorem dX8_wholeWalkTo_15 : decode cX8_wholeWalkTo 15 = .ok (.aload_n 0, 1) := by decide +kernel
theorem dX8_wholeWalkTo_16 : decode cX8_wholeWalkTo 16 = .ok (.getfield 18, 3) := by decide +kernel
theorem dX8_wholeWalkTo_19 : decode cX8_wholeWalkTo 19 = .ok (.lshr, 1) := by decide +kernel
theorem dX8_wholeWalkTo_20 : decode cX8_wholeWalkTo 20 = .ok (.putfield 53, 3) := by decide +kernel
theorem dX8_wholeWalkTo_23 : decode cX8_wholeWalkTo 23 = .ok (.aload_n 0, 1) := by decide +kernel
theorem dX8_wholeWalkTo_24 : decode cX8_wholeWalkTo 24 = .ok (.getfield 18, 3) := by decide +kernel
theorem dX8_wholeWalkTo_27 : decode cX8_wholeWalkTo 27 = .ok (.iconst 1, 1) := by decide +kernel
theorem dX8_wholeWalkTo_28 : decode cX8_wholeWalkTo 28 = .ok (.isub, 1) := by decide +kernel
theorem dX8_wholeWalkTo_29 : decode cX8_wholeWalkTo 29 = .ok (.istore 4, 2) := by decide +kernel
theorem dX8_wholeWalkTo_31 : decode cX8_wholeWalkTo 31 = .ok (.iload 4, 2) := by decide +kernel
theorem dX8_wholeWalkTo_33 : decode cX8_wholeWalkTo 33 = .ok (.ifCond .lt 122, 3) := by decide +kernel
theorem dX8_wholeWalkTo_36 : decode cX8_wholeWalkTo 36 = .ok (.aload_n 0, 1) := by decide +kernel
theorem dX8_wholeWalkTo_37 : decode cX8_wholeWalkTo 37 = .ok (.iload 4, 2) := by decide +kernel
theorem dX8_wholeWalkTo_39 : decode cX8_wholeWalkTo 39 = .ok (.invokevirtual 41, 3) := by decide +kernel
theorem dX8_wholeWalkTo_42 : decode cX8_wholeWalkTo 42 = .ok (.iconst 1, 1) := by decide +kernel
theorem dX8_wholeWalkTo_43 : decode cX8_wholeWalkTo 43 = .ok (.if_icmp .ne 7, 3) := by decide +kernel
theorem dX8_wholeWalkTo_46 : decode cX8_wholeWalkTo 46 = .ok (.iconst 1, 1) := by decide +kernel
theorem dX8_wholeWalkTo_47 : decode cX8_wholeWalkTo 47 = .ok (.goto 4, 3) := by decide +kernel
theorem dX8_wholeWalkTo_50 : decode cX8_wholeWalkTo 50 = .ok (.iconst (-1), 1) := by decide +kernel
theorem dX8_wholeWalkTo_51 : decode cX8_wholeWalkTo 51 = .ok (.istore 5, 2) := by decide +kernel
theorem dX8_wholeWalkTo_53 : decode cX8_wholeWalkTo 53 = .ok (.lload_n 1, 1) := by decide +kernel
theorem dX8_wholeWalkTo_54 : decode cX8_wholeWalkTo 54 = .ok (.iload 4, 2) := by decide +kernel
theorem dX8_wholeWalkTo_56 : decode cX8_wholeWalkTo 56 = .ok (.iconst 1, 1) := by decide +kernel
theorem dX8_wholeWalkTo_57 : decode cX8_wholeWalkTo 57 = .ok (.iadd, 1) := by decide +kernel
theorem dX8_wholeWalkTo_58 : decode cX8_wholeWalkTo 58 = .ok (.lshr, 1) := by decide +kernel
theorem dX8_wholeWalkTo_59 : decode cX8_wholeWalkTo 59 = .ok (.lconst 1, 1) := by decide +kernel
theorem dX8_wholeWalkTo_60 : decode cX8_wholeWalkTo 60 = .ok (.land, 1) := by decide +kernel
theorem dX8_wholeWalkTo_61 : decode cX8_wholeWalkTo 61 = .ok (.lconst 1, 1) := by decide +kernel
theorem dX8_wholeWalkTo_62 : decode cX8_wholeWalkTo 62 = .ok (.lcmp, 1) := by decide +kernel
theorem dX8_wholeWalkTo_63 : decode cX8_wholeWalkTo 63 = .ok (.ifCond .ne 7, 3) := by decide +kernel
theorem dX8_wholeWalkTo_66 : decode cX8_wholeWalkTo 66 = .ok (.iconst 1, 1) := by decide +kernel
theorem dX8_wholeWalkTo_67 : decode cX8_wholeWalkTo 67 = .ok (.goto 4, 3) := by decide +kernel
theorem dX8_wholeWalkTo_70 : decode cX8_wholeWalkTo 70 = .ok (.iconst 0, 1) := by decide +kernel
theorem dX8_wholeWalkTo_71 : decode cX8_wholeWalkTo 71 = .ok (.istore 6, 2) := by decide +kernel
theorem dX8_wholeWalkTo_73 : decode cX8_wholeWalkTo 73 = .ok (.iload 6, 2) := by decide +kernel
theorem dX8_wholeWalkTo_75 : decode cX8_wholeWalkTo 75 = .ok (.ifCond .eq 13, 3) := by decide +kernel
theorem dX8_wholeWalkTo_78 : decode cX8_wholeWalkTo 78 = .ok (.aload_n 3, 1) := by decide +kernel
theorem dX8_wholeWalkTo_79 : decode cX8_wholeWalkTo 79 = .ok (.getfield 56, 3) := by decide +kernel
theorem dX8_wholeWalkTo_82 : decode cX8_wholeWalkTo 82 = .ok (.iload 5, 2) := by decide +kernel
theorem dX8_wholeWalkTo_84 : decode cX8_wholeWalkTo 84 = .ok (.iadd, 1) := by decide +kernel
theorem dX8_wholeWalkTo_85 : decode cX8_wholeWalkTo 85 = .ok (.goto 7, 3) := by decide +kernel
theorem dX8_wholeWalkTo_88 : decode cX8_wholeWalkTo 88 = .ok (.aload_n 3, 1) := by decide +kernel
theorem dX8_wholeWalkTo_89 : decode cX8_wholeWalkTo 89 = .ok (.getfield 56, 3) := by decide +kernel
theorem dX8_wholeWalkTo_92 : decode cX8_wholeWalkTo 92 = .ok (.istore 7, 2) := by decide +kernel
theorem dX8_wholeWalkTo_94 : decode cX8_wholeWalkTo 94 = .ok (.iload 6, 2) := by decide +kernel
theorem dX8_wholeWalkTo_96 : decode cX8_wholeWalkTo 96 = .ok (.ifCond .eq 10, 3) := by decide +kernel
theorem dX8_wholeWalkTo_99 : decode cX8_wholeWalkTo 99 = .ok (.aload_n 3, 1) := by decide +kernel
theorem dX8_wholeWalkTo_100 : decode cX8_wholeWalkTo 100 = .ok (.getfield 56, 3) := by decide +kernel
theorem dX8_wholeWalkTo_103 : decode cX8_wholeWalkTo 103 = .ok (.goto 10, 3) := by decide +kernel
theorem dX8_wholeWalkTo_106 : decode cX8_wholeWalkTo 106 = .ok (.aload_n 3, 1) := by decide +kernel
theorem dX8_wholeWalkTo_107 : decode cX8_wholeWalkTo 107 = .ok (.getfield 56, 3) := by decide +kernel
theorem dX8_wholeWalkTo_110 : decode cX8_wholeWalkTo 110 = .ok (.iload 5, 2) := by decide +kernel
theorem dX8_wholeWalkTo_112 : decode cX8_wholeWalkTo 112 = .ok (.iadd, 1) := by decide +kernel
theorem dX8_wholeWalkTo_113 : decode cX8_wholeWalkTo 113 = .ok (.istore 8, 2) := by decide +kernel
theorem dX8_wholeWalkTo_115 : decode cX8_wholeWalkTo 115 = .ok (.aload_n 3, 1) := by decide +kernel
theorem dX8_wholeWalkTo_116 : decode cX8_wholeWalkTo 116 = .ok (.iconst 1, 1) := by decide +kernel
theorem dX8_wholeWalkTo_117 : decode cX8_wholeWalkTo 117 = .ok (.iload 5, 2) := by decide +kernel
theorem dX8_wholeWalkTo_119 : decode cX8_wholeWalkTo 119 = .ok (.invokevirtual 59, 3) := by decide +kernel
theorem dX8_wholeWalkTo_122 : decode cX8_wholeWalkTo 122 = .ok (.aload_n 3, 1) := by decide +kernel
theorem dX8_wholeWalkTo_123 : decode cX8_wholeWalkTo 123 = .ok (.iload 7, 2) := by decide +kernel
theorem dX8_wholeWalkTo_125 : decode cX8_wholeWalkTo 125 = .ok (.putfield 56, 3) := by decide +kernel
theorem dX8_wholeWalkTo_128 : decode cX8_wholeWalkTo 128 = .ok (.lload_n 1, 1) := by decide +kernel
theorem dX8_wholeWalkTo_129 : decode cX8_wholeWalkTo 129 = .ok (.iload 4, 2) := by decide +kernel
theorem dX8_wholeWalkTo_131 : decode cX8_wholeWalkTo 131 = .ok (.lshr, 1) := by decide +kernel
theorem dX8_wholeWalkTo_132 : decode cX8_wholeWalkTo 132 = .ok (.lconst 1, 1) := by decide +kernel
theorem dX8_wholeWalkTo_133 : decode cX8_wholeWalkTo 133 = .ok (.land, 1) := by decide +kernel
theorem dX8_wholeWalkTo_134 : decode cX8_wholeWalkTo 134 = .ok (.lconst 1, 1) := by decide +kernel
theorem dX8_wholeWalkTo_135 : decode cX8_wholeWalkTo 135 = .ok (.lcmp, 1) := by decide +kernel
theorem dX8_wholeWalkTo_136 : decode cX8_wholeWalkTo 136 = .ok (.ifCond .ne 13, 3) := by decide +kernel
theorem dX8_wholeWalkTo_139 : decode cX8_wholeWalkTo 139 = .ok (.aload_n 3, 1) := by decide +kernel
theorem dX8_wholeWalkTo_140 : decode cX8_wholeWalkTo 140 = .ok (.invokevirtual 63, 3) := by decide +kernel
theorem dX8_wholeWalkTo_143 : decode cX8_wholeWalkTo 143 = .ok (.aload_n 3, 1) := by decide +kernel
theorem dX8_wholeWalkTo_144 : decode cX8_wholeWalkTo 144 = .ok (.iload 8, 2) := by decide +kernel
theorem dX8_wholeWalkTo_146 : decode cX8_wholeWalkTo 146 = .ok (.putfield 56, 3) := by decide +kernel
theorem dX8_wholeWalkTo_149 : decode cX8_wholeWalkTo 149 = .ok (.iinc 4 (-1), 3) := by decide +kernel
theorem dX8_wholeWalkTo_152 : decode cX8_wholeWalkTo 152 = .ok (.goto (-121), 3) := by decide +kernel
theorem dX8_wholeWalkTo_155 : decode cX8_wholeWalkTo 155 = .ok (.aload_n 3, 1) := by decide +kernel
theorem dX8_wholeWalkTo_156 : decode cX8_wholeWalkTo 156 = .ok (.areturn, 1) := by decide +kernel
set_option maxRecDepth 20000 in
theorem ggX8_folds_X11_began : GoodIn wsX8_folds wsX11_began := goodIn_r _ [5, 6, 7, 36, 37, 38, 39, 40, 41, 42, 43, 44, 45, 46, 47, 48] (by decide +kernel) (by decide +kernel)
set_option maxRecDepth 20000 in
theorem gX8_folds_X11_began_n66 : GoodIn wsX8_folds (wsX11_began) := ggX8_folds_X11_began
theorem dX8_folds_0 : decode cX8_folds 0 = .ok (.aload_n 2, 1) := by decide +kernel
theorem dX8_folds_1 : decode cX8_folds 1 = .ok (.bipush 10, 2) := by decide +kernel
theorem dX8_folds_3 : decode cX8_folds 3 = .ok (.invokevirtual 66, 3) := by decide +kernel
theorem dX8_folds_6 : decode cX8_folds 6 = .ok (.iload_n 1, 1) := by decide +kernel
theorem dX8_folds_7 : decode cX8_folds 7 = .ok (.aload_n 0, 1) := by decide +kernel
theorem dX8_folds_8 : decode cX8_folds 8 = .ok (.getfield 9, 3) := by decide +kernel
theorem dX8_folds_11 : decode cX8_folds 11 = .ok (.iadd, 1) := by decide +kernel
theorem dX8_folds_12 : decode cX8_folds 12 = .ok (.ireturn, 1) := by decide +kernel
set_option maxRecDepth 20000 in
theorem ggX8_opens_X11_began : GoodIn wsX8_opens wsX11_began := goodIn_r _ [4, 5, 6, 37, 38, 39, 40, 41, 42, 43, 44, 45, 46, 47, 48, 49] (by decide +kernel) (by decide +kernel)
set_option maxRecDepth 20000 in
theorem gX8_opens_X11_began_n66 : GoodIn wsX8_opens (wsX11_began) := ggX8_opens_X11_began
set_option maxRecDepth 20000 in
theorem ggX8_opens_X0_folds : GoodIn wsX8_opens wsX0_folds := goodIn_r _ [13, 14, 15, 1, 2, 3, 4, 5, 6, 50, 51, 52, 53, 54, 55, 56, 57, 58, 59, 60, 61, 62, 63, 64, 65, 66, 67, 68, 69, 70, 71, 72, 73, 74, 75, 76, 77, 37, 38, 39, 40, 41, 42, 43, 44, 45, 46, 47, 48, 49] (by decide +kernel) (by decide +kernel)
set_option maxRecDepth 20000 in
theorem gX8_opens_X0_folds_u70X0 : GoodIn wsX8_opens (va_wsO RX8 70 RX0 "FoldedInHalf$Strip" ⟨"FoldedInHalf$Strip", "folds", "(ILFoldedInHalf;)I"⟩ yX0_folds wsX0_folds) := goodIn_app (goodIn_of _ (by decide +kernel)) ggX8_opens_X0_folds
set_option maxRecDepth 20000 in
theorem ggX8_opens_X8_folds : GoodIn wsX8_opens wsX8_folds := goodIn_r _ [16, 20, 1, 2, 3, 4, 5, 6, 50, 51, 52, 53, 54, 55, 56, 57, 58, 59, 60, 61, 62, 63, 64, 65, 66, 67, 68, 69, 70, 71, 72, 73, 74, 75, 76, 77, 37, 38, 39, 40, 41, 42, 43, 44, 45, 46, 47, 48, 49] (by decide +kernel) (by decide +kernel)
set_option maxRecDepth 20000 in
theorem gX8_opens_X8_folds_u70X1 : GoodIn wsX8_opens (va_wsU RX8 70 RX1 "FoldedInHalf$Strip" ⟨"FoldedInHalf$Strip", "folds", "(ILFoldedInHalf;)I"⟩ yX8_folds wsX8_folds) := goodIn_app (goodIn_of _ (by decide +kernel)) ggX8_opens_X8_folds
set_option maxRecDepth 20000 in
theorem gX8_opens_X8_folds_u70X2 : GoodIn wsX8_opens (va_wsU RX8 70 RX2 "FoldedInHalf$Strip" ⟨"FoldedInHalf$Strip", "folds", "(ILFoldedInHalf;)I"⟩ yX8_folds wsX8_folds) := goodIn_app (goodIn_of _ (by decide +kernel)) ggX8_opens_X8_folds
set_option maxRecDepth 20000 in
theorem ggX8_opens_X4_folds : GoodIn wsX8_opens wsX4_folds := goodIn_r _ [25, 1, 2, 3, 4, 5, 6, 37, 38, 39, 40, 41, 42, 43, 44, 45, 46, 47, 48, 49] (by decide +kernel) (by decide +kernel)
set_option maxRecDepth 20000 in
theorem gX8_opens_X4_folds_u70X4 : GoodIn wsX8_opens (va_wsO RX8 70 RX4 "FoldedInHalf$Strip" ⟨"FoldedInHalf$Strip", "folds", "(ILFoldedInHalf;)I"⟩ yX4_folds wsX4_folds) := goodIn_app (goodIn_of _ (by decide +kernel)) ggX8_opens_X4_folds
set_option maxRecDepth 20000 in
theorem ggX8_opens_X6_folds : GoodIn wsX8_opens wsX6_folds := goodIn_r _ [29, 30, 31, 1, 2, 3, 4, 5, 6, 32, 8, 33, 18, 19, 16, 20, 50, 51, 52, 53, 54, 55, 56, 57, 58, 59, 60, 61, 62, 63, 64, 65, 66, 67, 68, 69, 70, 71, 72, 73, 74, 75, 76, 77, 37, 38, 39, 40, 41, 42, 43, 44, 45, 46, 47, 48, 49] (by decide +kernel) (by decide +kernel)
set_option maxRecDepth 20000 in
theorem gX8_opens_X6_folds_u70X6 : GoodIn wsX8_opens (va_wsO RX8 70 RX6 "FoldedInHalf$Strip" ⟨"FoldedInHalf$Strip", "folds", "(ILFoldedInHalf;)I"⟩ yX6_folds wsX6_folds) := goodIn_app (goodIn_of _ (by decide +kernel)) ggX8_opens_X6_folds
set_option maxRecDepth 20000 in
theorem gX8_opens_X8_folds : GoodIn wsX8_opens (wsV RX8 70 RX8 yX8_folds wsX8_folds) := goodIn_app (goodIn_of _ (by decide +kernel)) ggX8_opens_X8_folds
set_option maxRecDepth 20000 in
theorem gX8_opens_X8_folds_u70X9 : GoodIn wsX8_opens (va_wsU RX8 70 RX9 "FoldedInHalf$Strip" ⟨"FoldedInHalf$Strip", "folds", "(ILFoldedInHalf;)I"⟩ yX8_folds wsX8_folds) := goodIn_app (goodIn_of _ (by decide +kernel)) ggX8_opens_X8_folds
theorem dX8_opens_0 : decode cX8_opens 0 = .ok (.aload_n 2, 1) := by decide +kernel
theorem dX8_opens_1 : decode cX8_opens 1 = .ok (.bipush 11, 2) := by decide +kernel
theorem dX8_opens_3 : decode cX8_opens 3 = .ok (.invokevirtual 66, 3) := by decide +kernel
theorem dX8_opens_6 : decode cX8_opens 6 = .ok (.aload_n 0, 1) := by decide +kernel
theorem dX8_opens_7 : decode cX8_opens 7 = .ok (.iload_n 1, 1) := by decide +kernel
theorem dX8_opens_8 : decode cX8_opens 8 = .ok (.aload_n 2, 1) := by decide +kernel
theorem dX8_opens_9 : decode cX8_opens 9 = .ok (.invokevirtual 70, 3) := by decide +kernel
theorem dX8_opens_12 : decode cX8_opens 12 = .ok (.iconst 2, 1) := by decide +kernel
theorem dX8_opens_13 : decode cX8_opens 13 = .ok (.imul, 1) := by decide +kernel
theorem dX8_opens_14 : decode cX8_opens 14 = .ok (.ireturn, 1) := by decide +kernel
set_option maxRecDepth 20000 in
theorem ggX8_lies_X11_began : GoodIn wsX8_lies wsX11_began := goodIn_r _ [5, 6, 7, 93, 94, 95, 96, 97, 98, 99, 100, 101, 102, 103, 104, 105] (by decide +kernel) (by decide +kernel)
set_option maxRecDepth 20000 in
theorem gX8_lies_X11_began_n66 : GoodIn wsX8_lies (wsX11_began) := ggX8_lies_X11_began
set_option maxRecDepth 20000 in
theorem ggX8_lies_X1_opens : GoodIn wsX8_lies wsX1_opens := goodIn_r _ [14, 2, 3, 4, 5, 6, 7, 15, 9, 16, 17, 18, 19, 20, 21, 22, 23, 24, 25, 26, 27, 28, 29, 30, 31, 32, 33, 34, 35, 36, 37, 38, 39, 40, 41, 42, 43, 44, 45, 46, 47, 48, 93, 94, 95, 96, 97, 98, 99, 100, 101, 102, 103, 104, 105, 65, 66, 67, 68, 69, 70, 71, 72, 73, 74, 75, 76, 77, 78, 79, 80, 81, 82, 83, 84, 85, 86, 87, 88, 89, 90, 91, 92] (by decide +kernel) (by decide +kernel)
set_option maxRecDepth 20000 in
theorem gX8_lies_X1_opens_u74X0 : GoodIn wsX8_lies (va_wsO RX8 74 RX0 "FoldedInHalf$Strip" ⟨"FoldedInHalf$Strip", "opens", "(ILFoldedInHalf;)I"⟩ yX1_opens wsX1_opens) := goodIn_app (goodIn_of _ (by decide +kernel)) ggX8_lies_X1_opens
set_option maxRecDepth 20000 in
theorem gX8_lies_X1_opens_u74X1 : GoodIn wsX8_lies (va_wsO RX8 74 RX1 "FoldedInHalf$Strip" ⟨"FoldedInHalf$Strip", "opens", "(ILFoldedInHalf;)I"⟩ yX1_opens wsX1_opens) := goodIn_app (goodIn_of _ (by decide +kernel)) ggX8_lies_X1_opens
set_option maxRecDepth 20000 in
theorem ggX8_lies_X8_opens : GoodIn wsX8_lies wsX8_opens := goodIn_r _ [19, 2, 3, 4, 5, 6, 7, 20, 21, 22, 23, 24, 25, 26, 27, 28, 29, 30, 31, 18, 32, 33, 34, 35, 36, 37, 38, 39, 40, 41, 42, 43, 44, 45, 46, 47, 48, 93, 94, 95, 96, 97, 98, 99, 100, 101, 102, 103, 104, 105, 65, 66, 67, 68, 69, 70, 71, 72, 73, 74, 75, 76, 77, 78, 79, 80, 81, 82, 83, 84, 85, 86, 87, 88, 89, 90, 91, 92] (by decide +kernel) (by decide +kernel)
set_option maxRecDepth 20000 in
theorem gX8_lies_X8_opens_u74X2 : GoodIn wsX8_lies (va_wsU RX8 74 RX2 "FoldedInHalf$Strip" ⟨"FoldedInHalf$Strip", "opens", "(ILFoldedInHalf;)I"⟩ yX8_opens wsX8_opens) := goodIn_app (goodIn_of _ (by decide +kernel)) ggX8_lies_X8_opens
set_option maxRecDepth 20000 in
theorem ggX8_lies_X4_opens : GoodIn wsX8_lies wsX4_opens := goodIn_r _ [53, 54, 55, 2, 3, 4, 5, 6, 7, 65, 66, 67, 68, 69, 70, 71, 72, 73, 74, 75, 76, 77, 78, 79, 80, 81, 82, 83, 84, 85, 86, 87, 88, 89, 90, 91, 92, 93, 94, 95, 96, 97, 98, 99, 100, 101, 102, 103, 104, 105] (by decide +kernel) (by decide +kernel)
set_option maxRecDepth 20000 in
theorem gX8_lies_X4_opens_u74X4 : GoodIn wsX8_lies (va_wsO RX8 74 RX4 "FoldedInHalf$Strip" ⟨"FoldedInHalf$Strip", "opens", "(ILFoldedInHalf;)I"⟩ yX4_opens wsX4_opens) := goodIn_app (goodIn_of _ (by decide +kernel)) ggX8_lies_X4_opens
set_option maxRecDepth 20000 in
theorem gX8_lies_X8_opens_u74X6 : GoodIn wsX8_lies (va_wsU RX8 74 RX6 "FoldedInHalf$Strip" ⟨"FoldedInHalf$Strip", "opens", "(ILFoldedInHalf;)I"⟩ yX8_opens wsX8_opens) := goodIn_app (goodIn_of _ (by decide +kernel)) ggX8_lies_X8_opens
set_option maxRecDepth 20000 in
theorem gX8_lies_X8_opens : GoodIn wsX8_lies (wsV RX8 74 RX8 yX8_opens wsX8_opens) := goodIn_app (goodIn_of _ (by decide +kernel)) ggX8_lies_X8_opens
set_option maxRecDepth 20000 in
theorem ggX8_lies_X9_opens : GoodIn wsX8_lies wsX9_opens := goodIn_r _ [62, 2, 3, 4, 5, 6, 7, 63, 9, 64, 17, 18, 19, 20, 21, 22, 23, 24, 25, 26, 27, 28, 29, 30, 31, 32, 33, 34, 35, 36, 37, 38, 39, 40, 41, 42, 43, 44, 45, 46, 47, 48, 93, 94, 95, 96, 97, 98, 99, 100, 101, 102, 103, 104, 105, 65, 66, 67, 68, 69, 70, 71, 72, 73, 74, 75, 76, 77, 78, 79, 80, 81, 82, 83, 84, 85, 86, 87, 88, 89, 90, 91, 92] (by decide +kernel) (by decide +kernel)
set_option maxRecDepth 20000 in
theorem gX8_lies_X9_opens_u74X9 : GoodIn wsX8_lies (va_wsO RX8 74 RX9 "FoldedInHalf$Strip" ⟨"FoldedInHalf$Strip", "opens", "(ILFoldedInHalf;)I"⟩ yX9_opens wsX9_opens) := goodIn_app (goodIn_of _ (by decide +kernel)) ggX8_lies_X9_opens
set_option maxRecDepth 20000 in
theorem ggX8_lies_X0_folds : GoodIn wsX8_lies wsX0_folds := goodIn_r _ [26, 27, 28, 2, 3, 4, 5, 6, 7, 65, 66, 67, 68, 69, 70, 71, 72, 73, 74, 75, 76, 77, 78, 79, 80, 81, 82, 83, 84, 85, 86, 87, 88, 89, 90, 91, 92, 93, 94, 95, 96, 97, 98, 99, 100, 101, 102, 103, 104, 105] (by decide +kernel) (by decide +kernel)
set_option maxRecDepth 20000 in
theorem gX8_lies_X0_folds_u70X0 : GoodIn wsX8_lies (va_wsO RX8 70 RX0 "FoldedInHalf$Strip" ⟨"FoldedInHalf$Strip", "folds", "(ILFoldedInHalf;)I"⟩ yX0_folds wsX0_folds) := goodIn_app (goodIn_of _ (by decide +kernel)) ggX8_lies_X0_folds
set_option maxRecDepth 20000 in
theorem ggX8_lies_X8_folds : GoodIn wsX8_lies wsX8_folds := goodIn_r _ [29, 32, 2, 3, 4, 5, 6, 7, 65, 66, 67, 68, 69, 70, 71, 72, 73, 74, 75, 76, 77, 78, 79, 80, 81, 82, 83, 84, 85, 86, 87, 88, 89, 90, 91, 92, 93, 94, 95, 96, 97, 98, 99, 100, 101, 102, 103, 104, 105] (by decide +kernel) (by decide +kernel)
set_option maxRecDepth 20000 in
theorem gX8_lies_X8_folds_u70X1 : GoodIn wsX8_lies (va_wsU RX8 70 RX1 "FoldedInHalf$Strip" ⟨"FoldedInHalf$Strip", "folds", "(ILFoldedInHalf;)I"⟩ yX8_folds wsX8_folds) := goodIn_app (goodIn_of _ (by decide +kernel)) ggX8_lies_X8_folds
set_option maxRecDepth 20000 in
theorem gX8_lies_X8_folds_u70X2 : GoodIn wsX8_lies (va_wsU RX8 70 RX2 "FoldedInHalf$Strip" ⟨"FoldedInHalf$Strip", "folds", "(ILFoldedInHalf;)I"⟩ yX8_folds wsX8_folds) := goodIn_app (goodIn_of _ (by decide +kernel)) ggX8_lies_X8_folds
set_option maxRecDepth 20000 in
theorem ggX8_lies_X4_folds : GoodIn wsX8_lies wsX4_folds := goodIn_r _ [37, 2, 3, 4, 5, 6, 7, 93, 94, 95, 96, 97, 98, 99, 100, 101, 102, 103, 104, 105] (by decide +kernel) (by decide +kernel)
set_option maxRecDepth 20000 in
theorem gX8_lies_X4_folds_u70X4 : GoodIn wsX8_lies (va_wsO RX8 70 RX4 "FoldedInHalf$Strip" ⟨"FoldedInHalf$Strip", "folds", "(ILFoldedInHalf;)I"⟩ yX4_folds wsX4_folds) := goodIn_app (goodIn_of _ (by decide +kernel)) ggX8_lies_X4_folds
set_option maxRecDepth 20000 in
theorem ggX8_lies_X6_folds : GoodIn wsX8_lies wsX6_folds := goodIn_r _ [41, 42, 43, 2, 3, 4, 5, 6, 7, 44, 21, 45, 31, 18, 29, 32, 65, 66, 67, 68, 69, 70, 71, 72, 73, 74, 75, 76, 77, 78, 79, 80, 81, 82, 83, 84, 85, 86, 87, 88, 89, 90, 91, 92, 93, 94, 95, 96, 97, 98, 99, 100, 101, 102, 103, 104, 105] (by decide +kernel) (by decide +kernel)
set_option maxRecDepth 20000 in
theorem gX8_lies_X6_folds_u70X6 : GoodIn wsX8_lies (va_wsO RX8 70 RX6 "FoldedInHalf$Strip" ⟨"FoldedInHalf$Strip", "folds", "(ILFoldedInHalf;)I"⟩ yX6_folds wsX6_folds) := goodIn_app (goodIn_of _ (by decide +kernel)) ggX8_lies_X6_folds
set_option maxRecDepth 20000 in
theorem gX8_lies_X8_folds : GoodIn wsX8_lies (wsV RX8 70 RX8 yX8_folds wsX8_folds) := goodIn_app (goodIn_of _ (by decide +kernel)) ggX8_lies_X8_folds
set_option maxRecDepth 20000 in
theorem gX8_lies_X8_folds_u70X9 : GoodIn wsX8_lies (va_wsU RX8 70 RX9 "FoldedInHalf$Strip" ⟨"FoldedInHalf$Strip", "folds", "(ILFoldedInHalf;)I"⟩ yX8_folds wsX8_folds) := goodIn_app (goodIn_of _ (by decide +kernel)) ggX8_lies_X8_folds
theorem dX8_lies_0 : decode cX8_lies 0 = .ok (.aload_n 2, 1) := by decide +kernel
theorem dX8_lies_1 : decode cX8_lies 1 = .ok (.bipush 12, 2) := by decide +kernel
theorem dX8_lies_3 : decode cX8_lies 3 = .ok (.invokevirtual 66, 3) := by decide +kernel
theorem dX8_lies_6 : decode cX8_lies 6 = .ok (.aload_n 0, 1) := by decide +kernel
theorem dX8_lies_7 : decode cX8_lies 7 = .ok (.iload_n 1, 1) := by decide +kernel
theorem dX8_lies_8 : decode cX8_lies 8 = .ok (.aload_n 2, 1) := by decide +kernel
theorem dX8_lies_9 : decode cX8_lies 9 = .ok (.invokevirtual 74, 3) := by decide +kernel
theorem dX8_lies_12 : decode cX8_lies 12 = .ok (.istore_n 3, 1) := by decide +kernel
theorem dX8_lies_13 : decode cX8_lies 13 = .ok (.iload_n 3, 1) := by decide +kernel
theorem dX8_lies_14 : decode cX8_lies 14 = .ok (.aload_n 0, 1) := by decide +kernel
theorem dX8_lies_15 : decode cX8_lies 15 = .ok (.iload_n 1, 1) := by decide +kernel
theorem dX8_lies_16 : decode cX8_lies 16 = .ok (.aload_n 0, 1) := by decide +kernel
theorem dX8_lies_17 : decode cX8_lies 17 = .ok (.getfield 15, 3) := by decide +kernel
theorem dX8_lies_20 : decode cX8_lies 20 = .ok (.isub, 1) := by decide +kernel
theorem dX8_lies_21 : decode cX8_lies 21 = .ok (.aload_n 2, 1) := by decide +kernel
theorem dX8_lies_22 : decode cX8_lies 22 = .ok (.invokevirtual 70, 3) := by decide +kernel
theorem dX8_lies_25 : decode cX8_lies 25 = .ok (.ixor, 1) := by decide +kernel
theorem dX8_lies_26 : decode cX8_lies 26 = .ok (.ireturn, 1) := by decide +kernel
set_option maxRecDepth 20000 in
theorem ggX9_init_X8_init : GoodIn wsX9_init wsX8_init := goodIn_r _ [4, 5, 6, 7, 8, 9, 10, 11, 12, 13, 14, 15, 16, 17, 18, 19, 20, 21, 22, 23, 24, 25, 26, 27, 28, 29, 30, 31, 32, 33, 34, 35, 36, 37, 38, 39] (by decide +kernel) (by decide +kernel)
set_option maxRecDepth 20000 in
theorem gX9_init_X8_init : GoodIn wsX9_init (wsX8_init) := ggX9_init_X8_init
theorem dX9_init_0 : decode cX9_init 0 = .ok (.aload_n 0, 1) := by decide +kernel
theorem dX9_init_1 : decode cX9_init 1 = .ok (.iload_n 1, 1) := by decide +kernel
theorem dX9_init_2 : decode cX9_init 2 = .ok (.iload_n 2, 1) := by decide +kernel
theorem dX9_init_3 : decode cX9_init 3 = .ok (.iload_n 3, 1) := by decide +kernel
theorem dX9_init_4 : decode cX9_init 4 = .ok (.lload 4, 2) := by decide +kernel
theorem dX9_init_6 : decode cX9_init 6 = .ok (.invokespecial 3, 3) := by decide +kernel
theorem dX9_init_9 : decode cX9_init 9 = .ok (.return_, 1) := by decide +kernel
theorem dX9_kind_0 : decode cX9_kind 0 = .ok (.iconst 2, 1) := by decide +kernel
theorem dX9_kind_1 : decode cX9_kind 1 = .ok (.ireturn, 1) := by decide +kernel
theorem dX9_isOf_0 : decode cX9_isOf 0 = .ok (.iload_n 1, 1) := by decide +kernel
theorem dX9_isOf_1 : decode cX9_isOf 1 = .ok (.iconst 2, 1) := by decide +kernel
theorem dX9_isOf_2 : decode cX9_isOf 2 = .ok (.if_icmp .eq 7, 3) := by decide +kernel
theorem dX9_isOf_5 : decode cX9_isOf 5 = .ok (.iload_n 1, 1) := by decide +kernel
theorem dX9_isOf_6 : decode cX9_isOf 6 = .ok (.ifCond .ne 7, 3) := by decide +kernel
theorem dX9_isOf_9 : decode cX9_isOf 9 = .ok (.iconst 1, 1) := by decide +kernel
theorem dX9_isOf_10 : decode cX9_isOf 10 = .ok (.goto 4, 3) := by decide +kernel
theorem dX9_isOf_13 : decode cX9_isOf 13 = .ok (.iconst 0, 1) := by decide +kernel
theorem dX9_isOf_14 : decode cX9_isOf 14 = .ok (.ireturn, 1) := by decide +kernel
theorem dX9_wholeSides_0 : decode cX9_wholeSides 0 = .ok (.lconst 1, 1) := by decide +kernel
theorem dX9_wholeSides_1 : decode cX9_wholeSides 1 = .ok (.lstore_n 1, 1) := by decide +kernel
theorem dX9_wholeSides_2 : decode cX9_wholeSides 2 = .ok (.iconst 0, 1) := by decide +kernel
theorem dX9_wholeSides_3 : decode cX9_wholeSides 3 = .ok (.istore_n 3, 1) := by decide +kernel
theorem dX9_wholeSides_4 : decode cX9_wholeSides 4 = .ok (.iload_n 3, 1) := by decide +kernel
theorem dX9_wholeSides_5 : decode cX9_wholeSides 5 = .ok (.aload_n 0, 1) := by decide +kernel
theorem dX9_wholeSides_6 : decode cX9_wholeSides 6 = .ok (.getfield 9, 3) := by decide +kernel
theorem dX9_wholeSides_9 : decode cX9_wholeSides 9 = .ok (.if_icmp .ge 15, 3) := by decide +kernel
theorem dX9_wholeSides_12 : decode cX9_wholeSides 12 = .ok (.lload_n 1, 1) := by decide +kernel
theorem dX9_wholeSides_13 : decode cX9_wholeSides 13 = .ok (.ldc2_w 15, 3) := by decide +kernel
theorem dX9_wholeSides_16 : decode cX9_wholeSides 16 = .ok (.lmul, 1) := by decide +kernel
theorem dX9_wholeSides_17 : decode cX9_wholeSides 17 = .ok (.lstore_n 1, 1) := by decide +kernel
theorem dX9_wholeSides_18 : decode cX9_wholeSides 18 = .ok (.iinc 3 1, 3) := by decide +kernel
theorem dX9_wholeSides_21 : decode cX9_wholeSides 21 = .ok (.goto (-17), 3) := by decide +kernel
theorem dX9_wholeSides_24 : decode cX9_wholeSides 24 = .ok (.lload_n 1, 1) := by decide +kernel
theorem dX9_wholeSides_25 : decode cX9_wholeSides 25 = .ok (.lreturn, 1) := by decide +kernel
set_option maxRecDepth 20000 in
theorem ggX9_creaseAt_X8_bend : GoodIn wsX9_creaseAt wsX8_bend := goodIn_r _ [7, 8, 9, 10, 11, 6, 12, 13, 14, 15, 16, 17, 18, 19, 20, 21, 22, 23, 24, 25, 26, 27, 28, 29, 30, 31, 32, 33, 34, 35, 36, 37, 38, 39, 40, 41, 42, 43, 44, 45, 46, 47, 48] (by decide +kernel) (by decide +kernel)
set_option maxRecDepth 20000 in
theorem gX9_creaseAt_X8_bend_u17X9 : GoodIn wsX9_creaseAt (va_wsU RX9 17 RX9 "FoldedInHalf$Strip" ⟨"FoldedInHalf$Third", "bend", "(I)I"⟩ yX8_bend wsX8_bend) := goodIn_app (goodIn_of _ (by decide +kernel)) ggX9_creaseAt_X8_bend
theorem dX9_creaseAt_0 : decode cX9_creaseAt 0 = .ok (.lload_n 1, 1) := by decide +kernel
theorem dX9_creaseAt_1 : decode cX9_creaseAt 1 = .ok (.lstore_n 3, 1) := by decide +kernel
theorem dX9_creaseAt_2 : decode cX9_creaseAt 2 = .ok (.iconst 0, 1) := by decide +kernel
theorem dX9_creaseAt_3 : decode cX9_creaseAt 3 = .ok (.istore 5, 2) := by decide +kernel
theorem dX9_creaseAt_5 : decode cX9_creaseAt 5 = .ok (.lload_n 3, 1) := by decide +kernel
theorem dX9_creaseAt_6 : decode cX9_creaseAt 6 = .ok (.ldc2_w 15, 3) := by decide +kernel
theorem dX9_creaseAt_9 : decode cX9_creaseAt 9 = .ok (.lrem, 1) := by decide +kernel
theorem dX9_creaseAt_10 : decode cX9_creaseAt 10 = .ok (.lconst 0, 1) := by decide +kernel
theorem dX9_creaseAt_11 : decode cX9_creaseAt 11 = .ok (.lcmp, 1) := by decide +kernel
theorem dX9_creaseAt_12 : decode cX9_creaseAt 12 = .ok (.ifCond .ne 22, 3) := by decide +kernel
theorem dX9_creaseAt_15 : decode cX9_creaseAt 15 = .ok (.iload 5, 2) := by decide +kernel
theorem dX9_creaseAt_17 : decode cX9_creaseAt 17 = .ok (.bipush 25, 2) := by decide +kernel
theorem dX9_creaseAt_19 : decode cX9_creaseAt 19 = .ok (.if_icmp .ge 15, 3) := by decide +kernel
theorem dX9_creaseAt_22 : decode cX9_creaseAt 22 = .ok (.lload_n 3, 1) := by decide +kernel
theorem dX9_creaseAt_23 : decode cX9_creaseAt 23 = .ok (.ldc2_w 15, 3) := by decide +kernel
theorem dX9_creaseAt_26 : decode cX9_creaseAt 26 = .ok (.ldiv, 1) := by decide +kernel
theorem dX9_creaseAt_27 : decode cX9_creaseAt 27 = .ok (.lstore_n 3, 1) := by decide +kernel
theorem dX9_creaseAt_28 : decode cX9_creaseAt 28 = .ok (.iinc 5 1, 3) := by decide +kernel
theorem dX9_creaseAt_31 : decode cX9_creaseAt 31 = .ok (.goto (-26), 3) := by decide +kernel
theorem dX9_creaseAt_34 : decode cX9_creaseAt 34 = .ok (.lload_n 3, 1) := by decide +kernel
theorem dX9_creaseAt_35 : decode cX9_creaseAt 35 = .ok (.ldc2_w 15, 3) := by decide +kernel
theorem dX9_creaseAt_38 : decode cX9_creaseAt 38 = .ok (.lrem, 1) := by decide +kernel
theorem dX9_creaseAt_39 : decode cX9_creaseAt 39 = .ok (.lconst 1, 1) := by decide +kernel
theorem dX9_creaseAt_40 : decode cX9_creaseAt 40 = .ok (.lcmp, 1) := by decide +kernel
theorem dX9_creaseAt_41 : decode cX9_creaseAt 41 = .ok (.ifCond .ne 12, 3) := by decide +kernel
theorem dX9_creaseAt_44 : decode cX9_creaseAt 44 = .ok (.aload_n 0, 1) := by decide +kernel
theorem dX9_creaseAt_45 : decode cX9_creaseAt 45 = .ok (.iload 5, 2) := by decide +kernel
theorem dX9_creaseAt_47 : decode cX9_creaseAt 47 = .ok (.invokevirtual 17, 3) := by decide +kernel
theorem dX9_creaseAt_50 : decode cX9_creaseAt 50 = .ok (.goto 11, 3) := by decide +kernel
theorem dX9_creaseAt_53 : decode cX9_creaseAt 53 = .ok (.iconst 1, 1) := by decide +kernel
theorem dX9_creaseAt_54 : decode cX9_creaseAt 54 = .ok (.aload_n 0, 1) := by decide +kernel
theorem dX9_creaseAt_55 : decode cX9_creaseAt 55 = .ok (.iload 5, 2) := by decide +kernel
theorem dX9_creaseAt_57 : decode cX9_creaseAt 57 = .ok (.invokevirtual 17, 3) := by decide +kernel
theorem dX9_creaseAt_60 : decode cX9_creaseAt 60 = .ok (.isub, 1) := by decide +kernel
theorem dX9_creaseAt_61 : decode cX9_creaseAt 61 = .ok (.ireturn, 1) := by decide +kernel
set_option maxRecDepth 20000 in
theorem ggX9_walkTo_X8_corners : GoodIn wsX9_walkTo wsX8_corners := goodIn_r _ [12, 13, 14, 15, 16, 11, 17, 18, 19, 20, 21, 22, 23, 24, 25, 26, 27, 28, 29, 4, 5, 6, 30, 31, 32, 33, 34, 35, 36, 37, 38, 39, 40, 41, 42, 43, 44, 45, 46, 47, 48, 49, 50, 51, 95, 96, 97, 98, 99, 100, 101, 102, 103, 104, 105, 106, 107, 108, 109, 110, 111, 112, 113, 114, 115, 116, 117, 118, 119, 120, 121, 122] (by decide +kernel) (by decide +kernel)
set_option maxRecDepth 20000 in
theorem gX9_walkTo_X8_corners_u23X9 : GoodIn wsX9_walkTo (va_wsU RX9 23 RX9 "FoldedInHalf$Strip" ⟨"FoldedInHalf$Third", "corners", "()J"⟩ yX8_corners wsX8_corners) := goodIn_app (goodIn_of _ (by decide +kernel)) ggX9_walkTo_X8_corners
set_option maxRecDepth 20000 in
theorem ggX9_walkTo_X10_init : GoodIn wsX9_walkTo wsX10_init := goodIn_r _ [53, 54, 55, 56, 57, 58, 59, 60, 61, 62, 89, 90, 91, 92, 93, 94] (by decide +kernel) (by decide +kernel)
set_option maxRecDepth 20000 in
theorem gX9_walkTo_X10_init_n27 : GoodIn wsX9_walkTo (wsX10_init) := ggX9_walkTo_X10_init
set_option maxRecDepth 20000 in
theorem ggX9_walkTo_X9_wholeSides : GoodIn wsX9_walkTo wsX9_wholeSides := goodIn_r _ [29, 4, 5, 6, 95, 96, 97, 98, 99, 100, 101, 102, 103, 104, 105, 106, 107, 108, 109, 110, 111, 112, 113, 114, 115, 116, 117, 118, 119, 120, 121, 122] (by decide +kernel) (by decide +kernel)
set_option maxRecDepth 20000 in
theorem gX9_walkTo_X9_wholeSides : GoodIn wsX9_walkTo (wsV RX9 30 RX9 yX9_wholeSides wsX9_wholeSides) := goodIn_app (goodIn_of _ (by decide +kernel)) ggX9_walkTo_X9_wholeSides
set_option maxRecDepth 20000 in
theorem ggX9_walkTo_X8_bend : GoodIn wsX9_walkTo wsX8_bend := goodIn_r _ [69, 70, 71, 72, 73, 11, 74, 75, 76, 77, 78, 79, 80, 81, 82, 95, 96, 97, 98, 99, 100, 101, 102, 103, 104, 105, 106, 107, 108, 109, 110, 111, 112, 113, 114, 115, 116, 117, 118, 119, 120, 121, 122] (by decide +kernel) (by decide +kernel)
set_option maxRecDepth 20000 in
theorem gX9_walkTo_X8_bend_u17X9 : GoodIn wsX9_walkTo (va_wsU RX9 17 RX9 "FoldedInHalf$Strip" ⟨"FoldedInHalf$Third", "bend", "(I)I"⟩ yX8_bend wsX8_bend) := goodIn_app (goodIn_of _ (by decide +kernel)) ggX9_walkTo_X8_bend
set_option maxRecDepth 20000 in
theorem ggX9_walkTo_X10_spread : GoodIn wsX9_walkTo wsX10_spread := goodIn_r _ [85, 58, 59, 89, 90, 91, 92, 93, 94] (by decide +kernel) (by decide +kernel)
set_option maxRecDepth 20000 in
theorem gX9_walkTo_X10_spread_n37 : GoodIn wsX9_walkTo (wsX10_spread) := ggX9_walkTo_X10_spread
set_option maxRecDepth 20000 in
theorem ggX9_walkTo_X10_move : GoodIn wsX9_walkTo wsX10_move := goodIn_r _ [88, 58, 60, 59, 89, 90, 91, 92, 93, 94] (by decide +kernel) (by decide +kernel)
set_option maxRecDepth 20000 in
theorem gX9_walkTo_X10_move_n41 : GoodIn wsX9_walkTo (wsX10_move) := ggX9_walkTo_X10_move
theorem dX9_walkTo_0 : decode cX9_walkTo 0 = .ok (.new 21, 3) := by decide +kernel
theorem dX9_walkTo_3 : decode cX9_walkTo 3 = .ok (.dup, 1) := by decide +kernel
theorem dX9_walkTo_4 : decode cX9_walkTo 4 = .ok (.aload_n 0, 1) := by decide +kernel
theorem dX9_walkTo_5 : decode cX9_walkTo 5 = .ok (.aload_n 0, 1) := by decide +kernel
theorem dX9_walkTo_6 : decode cX9_walkTo 6 = .ok (.invokevirtual 23, 3) := by decide +kernel
theorem dX9_walkTo_9 : decode cX9_walkTo 9 = .ok (.invokespecial 27, 3) := by decide +kernel
theorem dX9_walkTo_12 : decode cX9_walkTo 12 = .ok (.astore_n 3, 1) := by decide +kernel
theorem dX9_walkTo_13 : decode cX9_walkTo 13 = .ok (.aload_n 0, 1) := by decide +kernel
theorem dX9_walkTo_14 : decode cX9_walkTo 14 = .ok (.invokevirtual 30, 3) := by decide +kernel
theorem dX9_walkTo_17 : decode cX9_walkTo 17 = .ok (.lstore 4, 2) := by decide +kernel
theorem dX9_walkTo_19 : decode cX9_walkTo 19 = .ok (.lload_n 1, 1) := by decide +kernel
theorem dX9_walkTo_20 : decode cX9_walkTo 20 = .ok (.lstore 6, 2) := by decide +kernel
theorem dX9_walkTo_22 : decode cX9_walkTo 22 = .ok (.lload 6, 2) := by decide +kernel
theorem dX9_walkTo_24 : decode cX9_walkTo 24 = .ok (.lload 4, 2) := by decide +kernel
theorem dX9_walkTo_26 : decode cX9_walkTo 26 = .ok (.lcmp, 1) := by decide +kernel
theorem dX9_walkTo_27 : decode cX9_walkTo 27 = .ok (.ifCond .lt 11, 3) := by decide +kernel
theorem dX9_walkTo_30 : decode cX9_walkTo 30 = .ok (.aload_n 3, 1) := by decide +kernel
theorem dX9_walkTo_31 : decode cX9_walkTo 31 = .ok (.lconst 1, 1) := by decide +kernel
theorem dX9_walkTo_32 : decode cX9_walkTo 32 = .ok (.putfield 33, 3) := by decide +kernel
theorem dX9_walkTo_35 : decode cX9_walkTo 35 = .ok (.lconst 0, 1) := by decide +kernel
theorem dX9_walkTo_36 : decode cX9_walkTo 36 = .ok (.lstore 6, 2) := by decide +kernel
theorem dX9_walkTo_38 : decode cX9_walkTo 38 = .ok (.aload_n 0, 1) := by decide +kernel
theorem dX9_walkTo_39 : decode cX9_walkTo 39 = .ok (.getfield 9, 3) := by decide +kernel
theorem dX9_walkTo_42 : decode cX9_walkTo 42 = .ok (.iconst 1, 1) := by decide +kernel
theorem dX9_walkTo_43 : decode cX9_walkTo 43 = .ok (.isub, 1) := by decide +kernel
theorem dX9_walkTo_44 : decode cX9_walkTo 44 = .ok (.istore 8, 2) := by decide +kernel
theorem dX9_walkTo_46 : decode cX9_walkTo 46 = .ok (.iload 8, 2) := by decide +kernel
theorem dX9_walkTo_48 : decode cX9_walkTo 48 = .ok (.ifCond .lt 101, 3) := by decide +kernel
theorem dX9_walkTo_51 : decode cX9_walkTo 51 = .ok (.aload_n 0, 1) := by decide +kernel
theorem dX9_walkTo_52 : decode cX9_walkTo 52 = .ok (.iload 8, 2) := by decide +kernel
theorem dX9_walkTo_54 : decode cX9_walkTo 54 = .ok (.invokevirtual 17, 3) := by decide +kernel
theorem dX9_walkTo_57 : decode cX9_walkTo 57 = .ok (.iconst 1, 1) := by decide +kernel
theorem dX9_walkTo_58 : decode cX9_walkTo 58 = .ok (.if_icmp .ne 7, 3) := by decide +kernel
theorem dX9_walkTo_61 : decode cX9_walkTo 61 = .ok (.iconst 1, 1) := by decide +kernel
theorem dX9_walkTo_62 : decode cX9_walkTo 62 = .ok (.goto 4, 3) := by decide +kernel
theorem dX9_walkTo_65 : decode cX9_walkTo 65 = .ok (.iconst (-1), 1) := by decide +kernel
theorem dX9_walkTo_66 : decode cX9_walkTo 66 = .ok (.istore 9, 2) := by decide +kernel
theorem dX9_walkTo_68 : decode cX9_walkTo 68 = .ok (.lload 4, 2) := by decide +kernel
theorem dX9_walkTo_70 : decode cX9_walkTo 70 = .ok (.ldc2_w 15, 3) := by decide +kernel
theorem dX9_walkTo_73 : decode cX9_walkTo 73 = .ok (.ldiv, 1) := by decide +kernel
theorem dX9_walkTo_74 : decode cX9_walkTo 74 = .ok (.lstore 4, 2) := by decide +kernel
theorem dX9_walkTo_76 : decode cX9_walkTo 76 = .ok (.aload_n 3, 1) := by decide +kernel
theorem dX9_walkTo_77 : decode cX9_walkTo 77 = .ok (.iconst 2, 1) := by decide +kernel
theorem dX9_walkTo_78 : decode cX9_walkTo 78 = .ok (.iload 9, 2) := by decide +kernel
theorem dX9_walkTo_80 : decode cX9_walkTo 80 = .ok (.invokevirtual 37, 3) := by decide +kernel
theorem dX9_walkTo_83 : decode cX9_walkTo 83 = .ok (.lload 6, 2) := by decide +kernel
theorem dX9_walkTo_85 : decode cX9_walkTo 85 = .ok (.lload 4, 2) := by decide +kernel
theorem dX9_walkTo_87 : decode cX9_walkTo 87 = .ok (.lcmp, 1) := by decide +kernel
theorem dX9_walkTo_88 : decode cX9_walkTo 88 = .ok (.ifCond .lt 25, 3) := by decide +kernel
theorem dX9_walkTo_91 : decode cX9_walkTo 91 = .ok (.lload 6, 2) := by decide +kernel
theorem dX9_walkTo_93 : decode cX9_walkTo 93 = .ok (.lload 4, 2) := by decide +kernel
theorem dX9_walkTo_95 : decode cX9_walkTo 95 = .ok (.lsub, 1) := by decide +kernel
theorem dX9_walkTo_96 : decode cX9_walkTo 96 = .ok (.lstore 6, 2) := by decide +kernel
theorem dX9_walkTo_98 : decode cX9_walkTo 98 = .ok (.aload_n 3, 1) := by decide +kernel
theorem dX9_walkTo_99 : decode cX9_walkTo 99 = .ok (.invokevirtual 41, 3) := by decide +kernel
theorem dX9_walkTo_102 : decode cX9_walkTo 102 = .ok (.aload_n 3, 1) := by decide +kernel
theorem dX9_walkTo_103 : decode cX9_walkTo 103 = .ok (.dup, 1) := by decide +kernel
theorem dX9_walkTo_104 : decode cX9_walkTo 104 = .ok (.getfield 45, 3) := by decide +kernel
theorem dX9_walkTo_107 : decode cX9_walkTo 107 = .ok (.iload 9, 2) := by decide +kernel
theorem dX9_walkTo_109 : decode cX9_walkTo 109 = .ok (.iadd, 1) := by decide +kernel
theorem dX9_walkTo_110 : decode cX9_walkTo 110 = .ok (.putfield 45, 3) := by decide +kernel
theorem dX9_walkTo_113 : decode cX9_walkTo 113 = .ok (.lload 6, 2) := by decide +kernel
theorem dX9_walkTo_115 : decode cX9_walkTo 115 = .ok (.lload 4, 2) := by decide +kernel
theorem dX9_walkTo_117 : decode cX9_walkTo 117 = .ok (.lcmp, 1) := by decide +kernel
theorem dX9_walkTo_118 : decode cX9_walkTo 118 = .ok (.ifCond .lt 25, 3) := by decide +kernel
theorem dX9_walkTo_121 : decode cX9_walkTo 121 = .ok (.lload 6, 2) := by decide +kernel
theorem dX9_walkTo_123 : decode cX9_walkTo 123 = .ok (.lload 4, 2) := by decide +kernel
theorem dX9_walkTo_125 : decode cX9_walkTo 125 = .ok (.lsub, 1) := by decide +kernel
theorem dX9_walkTo_126 : decode cX9_walkTo 126 = .ok (.lstore 6, 2) := by decide +kernel
theorem dX9_walkTo_128 : decode cX9_walkTo 128 = .ok (.aload_n 3, 1) := by decide +kernel
theorem dX9_walkTo_129 : decode cX9_walkTo 129 = .ok (.invokevirtual 41, 3) := by decide +kernel
theorem dX9_walkTo_132 : decode cX9_walkTo 132 = .ok (.aload_n 3, 1) := by decide +kernel
theorem dX9_walkTo_133 : decode cX9_walkTo 133 = .ok (.dup, 1) := by decide +kernel
theorem dX9_walkTo_134 : decode cX9_walkTo 134 = .ok (.getfield 45, 3) := by decide +kernel
theorem dX9_walkTo_137 : decode cX9_walkTo 137 = .ok (.iload 9, 2) := by decide +kernel
theorem dX9_walkTo_139 : decode cX9_walkTo 139 = .ok (.isub, 1) := by decide +kernel
theorem dX9_walkTo_140 : decode cX9_walkTo 140 = .ok (.putfield 45, 3) := by decide +kernel
theorem dX9_walkTo_143 : decode cX9_walkTo 143 = .ok (.iinc 8 (-1), 3) := by decide +kernel
theorem dX9_walkTo_146 : decode cX9_walkTo 146 = .ok (.goto (-100), 3) := by decide +kernel
theorem dX9_walkTo_149 : decode cX9_walkTo 149 = .ok (.aload_n 3, 1) := by decide +kernel
theorem dX9_walkTo_150 : decode cX9_walkTo 150 = .ok (.areturn, 1) := by decide +kernel
set_option maxRecDepth 20000 in
theorem ggX9_opens_X11_began : GoodIn wsX9_opens wsX11_began := goodIn_r _ [4, 5, 6, 42, 43, 44, 45, 46, 47, 48, 49, 50, 51, 52, 53, 54] (by decide +kernel) (by decide +kernel)
set_option maxRecDepth 20000 in
theorem gX9_opens_X11_began_n48 : GoodIn wsX9_opens (wsX11_began) := ggX9_opens_X11_began
set_option maxRecDepth 20000 in
theorem ggX9_opens_X8_opens : GoodIn wsX9_opens wsX8_opens := goodIn_r _ [12, 1, 2, 3, 4, 5, 6, 13, 14, 15, 16, 17, 18, 19, 20, 21, 22, 23, 24, 11, 25, 26, 27, 28, 29, 30, 31, 32, 33, 34, 35, 36, 37, 38, 39, 40, 41, 42, 43, 44, 45, 46, 47, 48, 49, 50, 51, 52, 53, 54, 55, 56, 57, 58, 59, 60, 61, 62, 63, 64, 65, 66, 67, 68, 69, 70, 71, 72, 73, 74, 75, 76, 77, 78, 79, 80, 81, 82] (by decide +kernel) (by decide +kernel)
set_option maxRecDepth 20000 in
theorem gX9_opens_X8_opens_s52 : GoodIn wsX9_opens (va_wsSU RX9 52 yX8_opens wsX8_opens) := goodIn_app (goodIn_of _ (by decide +kernel)) ggX9_opens_X8_opens
theorem dX9_opens_0 : decode cX9_opens 0 = .ok (.aload_n 2, 1) := by decide +kernel
theorem dX9_opens_1 : decode cX9_opens 1 = .ok (.bipush 30, 2) := by decide +kernel
theorem dX9_opens_3 : decode cX9_opens 3 = .ok (.invokevirtual 48, 3) := by decide +kernel
theorem dX9_opens_6 : decode cX9_opens 6 = .ok (.aload_n 0, 1) := by decide +kernel
theorem dX9_opens_7 : decode cX9_opens 7 = .ok (.iload_n 1, 1) := by decide +kernel
theorem dX9_opens_8 : decode cX9_opens 8 = .ok (.aload_n 2, 1) := by decide +kernel
theorem dX9_opens_9 : decode cX9_opens 9 = .ok (.invokespecial 52, 3) := by decide +kernel
theorem dX9_opens_12 : decode cX9_opens 12 = .ok (.iconst 3, 1) := by decide +kernel
theorem dX9_opens_13 : decode cX9_opens 13 = .ok (.imul, 1) := by decide +kernel
theorem dX9_opens_14 : decode cX9_opens 14 = .ok (.ireturn, 1) := by decide +kernel
theorem dX10_init_0 : decode cX10_init 0 = .ok (.aload_n 0, 1) := by decide +kernel
theorem dX10_init_1 : decode cX10_init 1 = .ok (.invokespecial 1, 3) := by decide +kernel
theorem dX10_init_4 : decode cX10_init 4 = .ok (.aload_n 0, 1) := by decide +kernel
theorem dX10_init_5 : decode cX10_init 5 = .ok (.lconst 0, 1) := by decide +kernel
theorem dX10_init_6 : decode cX10_init 6 = .ok (.putfield 7, 3) := by decide +kernel
theorem dX10_init_9 : decode cX10_init 9 = .ok (.aload_n 0, 1) := by decide +kernel
theorem dX10_init_10 : decode cX10_init 10 = .ok (.lconst 0, 1) := by decide +kernel
theorem dX10_init_11 : decode cX10_init 11 = .ok (.putfield 13, 3) := by decide +kernel
theorem dX10_init_14 : decode cX10_init 14 = .ok (.aload_n 0, 1) := by decide +kernel
theorem dX10_init_15 : decode cX10_init 15 = .ok (.lconst 0, 1) := by decide +kernel
theorem dX10_init_16 : decode cX10_init 16 = .ok (.putfield 16, 3) := by decide +kernel
theorem dX10_init_19 : decode cX10_init 19 = .ok (.aload_n 0, 1) := by decide +kernel
theorem dX10_init_20 : decode cX10_init 20 = .ok (.iconst 0, 1) := by decide +kernel
theorem dX10_init_21 : decode cX10_init 21 = .ok (.putfield 19, 3) := by decide +kernel
theorem dX10_init_24 : decode cX10_init 24 = .ok (.aload_n 0, 1) := by decide +kernel
theorem dX10_init_25 : decode cX10_init 25 = .ok (.aload_n 1, 1) := by decide +kernel
theorem dX10_init_26 : decode cX10_init 26 = .ok (.putfield 23, 3) := by decide +kernel
theorem dX10_init_29 : decode cX10_init 29 = .ok (.aload_n 0, 1) := by decide +kernel
theorem dX10_init_30 : decode cX10_init 30 = .ok (.lload_n 2, 1) := by decide +kernel
theorem dX10_init_31 : decode cX10_init 31 = .ok (.putfield 27, 3) := by decide +kernel
theorem dX10_init_34 : decode cX10_init 34 = .ok (.return_, 1) := by decide +kernel
theorem dX10_move_0 : decode cX10_move 0 = .ok (.aload_n 0, 1) := by decide +kernel
theorem dX10_move_1 : decode cX10_move 1 = .ok (.dup, 1) := by decide +kernel
theorem dX10_move_2 : decode cX10_move 2 = .ok (.getfield 13, 3) := by decide +kernel
theorem dX10_move_5 : decode cX10_move 5 = .ok (.getstatic 30, 3) := by decide +kernel
theorem dX10_move_8 : decode cX10_move 8 = .ok (.aload_n 0, 1) := by decide +kernel
theorem dX10_move_9 : decode cX10_move 9 = .ok (.getfield 19, 3) := by decide +kernel
theorem dX10_move_12 : decode cX10_move 12 = .ok (.iconst 3, 1) := by decide +kernel
theorem dX10_move_13 : decode cX10_move 13 = .ok (.iand, 1) := by decide +kernel
theorem dX10_move_14 : decode cX10_move 14 = .ok (.iaload, 1) := by decide +kernel
theorem dX10_move_15 : decode cX10_move 15 = .ok (.i2l, 1) := by decide +kernel
theorem dX10_move_16 : decode cX10_move 16 = .ok (.ladd, 1) := by decide +kernel
theorem dX10_move_17 : decode cX10_move 17 = .ok (.putfield 13, 3) := by decide +kernel
theorem dX10_move_20 : decode cX10_move 20 = .ok (.aload_n 0, 1) := by decide +kernel
theorem dX10_move_21 : decode cX10_move 21 = .ok (.dup, 1) := by decide +kernel
theorem dX10_move_22 : decode cX10_move 22 = .ok (.getfield 16, 3) := by decide +kernel
theorem dX10_move_25 : decode cX10_move 25 = .ok (.getstatic 36, 3) := by decide +kernel
theorem dX10_move_28 : decode cX10_move 28 = .ok (.aload_n 0, 1) := by decide +kernel
theorem dX10_move_29 : decode cX10_move 29 = .ok (.getfield 19, 3) := by decide +kernel
theorem dX10_move_32 : decode cX10_move 32 = .ok (.iconst 3, 1) := by decide +kernel
theorem dX10_move_33 : decode cX10_move 33 = .ok (.iand, 1) := by decide +kernel
theorem dX10_move_34 : decode cX10_move 34 = .ok (.iaload, 1) := by decide +kernel
theorem dX10_move_35 : decode cX10_move 35 = .ok (.i2l, 1) := by decide +kernel
theorem dX10_move_36 : decode cX10_move 36 = .ok (.ladd, 1) := by decide +kernel
theorem dX10_move_37 : decode cX10_move 37 = .ok (.putfield 16, 3) := by decide +kernel
theorem dX10_move_40 : decode cX10_move 40 = .ok (.return_, 1) := by decide +kernel
set_option maxRecDepth 20000 in
theorem ggX10_step_X10_move : GoodIn wsX10_step wsX10_move := goodIn_r _ [9, 10, 3, 11, 136, 137, 138, 139, 140, 141] (by decide +kernel) (by decide +kernel)
set_option maxRecDepth 20000 in
theorem gX10_step_X10_move : GoodIn wsX10_step (wsV RX10 39 RX10 yX10_move wsX10_move) := goodIn_app (goodIn_of _ (by decide +kernel)) ggX10_step_X10_move
set_option maxRecDepth 20000 in
theorem ggX10_step_X0_creaseAt : GoodIn wsX10_step wsX0_creaseAt := goodIn_r _ [18, 19, 20, 21, 22, 23, 24, 25, 26, 27, 28, 29, 30, 31, 32, 33, 34, 35, 36, 37, 38, 39, 40, 41, 42, 43, 44, 45, 46, 47, 48, 49, 50, 51, 52, 53, 54, 55, 56, 57, 58, 59, 60, 61, 62, 63, 64, 65, 66, 67, 68, 69, 70, 71, 72, 73, 74, 75, 76, 77, 13, 78, 79, 80, 81, 82, 83, 84, 85, 86, 87, 88, 89, 90, 91, 92, 93, 94, 95, 96, 97, 98, 99, 100, 101, 102, 103, 104, 105, 106, 107, 108, 109, 110, 111, 112, 113, 114, 115, 116, 117, 118, 119, 142, 143, 144, 145, 146, 147, 148, 149, 150, 151, 152, 153, 154, 155, 156, 157, 158, 159, 160, 161, 162, 163, 164, 165, 166, 167, 168, 169] (by decide +kernel) (by decide +kernel)
set_option maxRecDepth 20000 in
theorem gX10_step_X0_creaseAt_u42X0 : GoodIn wsX10_step (va_wsO RX10 42 RX0 "FoldedInHalf$Strip" ⟨"FoldedInHalf$Strip", "creaseAt", "(J)I"⟩ yX0_creaseAt wsX0_creaseAt) := goodIn_app (goodIn_of _ (by decide +kernel)) ggX10_step_X0_creaseAt
set_option maxRecDepth 20000 in
theorem ggX10_step_X1_creaseAt : GoodIn wsX10_step wsX1_creaseAt := goodIn_r _ [71, 72, 73, 74, 49, 50, 51, 52, 53, 54, 55, 56, 28, 23, 29, 30, 57, 75, 76, 77, 13, 78, 79, 80, 81, 82, 83, 84, 85, 86, 87, 88, 89, 90, 91, 92, 93, 94, 95, 96, 97, 98, 99, 100, 101, 102, 103, 104, 105, 106, 107, 108, 109, 110, 111, 112, 113, 114, 115, 116, 117, 118, 119, 142, 143, 144, 145, 146, 147, 148, 149, 150, 151, 152, 153, 154, 155, 156, 157, 158, 159, 160, 161, 162, 163, 164, 165, 166, 167, 168, 169] (by decide +kernel) (by decide +kernel)
set_option maxRecDepth 20000 in
theorem gX10_step_X1_creaseAt_u42X1 : GoodIn wsX10_step (va_wsO RX10 42 RX1 "FoldedInHalf$Strip" ⟨"FoldedInHalf$Strip", "creaseAt", "(J)I"⟩ yX1_creaseAt wsX1_creaseAt) := goodIn_app (goodIn_of _ (by decide +kernel)) ggX10_step_X1_creaseAt
set_option maxRecDepth 20000 in
theorem ggX10_step_X8_creaseAt : GoodIn wsX10_step wsX8_creaseAt := goodIn_r _ [80, 81, 82, 83, 84, 85, 23, 86, 87, 88, 89, 90, 91, 92, 93, 94, 95, 96, 97, 98, 99, 100, 101, 102, 103, 104, 105, 106, 107, 108, 109, 110, 111, 112, 113, 114, 115, 116, 117, 118, 119, 142, 143, 144, 145, 146, 147, 148, 149, 150, 151, 152, 153, 154, 155, 156, 157, 158, 159, 160, 161, 162, 163, 164, 165, 166, 167, 168, 169] (by decide +kernel) (by decide +kernel)
set_option maxRecDepth 20000 in
theorem gX10_step_X8_creaseAt_u42X2 : GoodIn wsX10_step (va_wsU RX10 42 RX2 "FoldedInHalf$Strip" ⟨"FoldedInHalf$Strip", "creaseAt", "(J)I"⟩ yX8_creaseAt wsX8_creaseAt) := goodIn_app (goodIn_of _ (by decide +kernel)) ggX10_step_X8_creaseAt
set_option maxRecDepth 20000 in
theorem ggX10_step_X4_creaseAt : GoodIn wsX10_step wsX4_creaseAt := goodIn_r _ [125, 126] (by decide +kernel) (by decide +kernel)
set_option maxRecDepth 20000 in
theorem gX10_step_X4_creaseAt_u42X4 : GoodIn wsX10_step (va_wsO RX10 42 RX4 "FoldedInHalf$Strip" ⟨"FoldedInHalf$Strip", "creaseAt", "(J)I"⟩ yX4_creaseAt wsX4_creaseAt) := goodIn_app (goodIn_of _ (by decide +kernel)) ggX10_step_X4_creaseAt
set_option maxRecDepth 20000 in
theorem gX10_step_X8_creaseAt_u42X6 : GoodIn wsX10_step (va_wsU RX10 42 RX6 "FoldedInHalf$Strip" ⟨"FoldedInHalf$Strip", "creaseAt", "(J)I"⟩ yX8_creaseAt wsX8_creaseAt) := goodIn_app (goodIn_of _ (by decide +kernel)) ggX10_step_X8_creaseAt
set_option maxRecDepth 20000 in
theorem gX10_step_X8_creaseAt : GoodIn wsX10_step (wsV RX10 42 RX8 yX8_creaseAt wsX8_creaseAt) := goodIn_app (goodIn_of _ (by decide +kernel)) ggX10_step_X8_creaseAt
set_option maxRecDepth 20000 in
theorem ggX10_step_X9_creaseAt : GoodIn wsX10_step wsX9_creaseAt := goodIn_r _ [132, 44, 133, 134, 135, 85, 23, 86, 87, 88, 89, 90, 91, 92, 93, 94, 95, 96, 97, 98, 99, 142, 143, 144, 145, 146, 147, 148, 149, 150, 151, 152, 153, 154, 155, 156, 157, 158, 159, 160, 161, 162, 163, 164, 165, 166, 167, 168, 169] (by decide +kernel) (by decide +kernel)
set_option maxRecDepth 20000 in
theorem gX10_step_X9_creaseAt_u42X9 : GoodIn wsX10_step (va_wsO RX10 42 RX9 "FoldedInHalf$Strip" ⟨"FoldedInHalf$Strip", "creaseAt", "(J)I"⟩ yX9_creaseAt wsX9_creaseAt) := goodIn_app (goodIn_of _ (by decide +kernel)) ggX10_step_X9_creaseAt
theorem dX10_step_0 : decode cX10_step 0 = .ok (.aload_n 0, 1) := by decide +kernel
theorem dX10_step_1 : decode cX10_step 1 = .ok (.invokevirtual 39, 3) := by decide +kernel
theorem dX10_step_4 : decode cX10_step 4 = .ok (.aload_n 0, 1) := by decide +kernel
theorem dX10_step_5 : decode cX10_step 5 = .ok (.dup, 1) := by decide +kernel
theorem dX10_step_6 : decode cX10_step 6 = .ok (.getfield 7, 3) := by decide +kernel
theorem dX10_step_9 : decode cX10_step 9 = .ok (.lconst 1, 1) := by decide +kernel
theorem dX10_step_10 : decode cX10_step 10 = .ok (.ladd, 1) := by decide +kernel
theorem dX10_step_11 : decode cX10_step 11 = .ok (.putfield 7, 3) := by decide +kernel
theorem dX10_step_14 : decode cX10_step 14 = .ok (.aload_n 0, 1) := by decide +kernel
theorem dX10_step_15 : decode cX10_step 15 = .ok (.getfield 7, 3) := by decide +kernel
theorem dX10_step_18 : decode cX10_step 18 = .ok (.aload_n 0, 1) := by decide +kernel
theorem dX10_step_19 : decode cX10_step 19 = .ok (.getfield 27, 3) := by decide +kernel
theorem dX10_step_22 : decode cX10_step 22 = .ok (.lcmp, 1) := by decide +kernel
theorem dX10_step_23 : decode cX10_step 23 = .ok (.ifCond .gt 32, 3) := by decide +kernel
theorem dX10_step_26 : decode cX10_step 26 = .ok (.aload_n 0, 1) := by decide +kernel
theorem dX10_step_27 : decode cX10_step 27 = .ok (.dup, 1) := by decide +kernel
theorem dX10_step_28 : decode cX10_step 28 = .ok (.getfield 19, 3) := by decide +kernel
theorem dX10_step_31 : decode cX10_step 31 = .ok (.aload_n 0, 1) := by decide +kernel
theorem dX10_step_32 : decode cX10_step 32 = .ok (.getfield 23, 3) := by decide +kernel
theorem dX10_step_35 : decode cX10_step 35 = .ok (.aload_n 0, 1) := by decide +kernel
theorem dX10_step_36 : decode cX10_step 36 = .ok (.getfield 7, 3) := by decide +kernel
theorem dX10_step_39 : decode cX10_step 39 = .ok (.invokevirtual 42, 3) := by decide +kernel
theorem dX10_step_42 : decode cX10_step 42 = .ok (.iconst 1, 1) := by decide +kernel
theorem dX10_step_43 : decode cX10_step 43 = .ok (.if_icmp .ne 7, 3) := by decide +kernel
theorem dX10_step_46 : decode cX10_step 46 = .ok (.iconst 1, 1) := by decide +kernel
theorem dX10_step_47 : decode cX10_step 47 = .ok (.goto 4, 3) := by decide +kernel
theorem dX10_step_50 : decode cX10_step 50 = .ok (.iconst (-1), 1) := by decide +kernel
theorem dX10_step_51 : decode cX10_step 51 = .ok (.iadd, 1) := by decide +kernel
theorem dX10_step_52 : decode cX10_step 52 = .ok (.putfield 19, 3) := by decide +kernel
theorem dX10_step_55 : decode cX10_step 55 = .ok (.return_, 1) := by decide +kernel
theorem dX10_isAt_0 : decode cX10_isAt 0 = .ok (.aload_n 0, 1) := by decide +kernel
theorem dX10_isAt_1 : decode cX10_isAt 1 = .ok (.getfield 13, 3) := by decide +kernel
theorem dX10_isAt_4 : decode cX10_isAt 4 = .ok (.iload_n 1, 1) := by decide +kernel
theorem dX10_isAt_5 : decode cX10_isAt 5 = .ok (.i2l, 1) := by decide +kernel
theorem dX10_isAt_6 : decode cX10_isAt 6 = .ok (.lcmp, 1) := by decide +kernel
theorem dX10_isAt_7 : decode cX10_isAt 7 = .ok (.ifCond .ne 17, 3) := by decide +kernel
theorem dX10_isAt_10 : decode cX10_isAt 10 = .ok (.aload_n 0, 1) := by decide +kernel
theorem dX10_isAt_11 : decode cX10_isAt 11 = .ok (.getfield 16, 3) := by decide +kernel
theorem dX10_isAt_14 : decode cX10_isAt 14 = .ok (.iload_n 2, 1) := by decide +kernel
theorem dX10_isAt_15 : decode cX10_isAt 15 = .ok (.i2l, 1) := by decide +kernel
theorem dX10_isAt_16 : decode cX10_isAt 16 = .ok (.lcmp, 1) := by decide +kernel
theorem dX10_isAt_17 : decode cX10_isAt 17 = .ok (.ifCond .ne 7, 3) := by decide +kernel
theorem dX10_isAt_20 : decode cX10_isAt 20 = .ok (.iconst 1, 1) := by decide +kernel
theorem dX10_isAt_21 : decode cX10_isAt 21 = .ok (.goto 4, 3) := by decide +kernel
theorem dX10_isAt_24 : decode cX10_isAt 24 = .ok (.iconst 0, 1) := by decide +kernel
theorem dX10_isAt_25 : decode cX10_isAt 25 = .ok (.ireturn, 1) := by decide +kernel
theorem dX10_middleX_0 : decode cX10_middleX 0 = .ok (.ldc2_w 48, 3) := by decide +kernel
theorem dX10_middleX_3 : decode cX10_middleX 3 = .ok (.aload_n 0, 1) := by decide +kernel
theorem dX10_middleX_4 : decode cX10_middleX 4 = .ok (.getfield 13, 3) := by decide +kernel
theorem dX10_middleX_7 : decode cX10_middleX 7 = .ok (.lmul, 1) := by decide +kernel
theorem dX10_middleX_8 : decode cX10_middleX 8 = .ok (.l2i, 1) := by decide +kernel
theorem dX10_middleX_9 : decode cX10_middleX 9 = .ok (.getstatic 30, 3) := by decide +kernel
theorem dX10_middleX_12 : decode cX10_middleX 12 = .ok (.aload_n 0, 1) := by decide +kernel
theorem dX10_middleX_13 : decode cX10_middleX 13 = .ok (.getfield 19, 3) := by decide +kernel
theorem dX10_middleX_16 : decode cX10_middleX 16 = .ok (.iconst 3, 1) := by decide +kernel
theorem dX10_middleX_17 : decode cX10_middleX 17 = .ok (.iand, 1) := by decide +kernel
theorem dX10_middleX_18 : decode cX10_middleX 18 = .ok (.iaload, 1) := by decide +kernel
theorem dX10_middleX_19 : decode cX10_middleX 19 = .ok (.iadd, 1) := by decide +kernel
theorem dX10_middleX_20 : decode cX10_middleX 20 = .ok (.ireturn, 1) := by decide +kernel
theorem dX10_middleY_0 : decode cX10_middleY 0 = .ok (.ldc2_w 48, 3) := by decide +kernel
theorem dX10_middleY_3 : decode cX10_middleY 3 = .ok (.aload_n 0, 1) := by decide +kernel
theorem dX10_middleY_4 : decode cX10_middleY 4 = .ok (.getfield 16, 3) := by decide +kernel
theorem dX10_middleY_7 : decode cX10_middleY 7 = .ok (.lmul, 1) := by decide +kernel
theorem dX10_middleY_8 : decode cX10_middleY 8 = .ok (.l2i, 1) := by decide +kernel
theorem dX10_middleY_9 : decode cX10_middleY 9 = .ok (.getstatic 36, 3) := by decide +kernel
theorem dX10_middleY_12 : decode cX10_middleY 12 = .ok (.aload_n 0, 1) := by decide +kernel
theorem dX10_middleY_13 : decode cX10_middleY 13 = .ok (.getfield 19, 3) := by decide +kernel
theorem dX10_middleY_16 : decode cX10_middleY 16 = .ok (.iconst 3, 1) := by decide +kernel
theorem dX10_middleY_17 : decode cX10_middleY 17 = .ok (.iand, 1) := by decide +kernel
theorem dX10_middleY_18 : decode cX10_middleY 18 = .ok (.iaload, 1) := by decide +kernel
theorem dX10_middleY_19 : decode cX10_middleY 19 = .ok (.iadd, 1) := by decide +kernel
theorem dX10_middleY_20 : decode cX10_middleY 20 = .ok (.ireturn, 1) := by decide +kernel
theorem dX10_spread_0 : decode cX10_spread 0 = .ok (.iload_n 1, 1) := by decide +kernel
theorem dX10_spread_1 : decode cX10_spread 1 = .ok (.i2l, 1) := by decide +kernel
theorem dX10_spread_2 : decode cX10_spread 2 = .ok (.aload_n 0, 1) := by decide +kernel
theorem dX10_spread_3 : decode cX10_spread 3 = .ok (.getfield 13, 3) := by decide +kernel
theorem dX10_spread_6 : decode cX10_spread 6 = .ok (.lmul, 1) := by decide +kernel
theorem dX10_spread_7 : decode cX10_spread 7 = .ok (.iload_n 2, 1) := by decide +kernel
theorem dX10_spread_8 : decode cX10_spread 8 = .ok (.i2l, 1) := by decide +kernel
theorem dX10_spread_9 : decode cX10_spread 9 = .ok (.aload_n 0, 1) := by decide +kernel
theorem dX10_spread_10 : decode cX10_spread 10 = .ok (.getfield 16, 3) := by decide +kernel
theorem dX10_spread_13 : decode cX10_spread 13 = .ok (.lmul, 1) := by decide +kernel
theorem dX10_spread_14 : decode cX10_spread 14 = .ok (.lsub, 1) := by decide +kernel
theorem dX10_spread_15 : decode cX10_spread 15 = .ok (.lstore_n 3, 1) := by decide +kernel
theorem dX10_spread_16 : decode cX10_spread 16 = .ok (.aload_n 0, 1) := by decide +kernel
theorem dX10_spread_17 : decode cX10_spread 17 = .ok (.iload_n 1, 1) := by decide +kernel
theorem dX10_spread_18 : decode cX10_spread 18 = .ok (.i2l, 1) := by decide +kernel
theorem dX10_spread_19 : decode cX10_spread 19 = .ok (.aload_n 0, 1) := by decide +kernel
theorem dX10_spread_20 : decode cX10_spread 20 = .ok (.getfield 16, 3) := by decide +kernel
theorem dX10_spread_23 : decode cX10_spread 23 = .ok (.lmul, 1) := by decide +kernel
theorem dX10_spread_24 : decode cX10_spread 24 = .ok (.iload_n 2, 1) := by decide +kernel
theorem dX10_spread_25 : decode cX10_spread 25 = .ok (.i2l, 1) := by decide +kernel
theorem dX10_spread_26 : decode cX10_spread 26 = .ok (.aload_n 0, 1) := by decide +kernel
theorem dX10_spread_27 : decode cX10_spread 27 = .ok (.getfield 13, 3) := by decide +kernel
theorem dX10_spread_30 : decode cX10_spread 30 = .ok (.lmul, 1) := by decide +kernel
theorem dX10_spread_31 : decode cX10_spread 31 = .ok (.ladd, 1) := by decide +kernel
theorem dX10_spread_32 : decode cX10_spread 32 = .ok (.putfield 16, 3) := by decide +kernel
theorem dX10_spread_35 : decode cX10_spread 35 = .ok (.aload_n 0, 1) := by decide +kernel
theorem dX10_spread_36 : decode cX10_spread 36 = .ok (.lload_n 3, 1) := by decide +kernel
theorem dX10_spread_37 : decode cX10_spread 37 = .ok (.putfield 13, 3) := by decide +kernel
theorem dX10_spread_40 : decode cX10_spread 40 = .ok (.return_, 1) := by decide +kernel
set_option maxRecDepth 20000 in
theorem ggX10_seeFrom_X10_spread : GoodIn wsX10_seeFrom wsX10_spread := goodIn_r _ [8, 1, 2, 9, 10, 11, 12, 13, 14] (by decide +kernel) (by decide +kernel)
set_option maxRecDepth 20000 in
theorem gX10_seeFrom_X10_spread : GoodIn wsX10_seeFrom (wsV RX10 50 RX10 yX10_spread wsX10_spread) := goodIn_app (goodIn_of _ (by decide +kernel)) ggX10_seeFrom_X10_spread
theorem dX10_seeFrom_0 : decode cX10_seeFrom 0 = .ok (.aload_n 0, 1) := by decide +kernel
theorem dX10_seeFrom_1 : decode cX10_seeFrom 1 = .ok (.dup, 1) := by decide +kernel
theorem dX10_seeFrom_2 : decode cX10_seeFrom 2 = .ok (.getfield 13, 3) := by decide +kernel
theorem dX10_seeFrom_5 : decode cX10_seeFrom 5 = .ok (.aload_n 1, 1) := by decide +kernel
theorem dX10_seeFrom_6 : decode cX10_seeFrom 6 = .ok (.getfield 13, 3) := by decide +kernel
theorem dX10_seeFrom_9 : decode cX10_seeFrom 9 = .ok (.lsub, 1) := by decide +kernel
theorem dX10_seeFrom_10 : decode cX10_seeFrom 10 = .ok (.putfield 13, 3) := by decide +kernel
theorem dX10_seeFrom_13 : decode cX10_seeFrom 13 = .ok (.aload_n 0, 1) := by decide +kernel
theorem dX10_seeFrom_14 : decode cX10_seeFrom 14 = .ok (.dup, 1) := by decide +kernel
theorem dX10_seeFrom_15 : decode cX10_seeFrom 15 = .ok (.getfield 16, 3) := by decide +kernel
theorem dX10_seeFrom_18 : decode cX10_seeFrom 18 = .ok (.aload_n 1, 1) := by decide +kernel
theorem dX10_seeFrom_19 : decode cX10_seeFrom 19 = .ok (.getfield 16, 3) := by decide +kernel
theorem dX10_seeFrom_22 : decode cX10_seeFrom 22 = .ok (.lsub, 1) := by decide +kernel
theorem dX10_seeFrom_23 : decode cX10_seeFrom 23 = .ok (.putfield 16, 3) := by decide +kernel
theorem dX10_seeFrom_26 : decode cX10_seeFrom 26 = .ok (.aload_n 1, 1) := by decide +kernel
theorem dX10_seeFrom_27 : decode cX10_seeFrom 27 = .ok (.getfield 19, 3) := by decide +kernel
theorem dX10_seeFrom_30 : decode cX10_seeFrom 30 = .ok (.iconst 3, 1) := by decide +kernel
theorem dX10_seeFrom_31 : decode cX10_seeFrom 31 = .ok (.iand, 1) := by decide +kernel
theorem dX10_seeFrom_32 : decode cX10_seeFrom 32 = .ok (.istore_n 2, 1) := by decide +kernel
theorem dX10_seeFrom_33 : decode cX10_seeFrom 33 = .ok (.iconst 0, 1) := by decide +kernel
theorem dX10_seeFrom_34 : decode cX10_seeFrom 34 = .ok (.istore_n 3, 1) := by decide +kernel
theorem dX10_seeFrom_35 : decode cX10_seeFrom 35 = .ok (.iload_n 3, 1) := by decide +kernel
theorem dX10_seeFrom_36 : decode cX10_seeFrom 36 = .ok (.iload_n 2, 1) := by decide +kernel
theorem dX10_seeFrom_37 : decode cX10_seeFrom 37 = .ok (.if_icmp .ge 15, 3) := by decide +kernel
theorem dX10_seeFrom_40 : decode cX10_seeFrom 40 = .ok (.aload_n 0, 1) := by decide +kernel
theorem dX10_seeFrom_41 : decode cX10_seeFrom 41 = .ok (.iconst 0, 1) := by decide +kernel
theorem dX10_seeFrom_42 : decode cX10_seeFrom 42 = .ok (.iconst (-1), 1) := by decide +kernel
theorem dX10_seeFrom_43 : decode cX10_seeFrom 43 = .ok (.invokevirtual 50, 3) := by decide +kernel
theorem dX10_seeFrom_46 : decode cX10_seeFrom 46 = .ok (.iinc 3 1, 3) := by decide +kernel
theorem dX10_seeFrom_49 : decode cX10_seeFrom 49 = .ok (.goto (-14), 3) := by decide +kernel
theorem dX10_seeFrom_52 : decode cX10_seeFrom 52 = .ok (.aload_n 0, 1) := by decide +kernel
theorem dX10_seeFrom_53 : decode cX10_seeFrom 53 = .ok (.dup, 1) := by decide +kernel
theorem dX10_seeFrom_54 : decode cX10_seeFrom 54 = .ok (.getfield 19, 3) := by decide +kernel
theorem dX10_seeFrom_57 : decode cX10_seeFrom 57 = .ok (.aload_n 1, 1) := by decide +kernel
theorem dX10_seeFrom_58 : decode cX10_seeFrom 58 = .ok (.getfield 19, 3) := by decide +kernel
theorem dX10_seeFrom_61 : decode cX10_seeFrom 61 = .ok (.isub, 1) := by decide +kernel
theorem dX10_seeFrom_62 : decode cX10_seeFrom 62 = .ok (.putfield 19, 3) := by decide +kernel
theorem dX10_seeFrom_65 : decode cX10_seeFrom 65 = .ok (.return_, 1) := by decide +kernel
