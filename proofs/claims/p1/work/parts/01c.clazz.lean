set_option maxRecDepth 20000 in
theorem ggX11_init_X5_init : GoodIn wsX11_init wsX5_init := goodIn_r _ [29, 30, 2, 3, 31, 32, 33, 34, 35, 36, 37, 38, 70, 71, 72, 73, 74, 75, 76] (by decide +kernel) (by decide +kernel)
set_option maxRecDepth 20000 in
theorem gX11_init_X5_init_n42 : GoodIn wsX11_init (wsX5_init) := ggX11_init_X5_init
set_option maxRecDepth 20000 in
theorem ggX11_init_X3_init : GoodIn wsX11_init wsX3_init := goodIn_r _ [40, 41, 2, 3, 9, 42, 43, 44, 45, 46, 47, 48, 77, 78, 79, 80, 81, 82, 83] (by decide +kernel) (by decide +kernel)
set_option maxRecDepth 20000 in
theorem gX11_init_X3_init_n49 : GoodIn wsX11_init (wsX3_init) := ggX11_init_X3_init
set_option maxRecDepth 20000 in
theorem ggX11_init_X7_init : GoodIn wsX11_init wsX7_init := goodIn_r _ [50, 51, 2, 3, 52, 53, 54, 55, 56, 84, 85, 86, 87] (by decide +kernel) (by decide +kernel)
set_option maxRecDepth 20000 in
theorem gX11_init_X7_init_n64 : GoodIn wsX11_init (wsX7_init) := ggX11_init_X7_init
theorem dX11_init_0 : decode cX11_init 0 = .ok (.aload_n 0, 1) := by decide +kernel
theorem dX11_init_1 : decode cX11_init 1 = .ok (.invokespecial 1, 3) := by decide +kernel
theorem dX11_init_4 : decode cX11_init 4 = .ok (.aload_n 0, 1) := by decide +kernel
theorem dX11_init_5 : decode cX11_init 5 = .ok (.bipush 8, 2) := by decide +kernel
theorem dX11_init_7 : decode cX11_init 7 = .ok (.anewarray 9, 3) := by decide +kernel
theorem dX11_init_10 : decode cX11_init 10 = .ok (.putfield 11, 3) := by decide +kernel
theorem dX11_init_13 : decode cX11_init 13 = .ok (.aload_n 0, 1) := by decide +kernel
theorem dX11_init_14 : decode cX11_init 14 = .ok (.bipush 8, 2) := by decide +kernel
theorem dX11_init_16 : decode cX11_init 16 = .ok (.anewarray 15, 3) := by decide +kernel
theorem dX11_init_19 : decode cX11_init 19 = .ok (.putfield 17, 3) := by decide +kernel
theorem dX11_init_22 : decode cX11_init 22 = .ok (.aload_n 0, 1) := by decide +kernel
theorem dX11_init_23 : decode cX11_init 23 = .ok (.bipush 8, 2) := by decide +kernel
theorem dX11_init_25 : decode cX11_init 25 = .ok (.anewarray 15, 3) := by decide +kernel
theorem dX11_init_28 : decode cX11_init 28 = .ok (.putfield 21, 3) := by decide +kernel
theorem dX11_init_31 : decode cX11_init 31 = .ok (.aload_n 0, 1) := by decide +kernel
theorem dX11_init_32 : decode cX11_init 32 = .ok (.bipush 8, 2) := by decide +kernel
theorem dX11_init_34 : decode cX11_init 34 = .ok (.newarray .int, 2) := by decide +kernel
theorem dX11_init_36 : decode cX11_init 36 = .ok (.putfield 24, 3) := by decide +kernel
theorem dX11_init_39 : decode cX11_init 39 = .ok (.aload_n 0, 1) := by decide +kernel
theorem dX11_init_40 : decode cX11_init 40 = .ok (.bipush 20, 2) := by decide +kernel
theorem dX11_init_42 : decode cX11_init 42 = .ok (.newarray .int, 2) := by decide +kernel
theorem dX11_init_44 : decode cX11_init 44 = .ok (.putfield 28, 3) := by decide +kernel
theorem dX11_init_47 : decode cX11_init 47 = .ok (.aload_n 0, 1) := by decide +kernel
theorem dX11_init_48 : decode cX11_init 48 = .ok (.sipush 8192, 3) := by decide +kernel
theorem dX11_init_51 : decode cX11_init 51 = .ok (.newarray .int, 2) := by decide +kernel
theorem dX11_init_53 : decode cX11_init 53 = .ok (.putfield 31, 3) := by decide +kernel
theorem dX11_init_56 : decode cX11_init 56 = .ok (.aload_n 0, 1) := by decide +kernel
theorem dX11_init_57 : decode cX11_init 57 = .ok (.sipush 8192, 3) := by decide +kernel
theorem dX11_init_60 : decode cX11_init 60 = .ok (.newarray .int, 2) := by decide +kernel
theorem dX11_init_62 : decode cX11_init 62 = .ok (.putfield 34, 3) := by decide +kernel
theorem dX11_init_65 : decode cX11_init 65 = .ok (.aload_n 0, 1) := by decide +kernel
theorem dX11_init_66 : decode cX11_init 66 = .ok (.bipush 31, 2) := by decide +kernel
theorem dX11_init_68 : decode cX11_init 68 = .ok (.newarray .int, 2) := by decide +kernel
theorem dX11_init_70 : decode cX11_init 70 = .ok (.putfield 37, 3) := by decide +kernel
theorem dX11_init_73 : decode cX11_init 73 = .ok (.aload_n 0, 1) := by decide +kernel
theorem dX11_init_74 : decode cX11_init 74 = .ok (.new 40, 3) := by decide +kernel
theorem dX11_init_77 : decode cX11_init 77 = .ok (.dup, 1) := by decide +kernel
theorem dX11_init_78 : decode cX11_init 78 = .ok (.invokespecial 42, 3) := by decide +kernel
theorem dX11_init_81 : decode cX11_init 81 = .ok (.putfield 43, 3) := by decide +kernel
theorem dX11_init_84 : decode cX11_init 84 = .ok (.aload_n 0, 1) := by decide +kernel
theorem dX11_init_85 : decode cX11_init 85 = .ok (.new 47, 3) := by decide +kernel
theorem dX11_init_88 : decode cX11_init 88 = .ok (.dup, 1) := by decide +kernel
theorem dX11_init_89 : decode cX11_init 89 = .ok (.invokespecial 49, 3) := by decide +kernel
theorem dX11_init_92 : decode cX11_init 92 = .ok (.putfield 50, 3) := by decide +kernel
theorem dX11_init_95 : decode cX11_init 95 = .ok (.aload_n 0, 1) := by decide +kernel
theorem dX11_init_96 : decode cX11_init 96 = .ok (.iconst 0, 1) := by decide +kernel
theorem dX11_init_97 : decode cX11_init 97 = .ok (.putfield 54, 3) := by decide +kernel
theorem dX11_init_100 : decode cX11_init 100 = .ok (.aload_n 0, 1) := by decide +kernel
theorem dX11_init_101 : decode cX11_init 101 = .ok (.iconst (-1), 1) := by decide +kernel
theorem dX11_init_102 : decode cX11_init 102 = .ok (.putfield 58, 3) := by decide +kernel
theorem dX11_init_105 : decode cX11_init 105 = .ok (.aload_n 0, 1) := by decide +kernel
theorem dX11_init_106 : decode cX11_init 106 = .ok (.iconst 0, 1) := by decide +kernel
theorem dX11_init_107 : decode cX11_init 107 = .ok (.putfield 61, 3) := by decide +kernel
theorem dX11_init_110 : decode cX11_init 110 = .ok (.iconst 0, 1) := by decide +kernel
theorem dX11_init_111 : decode cX11_init 111 = .ok (.istore_n 1, 1) := by decide +kernel
theorem dX11_init_112 : decode cX11_init 112 = .ok (.iload_n 1, 1) := by decide +kernel
theorem dX11_init_113 : decode cX11_init 113 = .ok (.bipush 8, 2) := by decide +kernel
theorem dX11_init_115 : decode cX11_init 115 = .ok (.if_icmp .ge 22, 3) := by decide +kernel
theorem dX11_init_118 : decode cX11_init 118 = .ok (.aload_n 0, 1) := by decide +kernel
theorem dX11_init_119 : decode cX11_init 119 = .ok (.getfield 11, 3) := by decide +kernel
theorem dX11_init_122 : decode cX11_init 122 = .ok (.iload_n 1, 1) := by decide +kernel
theorem dX11_init_123 : decode cX11_init 123 = .ok (.new 9, 3) := by decide +kernel
theorem dX11_init_126 : decode cX11_init 126 = .ok (.dup, 1) := by decide +kernel
theorem dX11_init_127 : decode cX11_init 127 = .ok (.invokespecial 64, 3) := by decide +kernel
theorem dX11_init_130 : decode cX11_init 130 = .ok (.aastore, 1) := by decide +kernel
theorem dX11_init_131 : decode cX11_init 131 = .ok (.iinc 1 1, 3) := by decide +kernel
theorem dX11_init_134 : decode cX11_init 134 = .ok (.goto (-22), 3) := by decide +kernel
theorem dX11_init_137 : decode cX11_init 137 = .ok (.return_, 1) := by decide +kernel
theorem dX11_refuse_0 : decode cX11_refuse 0 = .ok (.iload_n 1, 1) := by decide +kernel
theorem dX11_refuse_1 : decode cX11_refuse 1 = .ok (.ineg, 1) := by decide +kernel
theorem dX11_refuse_2 : decode cX11_refuse 2 = .ok (.istore_n 2, 1) := by decide +kernel
theorem dX11_refuse_3 : decode cX11_refuse 3 = .ok (.iload_n 2, 1) := by decide +kernel
theorem dX11_refuse_4 : decode cX11_refuse 4 = .ok (.ifCond .le 22, 3) := by decide +kernel
theorem dX11_refuse_7 : decode cX11_refuse 7 = .ok (.iload_n 2, 1) := by decide +kernel
theorem dX11_refuse_8 : decode cX11_refuse 8 = .ok (.aload_n 0, 1) := by decide +kernel
theorem dX11_refuse_9 : decode cX11_refuse 9 = .ok (.getfield 24, 3) := by decide +kernel
theorem dX11_refuse_12 : decode cX11_refuse 12 = .ok (.arraylength, 1) := by decide +kernel
theorem dX11_refuse_13 : decode cX11_refuse 13 = .ok (.if_icmp .ge 13, 3) := by decide +kernel
theorem dX11_refuse_16 : decode cX11_refuse 16 = .ok (.aload_n 0, 1) := by decide +kernel
theorem dX11_refuse_17 : decode cX11_refuse 17 = .ok (.getfield 24, 3) := by decide +kernel
theorem dX11_refuse_20 : decode cX11_refuse 20 = .ok (.iload_n 2, 1) := by decide +kernel
theorem dX11_refuse_21 : decode cX11_refuse 21 = .ok (.dup2, 1) := by decide +kernel
theorem dX11_refuse_22 : decode cX11_refuse 22 = .ok (.iaload, 1) := by decide +kernel
theorem dX11_refuse_23 : decode cX11_refuse 23 = .ok (.iconst 1, 1) := by decide +kernel
theorem dX11_refuse_24 : decode cX11_refuse 24 = .ok (.iadd, 1) := by decide +kernel
theorem dX11_refuse_25 : decode cX11_refuse 25 = .ok (.iastore, 1) := by decide +kernel
theorem dX11_refuse_26 : decode cX11_refuse 26 = .ok (.iload_n 1, 1) := by decide +kernel
theorem dX11_refuse_27 : decode cX11_refuse 27 = .ok (.ireturn, 1) := by decide +kernel
set_option maxRecDepth 20000 in
theorem ggX11_refuseTens_X11_refuse : GoodIn wsX11_refuseTens wsX11_refuse := goodIn_r _ [5, 6, 7, 8, 9, 10, 11, 12, 13, 14, 15, 16, 17, 18, 19] (by decide +kernel) (by decide +kernel)
set_option maxRecDepth 20000 in
theorem gX11_refuseTens_X11_refuse : GoodIn wsX11_refuseTens (wsV RX11 65 RX11 yX11_refuse wsX11_refuse) := goodIn_app (goodIn_of _ (by decide +kernel)) ggX11_refuseTens_X11_refuse
theorem dX11_refuseTens_0 : decode cX11_refuseTens 0 = .ok (.aload_n 0, 1) := by decide +kernel
theorem dX11_refuseTens_1 : decode cX11_refuseTens 1 = .ok (.iload_n 1, 1) := by decide +kernel
theorem dX11_refuseTens_2 : decode cX11_refuseTens 2 = .ok (.invokevirtual 65, 3) := by decide +kernel
theorem dX11_refuseTens_5 : decode cX11_refuseTens 5 = .ok (.bipush 10, 2) := by decide +kernel
theorem dX11_refuseTens_7 : decode cX11_refuseTens 7 = .ok (.isub, 1) := by decide +kernel
theorem dX11_refuseTens_8 : decode cX11_refuseTens 8 = .ok (.ireturn, 1) := by decide +kernel
theorem dX11_shelfAt_0 : decode cX11_shelfAt 0 = .ok (.iload_n 1, 1) := by decide +kernel
theorem dX11_shelfAt_1 : decode cX11_shelfAt 1 = .ok (.ifCond .lt 18, 3) := by decide +kernel
theorem dX11_shelfAt_4 : decode cX11_shelfAt 4 = .ok (.iload_n 1, 1) := by decide +kernel
theorem dX11_shelfAt_5 : decode cX11_shelfAt 5 = .ok (.bipush 8, 2) := by decide +kernel
theorem dX11_shelfAt_7 : decode cX11_shelfAt 7 = .ok (.if_icmp .ge 12, 3) := by decide +kernel
theorem dX11_shelfAt_10 : decode cX11_shelfAt 10 = .ok (.aload_n 0, 1) := by decide +kernel
theorem dX11_shelfAt_11 : decode cX11_shelfAt 11 = .ok (.getfield 11, 3) := by decide +kernel
theorem dX11_shelfAt_14 : decode cX11_shelfAt 14 = .ok (.iload_n 1, 1) := by decide +kernel
theorem dX11_shelfAt_15 : decode cX11_shelfAt 15 = .ok (.aaload, 1) := by decide +kernel
theorem dX11_shelfAt_16 : decode cX11_shelfAt 16 = .ok (.goto 4, 3) := by decide +kernel
theorem dX11_shelfAt_19 : decode cX11_shelfAt 19 = .ok (.aconst_null, 1) := by decide +kernel
theorem dX11_shelfAt_20 : decode cX11_shelfAt 20 = .ok (.areturn, 1) := by decide +kernel
theorem dX11_stripAt_0 : decode cX11_stripAt 0 = .ok (.iload_n 1, 1) := by decide +kernel
theorem dX11_stripAt_1 : decode cX11_stripAt 1 = .ok (.ifCond .lt 26, 3) := by decide +kernel
theorem dX11_stripAt_4 : decode cX11_stripAt 4 = .ok (.iload_n 1, 1) := by decide +kernel
theorem dX11_stripAt_5 : decode cX11_stripAt 5 = .ok (.aload_n 0, 1) := by decide +kernel
theorem dX11_stripAt_6 : decode cX11_stripAt 6 = .ok (.getfield 54, 3) := by decide +kernel
theorem dX11_stripAt_9 : decode cX11_stripAt 9 = .ok (.if_icmp .ge 18, 3) := by decide +kernel
theorem dX11_stripAt_12 : decode cX11_stripAt 12 = .ok (.iload_n 1, 1) := by decide +kernel
theorem dX11_stripAt_13 : decode cX11_stripAt 13 = .ok (.bipush 8, 2) := by decide +kernel
theorem dX11_stripAt_15 : decode cX11_stripAt 15 = .ok (.if_icmp .ge 12, 3) := by decide +kernel
theorem dX11_stripAt_18 : decode cX11_stripAt 18 = .ok (.aload_n 0, 1) := by decide +kernel
theorem dX11_stripAt_19 : decode cX11_stripAt 19 = .ok (.getfield 17, 3) := by decide +kernel
theorem dX11_stripAt_22 : decode cX11_stripAt 22 = .ok (.iload_n 1, 1) := by decide +kernel
theorem dX11_stripAt_23 : decode cX11_stripAt 23 = .ok (.aaload, 1) := by decide +kernel
theorem dX11_stripAt_24 : decode cX11_stripAt 24 = .ok (.goto 4, 3) := by decide +kernel
theorem dX11_stripAt_27 : decode cX11_stripAt 27 = .ok (.aconst_null, 1) := by decide +kernel
theorem dX11_stripAt_28 : decode cX11_stripAt 28 = .ok (.areturn, 1) := by decide +kernel
theorem dX11_putStrip_0 : decode cX11_putStrip 0 = .ok (.iload_n 1, 1) := by decide +kernel
theorem dX11_putStrip_1 : decode cX11_putStrip 1 = .ok (.ifCond .lt 16, 3) := by decide +kernel
theorem dX11_putStrip_4 : decode cX11_putStrip 4 = .ok (.iload_n 1, 1) := by decide +kernel
theorem dX11_putStrip_5 : decode cX11_putStrip 5 = .ok (.bipush 8, 2) := by decide +kernel
theorem dX11_putStrip_7 : decode cX11_putStrip 7 = .ok (.if_icmp .ge 10, 3) := by decide +kernel
theorem dX11_putStrip_10 : decode cX11_putStrip 10 = .ok (.aload_n 0, 1) := by decide +kernel
theorem dX11_putStrip_11 : decode cX11_putStrip 11 = .ok (.getfield 17, 3) := by decide +kernel
theorem dX11_putStrip_14 : decode cX11_putStrip 14 = .ok (.iload_n 1, 1) := by decide +kernel
theorem dX11_putStrip_15 : decode cX11_putStrip 15 = .ok (.aload_n 2, 1) := by decide +kernel
theorem dX11_putStrip_16 : decode cX11_putStrip 16 = .ok (.aastore, 1) := by decide +kernel
theorem dX11_putStrip_17 : decode cX11_putStrip 17 = .ok (.return_, 1) := by decide +kernel
theorem dX11_copyStrips_0 : decode cX11_copyStrips 0 = .ok (.iconst 0, 1) := by decide +kernel
theorem dX11_copyStrips_1 : decode cX11_copyStrips 1 = .ok (.istore_n 2, 1) := by decide +kernel
theorem dX11_copyStrips_2 : decode cX11_copyStrips 2 = .ok (.iload_n 2, 1) := by decide +kernel
theorem dX11_copyStrips_3 : decode cX11_copyStrips 3 = .ok (.aload_n 0, 1) := by decide +kernel
theorem dX11_copyStrips_4 : decode cX11_copyStrips 4 = .ok (.arraylength, 1) := by decide +kernel
theorem dX11_copyStrips_5 : decode cX11_copyStrips 5 = .ok (.if_icmp .ge 21, 3) := by decide +kernel
theorem dX11_copyStrips_8 : decode cX11_copyStrips 8 = .ok (.iload_n 2, 1) := by decide +kernel
theorem dX11_copyStrips_9 : decode cX11_copyStrips 9 = .ok (.aload_n 1, 1) := by decide +kernel
theorem dX11_copyStrips_10 : decode cX11_copyStrips 10 = .ok (.arraylength, 1) := by decide +kernel
theorem dX11_copyStrips_11 : decode cX11_copyStrips 11 = .ok (.if_icmp .ge 15, 3) := by decide +kernel
theorem dX11_copyStrips_14 : decode cX11_copyStrips 14 = .ok (.aload_n 1, 1) := by decide +kernel
theorem dX11_copyStrips_15 : decode cX11_copyStrips 15 = .ok (.iload_n 2, 1) := by decide +kernel
theorem dX11_copyStrips_16 : decode cX11_copyStrips 16 = .ok (.aload_n 0, 1) := by decide +kernel
theorem dX11_copyStrips_17 : decode cX11_copyStrips 17 = .ok (.iload_n 2, 1) := by decide +kernel
theorem dX11_copyStrips_18 : decode cX11_copyStrips 18 = .ok (.aaload, 1) := by decide +kernel
theorem dX11_copyStrips_19 : decode cX11_copyStrips 19 = .ok (.aastore, 1) := by decide +kernel
theorem dX11_copyStrips_20 : decode cX11_copyStrips 20 = .ok (.iinc 2 1, 3) := by decide +kernel
theorem dX11_copyStrips_23 : decode cX11_copyStrips 23 = .ok (.goto (-21), 3) := by decide +kernel
theorem dX11_copyStrips_26 : decode cX11_copyStrips 26 = .ok (.return_, 1) := by decide +kernel
theorem dX11_rowTrouble_0 : decode cX11_rowTrouble 0 = .ok (.aload_n 0, 1) := by decide +kernel
theorem dX11_rowTrouble_1 : decode cX11_rowTrouble 1 = .ok (.ifnonnull 5, 3) := by decide +kernel
theorem dX11_rowTrouble_4 : decode cX11_rowTrouble 4 = .ok (.iconst (-1), 1) := by decide +kernel
theorem dX11_rowTrouble_5 : decode cX11_rowTrouble 5 = .ok (.ireturn, 1) := by decide +kernel
theorem dX11_rowTrouble_6 : decode cX11_rowTrouble 6 = .ok (.aload_n 0, 1) := by decide +kernel
theorem dX11_rowTrouble_7 : decode cX11_rowTrouble 7 = .ok (.getfield 69, 3) := by decide +kernel
theorem dX11_rowTrouble_10 : decode cX11_rowTrouble 10 = .ok (.iconst (-1), 1) := by decide +kernel
theorem dX11_rowTrouble_11 : decode cX11_rowTrouble 11 = .ok (.if_icmp .eq 6, 3) := by decide +kernel
theorem dX11_rowTrouble_14 : decode cX11_rowTrouble 14 = .ok (.bipush (-2), 2) := by decide +kernel
theorem dX11_rowTrouble_16 : decode cX11_rowTrouble 16 = .ok (.ireturn, 1) := by decide +kernel
theorem dX11_rowTrouble_17 : decode cX11_rowTrouble 17 = .ok (.aload_n 0, 1) := by decide +kernel
theorem dX11_rowTrouble_18 : decode cX11_rowTrouble 18 = .ok (.getfield 72, 3) := by decide +kernel
theorem dX11_rowTrouble_21 : decode cX11_rowTrouble 21 = .ok (.iconst (-1), 1) := by decide +kernel
theorem dX11_rowTrouble_22 : decode cX11_rowTrouble 22 = .ok (.if_icmp .ne 8, 3) := by decide +kernel
theorem dX11_rowTrouble_25 : decode cX11_rowTrouble 25 = .ok (.bipush (-3), 2) := by decide +kernel
theorem dX11_rowTrouble_27 : decode cX11_rowTrouble 27 = .ok (.goto 4, 3) := by decide +kernel
theorem dX11_rowTrouble_30 : decode cX11_rowTrouble 30 = .ok (.iconst 0, 1) := by decide +kernel
theorem dX11_rowTrouble_31 : decode cX11_rowTrouble 31 = .ok (.ireturn, 1) := by decide +kernel
set_option maxRecDepth 20000 in
theorem ggX11_toldTrouble_X11_rowTrouble : GoodIn wsX11_toldTrouble wsX11_rowTrouble := goodIn_r _ [4, 5, 6, 7, 8] (by decide +kernel) (by decide +kernel)
set_option maxRecDepth 20000 in
theorem gX11_toldTrouble_X11_rowTrouble : GoodIn wsX11_toldTrouble (va_wsS RX11 75 yX11_rowTrouble wsX11_rowTrouble) := goodIn_app (goodIn_of _ (by decide +kernel)) ggX11_toldTrouble_X11_rowTrouble
theorem dX11_toldTrouble_0 : decode cX11_toldTrouble 0 = .ok (.aload_n 0, 1) := by decide +kernel
theorem dX11_toldTrouble_1 : decode cX11_toldTrouble 1 = .ok (.invokestatic 75, 3) := by decide +kernel
theorem dX11_toldTrouble_4 : decode cX11_toldTrouble 4 = .ok (.istore_n 2, 1) := by decide +kernel
theorem dX11_toldTrouble_5 : decode cX11_toldTrouble 5 = .ok (.iload_n 2, 1) := by decide +kernel
theorem dX11_toldTrouble_6 : decode cX11_toldTrouble 6 = .ok (.ifCond .ne 7, 3) := by decide +kernel
theorem dX11_toldTrouble_9 : decode cX11_toldTrouble 9 = .ok (.aload_n 0, 1) := by decide +kernel
theorem dX11_toldTrouble_10 : decode cX11_toldTrouble 10 = .ok (.ifnonnull 5, 3) := by decide +kernel
theorem dX11_toldTrouble_13 : decode cX11_toldTrouble 13 = .ok (.iload_n 2, 1) := by decide +kernel
theorem dX11_toldTrouble_14 : decode cX11_toldTrouble 14 = .ok (.ireturn, 1) := by decide +kernel
theorem dX11_toldTrouble_15 : decode cX11_toldTrouble 15 = .ok (.iload_n 1, 1) := by decide +kernel
theorem dX11_toldTrouble_16 : decode cX11_toldTrouble 16 = .ok (.ifCond .ge 6, 3) := by decide +kernel
theorem dX11_toldTrouble_19 : decode cX11_toldTrouble 19 = .ok (.bipush (-4), 2) := by decide +kernel
theorem dX11_toldTrouble_21 : decode cX11_toldTrouble 21 = .ok (.ireturn, 1) := by decide +kernel
theorem dX11_toldTrouble_22 : decode cX11_toldTrouble 22 = .ok (.iload_n 1, 1) := by decide +kernel
theorem dX11_toldTrouble_23 : decode cX11_toldTrouble 23 = .ok (.aload_n 0, 1) := by decide +kernel
theorem dX11_toldTrouble_24 : decode cX11_toldTrouble 24 = .ok (.getfield 79, 3) := by decide +kernel
theorem dX11_toldTrouble_27 : decode cX11_toldTrouble 27 = .ok (.if_icmp .le 8, 3) := by decide +kernel
theorem dX11_toldTrouble_30 : decode cX11_toldTrouble 30 = .ok (.bipush (-5), 2) := by decide +kernel
theorem dX11_toldTrouble_32 : decode cX11_toldTrouble 32 = .ok (.goto 4, 3) := by decide +kernel
theorem dX11_toldTrouble_35 : decode cX11_toldTrouble 35 = .ok (.iconst 0, 1) := by decide +kernel
theorem dX11_toldTrouble_36 : decode cX11_toldTrouble 36 = .ok (.ireturn, 1) := by decide +kernel
set_option maxRecDepth 20000 in
theorem ggX11_walkTrouble_X8_sides : GoodIn wsX11_walkTrouble wsX8_sides := goodIn_r _ [6, 7, 8, 9, 10, 5, 11, 12, 13, 14, 15, 16, 17, 18, 19, 20, 21, 22, 23, 24, 25, 26, 27, 28, 29, 30, 31, 32, 33, 34, 35, 36, 37, 38, 39, 40, 41, 42, 43, 44, 45, 46, 47, 48, 49, 50, 51, 52, 53, 54, 55, 56, 57, 58, 59, 60, 68, 69, 70, 71, 72, 73, 74, 75, 76, 77, 78, 79, 80, 81, 82, 83, 84, 85, 86, 87, 88, 89, 90, 91, 92, 93, 94, 95] (by decide +kernel) (by decide +kernel)
set_option maxRecDepth 20000 in
theorem gX11_walkTrouble_X8_sides_u82X0 : GoodIn wsX11_walkTrouble (va_wsU RX11 82 RX0 "FoldedInHalf$Strip" ⟨"FoldedInHalf$Strip", "sides", "()J"⟩ yX8_sides wsX8_sides) := goodIn_app (goodIn_of _ (by decide +kernel)) ggX11_walkTrouble_X8_sides
set_option maxRecDepth 20000 in
theorem gX11_walkTrouble_X8_sides_u82X1 : GoodIn wsX11_walkTrouble (va_wsU RX11 82 RX1 "FoldedInHalf$Strip" ⟨"FoldedInHalf$Strip", "sides", "()J"⟩ yX8_sides wsX8_sides) := goodIn_app (goodIn_of _ (by decide +kernel)) ggX11_walkTrouble_X8_sides
set_option maxRecDepth 20000 in
theorem gX11_walkTrouble_X8_sides_u82X2 : GoodIn wsX11_walkTrouble (va_wsU RX11 82 RX2 "FoldedInHalf$Strip" ⟨"FoldedInHalf$Strip", "sides", "()J"⟩ yX8_sides wsX8_sides) := goodIn_app (goodIn_of _ (by decide +kernel)) ggX11_walkTrouble_X8_sides
set_option maxRecDepth 20000 in
theorem gX11_walkTrouble_X8_sides_u82X4 : GoodIn wsX11_walkTrouble (va_wsU RX11 82 RX4 "FoldedInHalf$Strip" ⟨"FoldedInHalf$Strip", "sides", "()J"⟩ yX8_sides wsX8_sides) := goodIn_app (goodIn_of _ (by decide +kernel)) ggX11_walkTrouble_X8_sides
set_option maxRecDepth 20000 in
theorem gX11_walkTrouble_X8_sides_u82X6 : GoodIn wsX11_walkTrouble (va_wsU RX11 82 RX6 "FoldedInHalf$Strip" ⟨"FoldedInHalf$Strip", "sides", "()J"⟩ yX8_sides wsX8_sides) := goodIn_app (goodIn_of _ (by decide +kernel)) ggX11_walkTrouble_X8_sides
set_option maxRecDepth 20000 in
theorem gX11_walkTrouble_X8_sides : GoodIn wsX11_walkTrouble (wsV RX11 82 RX8 yX8_sides wsX8_sides) := goodIn_app (goodIn_of _ (by decide +kernel)) ggX11_walkTrouble_X8_sides
set_option maxRecDepth 20000 in
theorem gX11_walkTrouble_X8_sides_u82X9 : GoodIn wsX11_walkTrouble (va_wsU RX11 82 RX9 "FoldedInHalf$Strip" ⟨"FoldedInHalf$Strip", "sides", "()J"⟩ yX8_sides wsX8_sides) := goodIn_app (goodIn_of _ (by decide +kernel)) ggX11_walkTrouble_X8_sides
theorem dX11_walkTrouble_0 : decode cX11_walkTrouble 0 = .ok (.aload_n 0, 1) := by decide +kernel
theorem dX11_walkTrouble_1 : decode cX11_walkTrouble 1 = .ok (.ifnonnull 5, 3) := by decide +kernel
theorem dX11_walkTrouble_4 : decode cX11_walkTrouble 4 = .ok (.iconst (-1), 1) := by decide +kernel
theorem dX11_walkTrouble_5 : decode cX11_walkTrouble 5 = .ok (.ireturn, 1) := by decide +kernel
theorem dX11_walkTrouble_6 : decode cX11_walkTrouble 6 = .ok (.iload_n 1, 1) := by decide +kernel
theorem dX11_walkTrouble_7 : decode cX11_walkTrouble 7 = .ok (.i2l, 1) := by decide +kernel
theorem dX11_walkTrouble_8 : decode cX11_walkTrouble 8 = .ok (.aload_n 0, 1) := by decide +kernel
theorem dX11_walkTrouble_9 : decode cX11_walkTrouble 9 = .ok (.invokevirtual 82, 3) := by decide +kernel
theorem dX11_walkTrouble_12 : decode cX11_walkTrouble 12 = .ok (.lcmp, 1) := by decide +kernel
theorem dX11_walkTrouble_13 : decode cX11_walkTrouble 13 = .ok (.ifCond .le 6, 3) := by decide +kernel
theorem dX11_walkTrouble_16 : decode cX11_walkTrouble 16 = .ok (.bipush (-5), 2) := by decide +kernel
theorem dX11_walkTrouble_18 : decode cX11_walkTrouble 18 = .ok (.ireturn, 1) := by decide +kernel
theorem dX11_walkTrouble_19 : decode cX11_walkTrouble 19 = .ok (.iload_n 1, 1) := by decide +kernel
theorem dX11_walkTrouble_20 : decode cX11_walkTrouble 20 = .ok (.ifCond .lt 8, 3) := by decide +kernel
theorem dX11_walkTrouble_23 : decode cX11_walkTrouble 23 = .ok (.iload_n 1, 1) := by decide +kernel
theorem dX11_walkTrouble_24 : decode cX11_walkTrouble 24 = .ok (.iload_n 2, 1) := by decide +kernel
theorem dX11_walkTrouble_25 : decode cX11_walkTrouble 25 = .ok (.if_icmp .le 8, 3) := by decide +kernel
theorem dX11_walkTrouble_28 : decode cX11_walkTrouble 28 = .ok (.bipush (-6), 2) := by decide +kernel
theorem dX11_walkTrouble_30 : decode cX11_walkTrouble 30 = .ok (.goto 4, 3) := by decide +kernel
theorem dX11_walkTrouble_33 : decode cX11_walkTrouble 33 = .ok (.iconst 0, 1) := by decide +kernel
theorem dX11_walkTrouble_34 : decode cX11_walkTrouble 34 = .ok (.ireturn, 1) := by decide +kernel
set_option maxRecDepth 20000 in
theorem ggX11_make_X6_init : GoodIn wsX11_make wsX6_init := goodIn_r _ [24, 25, 26, 21, 27, 28, 29, 30, 31, 32, 33, 34, 68, 69, 70, 71, 64, 65, 66, 67, 72, 73, 74, 75, 76, 77, 78, 79, 56, 57, 58, 59, 80, 81, 82, 83, 60, 61, 62, 63] (by decide +kernel) (by decide +kernel)
set_option maxRecDepth 20000 in
theorem gX11_make_X6_init : GoodIn wsX11_make (wsX6_init) := ggX11_make_X6_init
set_option maxRecDepth 20000 in
theorem ggX11_make_X9_init : GoodIn wsX11_make wsX9_init := goodIn_r _ [37, 38, 26, 21, 27, 28, 29, 30, 31, 32, 33, 34, 68, 69, 70, 71, 64, 65, 66, 67, 72, 73, 74, 75, 76, 77, 78, 79, 56, 57, 58, 59, 80, 81, 82, 83, 60, 61, 62, 63] (by decide +kernel) (by decide +kernel)
set_option maxRecDepth 20000 in
theorem gX11_make_X9_init : GoodIn wsX11_make (wsX9_init) := ggX11_make_X9_init
set_option maxRecDepth 20000 in
theorem ggX11_make_X1_init : GoodIn wsX11_make wsX1_init := goodIn_r _ [41, 42, 26, 21, 27, 28, 29, 30, 31, 32, 33, 34, 68, 69, 70, 71, 64, 65, 66, 67, 72, 73, 74, 75, 76, 77, 78, 79, 56, 57, 58, 59, 80, 81, 82, 83, 60, 61, 62, 63] (by decide +kernel) (by decide +kernel)
set_option maxRecDepth 20000 in
theorem gX11_make_X1_init : GoodIn wsX11_make (wsX1_init) := ggX11_make_X1_init
set_option maxRecDepth 20000 in
theorem ggX11_make_X0_init : GoodIn wsX11_make wsX0_init := goodIn_r _ [45, 46, 40, 9, 41, 42, 26, 21, 27, 28, 29, 30, 31, 32, 33, 34, 68, 69, 70, 71, 64, 65, 66, 67, 72, 73, 74, 75, 76, 77, 78, 79, 56, 57, 58, 59, 80, 81, 82, 83, 60, 61, 62, 63] (by decide +kernel) (by decide +kernel)
set_option maxRecDepth 20000 in
theorem gX11_make_X0_init : GoodIn wsX11_make (wsX0_init) := ggX11_make_X0_init
set_option maxRecDepth 20000 in
theorem ggX11_make_X2_init : GoodIn wsX11_make wsX2_init := goodIn_r _ [49, 50, 26, 21, 27, 28, 29, 30, 31, 32, 33, 34, 68, 69, 70, 71, 64, 65, 66, 67, 72, 73, 74, 75, 76, 77, 78, 79, 56, 57, 58, 59, 80, 81, 82, 83, 60, 61, 62, 63] (by decide +kernel) (by decide +kernel)
set_option maxRecDepth 20000 in
theorem gX11_make_X2_init : GoodIn wsX11_make (wsX2_init) := ggX11_make_X2_init
set_option maxRecDepth 20000 in
theorem ggX11_make_X4_init : GoodIn wsX11_make wsX4_init := goodIn_r _ [53, 54, 48, 15, 49, 50, 26, 21, 27, 28, 29, 30, 31, 32, 33, 34, 68, 69, 70, 71, 64, 65, 66, 67, 72, 73, 74, 75, 76, 77, 78, 79, 56, 57, 58, 59, 80, 81, 82, 83, 60, 61, 62, 63] (by decide +kernel) (by decide +kernel)
set_option maxRecDepth 20000 in
theorem gX11_make_X4_init : GoodIn wsX11_make (wsX4_init) := ggX11_make_X4_init
set_option maxRecDepth 20000 in
theorem ggX11_make_X8_init : GoodIn wsX11_make wsX8_init := goodIn_r _ [27, 28, 29, 30, 31, 32, 33, 34, 68, 69, 70, 71, 64, 65, 66, 67, 72, 73, 74, 75, 76, 77, 78, 79, 56, 57, 58, 59, 80, 81, 82, 83, 60, 61, 62, 63] (by decide +kernel) (by decide +kernel)
set_option maxRecDepth 20000 in
theorem gX11_make_X8_init : GoodIn wsX11_make (wsX8_init) := ggX11_make_X8_init
theorem dX11_make_0 : decode cX11_make 0 = .ok (.iload_n 0, 1) := by decide +kernel
theorem dX11_make_1 : decode cX11_make 1 = .ok (.tableswitch 117 1 6 #[39, 52, 65, 78, 91, 104], 39) := by decide +kernel
theorem dX11_make_40 : decode cX11_make 40 = .ok (.new 86, 3) := by decide +kernel
theorem dX11_make_43 : decode cX11_make 43 = .ok (.dup, 1) := by decide +kernel
theorem dX11_make_44 : decode cX11_make 44 = .ok (.iload_n 1, 1) := by decide +kernel
theorem dX11_make_45 : decode cX11_make 45 = .ok (.iload_n 2, 1) := by decide +kernel
theorem dX11_make_46 : decode cX11_make 46 = .ok (.iload_n 3, 1) := by decide +kernel
theorem dX11_make_47 : decode cX11_make 47 = .ok (.lload 4, 2) := by decide +kernel
theorem dX11_make_49 : decode cX11_make 49 = .ok (.invokespecial 88, 3) := by decide +kernel
theorem dX11_make_52 : decode cX11_make 52 = .ok (.areturn, 1) := by decide +kernel
theorem dX11_make_53 : decode cX11_make 53 = .ok (.new 91, 3) := by decide +kernel
theorem dX11_make_56 : decode cX11_make 56 = .ok (.dup, 1) := by decide +kernel
theorem dX11_make_57 : decode cX11_make 57 = .ok (.iload_n 1, 1) := by decide +kernel
theorem dX11_make_58 : decode cX11_make 58 = .ok (.iload_n 2, 1) := by decide +kernel
theorem dX11_make_59 : decode cX11_make 59 = .ok (.iload_n 3, 1) := by decide +kernel
theorem dX11_make_60 : decode cX11_make 60 = .ok (.lload 4, 2) := by decide +kernel
theorem dX11_make_62 : decode cX11_make 62 = .ok (.invokespecial 93, 3) := by decide +kernel
theorem dX11_make_65 : decode cX11_make 65 = .ok (.areturn, 1) := by decide +kernel
theorem dX11_make_66 : decode cX11_make 66 = .ok (.new 94, 3) := by decide +kernel
theorem dX11_make_69 : decode cX11_make 69 = .ok (.dup, 1) := by decide +kernel
theorem dX11_make_70 : decode cX11_make 70 = .ok (.iload_n 1, 1) := by decide +kernel
theorem dX11_make_71 : decode cX11_make 71 = .ok (.iload_n 2, 1) := by decide +kernel
theorem dX11_make_72 : decode cX11_make 72 = .ok (.iload_n 3, 1) := by decide +kernel
theorem dX11_make_73 : decode cX11_make 73 = .ok (.lload 4, 2) := by decide +kernel
theorem dX11_make_75 : decode cX11_make 75 = .ok (.invokespecial 96, 3) := by decide +kernel
theorem dX11_make_78 : decode cX11_make 78 = .ok (.areturn, 1) := by decide +kernel
theorem dX11_make_79 : decode cX11_make 79 = .ok (.new 97, 3) := by decide +kernel
theorem dX11_make_82 : decode cX11_make 82 = .ok (.dup, 1) := by decide +kernel
theorem dX11_make_83 : decode cX11_make 83 = .ok (.iload_n 1, 1) := by decide +kernel
theorem dX11_make_84 : decode cX11_make 84 = .ok (.iload_n 2, 1) := by decide +kernel
theorem dX11_make_85 : decode cX11_make 85 = .ok (.iload_n 3, 1) := by decide +kernel
theorem dX11_make_86 : decode cX11_make 86 = .ok (.lload 4, 2) := by decide +kernel
theorem dX11_make_88 : decode cX11_make 88 = .ok (.invokespecial 99, 3) := by decide +kernel
theorem dX11_make_91 : decode cX11_make 91 = .ok (.areturn, 1) := by decide +kernel
theorem dX11_make_92 : decode cX11_make 92 = .ok (.new 100, 3) := by decide +kernel
theorem dX11_make_95 : decode cX11_make 95 = .ok (.dup, 1) := by decide +kernel
theorem dX11_make_96 : decode cX11_make 96 = .ok (.iload_n 1, 1) := by decide +kernel
theorem dX11_make_97 : decode cX11_make 97 = .ok (.iload_n 2, 1) := by decide +kernel
theorem dX11_make_98 : decode cX11_make 98 = .ok (.iload_n 3, 1) := by decide +kernel
theorem dX11_make_99 : decode cX11_make 99 = .ok (.lload 4, 2) := by decide +kernel
theorem dX11_make_101 : decode cX11_make 101 = .ok (.invokespecial 102, 3) := by decide +kernel
theorem dX11_make_104 : decode cX11_make 104 = .ok (.areturn, 1) := by decide +kernel
theorem dX11_make_105 : decode cX11_make 105 = .ok (.new 103, 3) := by decide +kernel
theorem dX11_make_108 : decode cX11_make 108 = .ok (.dup, 1) := by decide +kernel
theorem dX11_make_109 : decode cX11_make 109 = .ok (.iload_n 1, 1) := by decide +kernel
theorem dX11_make_110 : decode cX11_make 110 = .ok (.iload_n 2, 1) := by decide +kernel
theorem dX11_make_111 : decode cX11_make 111 = .ok (.iload_n 3, 1) := by decide +kernel
theorem dX11_make_112 : decode cX11_make 112 = .ok (.lload 4, 2) := by decide +kernel
theorem dX11_make_114 : decode cX11_make 114 = .ok (.invokespecial 105, 3) := by decide +kernel
theorem dX11_make_117 : decode cX11_make 117 = .ok (.areturn, 1) := by decide +kernel
theorem dX11_make_118 : decode cX11_make 118 = .ok (.new 15, 3) := by decide +kernel
theorem dX11_make_121 : decode cX11_make 121 = .ok (.dup, 1) := by decide +kernel
theorem dX11_make_122 : decode cX11_make 122 = .ok (.iload_n 1, 1) := by decide +kernel
theorem dX11_make_123 : decode cX11_make 123 = .ok (.iload_n 2, 1) := by decide +kernel
theorem dX11_make_124 : decode cX11_make 124 = .ok (.iload_n 3, 1) := by decide +kernel
theorem dX11_make_125 : decode cX11_make 125 = .ok (.lload 4, 2) := by decide +kernel
theorem dX11_make_127 : decode cX11_make 127 = .ok (.invokespecial 106, 3) := by decide +kernel
theorem dX11_make_130 : decode cX11_make 130 = .ok (.areturn, 1) := by decide +kernel
theorem dX11_mostFolds_0 : decode cX11_mostFolds 0 = .ok (.iload_n 0, 1) := by decide +kernel
theorem dX11_mostFolds_1 : decode cX11_mostFolds 1 = .ok (.iconst 2, 1) := by decide +kernel
theorem dX11_mostFolds_2 : decode cX11_mostFolds 2 = .ok (.if_icmp .ne 8, 3) := by decide +kernel
theorem dX11_mostFolds_5 : decode cX11_mostFolds 5 = .ok (.bipush 25, 2) := by decide +kernel
theorem dX11_mostFolds_7 : decode cX11_mostFolds 7 = .ok (.goto 5, 3) := by decide +kernel
theorem dX11_mostFolds_10 : decode cX11_mostFolds 10 = .ok (.bipush 40, 2) := by decide +kernel
theorem dX11_mostFolds_12 : decode cX11_mostFolds 12 = .ok (.ireturn, 1) := by decide +kernel
set_option maxRecDepth 20000 in
theorem ggX11_row_X11_shelfAt : GoodIn wsX11_row wsX11_shelfAt := goodIn_r _ [5, 6, 24, 25, 26, 27, 28, 29, 30, 31, 32, 33, 34, 35, 36] (by decide +kernel) (by decide +kernel)
set_option maxRecDepth 20000 in
theorem gX11_row_X11_shelfAt : GoodIn wsX11_row (wsV RX11 107 RX11 yX11_shelfAt wsX11_shelfAt) := goodIn_app (goodIn_of _ (by decide +kernel)) ggX11_row_X11_shelfAt
set_option maxRecDepth 20000 in
theorem ggX11_row_X11_refuse : GoodIn wsX11_row wsX11_refuse := goodIn_r _ [10, 11, 24, 25, 26, 27, 28, 29, 30, 31, 32, 33, 34, 35, 36] (by decide +kernel) (by decide +kernel)
set_option maxRecDepth 20000 in
theorem gX11_row_X11_refuse : GoodIn wsX11_row (wsV RX11 65 RX11 yX11_refuse wsX11_refuse) := goodIn_app (goodIn_of _ (by decide +kernel)) ggX11_row_X11_refuse
set_option maxRecDepth 20000 in
theorem ggX11_row_X7_holdRow : GoodIn wsX11_row wsX7_holdRow := goodIn_r _ [15, 16, 17, 18, 19, 20, 21, 22, 23, 37, 38, 39, 40] (by decide +kernel) (by decide +kernel)
set_option maxRecDepth 20000 in
theorem gX11_row_X7_holdRow_n111 : GoodIn wsX11_row (wsX7_holdRow) := ggX11_row_X7_holdRow
theorem dX11_row_0 : decode cX11_row 0 = .ok (.aload_n 0, 1) := by decide +kernel
theorem dX11_row_1 : decode cX11_row 1 = .ok (.iload_n 1, 1) := by decide +kernel
theorem dX11_row_2 : decode cX11_row 2 = .ok (.invokevirtual 107, 3) := by decide +kernel
theorem dX11_row_5 : decode cX11_row 5 = .ok (.astore 4, 2) := by decide +kernel
theorem dX11_row_7 : decode cX11_row 7 = .ok (.aload 4, 2) := by decide +kernel
theorem dX11_row_9 : decode cX11_row 9 = .ok (.ifnonnull 9, 3) := by decide +kernel
theorem dX11_row_12 : decode cX11_row 12 = .ok (.aload_n 0, 1) := by decide +kernel
theorem dX11_row_13 : decode cX11_row 13 = .ok (.iconst (-1), 1) := by decide +kernel
theorem dX11_row_14 : decode cX11_row 14 = .ok (.invokevirtual 65, 3) := by decide +kernel
theorem dX11_row_17 : decode cX11_row 17 = .ok (.ireturn, 1) := by decide +kernel
theorem dX11_row_18 : decode cX11_row 18 = .ok (.iload_n 3, 1) := by decide +kernel
theorem dX11_row_19 : decode cX11_row 19 = .ok (.ifCond .ge 10, 3) := by decide +kernel
theorem dX11_row_22 : decode cX11_row 22 = .ok (.aload_n 0, 1) := by decide +kernel
theorem dX11_row_23 : decode cX11_row 23 = .ok (.bipush (-4), 2) := by decide +kernel
theorem dX11_row_25 : decode cX11_row 25 = .ok (.invokevirtual 65, 3) := by decide +kernel
theorem dX11_row_28 : decode cX11_row 28 = .ok (.ireturn, 1) := by decide +kernel
theorem dX11_row_29 : decode cX11_row 29 = .ok (.iload_n 2, 1) := by decide +kernel
theorem dX11_row_30 : decode cX11_row 30 = .ok (.ifCond .lt 8, 3) := by decide +kernel
theorem dX11_row_33 : decode cX11_row 33 = .ok (.iload_n 2, 1) := by decide +kernel
theorem dX11_row_34 : decode cX11_row 34 = .ok (.iconst 3, 1) := by decide +kernel
theorem dX11_row_35 : decode cX11_row 35 = .ok (.if_icmp .le 10, 3) := by decide +kernel
theorem dX11_row_38 : decode cX11_row 38 = .ok (.aload_n 0, 1) := by decide +kernel
theorem dX11_row_39 : decode cX11_row 39 = .ok (.bipush (-6), 2) := by decide +kernel
theorem dX11_row_41 : decode cX11_row 41 = .ok (.invokevirtual 65, 3) := by decide +kernel
theorem dX11_row_44 : decode cX11_row 44 = .ok (.ireturn, 1) := by decide +kernel
theorem dX11_row_45 : decode cX11_row 45 = .ok (.iload_n 3, 1) := by decide +kernel
theorem dX11_row_46 : decode cX11_row 46 = .ok (.sipush 160, 3) := by decide +kernel
theorem dX11_row_49 : decode cX11_row 49 = .ok (.if_icmp .le 10, 3) := by decide +kernel
theorem dX11_row_52 : decode cX11_row 52 = .ok (.aload_n 0, 1) := by decide +kernel
theorem dX11_row_53 : decode cX11_row 53 = .ok (.bipush (-7), 2) := by decide +kernel
theorem dX11_row_55 : decode cX11_row 55 = .ok (.invokevirtual 65, 3) := by decide +kernel
theorem dX11_row_58 : decode cX11_row 58 = .ok (.ireturn, 1) := by decide +kernel
theorem dX11_row_59 : decode cX11_row 59 = .ok (.aload 4, 2) := by decide +kernel
theorem dX11_row_61 : decode cX11_row 61 = .ok (.iload_n 2, 1) := by decide +kernel
theorem dX11_row_62 : decode cX11_row 62 = .ok (.iload_n 3, 1) := by decide +kernel
theorem dX11_row_63 : decode cX11_row 63 = .ok (.invokevirtual 111, 3) := by decide +kernel
theorem dX11_row_66 : decode cX11_row 66 = .ok (.iconst 1, 1) := by decide +kernel
theorem dX11_row_67 : decode cX11_row 67 = .ok (.ireturn, 1) := by decide +kernel
set_option maxRecDepth 20000 in
theorem ggX11_set_X11_shelfAt : GoodIn wsX11_set wsX11_shelfAt := goodIn_r _ [5, 6, 30, 31, 32, 33, 34, 35, 36, 37, 38, 39, 40, 41, 42] (by decide +kernel) (by decide +kernel)
set_option maxRecDepth 20000 in
theorem gX11_set_X11_shelfAt : GoodIn wsX11_set (wsV RX11 107 RX11 yX11_shelfAt wsX11_shelfAt) := goodIn_app (goodIn_of _ (by decide +kernel)) ggX11_set_X11_shelfAt
set_option maxRecDepth 20000 in
theorem ggX11_set_X11_rowTrouble : GoodIn wsX11_set wsX11_rowTrouble := goodIn_r _ [9, 26, 27, 28, 29] (by decide +kernel) (by decide +kernel)
set_option maxRecDepth 20000 in
theorem gX11_set_X11_rowTrouble : GoodIn wsX11_set (va_wsS RX11 75 yX11_rowTrouble wsX11_rowTrouble) := goodIn_app (goodIn_of _ (by decide +kernel)) ggX11_set_X11_rowTrouble
set_option maxRecDepth 20000 in
theorem ggX11_set_X11_refuse : GoodIn wsX11_set wsX11_refuse := goodIn_r _ [13, 14, 30, 31, 32, 33, 34, 35, 36, 37, 38, 39, 40, 41, 42] (by decide +kernel) (by decide +kernel)
set_option maxRecDepth 20000 in
theorem gX11_set_X11_refuse : GoodIn wsX11_set (wsV RX11 65 RX11 yX11_refuse wsX11_refuse) := goodIn_app (goodIn_of _ (by decide +kernel)) ggX11_set_X11_refuse
set_option maxRecDepth 20000 in
theorem ggX11_set_X7_put : GoodIn wsX11_set wsX7_put := goodIn_r _ [18, 19, 20, 21, 22, 23, 16, 24, 25, 26, 27, 28, 29] (by decide +kernel) (by decide +kernel)
set_option maxRecDepth 20000 in
theorem gX11_set_X7_put_n115 : GoodIn wsX11_set (wsX7_put) := ggX11_set_X7_put
theorem dX11_set_0 : decode cX11_set 0 = .ok (.aload_n 0, 1) := by decide +kernel
theorem dX11_set_1 : decode cX11_set 1 = .ok (.iload_n 1, 1) := by decide +kernel
theorem dX11_set_2 : decode cX11_set 2 = .ok (.invokevirtual 107, 3) := by decide +kernel
theorem dX11_set_5 : decode cX11_set 5 = .ok (.astore 5, 2) := by decide +kernel
theorem dX11_set_7 : decode cX11_set 7 = .ok (.aload 5, 2) := by decide +kernel
theorem dX11_set_9 : decode cX11_set 9 = .ok (.invokestatic 75, 3) := by decide +kernel
theorem dX11_set_12 : decode cX11_set 12 = .ok (.istore 6, 2) := by decide +kernel
theorem dX11_set_14 : decode cX11_set 14 = .ok (.iload 6, 2) := by decide +kernel
theorem dX11_set_16 : decode cX11_set 16 = .ok (.ifCond .ne 8, 3) := by decide +kernel
theorem dX11_set_19 : decode cX11_set 19 = .ok (.aload 5, 2) := by decide +kernel
theorem dX11_set_21 : decode cX11_set 21 = .ok (.ifnonnull 10, 3) := by decide +kernel
theorem dX11_set_24 : decode cX11_set 24 = .ok (.aload_n 0, 1) := by decide +kernel
theorem dX11_set_25 : decode cX11_set 25 = .ok (.iload 6, 2) := by decide +kernel
theorem dX11_set_27 : decode cX11_set 27 = .ok (.invokevirtual 65, 3) := by decide +kernel
theorem dX11_set_30 : decode cX11_set 30 = .ok (.ireturn, 1) := by decide +kernel
theorem dX11_set_31 : decode cX11_set 31 = .ok (.iload_n 2, 1) := by decide +kernel
theorem dX11_set_32 : decode cX11_set 32 = .ok (.ifCond .lt 12, 3) := by decide +kernel
theorem dX11_set_35 : decode cX11_set 35 = .ok (.iload_n 2, 1) := by decide +kernel
theorem dX11_set_36 : decode cX11_set 36 = .ok (.aload 5, 2) := by decide +kernel
theorem dX11_set_38 : decode cX11_set 38 = .ok (.getfield 79, 3) := by decide +kernel
theorem dX11_set_41 : decode cX11_set 41 = .ok (.if_icmp .lt 10, 3) := by decide +kernel
theorem dX11_set_44 : decode cX11_set 44 = .ok (.aload_n 0, 1) := by decide +kernel
theorem dX11_set_45 : decode cX11_set 45 = .ok (.bipush (-5), 2) := by decide +kernel
theorem dX11_set_47 : decode cX11_set 47 = .ok (.invokevirtual 65, 3) := by decide +kernel
theorem dX11_set_50 : decode cX11_set 50 = .ok (.ireturn, 1) := by decide +kernel
theorem dX11_set_51 : decode cX11_set 51 = .ok (.aload 5, 2) := by decide +kernel
theorem dX11_set_53 : decode cX11_set 53 = .ok (.iload_n 2, 1) := by decide +kernel
theorem dX11_set_54 : decode cX11_set 54 = .ok (.lload_n 3, 1) := by decide +kernel
theorem dX11_set_55 : decode cX11_set 55 = .ok (.invokevirtual 115, 3) := by decide +kernel
theorem dX11_set_58 : decode cX11_set 58 = .ok (.iconst 1, 1) := by decide +kernel
theorem dX11_set_59 : decode cX11_set 59 = .ok (.ireturn, 1) := by decide +kernel
set_option maxRecDepth 20000 in
theorem ggX11_copy_X11_shelfAt : GoodIn wsX11_copy wsX11_shelfAt := goodIn_r _ [9, 10, 25, 26, 27, 28, 29, 30, 31, 32, 33, 34, 35, 36, 37] (by decide +kernel) (by decide +kernel)
set_option maxRecDepth 20000 in
theorem gX11_copy_X11_shelfAt : GoodIn wsX11_copy (wsV RX11 107 RX11 yX11_shelfAt wsX11_shelfAt) := goodIn_app (goodIn_of _ (by decide +kernel)) ggX11_copy_X11_shelfAt
set_option maxRecDepth 20000 in
theorem ggX11_copy_X11_refuse : GoodIn wsX11_copy wsX11_refuse := goodIn_r _ [14, 15, 25, 26, 27, 28, 29, 30, 31, 32, 33, 34, 35, 36, 37] (by decide +kernel) (by decide +kernel)
set_option maxRecDepth 20000 in
theorem gX11_copy_X11_refuse : GoodIn wsX11_copy (wsV RX11 65 RX11 yX11_refuse wsX11_refuse) := goodIn_app (goodIn_of _ (by decide +kernel)) ggX11_copy_X11_refuse
set_option maxRecDepth 20000 in
theorem ggX11_copy_X7_hasPiece : GoodIn wsX11_copy wsX7_hasPiece := goodIn_r _ [19, 20, 21, 22, 23, 24] (by decide +kernel) (by decide +kernel)
set_option maxRecDepth 20000 in
theorem gX11_copy_X7_hasPiece_n119 : GoodIn wsX11_copy (wsX7_hasPiece) := ggX11_copy_X7_hasPiece
theorem dX11_copy_0 : decode cX11_copy 0 = .ok (.aload_n 0, 1) := by decide +kernel
theorem dX11_copy_1 : decode cX11_copy 1 = .ok (.iload_n 1, 1) := by decide +kernel
theorem dX11_copy_2 : decode cX11_copy 2 = .ok (.invokevirtual 107, 3) := by decide +kernel
theorem dX11_copy_5 : decode cX11_copy 5 = .ok (.astore 6, 2) := by decide +kernel
theorem dX11_copy_7 : decode cX11_copy 7 = .ok (.aload_n 0, 1) := by decide +kernel
theorem dX11_copy_8 : decode cX11_copy 8 = .ok (.iload_n 2, 1) := by decide +kernel
theorem dX11_copy_9 : decode cX11_copy 9 = .ok (.invokevirtual 107, 3) := by decide +kernel
theorem dX11_copy_12 : decode cX11_copy 12 = .ok (.astore 7, 2) := by decide +kernel
theorem dX11_copy_14 : decode cX11_copy 14 = .ok (.aload 6, 2) := by decide +kernel
theorem dX11_copy_16 : decode cX11_copy 16 = .ok (.ifnull 8, 3) := by decide +kernel
theorem dX11_copy_19 : decode cX11_copy 19 = .ok (.aload 7, 2) := by decide +kernel
theorem dX11_copy_21 : decode cX11_copy 21 = .ok (.ifnonnull 9, 3) := by decide +kernel
theorem dX11_copy_24 : decode cX11_copy 24 = .ok (.aload_n 0, 1) := by decide +kernel
theorem dX11_copy_25 : decode cX11_copy 25 = .ok (.iconst (-1), 1) := by decide +kernel
theorem dX11_copy_26 : decode cX11_copy 26 = .ok (.invokevirtual 65, 3) := by decide +kernel
theorem dX11_copy_29 : decode cX11_copy 29 = .ok (.ireturn, 1) := by decide +kernel
theorem dX11_copy_30 : decode cX11_copy 30 = .ok (.aload 6, 2) := by decide +kernel
theorem dX11_copy_32 : decode cX11_copy 32 = .ok (.getfield 69, 3) := by decide +kernel
theorem dX11_copy_35 : decode cX11_copy 35 = .ok (.iconst (-1), 1) := by decide +kernel
theorem dX11_copy_36 : decode cX11_copy 36 = .ok (.if_icmp .ne 12, 3) := by decide +kernel
theorem dX11_copy_39 : decode cX11_copy 39 = .ok (.aload 7, 2) := by decide +kernel
theorem dX11_copy_41 : decode cX11_copy 41 = .ok (.getfield 69, 3) := by decide +kernel
theorem dX11_copy_44 : decode cX11_copy 44 = .ok (.iconst (-1), 1) := by decide +kernel
theorem dX11_copy_45 : decode cX11_copy 45 = .ok (.if_icmp .eq 10, 3) := by decide +kernel
theorem dX11_copy_48 : decode cX11_copy 48 = .ok (.aload_n 0, 1) := by decide +kernel
theorem dX11_copy_49 : decode cX11_copy 49 = .ok (.bipush (-2), 2) := by decide +kernel
theorem dX11_copy_51 : decode cX11_copy 51 = .ok (.invokevirtual 65, 3) := by decide +kernel
theorem dX11_copy_54 : decode cX11_copy 54 = .ok (.ireturn, 1) := by decide +kernel
theorem dX11_copy_55 : decode cX11_copy 55 = .ok (.aload 6, 2) := by decide +kernel
theorem dX11_copy_57 : decode cX11_copy 57 = .ok (.getfield 72, 3) := by decide +kernel
theorem dX11_copy_60 : decode cX11_copy 60 = .ok (.iconst (-1), 1) := by decide +kernel
theorem dX11_copy_61 : decode cX11_copy 61 = .ok (.if_icmp .eq 12, 3) := by decide +kernel
theorem dX11_copy_64 : decode cX11_copy 64 = .ok (.aload 7, 2) := by decide +kernel
theorem dX11_copy_66 : decode cX11_copy 66 = .ok (.getfield 72, 3) := by decide +kernel
theorem dX11_copy_69 : decode cX11_copy 69 = .ok (.iconst (-1), 1) := by decide +kernel
theorem dX11_copy_70 : decode cX11_copy 70 = .ok (.if_icmp .ne 7, 3) := by decide +kernel
theorem dX11_copy_73 : decode cX11_copy 73 = .ok (.iconst 1, 1) := by decide +kernel
theorem dX11_copy_74 : decode cX11_copy 74 = .ok (.goto 4, 3) := by decide +kernel
theorem dX11_copy_77 : decode cX11_copy 77 = .ok (.iconst 0, 1) := by decide +kernel
theorem dX11_copy_78 : decode cX11_copy 78 = .ok (.istore 8, 2) := by decide +kernel
theorem dX11_copy_80 : decode cX11_copy 80 = .ok (.iload 8, 2) := by decide +kernel
theorem dX11_copy_82 : decode cX11_copy 82 = .ok (.ifCond .ne 23, 3) := by decide +kernel
theorem dX11_copy_85 : decode cX11_copy 85 = .ok (.aload 6, 2) := by decide +kernel
theorem dX11_copy_87 : decode cX11_copy 87 = .ok (.getfield 72, 3) := by decide +kernel
theorem dX11_copy_90 : decode cX11_copy 90 = .ok (.aload 7, 2) := by decide +kernel
theorem dX11_copy_92 : decode cX11_copy 92 = .ok (.getfield 72, 3) := by decide +kernel
theorem dX11_copy_95 : decode cX11_copy 95 = .ok (.if_icmp .eq 10, 3) := by decide +kernel
theorem dX11_copy_98 : decode cX11_copy 98 = .ok (.aload_n 0, 1) := by decide +kernel
theorem dX11_copy_99 : decode cX11_copy 99 = .ok (.bipush (-2), 2) := by decide +kernel
theorem dX11_copy_101 : decode cX11_copy 101 = .ok (.invokevirtual 65, 3) := by decide +kernel
theorem dX11_copy_104 : decode cX11_copy 104 = .ok (.ireturn, 1) := by decide +kernel
theorem dX11_copy_105 : decode cX11_copy 105 = .ok (.iload 8, 2) := by decide +kernel
theorem dX11_copy_107 : decode cX11_copy 107 = .ok (.ifCond .eq 10, 3) := by decide +kernel
theorem dX11_copy_110 : decode cX11_copy 110 = .ok (.aload_n 0, 1) := by decide +kernel
theorem dX11_copy_111 : decode cX11_copy 111 = .ok (.bipush (-3), 2) := by decide +kernel
theorem dX11_copy_113 : decode cX11_copy 113 = .ok (.invokevirtual 65, 3) := by decide +kernel
theorem dX11_copy_116 : decode cX11_copy 116 = .ok (.ireturn, 1) := by decide +kernel
theorem dX11_copy_117 : decode cX11_copy 117 = .ok (.iload 5, 2) := by decide +kernel
theorem dX11_copy_119 : decode cX11_copy 119 = .ok (.ifCond .ge 10, 3) := by decide +kernel
theorem dX11_copy_122 : decode cX11_copy 122 = .ok (.aload_n 0, 1) := by decide +kernel
theorem dX11_copy_123 : decode cX11_copy 123 = .ok (.bipush (-4), 2) := by decide +kernel
theorem dX11_copy_125 : decode cX11_copy 125 = .ok (.invokevirtual 65, 3) := by decide +kernel
theorem dX11_copy_128 : decode cX11_copy 128 = .ok (.ireturn, 1) := by decide +kernel
theorem dX11_copy_129 : decode cX11_copy 129 = .ok (.aload 6, 2) := by decide +kernel
theorem dX11_copy_131 : decode cX11_copy 131 = .ok (.iload_n 3, 1) := by decide +kernel
theorem dX11_copy_132 : decode cX11_copy 132 = .ok (.iload 5, 2) := by decide +kernel
theorem dX11_copy_134 : decode cX11_copy 134 = .ok (.invokevirtual 119, 3) := by decide +kernel
theorem dX11_copy_137 : decode cX11_copy 137 = .ok (.ifCond .eq 15, 3) := by decide +kernel
theorem dX11_copy_140 : decode cX11_copy 140 = .ok (.aload 7, 2) := by decide +kernel
theorem dX11_copy_142 : decode cX11_copy 142 = .ok (.iload 4, 2) := by decide +kernel
theorem dX11_copy_144 : decode cX11_copy 144 = .ok (.iload 5, 2) := by decide +kernel
theorem dX11_copy_146 : decode cX11_copy 146 = .ok (.invokevirtual 119, 3) := by decide +kernel
theorem dX11_copy_149 : decode cX11_copy 149 = .ok (.ifCond .ne 10, 3) := by decide +kernel
theorem dX11_copy_152 : decode cX11_copy 152 = .ok (.aload_n 0, 1) := by decide +kernel
theorem dX11_copy_153 : decode cX11_copy 153 = .ok (.bipush (-5), 2) := by decide +kernel
theorem dX11_copy_155 : decode cX11_copy 155 = .ok (.invokevirtual 65, 3) := by decide +kernel
theorem dX11_copy_158 : decode cX11_copy 158 = .ok (.ireturn, 1) := by decide +kernel
theorem dX11_copy_159 : decode cX11_copy 159 = .ok (.aload 6, 2) := by decide +kernel
theorem dX11_copy_161 : decode cX11_copy 161 = .ok (.getfield 123, 3) := by decide +kernel
theorem dX11_copy_164 : decode cX11_copy 164 = .ok (.iload_n 3, 1) := by decide +kernel
theorem dX11_copy_165 : decode cX11_copy 165 = .ok (.aload 7, 2) := by decide +kernel
theorem dX11_copy_167 : decode cX11_copy 167 = .ok (.getfield 123, 3) := by decide +kernel
theorem dX11_copy_170 : decode cX11_copy 170 = .ok (.iload 4, 2) := by decide +kernel
theorem dX11_copy_172 : decode cX11_copy 172 = .ok (.iload 5, 2) := by decide +kernel
theorem dX11_copy_174 : decode cX11_copy 174 = .ok (.invokestatic 127, 3) := by decide +kernel
theorem dX11_copy_177 : decode cX11_copy 177 = .ok (.iconst 1, 1) := by decide +kernel
theorem dX11_copy_178 : decode cX11_copy 178 = .ok (.ireturn, 1) := by decide +kernel
set_option maxRecDepth 20000 in
theorem ggX11_element_X11_shelfAt : GoodIn wsX11_element wsX11_shelfAt := goodIn_r _ [5, 6, 13, 14, 15, 16, 17, 18, 19, 20, 21, 22, 23, 24, 25] (by decide +kernel) (by decide +kernel)
set_option maxRecDepth 20000 in
theorem gX11_element_X11_shelfAt : GoodIn wsX11_element (wsV RX11 107 RX11 yX11_shelfAt wsX11_shelfAt) := goodIn_app (goodIn_of _ (by decide +kernel)) ggX11_element_X11_shelfAt
set_option maxRecDepth 20000 in
theorem ggX11_element_X7_at : GoodIn wsX11_element wsX7_at := goodIn_r _ [10, 11, 12, 26, 27, 28, 29] (by decide +kernel) (by decide +kernel)
set_option maxRecDepth 20000 in
theorem gX11_element_X7_at_n133 : GoodIn wsX11_element (wsX7_at) := ggX11_element_X7_at
theorem dX11_element_0 : decode cX11_element 0 = .ok (.aload_n 0, 1) := by decide +kernel
theorem dX11_element_1 : decode cX11_element 1 = .ok (.iload_n 1, 1) := by decide +kernel
theorem dX11_element_2 : decode cX11_element 2 = .ok (.invokevirtual 107, 3) := by decide +kernel
theorem dX11_element_5 : decode cX11_element 5 = .ok (.astore_n 3, 1) := by decide +kernel
theorem dX11_element_6 : decode cX11_element 6 = .ok (.aload_n 3, 1) := by decide +kernel
theorem dX11_element_7 : decode cX11_element 7 = .ok (.ifnonnull 7, 3) := by decide +kernel
theorem dX11_element_10 : decode cX11_element 10 = .ok (.lconst 0, 1) := by decide +kernel
theorem dX11_element_11 : decode cX11_element 11 = .ok (.goto 8, 3) := by decide +kernel
theorem dX11_element_14 : decode cX11_element 14 = .ok (.aload_n 3, 1) := by decide +kernel
theorem dX11_element_15 : decode cX11_element 15 = .ok (.iload_n 2, 1) := by decide +kernel
theorem dX11_element_16 : decode cX11_element 16 = .ok (.invokevirtual 133, 3) := by decide +kernel
theorem dX11_element_19 : decode cX11_element 19 = .ok (.lreturn, 1) := by decide +kernel
set_option maxRecDepth 20000 in
theorem ggX11_show_X11_shelfAt : GoodIn wsX11_show wsX11_shelfAt := goodIn_r _ [5, 6, 25, 26, 27, 28, 29, 30, 31, 32, 33, 34, 35, 36, 37] (by decide +kernel) (by decide +kernel)
set_option maxRecDepth 20000 in
theorem gX11_show_X11_shelfAt : GoodIn wsX11_show (wsV RX11 107 RX11 yX11_shelfAt wsX11_shelfAt) := goodIn_app (goodIn_of _ (by decide +kernel)) ggX11_show_X11_shelfAt
set_option maxRecDepth 20000 in
theorem ggX11_show_X11_stripAt : GoodIn wsX11_show wsX11_stripAt := goodIn_r _ [10, 11, 12, 25, 26, 27, 28, 29, 30, 31, 32, 33, 34, 35, 36, 37] (by decide +kernel) (by decide +kernel)
set_option maxRecDepth 20000 in
theorem gX11_show_X11_stripAt : GoodIn wsX11_show (wsV RX11 137 RX11 yX11_stripAt wsX11_stripAt) := goodIn_app (goodIn_of _ (by decide +kernel)) ggX11_show_X11_stripAt
set_option maxRecDepth 20000 in
theorem ggX11_show_X11_refuse : GoodIn wsX11_show wsX11_refuse := goodIn_r _ [16, 17, 25, 26, 27, 28, 29, 30, 31, 32, 33, 34, 35, 36, 37] (by decide +kernel) (by decide +kernel)
set_option maxRecDepth 20000 in
theorem gX11_show_X11_refuse : GoodIn wsX11_show (wsV RX11 65 RX11 yX11_refuse wsX11_refuse) := goodIn_app (goodIn_of _ (by decide +kernel)) ggX11_show_X11_refuse
set_option maxRecDepth 20000 in
theorem ggX11_show_X7_holdStrip : GoodIn wsX11_show wsX7_holdStrip := goodIn_r _ [21, 22, 23, 24, 38, 39, 40, 41] (by decide +kernel) (by decide +kernel)
set_option maxRecDepth 20000 in
theorem gX11_show_X7_holdStrip_n141 : GoodIn wsX11_show (wsX7_holdStrip) := ggX11_show_X7_holdStrip
theorem dX11_show_0 : decode cX11_show 0 = .ok (.aload_n 0, 1) := by decide +kernel
theorem dX11_show_1 : decode cX11_show 1 = .ok (.iload_n 1, 1) := by decide +kernel
theorem dX11_show_2 : decode cX11_show 2 = .ok (.invokevirtual 107, 3) := by decide +kernel
theorem dX11_show_5 : decode cX11_show 5 = .ok (.astore_n 3, 1) := by decide +kernel
theorem dX11_show_6 : decode cX11_show 6 = .ok (.aload_n 3, 1) := by decide +kernel
theorem dX11_show_7 : decode cX11_show 7 = .ok (.ifnull 16, 3) := by decide +kernel
theorem dX11_show_10 : decode cX11_show 10 = .ok (.iload_n 2, 1) := by decide +kernel
theorem dX11_show_11 : decode cX11_show 11 = .ok (.iconst (-1), 1) := by decide +kernel
theorem dX11_show_12 : decode cX11_show 12 = .ok (.if_icmp .eq 17, 3) := by decide +kernel
theorem dX11_show_15 : decode cX11_show 15 = .ok (.aload_n 0, 1) := by decide +kernel
theorem dX11_show_16 : decode cX11_show 16 = .ok (.iload_n 2, 1) := by decide +kernel
theorem dX11_show_17 : decode cX11_show 17 = .ok (.invokevirtual 137, 3) := by decide +kernel
theorem dX11_show_20 : decode cX11_show 20 = .ok (.ifnonnull 9, 3) := by decide +kernel
theorem dX11_show_23 : decode cX11_show 23 = .ok (.aload_n 0, 1) := by decide +kernel
theorem dX11_show_24 : decode cX11_show 24 = .ok (.iconst (-1), 1) := by decide +kernel
theorem dX11_show_25 : decode cX11_show 25 = .ok (.invokevirtual 65, 3) := by decide +kernel
theorem dX11_show_28 : decode cX11_show 28 = .ok (.ireturn, 1) := by decide +kernel
theorem dX11_show_29 : decode cX11_show 29 = .ok (.aload_n 3, 1) := by decide +kernel
theorem dX11_show_30 : decode cX11_show 30 = .ok (.iload_n 2, 1) := by decide +kernel
theorem dX11_show_31 : decode cX11_show 31 = .ok (.invokevirtual 141, 3) := by decide +kernel
theorem dX11_show_34 : decode cX11_show 34 = .ok (.iload_n 2, 1) := by decide +kernel
theorem dX11_show_35 : decode cX11_show 35 = .ok (.iconst (-1), 1) := by decide +kernel
theorem dX11_show_36 : decode cX11_show 36 = .ok (.if_icmp .ne 7, 3) := by decide +kernel
theorem dX11_show_39 : decode cX11_show 39 = .ok (.iconst 0, 1) := by decide +kernel
theorem dX11_show_40 : decode cX11_show 40 = .ok (.goto 4, 3) := by decide +kernel
theorem dX11_show_43 : decode cX11_show 43 = .ok (.iconst 1, 1) := by decide +kernel
theorem dX11_show_44 : decode cX11_show 44 = .ok (.ireturn, 1) := by decide +kernel
set_option maxRecDepth 20000 in
theorem ggX11_holds_X11_shelfAt : GoodIn wsX11_holds wsX11_shelfAt := goodIn_r _ [5, 6, 11, 12, 13, 14, 15, 16, 17, 18, 19, 20, 21, 22, 23] (by decide +kernel) (by decide +kernel)
set_option maxRecDepth 20000 in
theorem gX11_holds_X11_shelfAt : GoodIn wsX11_holds (wsV RX11 107 RX11 yX11_shelfAt wsX11_shelfAt) := goodIn_app (goodIn_of _ (by decide +kernel)) ggX11_holds_X11_shelfAt
theorem dX11_holds_0 : decode cX11_holds 0 = .ok (.aload_n 0, 1) := by decide +kernel
theorem dX11_holds_1 : decode cX11_holds 1 = .ok (.iload_n 1, 1) := by decide +kernel
theorem dX11_holds_2 : decode cX11_holds 2 = .ok (.invokevirtual 107, 3) := by decide +kernel
theorem dX11_holds_5 : decode cX11_holds 5 = .ok (.astore_n 2, 1) := by decide +kernel
theorem dX11_holds_6 : decode cX11_holds 6 = .ok (.aload_n 2, 1) := by decide +kernel
theorem dX11_holds_7 : decode cX11_holds 7 = .ok (.ifnonnull 5, 3) := by decide +kernel
theorem dX11_holds_10 : decode cX11_holds 10 = .ok (.iconst (-1), 1) := by decide +kernel
theorem dX11_holds_11 : decode cX11_holds 11 = .ok (.ireturn, 1) := by decide +kernel
theorem dX11_holds_12 : decode cX11_holds 12 = .ok (.aload_n 2, 1) := by decide +kernel
theorem dX11_holds_13 : decode cX11_holds 13 = .ok (.getfield 72, 3) := by decide +kernel
theorem dX11_holds_16 : decode cX11_holds 16 = .ok (.iconst (-1), 1) := by decide +kernel
theorem dX11_holds_17 : decode cX11_holds 17 = .ok (.if_icmp .ne 10, 3) := by decide +kernel
theorem dX11_holds_20 : decode cX11_holds 20 = .ok (.aload_n 2, 1) := by decide +kernel
theorem dX11_holds_21 : decode cX11_holds 21 = .ok (.getfield 69, 3) := by decide +kernel
theorem dX11_holds_24 : decode cX11_holds 24 = .ok (.goto 10, 3) := by decide +kernel
theorem dX11_holds_27 : decode cX11_holds 27 = .ok (.bipush 100, 2) := by decide +kernel
theorem dX11_holds_29 : decode cX11_holds 29 = .ok (.aload_n 2, 1) := by decide +kernel
theorem dX11_holds_30 : decode cX11_holds 30 = .ok (.getfield 72, 3) := by decide +kernel
theorem dX11_holds_33 : decode cX11_holds 33 = .ok (.iadd, 1) := by decide +kernel
theorem dX11_holds_34 : decode cX11_holds 34 = .ok (.ireturn, 1) := by decide +kernel
set_option maxRecDepth 20000 in
theorem ggX11_says_X11_shelfAt : GoodIn wsX11_says wsX11_shelfAt := goodIn_r _ [7, 8, 220, 221, 222, 223, 224, 225, 226, 227, 228, 229, 230, 231, 232] (by decide +kernel) (by decide +kernel)
set_option maxRecDepth 20000 in
theorem gX11_says_X11_shelfAt : GoodIn wsX11_says (wsV RX11 107 RX11 yX11_shelfAt wsX11_shelfAt) := goodIn_app (goodIn_of _ (by decide +kernel)) ggX11_says_X11_shelfAt
set_option maxRecDepth 20000 in
theorem ggX11_says_X11_refuse : GoodIn wsX11_says wsX11_refuse := goodIn_r _ [12, 13, 220, 221, 222, 223, 224, 225, 226, 227, 228, 229, 230, 231, 232] (by decide +kernel) (by decide +kernel)
set_option maxRecDepth 20000 in
theorem gX11_says_X11_refuse : GoodIn wsX11_says (wsV RX11 65 RX11 yX11_refuse wsX11_refuse) := goodIn_app (goodIn_of _ (by decide +kernel)) ggX11_says_X11_refuse
set_option maxRecDepth 20000 in
theorem ggX11_says_X11_stripAt : GoodIn wsX11_says wsX11_stripAt := goodIn_r _ [17, 18, 19, 220, 221, 222, 223, 224, 225, 226, 227, 228, 229, 230, 231, 232] (by decide +kernel) (by decide +kernel)
set_option maxRecDepth 20000 in
theorem gX11_says_X11_stripAt : GoodIn wsX11_says (wsV RX11 137 RX11 yX11_stripAt wsX11_stripAt) := goodIn_app (goodIn_of _ (by decide +kernel)) ggX11_says_X11_stripAt
set_option maxRecDepth 20000 in
theorem ggX11_says_X0_isOf : GoodIn wsX11_says wsX0_isOf := goodIn_r _ [26, 27, 28, 29, 30, 31, 32] (by decide +kernel) (by decide +kernel)
set_option maxRecDepth 20000 in
theorem gX11_says_X0_isOf_u145X0 : GoodIn wsX11_says (va_wsO RX11 145 RX0 "FoldedInHalf$Strip" ⟨"FoldedInHalf$Strip", "isOf", "(I)Z"⟩ yX0_isOf wsX0_isOf) := goodIn_app (goodIn_of _ (by decide +kernel)) ggX11_says_X0_isOf
set_option maxRecDepth 20000 in
theorem ggX11_says_X1_isOf : GoodIn wsX11_says wsX1_isOf := goodIn_r _ [32] (by decide +kernel) (by decide +kernel)
set_option maxRecDepth 20000 in
theorem gX11_says_X1_isOf_u145X1 : GoodIn wsX11_says (va_wsO RX11 145 RX1 "FoldedInHalf$Strip" ⟨"FoldedInHalf$Strip", "isOf", "(I)Z"⟩ yX1_isOf wsX1_isOf) := goodIn_app (goodIn_of _ (by decide +kernel)) ggX11_says_X1_isOf
set_option maxRecDepth 20000 in
theorem ggX11_says_X2_isOf : GoodIn wsX11_says wsX2_isOf := goodIn_r _ [38] (by decide +kernel) (by decide +kernel)
set_option maxRecDepth 20000 in
theorem gX11_says_X2_isOf_u145X2 : GoodIn wsX11_says (va_wsO RX11 145 RX2 "FoldedInHalf$Strip" ⟨"FoldedInHalf$Strip", "isOf", "(I)Z"⟩ yX2_isOf wsX2_isOf) := goodIn_app (goodIn_of _ (by decide +kernel)) ggX11_says_X2_isOf
set_option maxRecDepth 20000 in
theorem ggX11_says_X4_isOf : GoodIn wsX11_says wsX4_isOf := goodIn_r _ [42, 43, 44, 45, 36, 37, 38] (by decide +kernel) (by decide +kernel)
set_option maxRecDepth 20000 in
theorem gX11_says_X4_isOf_u145X4 : GoodIn wsX11_says (va_wsO RX11 145 RX4 "FoldedInHalf$Strip" ⟨"FoldedInHalf$Strip", "isOf", "(I)Z"⟩ yX4_isOf wsX4_isOf) := goodIn_app (goodIn_of _ (by decide +kernel)) ggX11_says_X4_isOf
set_option maxRecDepth 20000 in
theorem ggX11_says_X6_isOf : GoodIn wsX11_says wsX6_isOf := goodIn_r _ [49] (by decide +kernel) (by decide +kernel)
set_option maxRecDepth 20000 in
theorem gX11_says_X6_isOf_u145X6 : GoodIn wsX11_says (va_wsO RX11 145 RX6 "FoldedInHalf$Strip" ⟨"FoldedInHalf$Strip", "isOf", "(I)Z"⟩ yX6_isOf wsX6_isOf) := goodIn_app (goodIn_of _ (by decide +kernel)) ggX11_says_X6_isOf
set_option maxRecDepth 20000 in
theorem ggX11_says_X8_isOf : GoodIn wsX11_says wsX8_isOf := goodIn_r _ [33] (by decide +kernel) (by decide +kernel)
set_option maxRecDepth 20000 in
theorem gX11_says_X8_isOf : GoodIn wsX11_says (wsV RX11 145 RX8 yX8_isOf wsX8_isOf) := goodIn_app (goodIn_of _ (by decide +kernel)) ggX11_says_X8_isOf
set_option maxRecDepth 20000 in
theorem ggX11_says_X9_isOf : GoodIn wsX11_says wsX9_isOf := goodIn_r _ [57] (by decide +kernel) (by decide +kernel)
set_option maxRecDepth 20000 in
theorem gX11_says_X9_isOf_u145X9 : GoodIn wsX11_says (va_wsO RX11 145 RX9 "FoldedInHalf$Strip" ⟨"FoldedInHalf$Strip", "isOf", "(I)Z"⟩ yX9_isOf wsX9_isOf) := goodIn_app (goodIn_of _ (by decide +kernel)) ggX11_says_X9_isOf
set_option maxRecDepth 20000 in
theorem ggX11_says_X8_bend : GoodIn wsX11_says wsX8_bend := goodIn_r _ [62, 63, 64, 65, 66, 53, 67, 68, 69, 70, 71, 72, 73, 74, 75, 192, 193, 194, 195, 196, 197, 198, 199, 200, 201, 202, 203, 204, 205, 206, 207, 208, 209, 210, 211, 212, 213, 214, 215, 216, 217, 218, 219] (by decide +kernel) (by decide +kernel)
set_option maxRecDepth 20000 in
theorem gX11_says_X8_bend_u149X0 : GoodIn wsX11_says (va_wsU RX11 149 RX0 "FoldedInHalf$Strip" ⟨"FoldedInHalf$Strip", "bend", "(I)I"⟩ yX8_bend wsX8_bend) := goodIn_app (goodIn_of _ (by decide +kernel)) ggX11_says_X8_bend
set_option maxRecDepth 20000 in
theorem gX11_says_X8_bend_u149X1 : GoodIn wsX11_says (va_wsU RX11 149 RX1 "FoldedInHalf$Strip" ⟨"FoldedInHalf$Strip", "bend", "(I)I"⟩ yX8_bend wsX8_bend) := goodIn_app (goodIn_of _ (by decide +kernel)) ggX11_says_X8_bend
set_option maxRecDepth 20000 in
theorem ggX11_says_X2_bend : GoodIn wsX11_says wsX2_bend := goodIn_r _ [80, 81, 82, 83, 66, 53, 67, 68, 84, 192, 193, 194, 195, 196, 197, 198, 199, 200, 201, 202, 203, 204, 205, 206, 207, 208, 209, 210, 211, 212, 213, 214, 215, 216, 217, 218, 219] (by decide +kernel) (by decide +kernel)
set_option maxRecDepth 20000 in
theorem gX11_says_X2_bend_u149X2 : GoodIn wsX11_says (va_wsO RX11 149 RX2 "FoldedInHalf$Strip" ⟨"FoldedInHalf$Strip", "bend", "(I)I"⟩ yX2_bend wsX2_bend) := goodIn_app (goodIn_of _ (by decide +kernel)) ggX11_says_X2_bend
set_option maxRecDepth 20000 in
theorem gX11_says_X2_bend_u149X4 : GoodIn wsX11_says (va_wsO RX11 149 RX4 "FoldedInHalf$Strip" ⟨"FoldedInHalf$Strip", "bend", "(I)I"⟩ yX2_bend wsX2_bend) := goodIn_app (goodIn_of _ (by decide +kernel)) ggX11_says_X2_bend
set_option maxRecDepth 20000 in
theorem ggX11_says_X6_bend : GoodIn wsX11_says wsX6_bend := goodIn_r _ [88, 89, 90, 192, 193, 194, 195, 196, 197, 198, 199, 200, 201, 202, 203, 204, 205, 206, 207, 208, 209, 210, 211, 212, 213, 214, 215, 216, 217, 218, 219] (by decide +kernel) (by decide +kernel)
set_option maxRecDepth 20000 in
theorem gX11_says_X6_bend_u149X6 : GoodIn wsX11_says (va_wsO RX11 149 RX6 "FoldedInHalf$Strip" ⟨"FoldedInHalf$Strip", "bend", "(I)I"⟩ yX6_bend wsX6_bend) := goodIn_app (goodIn_of _ (by decide +kernel)) ggX11_says_X6_bend
set_option maxRecDepth 20000 in
theorem gX11_says_X8_bend : GoodIn wsX11_says (wsV RX11 149 RX8 yX8_bend wsX8_bend) := goodIn_app (goodIn_of _ (by decide +kernel)) ggX11_says_X8_bend
set_option maxRecDepth 20000 in
theorem gX11_says_X8_bend_u149X9 : GoodIn wsX11_says (va_wsU RX11 149 RX9 "FoldedInHalf$Strip" ⟨"FoldedInHalf$Strip", "bend", "(I)I"⟩ yX8_bend wsX8_bend) := goodIn_app (goodIn_of _ (by decide +kernel)) ggX11_says_X8_bend
set_option maxRecDepth 20000 in
theorem ggX11_says_X8_corners : GoodIn wsX11_says wsX8_corners := goodIn_r _ [98, 99, 100, 101, 102, 53, 103, 104, 105, 106, 107, 108, 109, 110, 111, 112, 113, 56, 114, 115, 116, 117, 118, 119, 120, 121, 122, 31, 123, 124, 125, 126, 127, 128, 129, 130, 131, 132, 133, 134, 135, 136, 137, 138, 192, 193, 194, 195, 196, 197, 198, 199, 200, 201, 202, 203, 204, 205, 206, 207, 208, 209, 210, 211, 212, 213, 214, 215, 216, 217, 218, 219] (by decide +kernel) (by decide +kernel)
set_option maxRecDepth 20000 in
theorem gX11_says_X8_corners_u152X0 : GoodIn wsX11_says (va_wsU RX11 152 RX0 "FoldedInHalf$Strip" ⟨"FoldedInHalf$Strip", "corners", "()J"⟩ yX8_corners wsX8_corners) := goodIn_app (goodIn_of _ (by decide +kernel)) ggX11_says_X8_corners
set_option maxRecDepth 20000 in
theorem gX11_says_X8_corners_u152X1 : GoodIn wsX11_says (va_wsU RX11 152 RX1 "FoldedInHalf$Strip" ⟨"FoldedInHalf$Strip", "corners", "()J"⟩ yX8_corners wsX8_corners) := goodIn_app (goodIn_of _ (by decide +kernel)) ggX11_says_X8_corners
set_option maxRecDepth 20000 in
theorem gX11_says_X8_corners_u152X2 : GoodIn wsX11_says (va_wsU RX11 152 RX2 "FoldedInHalf$Strip" ⟨"FoldedInHalf$Strip", "corners", "()J"⟩ yX8_corners wsX8_corners) := goodIn_app (goodIn_of _ (by decide +kernel)) ggX11_says_X8_corners
set_option maxRecDepth 20000 in
theorem gX11_says_X8_corners_u152X4 : GoodIn wsX11_says (va_wsU RX11 152 RX4 "FoldedInHalf$Strip" ⟨"FoldedInHalf$Strip", "corners", "()J"⟩ yX8_corners wsX8_corners) := goodIn_app (goodIn_of _ (by decide +kernel)) ggX11_says_X8_corners
set_option maxRecDepth 20000 in
theorem gX11_says_X8_corners_u152X6 : GoodIn wsX11_says (va_wsU RX11 152 RX6 "FoldedInHalf$Strip" ⟨"FoldedInHalf$Strip", "corners", "()J"⟩ yX8_corners wsX8_corners) := goodIn_app (goodIn_of _ (by decide +kernel)) ggX11_says_X8_corners
set_option maxRecDepth 20000 in
theorem gX11_says_X8_corners : GoodIn wsX11_says (wsV RX11 152 RX8 yX8_corners wsX8_corners) := goodIn_app (goodIn_of _ (by decide +kernel)) ggX11_says_X8_corners
set_option maxRecDepth 20000 in
theorem gX11_says_X8_corners_u152X9 : GoodIn wsX11_says (va_wsU RX11 152 RX9 "FoldedInHalf$Strip" ⟨"FoldedInHalf$Strip", "corners", "()J"⟩ yX8_corners wsX8_corners) := goodIn_app (goodIn_of _ (by decide +kernel)) ggX11_says_X8_corners
set_option maxRecDepth 20000 in
theorem ggX11_says_X1_behind : GoodIn wsX11_says wsX1_behind := goodIn_r _ [123, 124, 125, 126, 127, 128, 102, 53, 103, 104, 129, 192, 193, 194, 195, 196, 197, 198, 199, 200, 201, 202, 203, 204, 205, 206, 207, 208, 209, 210, 211, 212, 213, 214, 215, 216, 217, 218, 219] (by decide +kernel) (by decide +kernel)
set_option maxRecDepth 20000 in
theorem gX11_says_X1_behind_u157X0 : GoodIn wsX11_says (va_wsO RX11 157 RX0 "FoldedInHalf$Strip" ⟨"FoldedInHalf$Strip", "behind", "()J"⟩ yX1_behind wsX1_behind) := goodIn_app (goodIn_of _ (by decide +kernel)) ggX11_says_X1_behind
set_option maxRecDepth 20000 in
theorem gX11_says_X1_behind_u157X1 : GoodIn wsX11_says (va_wsO RX11 157 RX1 "FoldedInHalf$Strip" ⟨"FoldedInHalf$Strip", "behind", "()J"⟩ yX1_behind wsX1_behind) := goodIn_app (goodIn_of _ (by decide +kernel)) ggX11_says_X1_behind
set_option maxRecDepth 20000 in
theorem ggX11_says_X8_behind : GoodIn wsX11_says wsX8_behind := goodIn_r _ [130] (by decide +kernel) (by decide +kernel)
set_option maxRecDepth 20000 in
theorem gX11_says_X8_behind_u157X2 : GoodIn wsX11_says (va_wsU RX11 157 RX2 "FoldedInHalf$Strip" ⟨"FoldedInHalf$Strip", "behind", "()J"⟩ yX8_behind wsX8_behind) := goodIn_app (goodIn_of _ (by decide +kernel)) ggX11_says_X8_behind
set_option maxRecDepth 20000 in
theorem gX11_says_X8_behind_u157X4 : GoodIn wsX11_says (va_wsU RX11 157 RX4 "FoldedInHalf$Strip" ⟨"FoldedInHalf$Strip", "behind", "()J"⟩ yX8_behind wsX8_behind) := goodIn_app (goodIn_of _ (by decide +kernel)) ggX11_says_X8_behind
set_option maxRecDepth 20000 in
theorem gX11_says_X8_behind_u157X6 : GoodIn wsX11_says (va_wsU RX11 157 RX6 "FoldedInHalf$Strip" ⟨"FoldedInHalf$Strip", "behind", "()J"⟩ yX8_behind wsX8_behind) := goodIn_app (goodIn_of _ (by decide +kernel)) ggX11_says_X8_behind
set_option maxRecDepth 20000 in
theorem gX11_says_X8_behind : GoodIn wsX11_says (wsV RX11 157 RX8 yX8_behind wsX8_behind) := goodIn_app (goodIn_of _ (by decide +kernel)) ggX11_says_X8_behind
set_option maxRecDepth 20000 in
theorem gX11_says_X8_behind_u157X9 : GoodIn wsX11_says (va_wsU RX11 157 RX9 "FoldedInHalf$Strip" ⟨"FoldedInHalf$Strip", "behind", "()J"⟩ yX8_behind wsX8_behind) := goodIn_app (goodIn_of _ (by decide +kernel)) ggX11_says_X8_behind
set_option maxRecDepth 20000 in
theorem ggX11_says_X0_creaseAt : GoodIn wsX11_says wsX0_creaseAt := goodIn_r _ [153, 154, 155, 156, 97, 53, 98, 99, 100, 101, 102, 103, 104, 105, 106, 107, 108, 109, 110, 111, 112, 113, 56, 114, 115, 116, 117, 118, 119, 120, 121, 122, 31, 123, 124, 125, 126, 127, 128, 129, 130, 131, 132, 133, 134, 135, 136, 137, 138, 157, 158, 29, 159, 160, 161, 162, 163, 164, 165, 166, 149, 167, 168, 169, 170, 171, 59, 60, 61, 62, 63, 64, 65, 66, 67, 68, 69, 70, 71, 72, 73, 74, 75, 76, 77, 78, 79, 37, 80, 81, 82, 83, 84, 85, 86, 87, 48, 88, 89, 90, 172, 92, 93, 192, 193, 194, 195, 196, 197, 198, 199, 200, 201, 202, 203, 204, 205, 206, 207, 208, 209, 210, 211, 212, 213, 214, 215, 216, 217, 218, 219] (by decide +kernel) (by decide +kernel)
set_option maxRecDepth 20000 in
theorem gX11_says_X0_creaseAt_u160X0 : GoodIn wsX11_says (va_wsO RX11 160 RX0 "FoldedInHalf$Strip" ⟨"FoldedInHalf$Strip", "creaseAt", "(J)I"⟩ yX0_creaseAt wsX0_creaseAt) := goodIn_app (goodIn_of _ (by decide +kernel)) ggX11_says_X0_creaseAt
set_option maxRecDepth 20000 in
theorem ggX11_says_X1_creaseAt : GoodIn wsX11_says wsX1_creaseAt := goodIn_r _ [160, 161, 162, 163, 122, 31, 123, 124, 125, 126, 127, 128, 102, 53, 103, 104, 129, 164, 165, 166, 149, 167, 168, 169, 170, 171, 59, 60, 61, 62, 63, 64, 65, 66, 67, 68, 69, 70, 71, 72, 73, 74, 75, 76, 77, 78, 79, 37, 80, 81, 82, 83, 84, 85, 86, 87, 48, 88, 89, 90, 172, 92, 93, 192, 193, 194, 195, 196, 197, 198, 199, 200, 201, 202, 203, 204, 205, 206, 207, 208, 209, 210, 211, 212, 213, 214, 215, 216, 217, 218, 219] (by decide +kernel) (by decide +kernel)
set_option maxRecDepth 20000 in
theorem gX11_says_X1_creaseAt_u160X1 : GoodIn wsX11_says (va_wsO RX11 160 RX1 "FoldedInHalf$Strip" ⟨"FoldedInHalf$Strip", "creaseAt", "(J)I"⟩ yX1_creaseAt wsX1_creaseAt) := goodIn_app (goodIn_of _ (by decide +kernel)) ggX11_says_X1_creaseAt
set_option maxRecDepth 20000 in
theorem ggX11_says_X8_creaseAt : GoodIn wsX11_says wsX8_creaseAt := goodIn_r _ [169, 170, 171, 59, 60, 61, 53, 62, 63, 64, 65, 66, 67, 68, 69, 70, 71, 72, 73, 74, 75, 76, 77, 78, 79, 37, 80, 81, 82, 83, 84, 85, 86, 87, 48, 88, 89, 90, 172, 92, 93, 192, 193, 194, 195, 196, 197, 198, 199, 200, 201, 202, 203, 204, 205, 206, 207, 208, 209, 210, 211, 212, 213, 214, 215, 216, 217, 218, 219] (by decide +kernel) (by decide +kernel)
set_option maxRecDepth 20000 in
theorem gX11_says_X8_creaseAt_u160X2 : GoodIn wsX11_says (va_wsU RX11 160 RX2 "FoldedInHalf$Strip" ⟨"FoldedInHalf$Strip", "creaseAt", "(J)I"⟩ yX8_creaseAt wsX8_creaseAt) := goodIn_app (goodIn_of _ (by decide +kernel)) ggX11_says_X8_creaseAt
set_option maxRecDepth 20000 in
theorem ggX11_says_X4_creaseAt : GoodIn wsX11_says wsX4_creaseAt := goodIn_r _ [177, 178] (by decide +kernel) (by decide +kernel)
set_option maxRecDepth 20000 in
theorem gX11_says_X4_creaseAt_u160X4 : GoodIn wsX11_says (va_wsO RX11 160 RX4 "FoldedInHalf$Strip" ⟨"FoldedInHalf$Strip", "creaseAt", "(J)I"⟩ yX4_creaseAt wsX4_creaseAt) := goodIn_app (goodIn_of _ (by decide +kernel)) ggX11_says_X4_creaseAt
set_option maxRecDepth 20000 in
theorem gX11_says_X8_creaseAt_u160X6 : GoodIn wsX11_says (va_wsU RX11 160 RX6 "FoldedInHalf$Strip" ⟨"FoldedInHalf$Strip", "creaseAt", "(J)I"⟩ yX8_creaseAt wsX8_creaseAt) := goodIn_app (goodIn_of _ (by decide +kernel)) ggX11_says_X8_creaseAt
set_option maxRecDepth 20000 in
theorem gX11_says_X8_creaseAt : GoodIn wsX11_says (wsV RX11 160 RX8 yX8_creaseAt wsX8_creaseAt) := goodIn_app (goodIn_of _ (by decide +kernel)) ggX11_says_X8_creaseAt
set_option maxRecDepth 20000 in
theorem ggX11_says_X9_creaseAt : GoodIn wsX11_says wsX9_creaseAt := goodIn_r _ [184, 117, 185, 186, 187, 61, 53, 62, 63, 64, 65, 66, 67, 68, 69, 70, 71, 72, 73, 74, 75, 192, 193, 194, 195, 196, 197, 198, 199, 200, 201, 202, 203, 204, 205, 206, 207, 208, 209, 210, 211, 212, 213, 214, 215, 216, 217, 218, 219] (by decide +kernel) (by decide +kernel)
set_option maxRecDepth 20000 in
theorem gX11_says_X9_creaseAt_u160X9 : GoodIn wsX11_says (va_wsO RX11 160 RX9 "FoldedInHalf$Strip" ⟨"FoldedInHalf$Strip", "creaseAt", "(J)I"⟩ yX9_creaseAt wsX9_creaseAt) := goodIn_app (goodIn_of _ (by decide +kernel)) ggX11_says_X9_creaseAt
theorem dX11_says_0 : decode cX11_says 0 = .ok (.aload_n 0, 1) := by decide +kernel
theorem dX11_says_1 : decode cX11_says 1 = .ok (.iload_n 1, 1) := by decide +kernel
theorem dX11_says_2 : decode cX11_says 2 = .ok (.invokevirtual 107, 3) := by decide +kernel
theorem dX11_says_5 : decode cX11_says 5 = .ok (.astore_n 3, 1) := by decide +kernel
theorem dX11_says_6 : decode cX11_says 6 = .ok (.aload_n 3, 1) := by decide +kernel
theorem dX11_says_7 : decode cX11_says 7 = .ok (.ifnull 13, 3) := by decide +kernel
theorem dX11_says_10 : decode cX11_says 10 = .ok (.iload_n 2, 1) := by decide +kernel
theorem dX11_says_11 : decode cX11_says 11 = .ok (.ifCond .lt 9, 3) := by decide +kernel
theorem dX11_says_14 : decode cX11_says 14 = .ok (.iload_n 2, 1) := by decide +kernel
theorem dX11_says_15 : decode cX11_says 15 = .ok (.bipush 6, 2) := by decide +kernel
theorem dX11_says_17 : decode cX11_says 17 = .ok (.if_icmp .le 9, 3) := by decide +kernel
theorem dX11_says_20 : decode cX11_says 20 = .ok (.aload_n 0, 1) := by decide +kernel
theorem dX11_says_21 : decode cX11_says 21 = .ok (.iconst (-1), 1) := by decide +kernel
theorem dX11_says_22 : decode cX11_says 22 = .ok (.invokevirtual 65, 3) := by decide +kernel
theorem dX11_says_25 : decode cX11_says 25 = .ok (.ireturn, 1) := by decide +kernel
theorem dX11_says_26 : decode cX11_says 26 = .ok (.aload_n 3, 1) := by decide +kernel
theorem dX11_says_27 : decode cX11_says 27 = .ok (.getfield 72, 3) := by decide +kernel
theorem dX11_says_30 : decode cX11_says 30 = .ok (.iconst (-1), 1) := by decide +kernel
theorem dX11_says_31 : decode cX11_says 31 = .ok (.if_icmp .eq 10, 3) := by decide +kernel
theorem dX11_says_34 : decode cX11_says 34 = .ok (.aload_n 0, 1) := by decide +kernel
theorem dX11_says_35 : decode cX11_says 35 = .ok (.bipush (-2), 2) := by decide +kernel
theorem dX11_says_37 : decode cX11_says 37 = .ok (.invokevirtual 65, 3) := by decide +kernel
theorem dX11_says_40 : decode cX11_says 40 = .ok (.ireturn, 1) := by decide +kernel
theorem dX11_says_41 : decode cX11_says 41 = .ok (.aload_n 0, 1) := by decide +kernel
theorem dX11_says_42 : decode cX11_says 42 = .ok (.aload_n 3, 1) := by decide +kernel
theorem dX11_says_43 : decode cX11_says 43 = .ok (.getfield 69, 3) := by decide +kernel
theorem dX11_says_46 : decode cX11_says 46 = .ok (.invokevirtual 137, 3) := by decide +kernel
theorem dX11_says_49 : decode cX11_says 49 = .ok (.astore 4, 2) := by decide +kernel
theorem dX11_says_51 : decode cX11_says 51 = .ok (.aload 4, 2) := by decide +kernel
theorem dX11_says_53 : decode cX11_says 53 = .ok (.ifnonnull 10, 3) := by decide +kernel
theorem dX11_says_56 : decode cX11_says 56 = .ok (.aload_n 0, 1) := by decide +kernel
theorem dX11_says_57 : decode cX11_says 57 = .ok (.bipush (-3), 2) := by decide +kernel
theorem dX11_says_59 : decode cX11_says 59 = .ok (.invokevirtual 65, 3) := by decide +kernel
theorem dX11_says_62 : decode cX11_says 62 = .ok (.ireturn, 1) := by decide +kernel
theorem dX11_says_63 : decode cX11_says 63 = .ok (.aload 4, 2) := by decide +kernel
theorem dX11_says_65 : decode cX11_says 65 = .ok (.iload_n 2, 1) := by decide +kernel
theorem dX11_says_66 : decode cX11_says 66 = .ok (.invokevirtual 145, 3) := by decide +kernel
theorem dX11_says_69 : decode cX11_says 69 = .ok (.ifCond .ne 10, 3) := by decide +kernel
theorem dX11_says_72 : decode cX11_says 72 = .ok (.aload_n 0, 1) := by decide +kernel
theorem dX11_says_73 : decode cX11_says 73 = .ok (.bipush (-2), 2) := by decide +kernel
theorem dX11_says_75 : decode cX11_says 75 = .ok (.invokevirtual 65, 3) := by decide +kernel
theorem dX11_says_78 : decode cX11_says 78 = .ok (.ireturn, 1) := by decide +kernel
theorem dX11_says_79 : decode cX11_says 79 = .ok (.iload_n 2, 1) := by decide +kernel
theorem dX11_says_80 : decode cX11_says 80 = .ok (.tableswitch 76 1 6 #[40, 47, 58, 58, 69, 69], 40) := by decide +kernel
theorem dX11_says_120 : decode cX11_says 120 = .ok (.aload 4, 2) := by decide +kernel
theorem dX11_says_122 : decode cX11_says 122 = .ok (.iconst 0, 1) := by decide +kernel
theorem dX11_says_123 : decode cX11_says 123 = .ok (.invokevirtual 149, 3) := by decide +kernel
theorem dX11_says_126 : decode cX11_says 126 = .ok (.ireturn, 1) := by decide +kernel
theorem dX11_says_127 : decode cX11_says 127 = .ok (.aload 4, 2) := by decide +kernel
theorem dX11_says_129 : decode cX11_says 129 = .ok (.invokevirtual 152, 3) := by decide +kernel
theorem dX11_says_132 : decode cX11_says 132 = .ok (.ldc2_w 155, 3) := by decide +kernel
theorem dX11_says_135 : decode cX11_says 135 = .ok (.lrem, 1) := by decide +kernel
theorem dX11_says_136 : decode cX11_says 136 = .ok (.l2i, 1) := by decide +kernel
theorem dX11_says_137 : decode cX11_says 137 = .ok (.ireturn, 1) := by decide +kernel
theorem dX11_says_138 : decode cX11_says 138 = .ok (.aload 4, 2) := by decide +kernel
theorem dX11_says_140 : decode cX11_says 140 = .ok (.invokevirtual 157, 3) := by decide +kernel
theorem dX11_says_143 : decode cX11_says 143 = .ok (.ldc2_w 155, 3) := by decide +kernel
theorem dX11_says_146 : decode cX11_says 146 = .ok (.lrem, 1) := by decide +kernel
theorem dX11_says_147 : decode cX11_says 147 = .ok (.l2i, 1) := by decide +kernel
theorem dX11_says_148 : decode cX11_says 148 = .ok (.ireturn, 1) := by decide +kernel
theorem dX11_says_149 : decode cX11_says 149 = .ok (.aload 4, 2) := by decide +kernel
theorem dX11_says_151 : decode cX11_says 151 = .ok (.lconst 1, 1) := by decide +kernel
theorem dX11_says_152 : decode cX11_says 152 = .ok (.invokevirtual 160, 3) := by decide +kernel
theorem dX11_says_155 : decode cX11_says 155 = .ok (.ireturn, 1) := by decide +kernel
theorem dX11_says_156 : decode cX11_says 156 = .ok (.aload 4, 2) := by decide +kernel
theorem dX11_says_158 : decode cX11_says 158 = .ok (.getfield 164, 3) := by decide +kernel
theorem dX11_says_161 : decode cX11_says 161 = .ok (.ireturn, 1) := by decide +kernel
set_option maxRecDepth 20000 in
theorem ggX11_clearShelvesOfNobody_X11_shelfAt : GoodIn wsX11_clearShelvesOfNobody wsX11_shelfAt := goodIn_r _ [6, 7, 19, 20, 21, 22, 23, 24, 25, 26, 27, 28, 29, 30, 31] (by decide +kernel) (by decide +kernel)
set_option maxRecDepth 20000 in
theorem gX11_clearShelvesOfNobody_X11_shelfAt : GoodIn wsX11_clearShelvesOfNobody (wsV RX11 107 RX11 yX11_shelfAt wsX11_shelfAt) := goodIn_app (goodIn_of _ (by decide +kernel)) ggX11_clearShelvesOfNobody_X11_shelfAt
set_option maxRecDepth 20000 in
theorem ggX11_clearShelvesOfNobody_X7_holdStrip : GoodIn wsX11_clearShelvesOfNobody wsX7_holdStrip := goodIn_r _ [11, 12, 13, 14, 15, 16, 17, 18] (by decide +kernel) (by decide +kernel)
set_option maxRecDepth 20000 in
theorem gX11_clearShelvesOfNobody_X7_holdStrip_n141 : GoodIn wsX11_clearShelvesOfNobody (wsX7_holdStrip) := ggX11_clearShelvesOfNobody_X7_holdStrip
theorem dX11_clearShelvesOfNobody_0 : decode cX11_clearShelvesOfNobody 0 = .ok (.iconst 0, 1) := by decide +kernel
theorem dX11_clearShelvesOfNobody_1 : decode cX11_clearShelvesOfNobody 1 = .ok (.istore_n 1, 1) := by decide +kernel
theorem dX11_clearShelvesOfNobody_2 : decode cX11_clearShelvesOfNobody 2 = .ok (.iload_n 1, 1) := by decide +kernel
theorem dX11_clearShelvesOfNobody_3 : decode cX11_clearShelvesOfNobody 3 = .ok (.bipush 8, 2) := by decide +kernel
theorem dX11_clearShelvesOfNobody_5 : decode cX11_clearShelvesOfNobody 5 = .ok (.if_icmp .ge 35, 3) := by decide +kernel
theorem dX11_clearShelvesOfNobody_8 : decode cX11_clearShelvesOfNobody 8 = .ok (.aload_n 0, 1) := by decide +kernel
theorem dX11_clearShelvesOfNobody_9 : decode cX11_clearShelvesOfNobody 9 = .ok (.iload_n 1, 1) := by decide +kernel
theorem dX11_clearShelvesOfNobody_10 : decode cX11_clearShelvesOfNobody 10 = .ok (.invokevirtual 107, 3) := by decide +kernel
theorem dX11_clearShelvesOfNobody_13 : decode cX11_clearShelvesOfNobody 13 = .ok (.astore_n 2, 1) := by decide +kernel
theorem dX11_clearShelvesOfNobody_14 : decode cX11_clearShelvesOfNobody 14 = .ok (.aload_n 2, 1) := by decide +kernel
theorem dX11_clearShelvesOfNobody_15 : decode cX11_clearShelvesOfNobody 15 = .ok (.ifnull 19, 3) := by decide +kernel
theorem dX11_clearShelvesOfNobody_18 : decode cX11_clearShelvesOfNobody 18 = .ok (.aload_n 2, 1) := by decide +kernel
theorem dX11_clearShelvesOfNobody_19 : decode cX11_clearShelvesOfNobody 19 = .ok (.getfield 69, 3) := by decide +kernel
theorem dX11_clearShelvesOfNobody_22 : decode cX11_clearShelvesOfNobody 22 = .ok (.aload_n 0, 1) := by decide +kernel
theorem dX11_clearShelvesOfNobody_23 : decode cX11_clearShelvesOfNobody 23 = .ok (.getfield 54, 3) := by decide +kernel
theorem dX11_clearShelvesOfNobody_26 : decode cX11_clearShelvesOfNobody 26 = .ok (.if_icmp .lt 8, 3) := by decide +kernel
theorem dX11_clearShelvesOfNobody_29 : decode cX11_clearShelvesOfNobody 29 = .ok (.aload_n 2, 1) := by decide +kernel
theorem dX11_clearShelvesOfNobody_30 : decode cX11_clearShelvesOfNobody 30 = .ok (.iconst (-1), 1) := by decide +kernel
theorem dX11_clearShelvesOfNobody_31 : decode cX11_clearShelvesOfNobody 31 = .ok (.invokevirtual 141, 3) := by decide +kernel
theorem dX11_clearShelvesOfNobody_34 : decode cX11_clearShelvesOfNobody 34 = .ok (.iinc 1 1, 3) := by decide +kernel
theorem dX11_clearShelvesOfNobody_37 : decode cX11_clearShelvesOfNobody 37 = .ok (.goto (-35), 3) := by decide +kernel
theorem dX11_clearShelvesOfNobody_40 : decode cX11_clearShelvesOfNobody 40 = .ok (.return_, 1) := by decide +kernel
set_option maxRecDepth 20000 in
theorem ggX11_strip_X11_shelfAt : GoodIn wsX11_strip wsX11_shelfAt := goodIn_r _ [7, 8, 92, 93, 94, 95, 96, 97, 98, 99, 100, 101, 102, 103, 104] (by decide +kernel) (by decide +kernel)
set_option maxRecDepth 20000 in
theorem gX11_strip_X11_shelfAt : GoodIn wsX11_strip (wsV RX11 107 RX11 yX11_shelfAt wsX11_shelfAt) := goodIn_app (goodIn_of _ (by decide +kernel)) ggX11_strip_X11_shelfAt
set_option maxRecDepth 20000 in
theorem ggX11_strip_X11_refuse : GoodIn wsX11_strip wsX11_refuse := goodIn_r _ [12, 13, 92, 93, 94, 95, 96, 97, 98, 99, 100, 101, 102, 103, 104] (by decide +kernel) (by decide +kernel)
set_option maxRecDepth 20000 in
theorem gX11_strip_X11_refuse : GoodIn wsX11_strip (wsV RX11 65 RX11 yX11_refuse wsX11_refuse) := goodIn_app (goodIn_of _ (by decide +kernel)) ggX11_strip_X11_refuse
set_option maxRecDepth 20000 in
theorem ggX11_strip_X11_toldTrouble : GoodIn wsX11_strip wsX11_toldTrouble := goodIn_r _ [16, 17, 18, 6, 19, 105, 106, 107, 108] (by decide +kernel) (by decide +kernel)
set_option maxRecDepth 20000 in
theorem gX11_strip_X11_toldTrouble : GoodIn wsX11_strip (va_wsS RX11 167 yX11_toldTrouble wsX11_toldTrouble) := goodIn_app (goodIn_of _ (by decide +kernel)) ggX11_strip_X11_toldTrouble
set_option maxRecDepth 20000 in
theorem ggX11_strip_X11_mostFolds : GoodIn wsX11_strip wsX11_mostFolds := goodIn_r _ [22] (by decide +kernel) (by decide +kernel)
set_option maxRecDepth 20000 in
theorem gX11_strip_X11_mostFolds : GoodIn wsX11_strip (va_wsS RX11 171 yX11_mostFolds wsX11_mostFolds) := goodIn_app (goodIn_of _ (by decide +kernel)) ggX11_strip_X11_mostFolds
set_option maxRecDepth 20000 in
theorem ggX11_strip_X7_number : GoodIn wsX11_strip wsX7_number := goodIn_r _ [26, 27, 28, 105, 106, 107, 108] (by decide +kernel) (by decide +kernel)
set_option maxRecDepth 20000 in
theorem gX11_strip_X7_number_n175 : GoodIn wsX11_strip (wsX7_number) := ggX11_strip_X7_number
set_option maxRecDepth 20000 in
theorem ggX11_strip_X11_make : GoodIn wsX11_strip wsX11_make := goodIn_r _ [31, 32, 33, 34, 35, 36, 37, 38, 39, 40, 41, 42, 43, 44, 45, 46, 47, 48, 49, 50, 51, 52, 53, 54, 55, 56, 57, 58, 59, 60, 61, 62, 63, 64, 65, 66, 67, 68, 69, 70, 71, 72, 73, 74, 75, 76, 77, 78, 79, 80, 81, 82, 83, 84, 85, 86, 109, 110, 111, 112, 113, 114, 115, 116, 117, 118, 119, 120, 121, 122, 123, 124, 125, 126, 127, 128, 129, 130, 131, 132, 133, 134, 135, 136] (by decide +kernel) (by decide +kernel)
set_option maxRecDepth 20000 in
theorem gX11_strip_X11_make : GoodIn wsX11_strip (va_wsS RX11 178 yX11_make wsX11_make) := goodIn_app (goodIn_of _ (by decide +kernel)) ggX11_strip_X11_make
set_option maxRecDepth 20000 in
theorem ggX11_strip_X11_putStrip : GoodIn wsX11_strip wsX11_putStrip := goodIn_r _ [90, 91, 92, 93, 94, 95, 96, 97, 98, 99, 100, 101, 102, 103, 104] (by decide +kernel) (by decide +kernel)
set_option maxRecDepth 20000 in
theorem gX11_strip_X11_putStrip : GoodIn wsX11_strip (wsV RX11 182 RX11 yX11_putStrip wsX11_putStrip) := goodIn_app (goodIn_of _ (by decide +kernel)) ggX11_strip_X11_putStrip
theorem dX11_strip_0 : decode cX11_strip 0 = .ok (.aload_n 0, 1) := by decide +kernel
theorem dX11_strip_1 : decode cX11_strip 1 = .ok (.iload_n 3, 1) := by decide +kernel
theorem dX11_strip_2 : decode cX11_strip 2 = .ok (.invokevirtual 107, 3) := by decide +kernel
theorem dX11_strip_5 : decode cX11_strip 5 = .ok (.astore 5, 2) := by decide +kernel
theorem dX11_strip_7 : decode cX11_strip 7 = .ok (.aload 5, 2) := by decide +kernel
theorem dX11_strip_9 : decode cX11_strip 9 = .ok (.ifnull 13, 3) := by decide +kernel
theorem dX11_strip_12 : decode cX11_strip 12 = .ok (.iload_n 1, 1) := by decide +kernel
theorem dX11_strip_13 : decode cX11_strip 13 = .ok (.ifCond .lt 9, 3) := by decide +kernel
theorem dX11_strip_16 : decode cX11_strip 16 = .ok (.iload_n 1, 1) := by decide +kernel
theorem dX11_strip_17 : decode cX11_strip 17 = .ok (.bipush 6, 2) := by decide +kernel
theorem dX11_strip_19 : decode cX11_strip 19 = .ok (.if_icmp .le 9, 3) := by decide +kernel
theorem dX11_strip_22 : decode cX11_strip 22 = .ok (.aload_n 0, 1) := by decide +kernel
theorem dX11_strip_23 : decode cX11_strip 23 = .ok (.iconst (-1), 1) := by decide +kernel
theorem dX11_strip_24 : decode cX11_strip 24 = .ok (.invokevirtual 65, 3) := by decide +kernel
theorem dX11_strip_27 : decode cX11_strip 27 = .ok (.ireturn, 1) := by decide +kernel
theorem dX11_strip_28 : decode cX11_strip 28 = .ok (.aload 5, 2) := by decide +kernel
theorem dX11_strip_30 : decode cX11_strip 30 = .ok (.iload 4, 2) := by decide +kernel
theorem dX11_strip_32 : decode cX11_strip 32 = .ok (.invokestatic 167, 3) := by decide +kernel
theorem dX11_strip_35 : decode cX11_strip 35 = .ok (.istore 6, 2) := by decide +kernel
theorem dX11_strip_37 : decode cX11_strip 37 = .ok (.iload 6, 2) := by decide +kernel
theorem dX11_strip_39 : decode cX11_strip 39 = .ok (.ifCond .eq 10, 3) := by decide +kernel
theorem dX11_strip_42 : decode cX11_strip 42 = .ok (.aload_n 0, 1) := by decide +kernel
theorem dX11_strip_43 : decode cX11_strip 43 = .ok (.iload 6, 2) := by decide +kernel
theorem dX11_strip_45 : decode cX11_strip 45 = .ok (.invokevirtual 65, 3) := by decide +kernel
theorem dX11_strip_48 : decode cX11_strip 48 = .ok (.ireturn, 1) := by decide +kernel
theorem dX11_strip_49 : decode cX11_strip 49 = .ok (.iload 4, 2) := by decide +kernel
theorem dX11_strip_51 : decode cX11_strip 51 = .ok (.iconst 1, 1) := by decide +kernel
theorem dX11_strip_52 : decode cX11_strip 52 = .ok (.if_icmp .lt 22, 3) := by decide +kernel
theorem dX11_strip_55 : decode cX11_strip 55 = .ok (.iload 4, 2) := by decide +kernel
theorem dX11_strip_57 : decode cX11_strip 57 = .ok (.iload_n 1, 1) := by decide +kernel
theorem dX11_strip_58 : decode cX11_strip 58 = .ok (.invokestatic 171, 3) := by decide +kernel
theorem dX11_strip_61 : decode cX11_strip 61 = .ok (.if_icmp .gt 13, 3) := by decide +kernel
theorem dX11_strip_64 : decode cX11_strip 64 = .ok (.iload_n 2, 1) := by decide +kernel
theorem dX11_strip_65 : decode cX11_strip 65 = .ok (.ifCond .lt 9, 3) := by decide +kernel
theorem dX11_strip_68 : decode cX11_strip 68 = .ok (.iload_n 2, 1) := by decide +kernel
theorem dX11_strip_69 : decode cX11_strip 69 = .ok (.ldc 174, 2) := by decide +kernel
theorem dX11_strip_71 : decode cX11_strip 71 = .ok (.if_icmp .le 10, 3) := by decide +kernel
theorem dX11_strip_74 : decode cX11_strip 74 = .ok (.aload_n 0, 1) := by decide +kernel
theorem dX11_strip_75 : decode cX11_strip 75 = .ok (.bipush (-6), 2) := by decide +kernel
theorem dX11_strip_77 : decode cX11_strip 77 = .ok (.invokevirtual 65, 3) := by decide +kernel
theorem dX11_strip_80 : decode cX11_strip 80 = .ok (.ireturn, 1) := by decide +kernel
theorem dX11_strip_81 : decode cX11_strip 81 = .ok (.aload_n 0, 1) := by decide +kernel
theorem dX11_strip_82 : decode cX11_strip 82 = .ok (.getfield 54, 3) := by decide +kernel
theorem dX11_strip_85 : decode cX11_strip 85 = .ok (.bipush 8, 2) := by decide +kernel
theorem dX11_strip_87 : decode cX11_strip 87 = .ok (.if_icmp .lt 10, 3) := by decide +kernel
theorem dX11_strip_90 : decode cX11_strip 90 = .ok (.aload_n 0, 1) := by decide +kernel
theorem dX11_strip_91 : decode cX11_strip 91 = .ok (.bipush (-7), 2) := by decide +kernel
theorem dX11_strip_93 : decode cX11_strip 93 = .ok (.invokevirtual 65, 3) := by decide +kernel
theorem dX11_strip_96 : decode cX11_strip 96 = .ok (.ireturn, 1) := by decide +kernel
theorem dX11_strip_97 : decode cX11_strip 97 = .ok (.lconst 0, 1) := by decide +kernel
theorem dX11_strip_98 : decode cX11_strip 98 = .ok (.lstore 7, 2) := by decide +kernel
theorem dX11_strip_100 : decode cX11_strip 100 = .ok (.iconst 0, 1) := by decide +kernel
theorem dX11_strip_101 : decode cX11_strip 101 = .ok (.istore 9, 2) := by decide +kernel
theorem dX11_strip_103 : decode cX11_strip 103 = .ok (.iload 9, 2) := by decide +kernel
theorem dX11_strip_105 : decode cX11_strip 105 = .ok (.iload 4, 2) := by decide +kernel
theorem dX11_strip_107 : decode cX11_strip 107 = .ok (.if_icmp .ge 27, 3) := by decide +kernel
theorem dX11_strip_110 : decode cX11_strip 110 = .ok (.lload 7, 2) := by decide +kernel
theorem dX11_strip_112 : decode cX11_strip 112 = .ok (.aload 5, 2) := by decide +kernel
theorem dX11_strip_114 : decode cX11_strip 114 = .ok (.iload 9, 2) := by decide +kernel
theorem dX11_strip_116 : decode cX11_strip 116 = .ok (.invokevirtual 175, 3) := by decide +kernel
theorem dX11_strip_119 : decode cX11_strip 119 = .ok (.iconst 1, 1) := by decide +kernel
theorem dX11_strip_120 : decode cX11_strip 120 = .ok (.iand, 1) := by decide +kernel
theorem dX11_strip_121 : decode cX11_strip 121 = .ok (.i2l, 1) := by decide +kernel
theorem dX11_strip_122 : decode cX11_strip 122 = .ok (.iload 9, 2) := by decide +kernel
theorem dX11_strip_124 : decode cX11_strip 124 = .ok (.lshl, 1) := by decide +kernel
theorem dX11_strip_125 : decode cX11_strip 125 = .ok (.lor, 1) := by decide +kernel
theorem dX11_strip_126 : decode cX11_strip 126 = .ok (.lstore 7, 2) := by decide +kernel
theorem dX11_strip_128 : decode cX11_strip 128 = .ok (.iinc 9 1, 3) := by decide +kernel
theorem dX11_strip_131 : decode cX11_strip 131 = .ok (.goto (-28), 3) := by decide +kernel
theorem dX11_strip_134 : decode cX11_strip 134 = .ok (.aload_n 0, 1) := by decide +kernel
theorem dX11_strip_135 : decode cX11_strip 135 = .ok (.aload_n 0, 1) := by decide +kernel
theorem dX11_strip_136 : decode cX11_strip 136 = .ok (.getfield 54, 3) := by decide +kernel
theorem dX11_strip_139 : decode cX11_strip 139 = .ok (.iload_n 1, 1) := by decide +kernel
theorem dX11_strip_140 : decode cX11_strip 140 = .ok (.aload_n 0, 1) := by decide +kernel
theorem dX11_strip_141 : decode cX11_strip 141 = .ok (.getfield 54, 3) := by decide +kernel
theorem dX11_strip_144 : decode cX11_strip 144 = .ok (.iload_n 2, 1) := by decide +kernel
theorem dX11_strip_145 : decode cX11_strip 145 = .ok (.iload 4, 2) := by decide +kernel
theorem dX11_strip_147 : decode cX11_strip 147 = .ok (.lload 7, 2) := by decide +kernel
theorem dX11_strip_149 : decode cX11_strip 149 = .ok (.invokestatic 178, 3) := by decide +kernel
theorem dX11_strip_152 : decode cX11_strip 152 = .ok (.invokevirtual 182, 3) := by decide +kernel
theorem dX11_strip_155 : decode cX11_strip 155 = .ok (.aload_n 0, 1) := by decide +kernel
theorem dX11_strip_156 : decode cX11_strip 156 = .ok (.dup, 1) := by decide +kernel
theorem dX11_strip_157 : decode cX11_strip 157 = .ok (.getfield 54, 3) := by decide +kernel
theorem dX11_strip_160 : decode cX11_strip 160 = .ok (.iconst 1, 1) := by decide +kernel
theorem dX11_strip_161 : decode cX11_strip 161 = .ok (.iadd, 1) := by decide +kernel
theorem dX11_strip_162 : decode cX11_strip 162 = .ok (.putfield 54, 3) := by decide +kernel
theorem dX11_strip_165 : decode cX11_strip 165 = .ok (.aload_n 0, 1) := by decide +kernel
theorem dX11_strip_166 : decode cX11_strip 166 = .ok (.getfield 54, 3) := by decide +kernel
theorem dX11_strip_169 : decode cX11_strip 169 = .ok (.iconst 1, 1) := by decide +kernel
theorem dX11_strip_170 : decode cX11_strip 170 = .ok (.isub, 1) := by decide +kernel
theorem dX11_strip_171 : decode cX11_strip 171 = .ok (.ireturn, 1) := by decide +kernel
set_option maxRecDepth 20000 in
theorem ggX11_stripOf_X11_stripAt : GoodIn wsX11_stripOf wsX11_stripAt := goodIn_r _ [7, 8, 9, 101, 102, 103, 104, 105, 106, 107, 108, 109, 110, 111, 112, 113] (by decide +kernel) (by decide +kernel)
set_option maxRecDepth 20000 in
theorem gX11_stripOf_X11_stripAt : GoodIn wsX11_stripOf (wsV RX11 137 RX11 yX11_stripAt wsX11_stripAt) := goodIn_app (goodIn_of _ (by decide +kernel)) ggX11_stripOf_X11_stripAt
set_option maxRecDepth 20000 in
theorem ggX11_stripOf_X11_refuse : GoodIn wsX11_stripOf wsX11_refuse := goodIn_r _ [13, 14, 101, 102, 103, 104, 105, 106, 107, 108, 109, 110, 111, 112, 113] (by decide +kernel) (by decide +kernel)
set_option maxRecDepth 20000 in
theorem gX11_stripOf_X11_refuse : GoodIn wsX11_stripOf (wsV RX11 65 RX11 yX11_refuse wsX11_refuse) := goodIn_app (goodIn_of _ (by decide +kernel)) ggX11_stripOf_X11_refuse
set_option maxRecDepth 20000 in
theorem ggX11_stripOf_X0_kind : GoodIn wsX11_stripOf wsX0_kind := goodIn_r _ [21] (by decide +kernel) (by decide +kernel)
set_option maxRecDepth 20000 in
theorem gX11_stripOf_X0_kind_u186X0 : GoodIn wsX11_stripOf (va_wsO RX11 186 RX0 "FoldedInHalf$Strip" ⟨"FoldedInHalf$Strip", "kind", "()I"⟩ yX0_kind wsX0_kind) := goodIn_app (goodIn_of _ (by decide +kernel)) ggX11_stripOf_X0_kind
set_option maxRecDepth 20000 in
theorem ggX11_stripOf_X1_kind : GoodIn wsX11_stripOf wsX1_kind := goodIn_r _ [26] (by decide +kernel) (by decide +kernel)
set_option maxRecDepth 20000 in
theorem gX11_stripOf_X1_kind_u186X1 : GoodIn wsX11_stripOf (va_wsO RX11 186 RX1 "FoldedInHalf$Strip" ⟨"FoldedInHalf$Strip", "kind", "()I"⟩ yX1_kind wsX1_kind) := goodIn_app (goodIn_of _ (by decide +kernel)) ggX11_stripOf_X1_kind
set_option maxRecDepth 20000 in
theorem ggX11_stripOf_X2_kind : GoodIn wsX11_stripOf wsX2_kind := goodIn_r _ [30] (by decide +kernel) (by decide +kernel)
set_option maxRecDepth 20000 in
theorem gX11_stripOf_X2_kind_u186X2 : GoodIn wsX11_stripOf (va_wsO RX11 186 RX2 "FoldedInHalf$Strip" ⟨"FoldedInHalf$Strip", "kind", "()I"⟩ yX2_kind wsX2_kind) := goodIn_app (goodIn_of _ (by decide +kernel)) ggX11_stripOf_X2_kind
set_option maxRecDepth 20000 in
theorem ggX11_stripOf_X4_kind : GoodIn wsX11_stripOf wsX4_kind := goodIn_r _ [34] (by decide +kernel) (by decide +kernel)
set_option maxRecDepth 20000 in
theorem gX11_stripOf_X4_kind_u186X4 : GoodIn wsX11_stripOf (va_wsO RX11 186 RX4 "FoldedInHalf$Strip" ⟨"FoldedInHalf$Strip", "kind", "()I"⟩ yX4_kind wsX4_kind) := goodIn_app (goodIn_of _ (by decide +kernel)) ggX11_stripOf_X4_kind
set_option maxRecDepth 20000 in
theorem ggX11_stripOf_X6_kind : GoodIn wsX11_stripOf wsX6_kind := goodIn_r _ [38] (by decide +kernel) (by decide +kernel)
set_option maxRecDepth 20000 in
theorem gX11_stripOf_X6_kind_u186X6 : GoodIn wsX11_stripOf (va_wsO RX11 186 RX6 "FoldedInHalf$Strip" ⟨"FoldedInHalf$Strip", "kind", "()I"⟩ yX6_kind wsX6_kind) := goodIn_app (goodIn_of _ (by decide +kernel)) ggX11_stripOf_X6_kind
set_option maxRecDepth 20000 in
theorem ggX11_stripOf_X8_kind : GoodIn wsX11_stripOf wsX8_kind := goodIn_r _ [22] (by decide +kernel) (by decide +kernel)
set_option maxRecDepth 20000 in
theorem gX11_stripOf_X8_kind : GoodIn wsX11_stripOf (wsV RX11 186 RX8 yX8_kind wsX8_kind) := goodIn_app (goodIn_of _ (by decide +kernel)) ggX11_stripOf_X8_kind
set_option maxRecDepth 20000 in
theorem ggX11_stripOf_X9_kind : GoodIn wsX11_stripOf wsX9_kind := goodIn_r _ [46] (by decide +kernel) (by decide +kernel)
set_option maxRecDepth 20000 in
theorem gX11_stripOf_X9_kind_u186X9 : GoodIn wsX11_stripOf (va_wsO RX11 186 RX9 "FoldedInHalf$Strip" ⟨"FoldedInHalf$Strip", "kind", "()I"⟩ yX9_kind wsX9_kind) := goodIn_app (goodIn_of _ (by decide +kernel)) ggX11_stripOf_X9_kind
set_option maxRecDepth 20000 in
theorem ggX11_stripOf_X8_hasLevel : GoodIn wsX11_stripOf wsX8_hasLevel := goodIn_r _ [51, 52, 73, 74, 75, 76, 77, 78, 79, 80, 81, 82, 83, 84, 85, 86, 87, 88, 89, 90, 91, 92, 93, 94, 95, 96, 97, 98, 99, 100] (by decide +kernel) (by decide +kernel)
set_option maxRecDepth 20000 in
theorem gX11_stripOf_X8_hasLevel_u193X0 : GoodIn wsX11_stripOf (va_wsU RX11 193 RX0 "FoldedInHalf$Strip" ⟨"FoldedInHalf$Strip", "hasLevel", "(I)Z"⟩ yX8_hasLevel wsX8_hasLevel) := goodIn_app (goodIn_of _ (by decide +kernel)) ggX11_stripOf_X8_hasLevel
set_option maxRecDepth 20000 in
theorem gX11_stripOf_X8_hasLevel_u193X1 : GoodIn wsX11_stripOf (va_wsU RX11 193 RX1 "FoldedInHalf$Strip" ⟨"FoldedInHalf$Strip", "hasLevel", "(I)Z"⟩ yX8_hasLevel wsX8_hasLevel) := goodIn_app (goodIn_of _ (by decide +kernel)) ggX11_stripOf_X8_hasLevel
set_option maxRecDepth 20000 in
theorem gX11_stripOf_X8_hasLevel_u193X2 : GoodIn wsX11_stripOf (va_wsU RX11 193 RX2 "FoldedInHalf$Strip" ⟨"FoldedInHalf$Strip", "hasLevel", "(I)Z"⟩ yX8_hasLevel wsX8_hasLevel) := goodIn_app (goodIn_of _ (by decide +kernel)) ggX11_stripOf_X8_hasLevel
set_option maxRecDepth 20000 in
theorem gX11_stripOf_X8_hasLevel_u193X4 : GoodIn wsX11_stripOf (va_wsU RX11 193 RX4 "FoldedInHalf$Strip" ⟨"FoldedInHalf$Strip", "hasLevel", "(I)Z"⟩ yX8_hasLevel wsX8_hasLevel) := goodIn_app (goodIn_of _ (by decide +kernel)) ggX11_stripOf_X8_hasLevel
set_option maxRecDepth 20000 in
theorem gX11_stripOf_X8_hasLevel_u193X6 : GoodIn wsX11_stripOf (va_wsU RX11 193 RX6 "FoldedInHalf$Strip" ⟨"FoldedInHalf$Strip", "hasLevel", "(I)Z"⟩ yX8_hasLevel wsX8_hasLevel) := goodIn_app (goodIn_of _ (by decide +kernel)) ggX11_stripOf_X8_hasLevel
set_option maxRecDepth 20000 in
theorem gX11_stripOf_X8_hasLevel : GoodIn wsX11_stripOf (wsV RX11 193 RX8 yX8_hasLevel wsX8_hasLevel) := goodIn_app (goodIn_of _ (by decide +kernel)) ggX11_stripOf_X8_hasLevel
set_option maxRecDepth 20000 in
theorem gX11_stripOf_X8_hasLevel_u193X9 : GoodIn wsX11_stripOf (va_wsU RX11 193 RX9 "FoldedInHalf$Strip" ⟨"FoldedInHalf$Strip", "hasLevel", "(I)Z"⟩ yX8_hasLevel wsX8_hasLevel) := goodIn_app (goodIn_of _ (by decide +kernel)) ggX11_stripOf_X8_hasLevel
set_option maxRecDepth 20000 in
theorem ggX11_stripOf_X8_letter : GoodIn wsX11_stripOf wsX8_letter := goodIn_r _ [64, 65, 73, 74, 75, 76, 77, 78, 79, 80, 81, 82, 83, 84, 85, 86, 87, 88, 89, 90, 91, 92, 93, 94, 95, 96, 97, 98, 99, 100] (by decide +kernel) (by decide +kernel)
set_option maxRecDepth 20000 in
theorem gX11_stripOf_X8_letter_u196X0 : GoodIn wsX11_stripOf (va_wsU RX11 196 RX0 "FoldedInHalf$Strip" ⟨"FoldedInHalf$Strip", "letter", "(I)I"⟩ yX8_letter wsX8_letter) := goodIn_app (goodIn_of _ (by decide +kernel)) ggX11_stripOf_X8_letter
set_option maxRecDepth 20000 in
theorem gX11_stripOf_X8_letter_u196X1 : GoodIn wsX11_stripOf (va_wsU RX11 196 RX1 "FoldedInHalf$Strip" ⟨"FoldedInHalf$Strip", "letter", "(I)I"⟩ yX8_letter wsX8_letter) := goodIn_app (goodIn_of _ (by decide +kernel)) ggX11_stripOf_X8_letter
set_option maxRecDepth 20000 in
theorem gX11_stripOf_X8_letter_u196X2 : GoodIn wsX11_stripOf (va_wsU RX11 196 RX2 "FoldedInHalf$Strip" ⟨"FoldedInHalf$Strip", "letter", "(I)I"⟩ yX8_letter wsX8_letter) := goodIn_app (goodIn_of _ (by decide +kernel)) ggX11_stripOf_X8_letter
set_option maxRecDepth 20000 in
theorem gX11_stripOf_X8_letter_u196X4 : GoodIn wsX11_stripOf (va_wsU RX11 196 RX4 "FoldedInHalf$Strip" ⟨"FoldedInHalf$Strip", "letter", "(I)I"⟩ yX8_letter wsX8_letter) := goodIn_app (goodIn_of _ (by decide +kernel)) ggX11_stripOf_X8_letter
set_option maxRecDepth 20000 in
theorem gX11_stripOf_X8_letter_u196X6 : GoodIn wsX11_stripOf (va_wsU RX11 196 RX6 "FoldedInHalf$Strip" ⟨"FoldedInHalf$Strip", "letter", "(I)I"⟩ yX8_letter wsX8_letter) := goodIn_app (goodIn_of _ (by decide +kernel)) ggX11_stripOf_X8_letter
set_option maxRecDepth 20000 in
theorem gX11_stripOf_X8_letter : GoodIn wsX11_stripOf (wsV RX11 196 RX8 yX8_letter wsX8_letter) := goodIn_app (goodIn_of _ (by decide +kernel)) ggX11_stripOf_X8_letter
set_option maxRecDepth 20000 in
theorem gX11_stripOf_X8_letter_u196X9 : GoodIn wsX11_stripOf (va_wsU RX11 196 RX9 "FoldedInHalf$Strip" ⟨"FoldedInHalf$Strip", "letter", "(I)I"⟩ yX8_letter wsX8_letter) := goodIn_app (goodIn_of _ (by decide +kernel)) ggX11_stripOf_X8_letter
theorem dX11_stripOf_0 : decode cX11_stripOf 0 = .ok (.aload_n 0, 1) := by decide +kernel
theorem dX11_stripOf_1 : decode cX11_stripOf 1 = .ok (.iload_n 1, 1) := by decide +kernel
theorem dX11_stripOf_2 : decode cX11_stripOf 2 = .ok (.invokevirtual 137, 3) := by decide +kernel
theorem dX11_stripOf_5 : decode cX11_stripOf 5 = .ok (.astore_n 3, 1) := by decide +kernel
theorem dX11_stripOf_6 : decode cX11_stripOf 6 = .ok (.aload_n 3, 1) := by decide +kernel
theorem dX11_stripOf_7 : decode cX11_stripOf 7 = .ok (.ifnonnull 10, 3) := by decide +kernel
theorem dX11_stripOf_10 : decode cX11_stripOf 10 = .ok (.aload_n 0, 1) := by decide +kernel
theorem dX11_stripOf_11 : decode cX11_stripOf 11 = .ok (.bipush (-5), 2) := by decide +kernel
theorem dX11_stripOf_13 : decode cX11_stripOf 13 = .ok (.invokevirtual 65, 3) := by decide +kernel
theorem dX11_stripOf_16 : decode cX11_stripOf 16 = .ok (.ireturn, 1) := by decide +kernel
theorem dX11_stripOf_17 : decode cX11_stripOf 17 = .ok (.iload_n 2, 1) := by decide +kernel
theorem dX11_stripOf_18 : decode cX11_stripOf 18 = .ok (.tableswitch 41 0 2 #[26, 31, 36], 26) := by decide +kernel
theorem dX11_stripOf_44 : decode cX11_stripOf 44 = .ok (.aload_n 3, 1) := by decide +kernel
theorem dX11_stripOf_45 : decode cX11_stripOf 45 = .ok (.invokevirtual 186, 3) := by decide +kernel
theorem dX11_stripOf_48 : decode cX11_stripOf 48 = .ok (.ireturn, 1) := by decide +kernel
theorem dX11_stripOf_49 : decode cX11_stripOf 49 = .ok (.aload_n 3, 1) := by decide +kernel
theorem dX11_stripOf_50 : decode cX11_stripOf 50 = .ok (.getfield 190, 3) := by decide +kernel
theorem dX11_stripOf_53 : decode cX11_stripOf 53 = .ok (.ireturn, 1) := by decide +kernel
theorem dX11_stripOf_54 : decode cX11_stripOf 54 = .ok (.aload_n 3, 1) := by decide +kernel
theorem dX11_stripOf_55 : decode cX11_stripOf 55 = .ok (.getfield 164, 3) := by decide +kernel
theorem dX11_stripOf_58 : decode cX11_stripOf 58 = .ok (.ireturn, 1) := by decide +kernel
theorem dX11_stripOf_59 : decode cX11_stripOf 59 = .ok (.iload_n 2, 1) := by decide +kernel
theorem dX11_stripOf_60 : decode cX11_stripOf 60 = .ok (.bipush 10, 2) := by decide +kernel
theorem dX11_stripOf_62 : decode cX11_stripOf 62 = .ok (.if_icmp .ge 7, 3) := by decide +kernel
theorem dX11_stripOf_65 : decode cX11_stripOf 65 = .ok (.iconst (-1), 1) := by decide +kernel
theorem dX11_stripOf_66 : decode cX11_stripOf 66 = .ok (.goto 7, 3) := by decide +kernel
theorem dX11_stripOf_69 : decode cX11_stripOf 69 = .ok (.iload_n 2, 1) := by decide +kernel
theorem dX11_stripOf_70 : decode cX11_stripOf 70 = .ok (.bipush 10, 2) := by decide +kernel
theorem dX11_stripOf_72 : decode cX11_stripOf 72 = .ok (.isub, 1) := by decide +kernel
theorem dX11_stripOf_73 : decode cX11_stripOf 73 = .ok (.istore 4, 2) := by decide +kernel
theorem dX11_stripOf_75 : decode cX11_stripOf 75 = .ok (.aload_n 3, 1) := by decide +kernel
theorem dX11_stripOf_76 : decode cX11_stripOf 76 = .ok (.iload 4, 2) := by decide +kernel
theorem dX11_stripOf_78 : decode cX11_stripOf 78 = .ok (.invokevirtual 193, 3) := by decide +kernel
theorem dX11_stripOf_81 : decode cX11_stripOf 81 = .ok (.ifCond .eq 12, 3) := by decide +kernel
theorem dX11_stripOf_84 : decode cX11_stripOf 84 = .ok (.aload_n 3, 1) := by decide +kernel
theorem dX11_stripOf_85 : decode cX11_stripOf 85 = .ok (.iload 4, 2) := by decide +kernel
theorem dX11_stripOf_87 : decode cX11_stripOf 87 = .ok (.invokevirtual 196, 3) := by decide +kernel
theorem dX11_stripOf_90 : decode cX11_stripOf 90 = .ok (.goto 9, 3) := by decide +kernel
theorem dX11_stripOf_93 : decode cX11_stripOf 93 = .ok (.aload_n 0, 1) := by decide +kernel
theorem dX11_stripOf_94 : decode cX11_stripOf 94 = .ok (.bipush (-5), 2) := by decide +kernel
theorem dX11_stripOf_96 : decode cX11_stripOf 96 = .ok (.invokevirtual 65, 3) := by decide +kernel
theorem dX11_stripOf_99 : decode cX11_stripOf 99 = .ok (.ireturn, 1) := by decide +kernel
set_option maxRecDepth 20000 in
theorem ggX11_turn_X11_stripAt : GoodIn wsX11_turn wsX11_stripAt := goodIn_r _ [7, 8, 9, 166, 167, 168, 169, 170, 171, 172, 173, 174, 175, 176, 177, 178] (by decide +kernel) (by decide +kernel)
set_option maxRecDepth 20000 in
theorem gX11_turn_X11_stripAt : GoodIn wsX11_turn (wsV RX11 137 RX11 yX11_stripAt wsX11_stripAt) := goodIn_app (goodIn_of _ (by decide +kernel)) ggX11_turn_X11_stripAt
set_option maxRecDepth 20000 in
theorem ggX11_turn_X11_refuse : GoodIn wsX11_turn wsX11_refuse := goodIn_r _ [13, 14, 166, 167, 168, 169, 170, 171, 172, 173, 174, 175, 176, 177, 178] (by decide +kernel) (by decide +kernel)
set_option maxRecDepth 20000 in
theorem gX11_turn_X11_refuse : GoodIn wsX11_turn (wsV RX11 65 RX11 yX11_refuse wsX11_refuse) := goodIn_app (goodIn_of _ (by decide +kernel)) ggX11_turn_X11_refuse
set_option maxRecDepth 20000 in
theorem ggX11_turn_X8_hasLevel : GoodIn wsX11_turn wsX8_hasLevel := goodIn_r _ [20, 21, 138, 139, 140, 141, 142, 143, 144, 145, 146, 147, 148, 149, 150, 151, 152, 153, 154, 155, 156, 157, 158, 159, 160, 161, 162, 163, 164, 165] (by decide +kernel) (by decide +kernel)
set_option maxRecDepth 20000 in
theorem gX11_turn_X8_hasLevel_u193X0 : GoodIn wsX11_turn (va_wsU RX11 193 RX0 "FoldedInHalf$Strip" ⟨"FoldedInHalf$Strip", "hasLevel", "(I)Z"⟩ yX8_hasLevel wsX8_hasLevel) := goodIn_app (goodIn_of _ (by decide +kernel)) ggX11_turn_X8_hasLevel
set_option maxRecDepth 20000 in
theorem gX11_turn_X8_hasLevel_u193X1 : GoodIn wsX11_turn (va_wsU RX11 193 RX1 "FoldedInHalf$Strip" ⟨"FoldedInHalf$Strip", "hasLevel", "(I)Z"⟩ yX8_hasLevel wsX8_hasLevel) := goodIn_app (goodIn_of _ (by decide +kernel)) ggX11_turn_X8_hasLevel
set_option maxRecDepth 20000 in
theorem gX11_turn_X8_hasLevel_u193X2 : GoodIn wsX11_turn (va_wsU RX11 193 RX2 "FoldedInHalf$Strip" ⟨"FoldedInHalf$Strip", "hasLevel", "(I)Z"⟩ yX8_hasLevel wsX8_hasLevel) := goodIn_app (goodIn_of _ (by decide +kernel)) ggX11_turn_X8_hasLevel
set_option maxRecDepth 20000 in
theorem gX11_turn_X8_hasLevel_u193X4 : GoodIn wsX11_turn (va_wsU RX11 193 RX4 "FoldedInHalf$Strip" ⟨"FoldedInHalf$Strip", "hasLevel", "(I)Z"⟩ yX8_hasLevel wsX8_hasLevel) := goodIn_app (goodIn_of _ (by decide +kernel)) ggX11_turn_X8_hasLevel
set_option maxRecDepth 20000 in
theorem gX11_turn_X8_hasLevel_u193X6 : GoodIn wsX11_turn (va_wsU RX11 193 RX6 "FoldedInHalf$Strip" ⟨"FoldedInHalf$Strip", "hasLevel", "(I)Z"⟩ yX8_hasLevel wsX8_hasLevel) := goodIn_app (goodIn_of _ (by decide +kernel)) ggX11_turn_X8_hasLevel
set_option maxRecDepth 20000 in
theorem gX11_turn_X8_hasLevel : GoodIn wsX11_turn (wsV RX11 193 RX8 yX8_hasLevel wsX8_hasLevel) := goodIn_app (goodIn_of _ (by decide +kernel)) ggX11_turn_X8_hasLevel
set_option maxRecDepth 20000 in
theorem gX11_turn_X8_hasLevel_u193X9 : GoodIn wsX11_turn (va_wsU RX11 193 RX9 "FoldedInHalf$Strip" ⟨"FoldedInHalf$Strip", "hasLevel", "(I)Z"⟩ yX8_hasLevel wsX8_hasLevel) := goodIn_app (goodIn_of _ (by decide +kernel)) ggX11_turn_X8_hasLevel
set_option maxRecDepth 20000 in
theorem ggX11_turn_X0_kind : GoodIn wsX11_turn wsX0_kind := goodIn_r _ [35] (by decide +kernel) (by decide +kernel)
set_option maxRecDepth 20000 in
theorem gX11_turn_X0_kind_u186X0 : GoodIn wsX11_turn (va_wsO RX11 186 RX0 "FoldedInHalf$Strip" ⟨"FoldedInHalf$Strip", "kind", "()I"⟩ yX0_kind wsX0_kind) := goodIn_app (goodIn_of _ (by decide +kernel)) ggX11_turn_X0_kind
set_option maxRecDepth 20000 in
theorem ggX11_turn_X1_kind : GoodIn wsX11_turn wsX1_kind := goodIn_r _ [40] (by decide +kernel) (by decide +kernel)
set_option maxRecDepth 20000 in
theorem gX11_turn_X1_kind_u186X1 : GoodIn wsX11_turn (va_wsO RX11 186 RX1 "FoldedInHalf$Strip" ⟨"FoldedInHalf$Strip", "kind", "()I"⟩ yX1_kind wsX1_kind) := goodIn_app (goodIn_of _ (by decide +kernel)) ggX11_turn_X1_kind
set_option maxRecDepth 20000 in
theorem ggX11_turn_X2_kind : GoodIn wsX11_turn wsX2_kind := goodIn_r _ [44] (by decide +kernel) (by decide +kernel)
set_option maxRecDepth 20000 in
theorem gX11_turn_X2_kind_u186X2 : GoodIn wsX11_turn (va_wsO RX11 186 RX2 "FoldedInHalf$Strip" ⟨"FoldedInHalf$Strip", "kind", "()I"⟩ yX2_kind wsX2_kind) := goodIn_app (goodIn_of _ (by decide +kernel)) ggX11_turn_X2_kind
set_option maxRecDepth 20000 in
theorem ggX11_turn_X4_kind : GoodIn wsX11_turn wsX4_kind := goodIn_r _ [48] (by decide +kernel) (by decide +kernel)
set_option maxRecDepth 20000 in
theorem gX11_turn_X4_kind_u186X4 : GoodIn wsX11_turn (va_wsO RX11 186 RX4 "FoldedInHalf$Strip" ⟨"FoldedInHalf$Strip", "kind", "()I"⟩ yX4_kind wsX4_kind) := goodIn_app (goodIn_of _ (by decide +kernel)) ggX11_turn_X4_kind
set_option maxRecDepth 20000 in
theorem ggX11_turn_X6_kind : GoodIn wsX11_turn wsX6_kind := goodIn_r _ [52] (by decide +kernel) (by decide +kernel)
set_option maxRecDepth 20000 in
theorem gX11_turn_X6_kind_u186X6 : GoodIn wsX11_turn (va_wsO RX11 186 RX6 "FoldedInHalf$Strip" ⟨"FoldedInHalf$Strip", "kind", "()I"⟩ yX6_kind wsX6_kind) := goodIn_app (goodIn_of _ (by decide +kernel)) ggX11_turn_X6_kind
set_option maxRecDepth 20000 in
theorem ggX11_turn_X8_kind : GoodIn wsX11_turn wsX8_kind := goodIn_r _ [36] (by decide +kernel) (by decide +kernel)
set_option maxRecDepth 20000 in
theorem gX11_turn_X8_kind : GoodIn wsX11_turn (wsV RX11 186 RX8 yX8_kind wsX8_kind) := goodIn_app (goodIn_of _ (by decide +kernel)) ggX11_turn_X8_kind
set_option maxRecDepth 20000 in
theorem ggX11_turn_X9_kind : GoodIn wsX11_turn wsX9_kind := goodIn_r _ [59] (by decide +kernel) (by decide +kernel)
set_option maxRecDepth 20000 in
theorem gX11_turn_X9_kind_u186X9 : GoodIn wsX11_turn (va_wsO RX11 186 RX9 "FoldedInHalf$Strip" ⟨"FoldedInHalf$Strip", "kind", "()I"⟩ yX9_kind wsX9_kind) := goodIn_app (goodIn_of _ (by decide +kernel)) ggX11_turn_X9_kind
set_option maxRecDepth 20000 in
theorem ggX11_turn_X8_turnedWord : GoodIn wsX11_turn wsX8_turnedWord := goodIn_r _ [64, 65, 138, 139, 140, 141, 142, 143, 144, 145, 146, 147, 148, 149, 150, 151, 152, 153, 154, 155, 156, 157, 158, 159, 160, 161, 162, 163, 164, 165] (by decide +kernel) (by decide +kernel)
set_option maxRecDepth 20000 in
theorem gX11_turn_X8_turnedWord_u199X0 : GoodIn wsX11_turn (va_wsU RX11 199 RX0 "FoldedInHalf$Strip" ⟨"FoldedInHalf$Strip", "turnedWord", "(I)J"⟩ yX8_turnedWord wsX8_turnedWord) := goodIn_app (goodIn_of _ (by decide +kernel)) ggX11_turn_X8_turnedWord
set_option maxRecDepth 20000 in
theorem gX11_turn_X8_turnedWord_u199X1 : GoodIn wsX11_turn (va_wsU RX11 199 RX1 "FoldedInHalf$Strip" ⟨"FoldedInHalf$Strip", "turnedWord", "(I)J"⟩ yX8_turnedWord wsX8_turnedWord) := goodIn_app (goodIn_of _ (by decide +kernel)) ggX11_turn_X8_turnedWord
set_option maxRecDepth 20000 in
theorem gX11_turn_X8_turnedWord_u199X2 : GoodIn wsX11_turn (va_wsU RX11 199 RX2 "FoldedInHalf$Strip" ⟨"FoldedInHalf$Strip", "turnedWord", "(I)J"⟩ yX8_turnedWord wsX8_turnedWord) := goodIn_app (goodIn_of _ (by decide +kernel)) ggX11_turn_X8_turnedWord
set_option maxRecDepth 20000 in
theorem gX11_turn_X8_turnedWord_u199X4 : GoodIn wsX11_turn (va_wsU RX11 199 RX4 "FoldedInHalf$Strip" ⟨"FoldedInHalf$Strip", "turnedWord", "(I)J"⟩ yX8_turnedWord wsX8_turnedWord) := goodIn_app (goodIn_of _ (by decide +kernel)) ggX11_turn_X8_turnedWord
set_option maxRecDepth 20000 in
theorem gX11_turn_X8_turnedWord_u199X6 : GoodIn wsX11_turn (va_wsU RX11 199 RX6 "FoldedInHalf$Strip" ⟨"FoldedInHalf$Strip", "turnedWord", "(I)J"⟩ yX8_turnedWord wsX8_turnedWord) := goodIn_app (goodIn_of _ (by decide +kernel)) ggX11_turn_X8_turnedWord
set_option maxRecDepth 20000 in
theorem gX11_turn_X8_turnedWord : GoodIn wsX11_turn (wsV RX11 199 RX8 yX8_turnedWord wsX8_turnedWord) := goodIn_app (goodIn_of _ (by decide +kernel)) ggX11_turn_X8_turnedWord
set_option maxRecDepth 20000 in
theorem gX11_turn_X8_turnedWord_u199X9 : GoodIn wsX11_turn (va_wsU RX11 199 RX9 "FoldedInHalf$Strip" ⟨"FoldedInHalf$Strip", "turnedWord", "(I)J"⟩ yX8_turnedWord wsX8_turnedWord) := goodIn_app (goodIn_of _ (by decide +kernel)) ggX11_turn_X8_turnedWord
set_option maxRecDepth 20000 in
theorem ggX11_turn_X11_make : GoodIn wsX11_turn wsX11_make := goodIn_r _ [75, 76, 77, 51, 78, 79, 58, 80, 81, 39, 82, 83, 34, 84, 85, 43, 86, 87, 47, 88, 89, 19, 90, 91, 92, 93, 94, 95, 96, 97, 98, 99, 100, 21, 65, 101, 102, 103, 104, 105, 106, 107, 108, 109, 110, 111, 112, 113, 114, 115, 116, 117, 118, 119, 120, 121, 154, 155, 156, 157, 162, 163, 164, 165, 142, 143, 144, 145, 138, 139, 140, 141, 146, 147, 148, 149, 150, 151, 152, 153, 158, 159, 160, 161] (by decide +kernel) (by decide +kernel)
set_option maxRecDepth 20000 in
theorem gX11_turn_X11_make : GoodIn wsX11_turn (va_wsS RX11 178 yX11_make wsX11_make) := goodIn_app (goodIn_of _ (by decide +kernel)) ggX11_turn_X11_make
set_option maxRecDepth 20000 in
theorem ggX11_turn_X11_putStrip : GoodIn wsX11_turn wsX11_putStrip := goodIn_r _ [125, 9, 166, 167, 168, 169, 170, 171, 172, 173, 174, 175, 176, 177, 178] (by decide +kernel) (by decide +kernel)
set_option maxRecDepth 20000 in
theorem gX11_turn_X11_putStrip : GoodIn wsX11_turn (wsV RX11 182 RX11 yX11_putStrip wsX11_putStrip) := goodIn_app (goodIn_of _ (by decide +kernel)) ggX11_turn_X11_putStrip
set_option maxRecDepth 20000 in
theorem ggX11_turn_X8_letter : GoodIn wsX11_turn wsX8_letter := goodIn_r _ [130, 65, 138, 139, 140, 141, 142, 143, 144, 145, 146, 147, 148, 149, 150, 151, 152, 153, 154, 155, 156, 157, 158, 159, 160, 161, 162, 163, 164, 165] (by decide +kernel) (by decide +kernel)
set_option maxRecDepth 20000 in
theorem gX11_turn_X8_letter_u196X0 : GoodIn wsX11_turn (va_wsU RX11 196 RX0 "FoldedInHalf$Strip" ⟨"FoldedInHalf$Strip", "letter", "(I)I"⟩ yX8_letter wsX8_letter) := goodIn_app (goodIn_of _ (by decide +kernel)) ggX11_turn_X8_letter
set_option maxRecDepth 20000 in
theorem gX11_turn_X8_letter_u196X1 : GoodIn wsX11_turn (va_wsU RX11 196 RX1 "FoldedInHalf$Strip" ⟨"FoldedInHalf$Strip", "letter", "(I)I"⟩ yX8_letter wsX8_letter) := goodIn_app (goodIn_of _ (by decide +kernel)) ggX11_turn_X8_letter
set_option maxRecDepth 20000 in
theorem gX11_turn_X8_letter_u196X2 : GoodIn wsX11_turn (va_wsU RX11 196 RX2 "FoldedInHalf$Strip" ⟨"FoldedInHalf$Strip", "letter", "(I)I"⟩ yX8_letter wsX8_letter) := goodIn_app (goodIn_of _ (by decide +kernel)) ggX11_turn_X8_letter
set_option maxRecDepth 20000 in
theorem gX11_turn_X8_letter_u196X4 : GoodIn wsX11_turn (va_wsU RX11 196 RX4 "FoldedInHalf$Strip" ⟨"FoldedInHalf$Strip", "letter", "(I)I"⟩ yX8_letter wsX8_letter) := goodIn_app (goodIn_of _ (by decide +kernel)) ggX11_turn_X8_letter
set_option maxRecDepth 20000 in
theorem gX11_turn_X8_letter_u196X6 : GoodIn wsX11_turn (va_wsU RX11 196 RX6 "FoldedInHalf$Strip" ⟨"FoldedInHalf$Strip", "letter", "(I)I"⟩ yX8_letter wsX8_letter) := goodIn_app (goodIn_of _ (by decide +kernel)) ggX11_turn_X8_letter
set_option maxRecDepth 20000 in
theorem gX11_turn_X8_letter : GoodIn wsX11_turn (wsV RX11 196 RX8 yX8_letter wsX8_letter) := goodIn_app (goodIn_of _ (by decide +kernel)) ggX11_turn_X8_letter
set_option maxRecDepth 20000 in
theorem gX11_turn_X8_letter_u196X9 : GoodIn wsX11_turn (va_wsU RX11 196 RX9 "FoldedInHalf$Strip" ⟨"FoldedInHalf$Strip", "letter", "(I)I"⟩ yX8_letter wsX8_letter) := goodIn_app (goodIn_of _ (by decide +kernel)) ggX11_turn_X8_letter
theorem dX11_turn_0 : decode cX11_turn 0 = .ok (.aload_n 0, 1) := by decide +kernel
theorem dX11_turn_1 : decode cX11_turn 1 = .ok (.iload_n 1, 1) := by decide +kernel
theorem dX11_turn_2 : decode cX11_turn 2 = .ok (.invokevirtual 137, 3) := by decide +kernel
theorem dX11_turn_5 : decode cX11_turn 5 = .ok (.astore_n 3, 1) := by decide +kernel
theorem dX11_turn_6 : decode cX11_turn 6 = .ok (.aload_n 3, 1) := by decide +kernel
theorem dX11_turn_7 : decode cX11_turn 7 = .ok (.ifnonnull 9, 3) := by decide +kernel
theorem dX11_turn_10 : decode cX11_turn 10 = .ok (.aload_n 0, 1) := by decide +kernel
theorem dX11_turn_11 : decode cX11_turn 11 = .ok (.iconst (-1), 1) := by decide +kernel
theorem dX11_turn_12 : decode cX11_turn 12 = .ok (.invokevirtual 65, 3) := by decide +kernel
theorem dX11_turn_15 : decode cX11_turn 15 = .ok (.ireturn, 1) := by decide +kernel
theorem dX11_turn_16 : decode cX11_turn 16 = .ok (.aload_n 3, 1) := by decide +kernel
theorem dX11_turn_17 : decode cX11_turn 17 = .ok (.iload_n 2, 1) := by decide +kernel
theorem dX11_turn_18 : decode cX11_turn 18 = .ok (.invokevirtual 193, 3) := by decide +kernel
theorem dX11_turn_21 : decode cX11_turn 21 = .ok (.ifCond .ne 10, 3) := by decide +kernel
theorem dX11_turn_24 : decode cX11_turn 24 = .ok (.aload_n 0, 1) := by decide +kernel
theorem dX11_turn_25 : decode cX11_turn 25 = .ok (.bipush (-5), 2) := by decide +kernel
theorem dX11_turn_27 : decode cX11_turn 27 = .ok (.invokevirtual 65, 3) := by decide +kernel
theorem dX11_turn_30 : decode cX11_turn 30 = .ok (.ireturn, 1) := by decide +kernel
theorem dX11_turn_31 : decode cX11_turn 31 = .ok (.aload_n 0, 1) := by decide +kernel
theorem dX11_turn_32 : decode cX11_turn 32 = .ok (.iload_n 1, 1) := by decide +kernel
theorem dX11_turn_33 : decode cX11_turn 33 = .ok (.aload_n 3, 1) := by decide +kernel
theorem dX11_turn_34 : decode cX11_turn 34 = .ok (.invokevirtual 186, 3) := by decide +kernel
theorem dX11_turn_37 : decode cX11_turn 37 = .ok (.iload_n 1, 1) := by decide +kernel
theorem dX11_turn_38 : decode cX11_turn 38 = .ok (.aload_n 3, 1) := by decide +kernel
theorem dX11_turn_39 : decode cX11_turn 39 = .ok (.getfield 190, 3) := by decide +kernel
theorem dX11_turn_42 : decode cX11_turn 42 = .ok (.aload_n 3, 1) := by decide +kernel
theorem dX11_turn_43 : decode cX11_turn 43 = .ok (.getfield 164, 3) := by decide +kernel
theorem dX11_turn_46 : decode cX11_turn 46 = .ok (.aload_n 3, 1) := by decide +kernel
theorem dX11_turn_47 : decode cX11_turn 47 = .ok (.iload_n 2, 1) := by decide +kernel
theorem dX11_turn_48 : decode cX11_turn 48 = .ok (.invokevirtual 199, 3) := by decide +kernel
theorem dX11_turn_51 : decode cX11_turn 51 = .ok (.invokestatic 178, 3) := by decide +kernel
theorem dX11_turn_54 : decode cX11_turn 54 = .ok (.invokevirtual 182, 3) := by decide +kernel
theorem dX11_turn_57 : decode cX11_turn 57 = .ok (.aload_n 3, 1) := by decide +kernel
theorem dX11_turn_58 : decode cX11_turn 58 = .ok (.iload_n 2, 1) := by decide +kernel
theorem dX11_turn_59 : decode cX11_turn 59 = .ok (.invokevirtual 196, 3) := by decide +kernel
theorem dX11_turn_62 : decode cX11_turn 62 = .ok (.ireturn, 1) := by decide +kernel
set_option maxRecDepth 20000 in
theorem ggX11_read_X11_shelfAt : GoodIn wsX11_read wsX11_shelfAt := goodIn_r _ [8, 9, 253, 254, 255, 256, 257, 258, 259, 260, 261, 262, 263, 264, 265] (by decide +kernel) (by decide +kernel)
set_option maxRecDepth 20000 in
theorem gX11_read_X11_shelfAt : GoodIn wsX11_read (wsV RX11 107 RX11 yX11_shelfAt wsX11_shelfAt) := goodIn_app (goodIn_of _ (by decide +kernel)) ggX11_read_X11_shelfAt
set_option maxRecDepth 20000 in
theorem ggX11_read_X11_rowTrouble : GoodIn wsX11_read wsX11_rowTrouble := goodIn_r _ [12, 273, 274, 275, 276] (by decide +kernel) (by decide +kernel)
set_option maxRecDepth 20000 in
theorem gX11_read_X11_rowTrouble : GoodIn wsX11_read (va_wsS RX11 75 yX11_rowTrouble wsX11_rowTrouble) := goodIn_app (goodIn_of _ (by decide +kernel)) ggX11_read_X11_rowTrouble
set_option maxRecDepth 20000 in
theorem ggX11_read_X11_refuse : GoodIn wsX11_read wsX11_refuse := goodIn_r _ [16, 17, 253, 254, 255, 256, 257, 258, 259, 260, 261, 262, 263, 264, 265] (by decide +kernel) (by decide +kernel)
set_option maxRecDepth 20000 in
theorem gX11_read_X11_refuse : GoodIn wsX11_read (wsV RX11 65 RX11 yX11_refuse wsX11_refuse) := goodIn_app (goodIn_of _ (by decide +kernel)) ggX11_read_X11_refuse
set_option maxRecDepth 20000 in
theorem ggX11_read_X11_copyStrips : GoodIn wsX11_read wsX11_copyStrips := goodIn_r _ [20] (by decide +kernel) (by decide +kernel)
set_option maxRecDepth 20000 in
theorem gX11_read_X11_copyStrips : GoodIn wsX11_read (va_wsS RX11 205 yX11_copyStrips wsX11_copyStrips) := goodIn_app (goodIn_of _ (by decide +kernel)) ggX11_read_X11_copyStrips
set_option maxRecDepth 20000 in
theorem ggX11_read_X5_tell : GoodIn wsX11_read wsX5_tell := goodIn_r _ [24, 25, 26, 27, 28, 29, 30, 31, 22, 32, 33, 34, 35, 36, 37, 38, 39, 40, 41, 42, 43, 44, 45, 46, 47, 48, 49, 50, 51, 52, 53, 54, 55, 56, 57, 58, 59, 60, 61, 62, 63, 64, 65, 66, 67, 68, 69, 70, 71, 72, 73, 74, 75, 76, 77, 78, 79, 80, 81, 82, 83, 84, 85, 86, 87, 88, 89, 90, 91, 92, 93, 94, 95, 96, 97, 98, 99, 100, 101, 102, 103, 104, 105, 106, 107, 108, 109, 110, 111, 112, 113, 114, 115, 116, 117, 118, 119, 120, 121, 122, 7, 123, 124, 125, 126, 127, 128, 129, 130, 131, 132, 133, 134, 135, 136, 137, 138, 139, 140, 141, 142, 143, 144, 145, 146, 147, 148, 149, 150, 151, 152, 153, 154, 155, 156, 157, 158, 159, 160, 161, 162, 163, 164, 165, 166, 167, 168, 169, 170, 171, 172, 173, 174, 175, 176, 177, 178, 179, 180, 181, 182, 183, 184, 185, 186, 187, 188, 189, 190, 191, 192, 193, 194, 195, 196, 197, 198, 199, 200, 201, 202, 203, 204, 205, 206, 207, 208, 209, 210, 211, 212, 213, 214, 215, 216, 217, 218, 219, 220, 221, 222, 223, 224, 225, 226, 227, 228, 229, 230, 231, 232, 233, 234, 235, 236, 237, 238, 239, 240, 241, 242, 243, 244, 245, 246, 247, 248, 249, 250, 251, 252, 266, 267, 268, 269, 270, 271, 272, 273, 274, 275, 276, 277, 278, 279, 280, 281, 282, 283, 284, 285, 286, 287, 288, 289, 290, 291, 292, 293, 294, 295, 296, 297, 298, 299, 300, 301, 302, 303, 304] (by decide +kernel) (by decide +kernel)
set_option maxRecDepth 20000 in
theorem gX11_read_X5_tell_n212 : GoodIn wsX11_read (wsX5_tell) := ggX11_read_X5_tell
theorem dX11_read_0 : decode cX11_read 0 = .ok (.aload_n 0, 1) := by decide +kernel
theorem dX11_read_1 : decode cX11_read 1 = .ok (.iload_n 1, 1) := by decide +kernel
theorem dX11_read_2 : decode cX11_read 2 = .ok (.invokevirtual 107, 3) := by decide +kernel
theorem dX11_read_5 : decode cX11_read 5 = .ok (.astore_n 2, 1) := by decide +kernel
theorem dX11_read_6 : decode cX11_read 6 = .ok (.aload_n 2, 1) := by decide +kernel
theorem dX11_read_7 : decode cX11_read 7 = .ok (.invokestatic 75, 3) := by decide +kernel
theorem dX11_read_10 : decode cX11_read 10 = .ok (.istore_n 3, 1) := by decide +kernel
theorem dX11_read_11 : decode cX11_read 11 = .ok (.iload_n 3, 1) := by decide +kernel
theorem dX11_read_12 : decode cX11_read 12 = .ok (.ifCond .ne 7, 3) := by decide +kernel
theorem dX11_read_15 : decode cX11_read 15 = .ok (.aload_n 2, 1) := by decide +kernel
theorem dX11_read_16 : decode cX11_read 16 = .ok (.ifnonnull 9, 3) := by decide +kernel
theorem dX11_read_19 : decode cX11_read 19 = .ok (.aload_n 0, 1) := by decide +kernel
theorem dX11_read_20 : decode cX11_read 20 = .ok (.iload_n 3, 1) := by decide +kernel
theorem dX11_read_21 : decode cX11_read 21 = .ok (.invokevirtual 65, 3) := by decide +kernel
theorem dX11_read_24 : decode cX11_read 24 = .ok (.ireturn, 1) := by decide +kernel
theorem dX11_read_25 : decode cX11_read 25 = .ok (.aload_n 0, 1) := by decide +kernel
theorem dX11_read_26 : decode cX11_read 26 = .ok (.getfield 17, 3) := by decide +kernel
theorem dX11_read_29 : decode cX11_read 29 = .ok (.aload_n 0, 1) := by decide +kernel
theorem dX11_read_30 : decode cX11_read 30 = .ok (.getfield 43, 3) := by decide +kernel
theorem dX11_read_33 : decode cX11_read 33 = .ok (.getfield 202, 3) := by decide +kernel
theorem dX11_read_36 : decode cX11_read 36 = .ok (.invokestatic 205, 3) := by decide +kernel
theorem dX11_read_39 : decode cX11_read 39 = .ok (.aload_n 0, 1) := by decide +kernel
theorem dX11_read_40 : decode cX11_read 40 = .ok (.getfield 43, 3) := by decide +kernel
theorem dX11_read_43 : decode cX11_read 43 = .ok (.aload_n 0, 1) := by decide +kernel
theorem dX11_read_44 : decode cX11_read 44 = .ok (.getfield 54, 3) := by decide +kernel
theorem dX11_read_47 : decode cX11_read 47 = .ok (.putfield 209, 3) := by decide +kernel
theorem dX11_read_50 : decode cX11_read 50 = .ok (.aload_n 0, 1) := by decide +kernel
theorem dX11_read_51 : decode cX11_read 51 = .ok (.getfield 43, 3) := by decide +kernel
theorem dX11_read_54 : decode cX11_read 54 = .ok (.aload_n 2, 1) := by decide +kernel
theorem dX11_read_55 : decode cX11_read 55 = .ok (.invokevirtual 212, 3) := by decide +kernel
theorem dX11_read_58 : decode cX11_read 58 = .ok (.aload_n 0, 1) := by decide +kernel
theorem dX11_read_59 : decode cX11_read 59 = .ok (.getfield 43, 3) := by decide +kernel
theorem dX11_read_62 : decode cX11_read 62 = .ok (.getfield 216, 3) := by decide +kernel
theorem dX11_read_65 : decode cX11_read 65 = .ok (.iconst (-1), 1) := by decide +kernel
theorem dX11_read_66 : decode cX11_read 66 = .ok (.if_icmp .eq 10, 3) := by decide +kernel
theorem dX11_read_69 : decode cX11_read 69 = .ok (.aload_n 0, 1) := by decide +kernel
theorem dX11_read_70 : decode cX11_read 70 = .ok (.bipush (-6), 2) := by decide +kernel
theorem dX11_read_72 : decode cX11_read 72 = .ok (.invokevirtual 65, 3) := by decide +kernel
theorem dX11_read_75 : decode cX11_read 75 = .ok (.ireturn, 1) := by decide +kernel
theorem dX11_read_76 : decode cX11_read 76 = .ok (.aload_n 0, 1) := by decide +kernel
theorem dX11_read_77 : decode cX11_read 77 = .ok (.getfield 43, 3) := by decide +kernel
theorem dX11_read_80 : decode cX11_read 80 = .ok (.getfield 202, 3) := by decide +kernel
theorem dX11_read_83 : decode cX11_read 83 = .ok (.aload_n 0, 1) := by decide +kernel
theorem dX11_read_84 : decode cX11_read 84 = .ok (.getfield 17, 3) := by decide +kernel
theorem dX11_read_87 : decode cX11_read 87 = .ok (.invokestatic 205, 3) := by decide +kernel
theorem dX11_read_90 : decode cX11_read 90 = .ok (.aload_n 0, 1) := by decide +kernel
theorem dX11_read_91 : decode cX11_read 91 = .ok (.aload_n 0, 1) := by decide +kernel
theorem dX11_read_92 : decode cX11_read 92 = .ok (.getfield 43, 3) := by decide +kernel
theorem dX11_read_95 : decode cX11_read 95 = .ok (.getfield 209, 3) := by decide +kernel
theorem dX11_read_98 : decode cX11_read 98 = .ok (.putfield 54, 3) := by decide +kernel
theorem dX11_read_101 : decode cX11_read 101 = .ok (.aload_n 0, 1) := by decide +kernel
theorem dX11_read_102 : decode cX11_read 102 = .ok (.getfield 43, 3) := by decide +kernel
theorem dX11_read_105 : decode cX11_read 105 = .ok (.getfield 219, 3) := by decide +kernel
theorem dX11_read_108 : decode cX11_read 108 = .ok (.ireturn, 1) := by decide +kernel
theorem dX11_fault_0 : decode cX11_fault 0 = .ok (.aload_n 0, 1) := by decide +kernel
theorem dX11_fault_1 : decode cX11_fault 1 = .ok (.getfield 43, 3) := by decide +kernel
theorem dX11_fault_4 : decode cX11_fault 4 = .ok (.getfield 216, 3) := by decide +kernel
theorem dX11_fault_7 : decode cX11_fault 7 = .ok (.ireturn, 1) := by decide +kernel
set_option maxRecDepth 20000 in
theorem ggX11_drop_X11_refuse : GoodIn wsX11_drop wsX11_refuse := goodIn_r _ [6, 7, 29, 30, 31, 32, 33, 34, 35, 36, 37, 38, 39, 40, 41] (by decide +kernel) (by decide +kernel)
set_option maxRecDepth 20000 in
theorem gX11_drop_X11_refuse : GoodIn wsX11_drop (wsV RX11 65 RX11 yX11_refuse wsX11_refuse) := goodIn_app (goodIn_of _ (by decide +kernel)) ggX11_drop_X11_refuse
set_option maxRecDepth 20000 in
theorem ggX11_drop_X11_putStrip : GoodIn wsX11_drop wsX11_putStrip := goodIn_r _ [11, 12, 29, 30, 31, 32, 33, 34, 35, 36, 37, 38, 39, 40, 41] (by decide +kernel) (by decide +kernel)
set_option maxRecDepth 20000 in
theorem gX11_drop_X11_putStrip : GoodIn wsX11_drop (wsV RX11 182 RX11 yX11_putStrip wsX11_putStrip) := goodIn_app (goodIn_of _ (by decide +kernel)) ggX11_drop_X11_putStrip
set_option maxRecDepth 20000 in
theorem ggX11_drop_X11_clearShelvesOfNobody : GoodIn wsX11_drop wsX11_clearShelvesOfNobody := goodIn_r _ [16, 1, 17, 18, 19, 5, 20, 21, 22, 23, 24, 25, 26, 27, 28, 42, 43, 44, 45, 29, 30, 31, 32, 33, 34, 35, 36, 37, 38, 39, 40, 41] (by decide +kernel) (by decide +kernel)
set_option maxRecDepth 20000 in
theorem gX11_drop_X11_clearShelvesOfNobody : GoodIn wsX11_drop (wsV RX11 222 RX11 yX11_clearShelvesOfNobody wsX11_clearShelvesOfNobody) := goodIn_app (goodIn_of _ (by decide +kernel)) ggX11_drop_X11_clearShelvesOfNobody
theorem dX11_drop_0 : decode cX11_drop 0 = .ok (.aload_n 0, 1) := by decide +kernel
theorem dX11_drop_1 : decode cX11_drop 1 = .ok (.getfield 54, 3) := by decide +kernel
theorem dX11_drop_4 : decode cX11_drop 4 = .ok (.ifCond .ne 10, 3) := by decide +kernel
theorem dX11_drop_7 : decode cX11_drop 7 = .ok (.aload_n 0, 1) := by decide +kernel
theorem dX11_drop_8 : decode cX11_drop 8 = .ok (.bipush (-6), 2) := by decide +kernel
theorem dX11_drop_10 : decode cX11_drop 10 = .ok (.invokevirtual 65, 3) := by decide +kernel
theorem dX11_drop_13 : decode cX11_drop 13 = .ok (.ireturn, 1) := by decide +kernel
theorem dX11_drop_14 : decode cX11_drop 14 = .ok (.aload_n 0, 1) := by decide +kernel
theorem dX11_drop_15 : decode cX11_drop 15 = .ok (.dup, 1) := by decide +kernel
theorem dX11_drop_16 : decode cX11_drop 16 = .ok (.getfield 54, 3) := by decide +kernel
theorem dX11_drop_19 : decode cX11_drop 19 = .ok (.iconst 1, 1) := by decide +kernel
theorem dX11_drop_20 : decode cX11_drop 20 = .ok (.isub, 1) := by decide +kernel
theorem dX11_drop_21 : decode cX11_drop 21 = .ok (.putfield 54, 3) := by decide +kernel
theorem dX11_drop_24 : decode cX11_drop 24 = .ok (.aload_n 0, 1) := by decide +kernel
theorem dX11_drop_25 : decode cX11_drop 25 = .ok (.aload_n 0, 1) := by decide +kernel
theorem dX11_drop_26 : decode cX11_drop 26 = .ok (.getfield 54, 3) := by decide +kernel
theorem dX11_drop_29 : decode cX11_drop 29 = .ok (.aconst_null, 1) := by decide +kernel
theorem dX11_drop_30 : decode cX11_drop 30 = .ok (.invokevirtual 182, 3) := by decide +kernel
theorem dX11_drop_33 : decode cX11_drop 33 = .ok (.aload_n 0, 1) := by decide +kernel
theorem dX11_drop_34 : decode cX11_drop 34 = .ok (.invokevirtual 222, 3) := by decide +kernel
theorem dX11_drop_37 : decode cX11_drop 37 = .ok (.aload_n 0, 1) := by decide +kernel
theorem dX11_drop_38 : decode cX11_drop 38 = .ok (.getfield 54, 3) := by decide +kernel
theorem dX11_drop_41 : decode cX11_drop 41 = .ok (.ireturn, 1) := by decide +kernel
set_option maxRecDepth 20000 in
theorem ggX11_image_X11_copyStrips : GoodIn wsX11_image wsX11_copyStrips := goodIn_r _ [8] (by decide +kernel) (by decide +kernel)
set_option maxRecDepth 20000 in
theorem gX11_image_X11_copyStrips : GoodIn wsX11_image (va_wsS RX11 205 yX11_copyStrips wsX11_copyStrips) := goodIn_app (goodIn_of _ (by decide +kernel)) ggX11_image_X11_copyStrips
theorem dX11_image_0 : decode cX11_image 0 = .ok (.aload_n 0, 1) := by decide +kernel
theorem dX11_image_1 : decode cX11_image 1 = .ok (.getfield 17, 3) := by decide +kernel
theorem dX11_image_4 : decode cX11_image 4 = .ok (.aload_n 0, 1) := by decide +kernel
theorem dX11_image_5 : decode cX11_image 5 = .ok (.getfield 21, 3) := by decide +kernel
theorem dX11_image_8 : decode cX11_image 8 = .ok (.invokestatic 205, 3) := by decide +kernel
theorem dX11_image_11 : decode cX11_image 11 = .ok (.aload_n 0, 1) := by decide +kernel
theorem dX11_image_12 : decode cX11_image 12 = .ok (.aload_n 0, 1) := by decide +kernel
theorem dX11_image_13 : decode cX11_image 13 = .ok (.getfield 54, 3) := by decide +kernel
theorem dX11_image_16 : decode cX11_image 16 = .ok (.putfield 58, 3) := by decide +kernel
theorem dX11_image_19 : decode cX11_image 19 = .ok (.aload_n 0, 1) := by decide +kernel
theorem dX11_image_20 : decode cX11_image 20 = .ok (.getfield 54, 3) := by decide +kernel
theorem dX11_image_23 : decode cX11_image 23 = .ok (.ireturn, 1) := by decide +kernel
set_option maxRecDepth 20000 in
theorem ggX11_restore_X11_refuse : GoodIn wsX11_restore wsX11_refuse := goodIn_r _ [9, 10, 30, 31, 32, 33, 34, 35, 36, 37, 38, 39, 40, 41, 42] (by decide +kernel) (by decide +kernel)
set_option maxRecDepth 20000 in
theorem gX11_restore_X11_refuse : GoodIn wsX11_restore (wsV RX11 65 RX11 yX11_refuse wsX11_refuse) := goodIn_app (goodIn_of _ (by decide +kernel)) ggX11_restore_X11_refuse
set_option maxRecDepth 20000 in
theorem ggX11_restore_X11_copyStrips : GoodIn wsX11_restore wsX11_copyStrips := goodIn_r _ [13] (by decide +kernel) (by decide +kernel)
set_option maxRecDepth 20000 in
theorem gX11_restore_X11_copyStrips : GoodIn wsX11_restore (va_wsS RX11 205 yX11_copyStrips wsX11_copyStrips) := goodIn_app (goodIn_of _ (by decide +kernel)) ggX11_restore_X11_copyStrips
set_option maxRecDepth 20000 in
theorem ggX11_restore_X11_clearShelvesOfNobody : GoodIn wsX11_restore wsX11_clearShelvesOfNobody := goodIn_r _ [17, 4, 18, 19, 20, 8, 21, 22, 23, 24, 25, 26, 27, 28, 29, 43, 44, 45, 46, 30, 31, 32, 33, 34, 35, 36, 37, 38, 39, 40, 41, 42] (by decide +kernel) (by decide +kernel)
set_option maxRecDepth 20000 in
theorem gX11_restore_X11_clearShelvesOfNobody : GoodIn wsX11_restore (wsV RX11 222 RX11 yX11_clearShelvesOfNobody wsX11_clearShelvesOfNobody) := goodIn_app (goodIn_of _ (by decide +kernel)) ggX11_restore_X11_clearShelvesOfNobody
theorem dX11_restore_0 : decode cX11_restore 0 = .ok (.aload_n 0, 1) := by decide +kernel
theorem dX11_restore_1 : decode cX11_restore 1 = .ok (.getfield 58, 3) := by decide +kernel
theorem dX11_restore_4 : decode cX11_restore 4 = .ok (.iconst (-1), 1) := by decide +kernel
theorem dX11_restore_5 : decode cX11_restore 5 = .ok (.if_icmp .ne 10, 3) := by decide +kernel
theorem dX11_restore_8 : decode cX11_restore 8 = .ok (.aload_n 0, 1) := by decide +kernel
theorem dX11_restore_9 : decode cX11_restore 9 = .ok (.bipush (-6), 2) := by decide +kernel
theorem dX11_restore_11 : decode cX11_restore 11 = .ok (.invokevirtual 65, 3) := by decide +kernel
theorem dX11_restore_14 : decode cX11_restore 14 = .ok (.ireturn, 1) := by decide +kernel
theorem dX11_restore_15 : decode cX11_restore 15 = .ok (.aload_n 0, 1) := by decide +kernel
theorem dX11_restore_16 : decode cX11_restore 16 = .ok (.getfield 21, 3) := by decide +kernel
theorem dX11_restore_19 : decode cX11_restore 19 = .ok (.aload_n 0, 1) := by decide +kernel
theorem dX11_restore_20 : decode cX11_restore 20 = .ok (.getfield 17, 3) := by decide +kernel
theorem dX11_restore_23 : decode cX11_restore 23 = .ok (.invokestatic 205, 3) := by decide +kernel
theorem dX11_restore_26 : decode cX11_restore 26 = .ok (.aload_n 0, 1) := by decide +kernel
theorem dX11_restore_27 : decode cX11_restore 27 = .ok (.aload_n 0, 1) := by decide +kernel
theorem dX11_restore_28 : decode cX11_restore 28 = .ok (.getfield 58, 3) := by decide +kernel
theorem dX11_restore_31 : decode cX11_restore 31 = .ok (.putfield 54, 3) := by decide +kernel
theorem dX11_restore_34 : decode cX11_restore 34 = .ok (.aload_n 0, 1) := by decide +kernel
theorem dX11_restore_35 : decode cX11_restore 35 = .ok (.invokevirtual 222, 3) := by decide +kernel
theorem dX11_restore_38 : decode cX11_restore 38 = .ok (.aload_n 0, 1) := by decide +kernel
theorem dX11_restore_39 : decode cX11_restore 39 = .ok (.getfield 54, 3) := by decide +kernel
theorem dX11_restore_42 : decode cX11_restore 42 = .ok (.ireturn, 1) := by decide +kernel
set_option maxRecDepth 20000 in
theorem ggX11_creases_X11_stripAt : GoodIn wsX11_creases wsX11_stripAt := goodIn_r _ [5, 6, 7, 68, 69, 70, 71, 72, 73, 74, 75, 76, 77, 78, 79, 80] (by decide +kernel) (by decide +kernel)
set_option maxRecDepth 20000 in
theorem gX11_creases_X11_stripAt : GoodIn wsX11_creases (wsV RX11 137 RX11 yX11_stripAt wsX11_stripAt) := goodIn_app (goodIn_of _ (by decide +kernel)) ggX11_creases_X11_stripAt
set_option maxRecDepth 20000 in
theorem ggX11_creases_X11_refuse : GoodIn wsX11_creases wsX11_refuse := goodIn_r _ [11, 12, 68, 69, 70, 71, 72, 73, 74, 75, 76, 77, 78, 79, 80] (by decide +kernel) (by decide +kernel)
set_option maxRecDepth 20000 in
theorem gX11_creases_X11_refuse : GoodIn wsX11_creases (wsV RX11 65 RX11 yX11_refuse wsX11_refuse) := goodIn_app (goodIn_of _ (by decide +kernel)) ggX11_creases_X11_refuse
set_option maxRecDepth 20000 in
theorem ggX11_creases_X8_corners : GoodIn wsX11_creases wsX8_corners := goodIn_r _ [18, 19, 20, 21, 22, 17, 23, 24, 25, 26, 27, 28, 29, 30, 31, 32, 33, 34, 35, 36, 37, 38, 39, 40, 41, 42, 43, 44, 45, 46, 47, 48, 49, 50, 51, 52, 53, 54, 55, 56, 57, 58, 59, 60, 81, 82, 83, 84, 85, 86, 87, 88, 89, 90, 91, 92, 93, 94, 95, 96, 97, 98, 99, 100, 101, 102, 103, 104, 105, 106, 107, 108] (by decide +kernel) (by decide +kernel)
set_option maxRecDepth 20000 in
theorem gX11_creases_X8_corners_u152X0 : GoodIn wsX11_creases (va_wsU RX11 152 RX0 "FoldedInHalf$Strip" ⟨"FoldedInHalf$Strip", "corners", "()J"⟩ yX8_corners wsX8_corners) := goodIn_app (goodIn_of _ (by decide +kernel)) ggX11_creases_X8_corners
set_option maxRecDepth 20000 in
theorem gX11_creases_X8_corners_u152X1 : GoodIn wsX11_creases (va_wsU RX11 152 RX1 "FoldedInHalf$Strip" ⟨"FoldedInHalf$Strip", "corners", "()J"⟩ yX8_corners wsX8_corners) := goodIn_app (goodIn_of _ (by decide +kernel)) ggX11_creases_X8_corners
set_option maxRecDepth 20000 in
theorem gX11_creases_X8_corners_u152X2 : GoodIn wsX11_creases (va_wsU RX11 152 RX2 "FoldedInHalf$Strip" ⟨"FoldedInHalf$Strip", "corners", "()J"⟩ yX8_corners wsX8_corners) := goodIn_app (goodIn_of _ (by decide +kernel)) ggX11_creases_X8_corners
set_option maxRecDepth 20000 in
theorem gX11_creases_X8_corners_u152X4 : GoodIn wsX11_creases (va_wsU RX11 152 RX4 "FoldedInHalf$Strip" ⟨"FoldedInHalf$Strip", "corners", "()J"⟩ yX8_corners wsX8_corners) := goodIn_app (goodIn_of _ (by decide +kernel)) ggX11_creases_X8_corners
set_option maxRecDepth 20000 in
theorem gX11_creases_X8_corners_u152X6 : GoodIn wsX11_creases (va_wsU RX11 152 RX6 "FoldedInHalf$Strip" ⟨"FoldedInHalf$Strip", "corners", "()J"⟩ yX8_corners wsX8_corners) := goodIn_app (goodIn_of _ (by decide +kernel)) ggX11_creases_X8_corners
set_option maxRecDepth 20000 in
theorem gX11_creases_X8_corners : GoodIn wsX11_creases (wsV RX11 152 RX8 yX8_corners wsX8_corners) := goodIn_app (goodIn_of _ (by decide +kernel)) ggX11_creases_X8_corners
set_option maxRecDepth 20000 in
theorem gX11_creases_X8_corners_u152X9 : GoodIn wsX11_creases (va_wsU RX11 152 RX9 "FoldedInHalf$Strip" ⟨"FoldedInHalf$Strip", "corners", "()J"⟩ yX8_corners wsX8_corners) := goodIn_app (goodIn_of _ (by decide +kernel)) ggX11_creases_X8_corners
theorem dX11_creases_0 : decode cX11_creases 0 = .ok (.aload_n 0, 1) := by decide +kernel
theorem dX11_creases_1 : decode cX11_creases 1 = .ok (.iload_n 1, 1) := by decide +kernel
theorem dX11_creases_2 : decode cX11_creases 2 = .ok (.invokevirtual 137, 3) := by decide +kernel
theorem dX11_creases_5 : decode cX11_creases 5 = .ok (.astore_n 2, 1) := by decide +kernel
theorem dX11_creases_6 : decode cX11_creases 6 = .ok (.aload_n 2, 1) := by decide +kernel
theorem dX11_creases_7 : decode cX11_creases 7 = .ok (.ifnonnull 12, 3) := by decide +kernel
theorem dX11_creases_10 : decode cX11_creases 10 = .ok (.aload_n 0, 1) := by decide +kernel
theorem dX11_creases_11 : decode cX11_creases 11 = .ok (.iconst (-1), 1) := by decide +kernel
theorem dX11_creases_12 : decode cX11_creases 12 = .ok (.invokevirtual 65, 3) := by decide +kernel
theorem dX11_creases_15 : decode cX11_creases 15 = .ok (.i2l, 1) := by decide +kernel
theorem dX11_creases_16 : decode cX11_creases 16 = .ok (.goto 7, 3) := by decide +kernel
theorem dX11_creases_19 : decode cX11_creases 19 = .ok (.aload_n 2, 1) := by decide +kernel
theorem dX11_creases_20 : decode cX11_creases 20 = .ok (.invokevirtual 152, 3) := by decide +kernel
theorem dX11_creases_23 : decode cX11_creases 23 = .ok (.lreturn, 1) := by decide +kernel
set_option maxRecDepth 20000 in
theorem ggX11_crease_X11_stripAt : GoodIn wsX11_crease wsX11_stripAt := goodIn_r _ [5, 6, 7, 147, 148, 149, 150, 151, 152, 153, 154, 155, 156, 157, 158, 159] (by decide +kernel) (by decide +kernel)
set_option maxRecDepth 20000 in
theorem gX11_crease_X11_stripAt : GoodIn wsX11_crease (wsV RX11 137 RX11 yX11_stripAt wsX11_stripAt) := goodIn_app (goodIn_of _ (by decide +kernel)) ggX11_crease_X11_stripAt
set_option maxRecDepth 20000 in
theorem ggX11_crease_X11_refuse : GoodIn wsX11_crease wsX11_refuse := goodIn_r _ [11, 12, 147, 148, 149, 150, 151, 152, 153, 154, 155, 156, 157, 158, 159] (by decide +kernel) (by decide +kernel)
set_option maxRecDepth 20000 in
theorem gX11_crease_X11_refuse : GoodIn wsX11_crease (wsV RX11 65 RX11 yX11_refuse wsX11_refuse) := goodIn_app (goodIn_of _ (by decide +kernel)) ggX11_crease_X11_refuse
set_option maxRecDepth 20000 in
theorem ggX11_crease_X8_corners : GoodIn wsX11_crease wsX8_corners := goodIn_r _ [18, 19, 20, 21, 22, 17, 23, 24, 25, 26, 27, 28, 29, 30, 31, 32, 33, 34, 35, 36, 37, 38, 39, 40, 41, 42, 43, 44, 45, 46, 47, 48, 49, 50, 51, 52, 53, 54, 55, 56, 57, 58, 59, 60, 160, 161, 162, 163, 164, 165, 166, 167, 168, 169, 170, 171, 172, 173, 174, 175, 176, 177, 178, 179, 180, 181, 182, 183, 184, 185, 186, 187] (by decide +kernel) (by decide +kernel)
set_option maxRecDepth 20000 in
theorem gX11_crease_X8_corners_u152X0 : GoodIn wsX11_crease (va_wsU RX11 152 RX0 "FoldedInHalf$Strip" ⟨"FoldedInHalf$Strip", "corners", "()J"⟩ yX8_corners wsX8_corners) := goodIn_app (goodIn_of _ (by decide +kernel)) ggX11_crease_X8_corners
set_option maxRecDepth 20000 in
theorem gX11_crease_X8_corners_u152X1 : GoodIn wsX11_crease (va_wsU RX11 152 RX1 "FoldedInHalf$Strip" ⟨"FoldedInHalf$Strip", "corners", "()J"⟩ yX8_corners wsX8_corners) := goodIn_app (goodIn_of _ (by decide +kernel)) ggX11_crease_X8_corners
set_option maxRecDepth 20000 in
theorem gX11_crease_X8_corners_u152X2 : GoodIn wsX11_crease (va_wsU RX11 152 RX2 "FoldedInHalf$Strip" ⟨"FoldedInHalf$Strip", "corners", "()J"⟩ yX8_corners wsX8_corners) := goodIn_app (goodIn_of _ (by decide +kernel)) ggX11_crease_X8_corners
set_option maxRecDepth 20000 in
theorem gX11_crease_X8_corners_u152X4 : GoodIn wsX11_crease (va_wsU RX11 152 RX4 "FoldedInHalf$Strip" ⟨"FoldedInHalf$Strip", "corners", "()J"⟩ yX8_corners wsX8_corners) := goodIn_app (goodIn_of _ (by decide +kernel)) ggX11_crease_X8_corners
set_option maxRecDepth 20000 in
theorem gX11_crease_X8_corners_u152X6 : GoodIn wsX11_crease (va_wsU RX11 152 RX6 "FoldedInHalf$Strip" ⟨"FoldedInHalf$Strip", "corners", "()J"⟩ yX8_corners wsX8_corners) := goodIn_app (goodIn_of _ (by decide +kernel)) ggX11_crease_X8_corners
set_option maxRecDepth 20000 in
theorem gX11_crease_X8_corners : GoodIn wsX11_crease (wsV RX11 152 RX8 yX8_corners wsX8_corners) := goodIn_app (goodIn_of _ (by decide +kernel)) ggX11_crease_X8_corners
set_option maxRecDepth 20000 in
theorem gX11_crease_X8_corners_u152X9 : GoodIn wsX11_crease (va_wsU RX11 152 RX9 "FoldedInHalf$Strip" ⟨"FoldedInHalf$Strip", "corners", "()J"⟩ yX8_corners wsX8_corners) := goodIn_app (goodIn_of _ (by decide +kernel)) ggX11_crease_X8_corners
set_option maxRecDepth 20000 in
theorem ggX11_crease_X0_creaseAt : GoodIn wsX11_crease wsX0_creaseAt := goodIn_r _ [74, 75, 76, 77, 16, 17, 18, 19, 20, 21, 22, 23, 24, 25, 26, 27, 28, 29, 30, 31, 32, 33, 34, 35, 36, 37, 38, 39, 40, 41, 42, 43, 44, 45, 46, 47, 48, 49, 50, 51, 52, 53, 54, 55, 56, 57, 58, 59, 60, 78, 79, 80, 81, 82, 83, 84, 85, 86, 87, 88, 69, 89, 90, 91, 92, 93, 94, 95, 96, 97, 98, 99, 100, 101, 102, 103, 104, 105, 106, 107, 108, 109, 110, 111, 112, 113, 114, 115, 116, 117, 118, 119, 120, 121, 122, 123, 124, 125, 126, 127, 128, 129, 130, 160, 161, 162, 163, 164, 165, 166, 167, 168, 169, 170, 171, 172, 173, 174, 175, 176, 177, 178, 179, 180, 181, 182, 183, 184, 185, 186, 187] (by decide +kernel) (by decide +kernel)
set_option maxRecDepth 20000 in
theorem gX11_crease_X0_creaseAt_u160X0 : GoodIn wsX11_crease (va_wsO RX11 160 RX0 "FoldedInHalf$Strip" ⟨"FoldedInHalf$Strip", "creaseAt", "(J)I"⟩ yX0_creaseAt wsX0_creaseAt) := goodIn_app (goodIn_of _ (by decide +kernel)) ggX11_crease_X0_creaseAt
set_option maxRecDepth 20000 in
theorem ggX11_crease_X1_creaseAt : GoodIn wsX11_crease wsX1_creaseAt := goodIn_r _ [82, 83, 84, 85, 43, 44, 45, 46, 47, 48, 49, 50, 22, 17, 23, 24, 51, 86, 87, 88, 69, 89, 90, 91, 92, 93, 94, 95, 96, 97, 98, 99, 100, 101, 102, 103, 104, 105, 106, 107, 108, 109, 110, 111, 112, 113, 114, 115, 116, 117, 118, 119, 120, 121, 122, 123, 124, 125, 126, 127, 128, 129, 130, 160, 161, 162, 163, 164, 165, 166, 167, 168, 169, 170, 171, 172, 173, 174, 175, 176, 177, 178, 179, 180, 181, 182, 183, 184, 185, 186, 187] (by decide +kernel) (by decide +kernel)
set_option maxRecDepth 20000 in
theorem gX11_crease_X1_creaseAt_u160X1 : GoodIn wsX11_crease (va_wsO RX11 160 RX1 "FoldedInHalf$Strip" ⟨"FoldedInHalf$Strip", "creaseAt", "(J)I"⟩ yX1_creaseAt wsX1_creaseAt) := goodIn_app (goodIn_of _ (by decide +kernel)) ggX11_crease_X1_creaseAt
set_option maxRecDepth 20000 in
theorem ggX11_crease_X8_creaseAt : GoodIn wsX11_crease wsX8_creaseAt := goodIn_r _ [91, 92, 93, 94, 95, 96, 17, 97, 98, 99, 100, 101, 102, 103, 104, 105, 106, 107, 108, 109, 110, 111, 112, 113, 114, 115, 116, 117, 118, 119, 120, 121, 122, 123, 124, 125, 126, 127, 128, 129, 130, 160, 161, 162, 163, 164, 165, 166, 167, 168, 169, 170, 171, 172, 173, 174, 175, 176, 177, 178, 179, 180, 181, 182, 183, 184, 185, 186, 187] (by decide +kernel) (by decide +kernel)
set_option maxRecDepth 20000 in
theorem gX11_crease_X8_creaseAt_u160X2 : GoodIn wsX11_crease (va_wsU RX11 160 RX2 "FoldedInHalf$Strip" ⟨"FoldedInHalf$Strip", "creaseAt", "(J)I"⟩ yX8_creaseAt wsX8_creaseAt) := goodIn_app (goodIn_of _ (by decide +kernel)) ggX11_crease_X8_creaseAt
set_option maxRecDepth 20000 in
theorem ggX11_crease_X4_creaseAt : GoodIn wsX11_crease wsX4_creaseAt := goodIn_r _ [136, 137] (by decide +kernel) (by decide +kernel)
set_option maxRecDepth 20000 in
theorem gX11_crease_X4_creaseAt_u160X4 : GoodIn wsX11_crease (va_wsO RX11 160 RX4 "FoldedInHalf$Strip" ⟨"FoldedInHalf$Strip", "creaseAt", "(J)I"⟩ yX4_creaseAt wsX4_creaseAt) := goodIn_app (goodIn_of _ (by decide +kernel)) ggX11_crease_X4_creaseAt
set_option maxRecDepth 20000 in
theorem gX11_crease_X8_creaseAt_u160X6 : GoodIn wsX11_crease (va_wsU RX11 160 RX6 "FoldedInHalf$Strip" ⟨"FoldedInHalf$Strip", "creaseAt", "(J)I"⟩ yX8_creaseAt wsX8_creaseAt) := goodIn_app (goodIn_of _ (by decide +kernel)) ggX11_crease_X8_creaseAt
set_option maxRecDepth 20000 in
theorem gX11_crease_X8_creaseAt : GoodIn wsX11_crease (wsV RX11 160 RX8 yX8_creaseAt wsX8_creaseAt) := goodIn_app (goodIn_of _ (by decide +kernel)) ggX11_crease_X8_creaseAt
set_option maxRecDepth 20000 in
theorem ggX11_crease_X9_creaseAt : GoodIn wsX11_crease wsX9_creaseAt := goodIn_r _ [143, 38, 144, 145, 146, 96, 17, 97, 98, 99, 100, 101, 102, 103, 104, 105, 106, 107, 108, 109, 110, 160, 161, 162, 163, 164, 165, 166, 167, 168, 169, 170, 171, 172, 173, 174, 175, 176, 177, 178, 179, 180, 181, 182, 183, 184, 185, 186, 187] (by decide +kernel) (by decide +kernel)
set_option maxRecDepth 20000 in
theorem gX11_crease_X9_creaseAt_u160X9 : GoodIn wsX11_crease (va_wsO RX11 160 RX9 "FoldedInHalf$Strip" ⟨"FoldedInHalf$Strip", "creaseAt", "(J)I"⟩ yX9_creaseAt wsX9_creaseAt) := goodIn_app (goodIn_of _ (by decide +kernel)) ggX11_crease_X9_creaseAt
theorem dX11_crease_0 : decode cX11_crease 0 = .ok (.aload_n 0, 1) := by decide +kernel
theorem dX11_crease_1 : decode cX11_crease 1 = .ok (.iload_n 1, 1) := by decide +kernel
theorem dX11_crease_2 : decode cX11_crease 2 = .ok (.invokevirtual 137, 3) := by decide +kernel
theorem dX11_crease_5 : decode cX11_crease 5 = .ok (.astore 4, 2) := by decide +kernel
theorem dX11_crease_7 : decode cX11_crease 7 = .ok (.aload 4, 2) := by decide +kernel
theorem dX11_crease_9 : decode cX11_crease 9 = .ok (.ifnonnull 9, 3) := by decide +kernel
theorem dX11_crease_12 : decode cX11_crease 12 = .ok (.aload_n 0, 1) := by decide +kernel
theorem dX11_crease_13 : decode cX11_crease 13 = .ok (.iconst (-1), 1) := by decide +kernel
theorem dX11_crease_14 : decode cX11_crease 14 = .ok (.invokevirtual 65, 3) := by decide +kernel
theorem dX11_crease_17 : decode cX11_crease 17 = .ok (.ireturn, 1) := by decide +kernel
theorem dX11_crease_18 : decode cX11_crease 18 = .ok (.lload_n 2, 1) := by decide +kernel
theorem dX11_crease_19 : decode cX11_crease 19 = .ok (.lconst 1, 1) := by decide +kernel
theorem dX11_crease_20 : decode cX11_crease 20 = .ok (.lcmp, 1) := by decide +kernel
theorem dX11_crease_21 : decode cX11_crease 21 = .ok (.ifCond .lt 13, 3) := by decide +kernel
theorem dX11_crease_24 : decode cX11_crease 24 = .ok (.lload_n 2, 1) := by decide +kernel
theorem dX11_crease_25 : decode cX11_crease 25 = .ok (.aload 4, 2) := by decide +kernel
theorem dX11_crease_27 : decode cX11_crease 27 = .ok (.invokevirtual 152, 3) := by decide +kernel
theorem dX11_crease_30 : decode cX11_crease 30 = .ok (.lcmp, 1) := by decide +kernel
theorem dX11_crease_31 : decode cX11_crease 31 = .ok (.ifCond .le 12, 3) := by decide +kernel
theorem dX11_crease_34 : decode cX11_crease 34 = .ok (.aload_n 0, 1) := by decide +kernel
theorem dX11_crease_35 : decode cX11_crease 35 = .ok (.bipush (-5), 2) := by decide +kernel
theorem dX11_crease_37 : decode cX11_crease 37 = .ok (.invokevirtual 65, 3) := by decide +kernel
theorem dX11_crease_40 : decode cX11_crease 40 = .ok (.goto 9, 3) := by decide +kernel
theorem dX11_crease_43 : decode cX11_crease 43 = .ok (.aload 4, 2) := by decide +kernel
theorem dX11_crease_45 : decode cX11_crease 45 = .ok (.lload_n 2, 1) := by decide +kernel
theorem dX11_crease_46 : decode cX11_crease 46 = .ok (.invokevirtual 160, 3) := by decide +kernel
theorem dX11_crease_49 : decode cX11_crease 49 = .ok (.ireturn, 1) := by decide +kernel
set_option maxRecDepth 20000 in
theorem ggX11_way_X11_stripAt : GoodIn wsX11_way wsX11_stripAt := goodIn_r _ [5, 6, 7, 251, 252, 253, 254, 255, 256, 257, 258, 259, 260, 261, 262, 263] (by decide +kernel) (by decide +kernel)
set_option maxRecDepth 20000 in
theorem gX11_way_X11_stripAt : GoodIn wsX11_way (wsV RX11 137 RX11 yX11_stripAt wsX11_stripAt) := goodIn_app (goodIn_of _ (by decide +kernel)) ggX11_way_X11_stripAt
set_option maxRecDepth 20000 in
theorem ggX11_way_X11_refuse : GoodIn wsX11_way wsX11_refuse := goodIn_r _ [11, 12, 251, 252, 253, 254, 255, 256, 257, 258, 259, 260, 261, 262, 263] (by decide +kernel) (by decide +kernel)
set_option maxRecDepth 20000 in
theorem gX11_way_X11_refuse : GoodIn wsX11_way (wsV RX11 65 RX11 yX11_refuse wsX11_refuse) := goodIn_app (goodIn_of _ (by decide +kernel)) ggX11_way_X11_refuse
set_option maxRecDepth 20000 in
theorem ggX11_way_X8_sides : GoodIn wsX11_way wsX8_sides := goodIn_r _ [18, 19, 20, 21, 22, 17, 23, 24, 25, 26, 27, 28, 29, 30, 31, 32, 33, 34, 35, 36, 37, 38, 39, 40, 41, 42, 43, 44, 45, 46, 47, 48, 49, 50, 51, 52, 53, 54, 55, 56, 57, 58, 59, 60, 61, 62, 63, 64, 65, 66, 67, 68, 69, 70, 71, 72, 264, 265, 266, 267, 268, 269, 270, 271, 272, 273, 274, 275, 276, 277, 278, 279, 280, 281, 282, 283, 284, 285, 286, 287, 288, 289, 290, 291] (by decide +kernel) (by decide +kernel)
set_option maxRecDepth 20000 in
theorem gX11_way_X8_sides_u82X0 : GoodIn wsX11_way (va_wsU RX11 82 RX0 "FoldedInHalf$Strip" ⟨"FoldedInHalf$Strip", "sides", "()J"⟩ yX8_sides wsX8_sides) := goodIn_app (goodIn_of _ (by decide +kernel)) ggX11_way_X8_sides
set_option maxRecDepth 20000 in
theorem gX11_way_X8_sides_u82X1 : GoodIn wsX11_way (va_wsU RX11 82 RX1 "FoldedInHalf$Strip" ⟨"FoldedInHalf$Strip", "sides", "()J"⟩ yX8_sides wsX8_sides) := goodIn_app (goodIn_of _ (by decide +kernel)) ggX11_way_X8_sides
set_option maxRecDepth 20000 in
theorem gX11_way_X8_sides_u82X2 : GoodIn wsX11_way (va_wsU RX11 82 RX2 "FoldedInHalf$Strip" ⟨"FoldedInHalf$Strip", "sides", "()J"⟩ yX8_sides wsX8_sides) := goodIn_app (goodIn_of _ (by decide +kernel)) ggX11_way_X8_sides
set_option maxRecDepth 20000 in
theorem gX11_way_X8_sides_u82X4 : GoodIn wsX11_way (va_wsU RX11 82 RX4 "FoldedInHalf$Strip" ⟨"FoldedInHalf$Strip", "sides", "()J"⟩ yX8_sides wsX8_sides) := goodIn_app (goodIn_of _ (by decide +kernel)) ggX11_way_X8_sides
set_option maxRecDepth 20000 in
theorem gX11_way_X8_sides_u82X6 : GoodIn wsX11_way (va_wsU RX11 82 RX6 "FoldedInHalf$Strip" ⟨"FoldedInHalf$Strip", "sides", "()J"⟩ yX8_sides wsX8_sides) := goodIn_app (goodIn_of _ (by decide +kernel)) ggX11_way_X8_sides
set_option maxRecDepth 20000 in
theorem gX11_way_X8_sides : GoodIn wsX11_way (wsV RX11 82 RX8 yX8_sides wsX8_sides) := goodIn_app (goodIn_of _ (by decide +kernel)) ggX11_way_X8_sides
set_option maxRecDepth 20000 in
theorem gX11_way_X8_sides_u82X9 : GoodIn wsX11_way (va_wsU RX11 82 RX9 "FoldedInHalf$Strip" ⟨"FoldedInHalf$Strip", "sides", "()J"⟩ yX8_sides wsX8_sides) := goodIn_app (goodIn_of _ (by decide +kernel)) ggX11_way_X8_sides
set_option maxRecDepth 20000 in
theorem ggX11_way_X0_walkTo : GoodIn wsX11_way wsX0_walkTo := goodIn_r _ [86, 87, 88, 89, 27, 17, 28, 29, 90, 91, 92, 93, 94, 95, 96, 97, 19, 20, 21, 22, 23, 24, 25, 26, 30, 31, 32, 33, 34, 35, 36, 37, 38, 39, 40, 41, 42, 43, 44, 45, 46, 47, 48, 49, 50, 51, 52, 53, 54, 55, 56, 57, 58, 59, 60, 61, 62, 63, 64, 65, 66, 67, 68, 69, 70, 71, 72, 98, 99, 100, 101, 102, 103, 104, 105, 106, 107, 108, 109, 110, 111, 112, 113, 114, 115, 116, 117, 118, 119, 120, 121, 122, 123, 124, 125, 126, 127, 128, 129, 130, 131, 132, 133, 134, 135, 136, 137, 138, 139, 140, 141, 142, 143, 144, 145, 146, 147, 148, 149, 150, 151, 152, 153, 154, 155, 85, 156, 157, 158, 159, 160, 245, 246, 247, 248, 249, 250, 264, 265, 266, 267, 268, 269, 270, 271, 272, 273, 274, 275, 276, 277, 278, 279, 280, 281, 282, 283, 284, 285, 286, 287, 288, 289, 290, 291] (by decide +kernel) (by decide +kernel)
set_option maxRecDepth 20000 in
theorem gX11_way_X0_walkTo_u225X0 : GoodIn wsX11_way (va_wsO RX11 225 RX0 "FoldedInHalf$Strip" ⟨"FoldedInHalf$Strip", "walkTo", "(J)LFoldedInHalf$Walk;"⟩ yX0_walkTo wsX0_walkTo) := goodIn_app (goodIn_of _ (by decide +kernel)) ggX11_way_X0_walkTo
set_option maxRecDepth 20000 in
theorem ggX11_way_X1_walkTo : GoodIn wsX11_way wsX1_walkTo := goodIn_r _ [164, 165, 166, 167, 48, 49, 50, 51, 52, 53, 54, 55, 27, 17, 28, 29, 56, 168, 169, 170, 171, 172, 93, 94, 95, 96, 97, 19, 20, 21, 22, 23, 24, 25, 26, 30, 31, 32, 33, 34, 35, 36, 37, 38, 39, 40, 41, 42, 43, 44, 45, 46, 47, 57, 58, 59, 60, 61, 62, 63, 64, 65, 66, 67, 68, 69, 70, 71, 72, 98, 99, 100, 101, 102, 103, 104, 105, 106, 107, 108, 109, 110, 111, 112, 113, 114, 115, 116, 117, 118, 119, 120, 121, 122, 123, 124, 125, 126, 127, 128, 129, 130, 131, 132, 133, 134, 135, 136, 137, 138, 139, 140, 141, 142, 143, 144, 145, 146, 147, 148, 149, 150, 151, 152, 173, 157, 158, 159, 160, 264, 265, 266, 267, 268, 269, 270, 271, 272, 273, 274, 275, 276, 277, 278, 279, 280, 281, 282, 283, 284, 285, 286, 287, 288, 289, 290, 291, 245, 246, 247, 248, 249, 250] (by decide +kernel) (by decide +kernel)
set_option maxRecDepth 20000 in
theorem gX11_way_X1_walkTo_u225X1 : GoodIn wsX11_way (va_wsO RX11 225 RX1 "FoldedInHalf$Strip" ⟨"FoldedInHalf$Strip", "walkTo", "(J)LFoldedInHalf$Walk;"⟩ yX1_walkTo wsX1_walkTo) := goodIn_app (goodIn_of _ (by decide +kernel)) ggX11_way_X1_walkTo
set_option maxRecDepth 20000 in
theorem ggX11_way_X8_walkTo : GoodIn wsX11_way wsX8_walkTo := goodIn_r _ [161, 176, 177, 178, 93, 17, 94, 95, 96, 97, 29, 19, 20, 21, 22, 23, 24, 25, 26, 27, 28, 30, 31, 32, 33, 34, 35, 36, 37, 38, 39, 40, 41, 42, 43, 44, 45, 46, 47, 48, 49, 50, 51, 52, 53, 54, 55, 56, 57, 58, 59, 60, 61, 62, 63, 64, 65, 66, 67, 68, 69, 70, 71, 72, 98, 99, 100, 101, 102, 103, 104, 105, 106, 107, 108, 109, 110, 111, 112, 113, 114, 115, 116, 117, 118, 119, 120, 121, 122, 123, 124, 125, 126, 127, 128, 129, 130, 131, 132, 133, 134, 135, 136, 137, 138, 139, 140, 141, 142, 143, 144, 145, 146, 147, 148, 149, 150, 151, 152, 179, 180, 181, 182, 183, 184, 185, 245, 246, 247, 248, 249, 250, 264, 265, 266, 267, 268, 269, 270, 271, 272, 273, 274, 275, 276, 277, 278, 279, 280, 281, 282, 283, 284, 285, 286, 287, 288, 289, 290, 291] (by decide +kernel) (by decide +kernel)
set_option maxRecDepth 20000 in
theorem gX11_way_X8_walkTo_u225X2 : GoodIn wsX11_way (va_wsU RX11 225 RX2 "FoldedInHalf$Strip" ⟨"FoldedInHalf$Strip", "walkTo", "(J)LFoldedInHalf$Walk;"⟩ yX8_walkTo wsX8_walkTo) := goodIn_app (goodIn_of _ (by decide +kernel)) ggX11_way_X8_walkTo
set_option maxRecDepth 20000 in
theorem ggX11_way_X4_walkTo : GoodIn wsX11_way wsX4_walkTo := goodIn_r _ [189, 190, 96, 97, 191, 192, 193, 194, 22, 17, 23, 24, 25, 26, 27, 28, 29, 30, 31, 32, 33, 34, 35, 36, 37, 38, 39, 40, 41, 42, 43, 44, 45, 46, 47, 48, 49, 50, 51, 52, 53, 54, 55, 56, 57, 58, 59, 60, 61, 62, 63, 64, 65, 98, 99, 100, 101, 102, 103, 104, 105, 106, 107, 108, 195, 196, 197, 198, 150, 151, 152, 199, 200, 201, 202, 203, 85, 204, 205, 206, 207, 208, 209, 210, 211, 212, 165, 166, 167, 168, 169, 213, 214, 215, 216, 217, 109, 110, 111, 112, 113, 114, 115, 116, 117, 118, 119, 120, 121, 122, 123, 124, 125, 126, 127, 128, 129, 130, 131, 132, 133, 134, 135, 136, 137, 138, 139, 140, 141, 142, 143, 144, 145, 146, 218, 219, 220, 221, 188, 222, 223, 224, 225, 226, 227, 228, 229, 230, 231, 232, 245, 246, 247, 248, 249, 250, 264, 265, 266, 267, 268, 269, 270, 271, 272, 273, 274, 275, 276, 277, 278, 279, 280, 281, 282, 283, 284, 285, 286, 287, 288, 289, 290, 291] (by decide +kernel) (by decide +kernel)
set_option maxRecDepth 20000 in
theorem gX11_way_X4_walkTo_u225X4 : GoodIn wsX11_way (va_wsO RX11 225 RX4 "FoldedInHalf$Strip" ⟨"FoldedInHalf$Strip", "walkTo", "(J)LFoldedInHalf$Walk;"⟩ yX4_walkTo wsX4_walkTo) := goodIn_app (goodIn_of _ (by decide +kernel)) ggX11_way_X4_walkTo
set_option maxRecDepth 20000 in
theorem gX11_way_X8_walkTo_u225X6 : GoodIn wsX11_way (va_wsU RX11 225 RX6 "FoldedInHalf$Strip" ⟨"FoldedInHalf$Strip", "walkTo", "(J)LFoldedInHalf$Walk;"⟩ yX8_walkTo wsX8_walkTo) := goodIn_app (goodIn_of _ (by decide +kernel)) ggX11_way_X8_walkTo
set_option maxRecDepth 20000 in
theorem gX11_way_X8_walkTo : GoodIn wsX11_way (wsV RX11 225 RX8 yX8_walkTo wsX8_walkTo) := goodIn_app (goodIn_of _ (by decide +kernel)) ggX11_way_X8_walkTo
set_option maxRecDepth 20000 in
theorem ggX11_way_X9_walkTo : GoodIn wsX11_way wsX9_walkTo := goodIn_r _ [238, 239, 96, 97, 41, 42, 43, 240, 241, 242, 22, 17, 23, 24, 25, 26, 27, 28, 29, 30, 31, 32, 33, 34, 35, 36, 37, 38, 39, 40, 44, 45, 46, 47, 48, 49, 50, 51, 52, 53, 54, 55, 56, 57, 58, 59, 60, 61, 62, 63, 64, 65, 98, 99, 100, 101, 102, 103, 104, 105, 106, 107, 108, 243, 244, 230, 231, 232, 112, 113, 114, 115, 116, 117, 118, 119, 120, 121, 122, 123, 124, 125, 126, 147, 148, 149, 150, 151, 152, 245, 246, 247, 248, 249, 250, 264, 265, 266, 267, 268, 269, 270, 271, 272, 273, 274, 275, 276, 277, 278, 279, 280, 281, 282, 283, 284, 285, 286, 287, 288, 289, 290, 291] (by decide +kernel) (by decide +kernel)
set_option maxRecDepth 20000 in
theorem gX11_way_X9_walkTo_u225X9 : GoodIn wsX11_way (va_wsO RX11 225 RX9 "FoldedInHalf$Strip" ⟨"FoldedInHalf$Strip", "walkTo", "(J)LFoldedInHalf$Walk;"⟩ yX9_walkTo wsX9_walkTo) := goodIn_app (goodIn_of _ (by decide +kernel)) ggX11_way_X9_walkTo
theorem dX11_way_0 : decode cX11_way 0 = .ok (.aload_n 0, 1) := by decide +kernel
theorem dX11_way_1 : decode cX11_way 1 = .ok (.iload_n 1, 1) := by decide +kernel
theorem dX11_way_2 : decode cX11_way 2 = .ok (.invokevirtual 137, 3) := by decide +kernel
theorem dX11_way_5 : decode cX11_way 5 = .ok (.astore 4, 2) := by decide +kernel
theorem dX11_way_7 : decode cX11_way 7 = .ok (.aload 4, 2) := by decide +kernel
theorem dX11_way_9 : decode cX11_way 9 = .ok (.ifnonnull 9, 3) := by decide +kernel
theorem dX11_way_12 : decode cX11_way 12 = .ok (.aload_n 0, 1) := by decide +kernel
theorem dX11_way_13 : decode cX11_way 13 = .ok (.iconst (-1), 1) := by decide +kernel
theorem dX11_way_14 : decode cX11_way 14 = .ok (.invokevirtual 65, 3) := by decide +kernel
theorem dX11_way_17 : decode cX11_way 17 = .ok (.ireturn, 1) := by decide +kernel
theorem dX11_way_18 : decode cX11_way 18 = .ok (.lload_n 2, 1) := by decide +kernel
theorem dX11_way_19 : decode cX11_way 19 = .ok (.lconst 1, 1) := by decide +kernel
theorem dX11_way_20 : decode cX11_way 20 = .ok (.lcmp, 1) := by decide +kernel
theorem dX11_way_21 : decode cX11_way 21 = .ok (.ifCond .lt 13, 3) := by decide +kernel
theorem dX11_way_24 : decode cX11_way 24 = .ok (.lload_n 2, 1) := by decide +kernel
theorem dX11_way_25 : decode cX11_way 25 = .ok (.aload 4, 2) := by decide +kernel
theorem dX11_way_27 : decode cX11_way 27 = .ok (.invokevirtual 82, 3) := by decide +kernel
theorem dX11_way_30 : decode cX11_way 30 = .ok (.lcmp, 1) := by decide +kernel
theorem dX11_way_31 : decode cX11_way 31 = .ok (.ifCond .le 12, 3) := by decide +kernel
theorem dX11_way_34 : decode cX11_way 34 = .ok (.aload_n 0, 1) := by decide +kernel
theorem dX11_way_35 : decode cX11_way 35 = .ok (.bipush (-5), 2) := by decide +kernel
theorem dX11_way_37 : decode cX11_way 37 = .ok (.invokevirtual 65, 3) := by decide +kernel
theorem dX11_way_40 : decode cX11_way 40 = .ok (.goto 16, 3) := by decide +kernel
theorem dX11_way_43 : decode cX11_way 43 = .ok (.aload 4, 2) := by decide +kernel
theorem dX11_way_45 : decode cX11_way 45 = .ok (.lload_n 2, 1) := by decide +kernel
theorem dX11_way_46 : decode cX11_way 46 = .ok (.lconst 1, 1) := by decide +kernel
theorem dX11_way_47 : decode cX11_way 47 = .ok (.lsub, 1) := by decide +kernel
theorem dX11_way_48 : decode cX11_way 48 = .ok (.invokevirtual 225, 3) := by decide +kernel
theorem dX11_way_51 : decode cX11_way 51 = .ok (.getfield 229, 3) := by decide +kernel
theorem dX11_way_54 : decode cX11_way 54 = .ok (.iconst 3, 1) := by decide +kernel
theorem dX11_way_55 : decode cX11_way 55 = .ok (.iand, 1) := by decide +kernel
theorem dX11_way_56 : decode cX11_way 56 = .ok (.ireturn, 1) := by decide +kernel
set_option maxRecDepth 20000 in
theorem ggX11_place_X11_stripAt : GoodIn wsX11_place wsX11_stripAt := goodIn_r _ [7, 8, 9, 283, 284, 285, 286, 287, 288, 289, 290, 291, 292, 293, 294, 295] (by decide +kernel) (by decide +kernel)
set_option maxRecDepth 20000 in
theorem gX11_place_X11_stripAt : GoodIn wsX11_place (wsV RX11 137 RX11 yX11_stripAt wsX11_stripAt) := goodIn_app (goodIn_of _ (by decide +kernel)) ggX11_place_X11_stripAt
set_option maxRecDepth 20000 in
theorem ggX11_place_X11_refuse : GoodIn wsX11_place wsX11_refuse := goodIn_r _ [13, 14, 283, 284, 285, 286, 287, 288, 289, 290, 291, 292, 293, 294, 295] (by decide +kernel) (by decide +kernel)
set_option maxRecDepth 20000 in
theorem gX11_place_X11_refuse : GoodIn wsX11_place (wsV RX11 65 RX11 yX11_refuse wsX11_refuse) := goodIn_app (goodIn_of _ (by decide +kernel)) ggX11_place_X11_refuse
set_option maxRecDepth 20000 in
theorem ggX11_place_X8_sides : GoodIn wsX11_place wsX8_sides := goodIn_r _ [20, 21, 22, 23, 24, 19, 25, 26, 27, 28, 29, 30, 31, 32, 33, 34, 35, 36, 37, 38, 39, 40, 41, 42, 43, 44, 45, 46, 47, 48, 49, 50, 51, 52, 53, 54, 55, 56, 57, 58, 59, 60, 61, 62, 63, 64, 65, 66, 67, 68, 69, 70, 71, 72, 73, 74, 296, 297, 298, 299, 300, 301, 302, 303, 304, 305, 306, 307, 308, 309, 310, 311, 312, 313, 314, 315, 316, 317, 318, 319, 320, 321, 322, 323] (by decide +kernel) (by decide +kernel)
set_option maxRecDepth 20000 in
theorem gX11_place_X8_sides_u82X0 : GoodIn wsX11_place (va_wsU RX11 82 RX0 "FoldedInHalf$Strip" ⟨"FoldedInHalf$Strip", "sides", "()J"⟩ yX8_sides wsX8_sides) := goodIn_app (goodIn_of _ (by decide +kernel)) ggX11_place_X8_sides
set_option maxRecDepth 20000 in
theorem gX11_place_X8_sides_u82X1 : GoodIn wsX11_place (va_wsU RX11 82 RX1 "FoldedInHalf$Strip" ⟨"FoldedInHalf$Strip", "sides", "()J"⟩ yX8_sides wsX8_sides) := goodIn_app (goodIn_of _ (by decide +kernel)) ggX11_place_X8_sides
set_option maxRecDepth 20000 in
theorem gX11_place_X8_sides_u82X2 : GoodIn wsX11_place (va_wsU RX11 82 RX2 "FoldedInHalf$Strip" ⟨"FoldedInHalf$Strip", "sides", "()J"⟩ yX8_sides wsX8_sides) := goodIn_app (goodIn_of _ (by decide +kernel)) ggX11_place_X8_sides
set_option maxRecDepth 20000 in
theorem gX11_place_X8_sides_u82X4 : GoodIn wsX11_place (va_wsU RX11 82 RX4 "FoldedInHalf$Strip" ⟨"FoldedInHalf$Strip", "sides", "()J"⟩ yX8_sides wsX8_sides) := goodIn_app (goodIn_of _ (by decide +kernel)) ggX11_place_X8_sides
set_option maxRecDepth 20000 in
theorem gX11_place_X8_sides_u82X6 : GoodIn wsX11_place (va_wsU RX11 82 RX6 "FoldedInHalf$Strip" ⟨"FoldedInHalf$Strip", "sides", "()J"⟩ yX8_sides wsX8_sides) := goodIn_app (goodIn_of _ (by decide +kernel)) ggX11_place_X8_sides
set_option maxRecDepth 20000 in
theorem gX11_place_X8_sides : GoodIn wsX11_place (wsV RX11 82 RX8 yX8_sides wsX8_sides) := goodIn_app (goodIn_of _ (by decide +kernel)) ggX11_place_X8_sides
set_option maxRecDepth 20000 in
theorem gX11_place_X8_sides_u82X9 : GoodIn wsX11_place (va_wsU RX11 82 RX9 "FoldedInHalf$Strip" ⟨"FoldedInHalf$Strip", "sides", "()J"⟩ yX8_sides wsX8_sides) := goodIn_app (goodIn_of _ (by decide +kernel)) ggX11_place_X8_sides
set_option maxRecDepth 20000 in
theorem ggX11_place_X0_isOf : GoodIn wsX11_place wsX0_isOf := goodIn_r _ [88, 89, 90, 91, 92, 51, 93] (by decide +kernel) (by decide +kernel)
set_option maxRecDepth 20000 in
theorem gX11_place_X0_isOf_u145X0 : GoodIn wsX11_place (va_wsO RX11 145 RX0 "FoldedInHalf$Strip" ⟨"FoldedInHalf$Strip", "isOf", "(I)Z"⟩ yX0_isOf wsX0_isOf) := goodIn_app (goodIn_of _ (by decide +kernel)) ggX11_place_X0_isOf
set_option maxRecDepth 20000 in
theorem ggX11_place_X1_isOf : GoodIn wsX11_place wsX1_isOf := goodIn_r _ [93] (by decide +kernel) (by decide +kernel)
set_option maxRecDepth 20000 in
theorem gX11_place_X1_isOf_u145X1 : GoodIn wsX11_place (va_wsO RX11 145 RX1 "FoldedInHalf$Strip" ⟨"FoldedInHalf$Strip", "isOf", "(I)Z"⟩ yX1_isOf wsX1_isOf) := goodIn_app (goodIn_of _ (by decide +kernel)) ggX11_place_X1_isOf
set_option maxRecDepth 20000 in
theorem ggX11_place_X2_isOf : GoodIn wsX11_place wsX2_isOf := goodIn_r _ [99] (by decide +kernel) (by decide +kernel)
set_option maxRecDepth 20000 in
theorem gX11_place_X2_isOf_u145X2 : GoodIn wsX11_place (va_wsO RX11 145 RX2 "FoldedInHalf$Strip" ⟨"FoldedInHalf$Strip", "isOf", "(I)Z"⟩ yX2_isOf wsX2_isOf) := goodIn_app (goodIn_of _ (by decide +kernel)) ggX11_place_X2_isOf
set_option maxRecDepth 20000 in
theorem ggX11_place_X4_isOf : GoodIn wsX11_place wsX4_isOf := goodIn_r _ [103, 104, 105, 106, 97, 98, 99] (by decide +kernel) (by decide +kernel)
set_option maxRecDepth 20000 in
theorem gX11_place_X4_isOf_u145X4 : GoodIn wsX11_place (va_wsO RX11 145 RX4 "FoldedInHalf$Strip" ⟨"FoldedInHalf$Strip", "isOf", "(I)Z"⟩ yX4_isOf wsX4_isOf) := goodIn_app (goodIn_of _ (by decide +kernel)) ggX11_place_X4_isOf
set_option maxRecDepth 20000 in
theorem ggX11_place_X6_isOf : GoodIn wsX11_place wsX6_isOf := goodIn_r _ [110] (by decide +kernel) (by decide +kernel)
set_option maxRecDepth 20000 in
theorem gX11_place_X6_isOf_u145X6 : GoodIn wsX11_place (va_wsO RX11 145 RX6 "FoldedInHalf$Strip" ⟨"FoldedInHalf$Strip", "isOf", "(I)Z"⟩ yX6_isOf wsX6_isOf) := goodIn_app (goodIn_of _ (by decide +kernel)) ggX11_place_X6_isOf
set_option maxRecDepth 20000 in
theorem ggX11_place_X8_isOf : GoodIn wsX11_place wsX8_isOf := goodIn_r _ [94] (by decide +kernel) (by decide +kernel)
set_option maxRecDepth 20000 in
theorem gX11_place_X8_isOf : GoodIn wsX11_place (wsV RX11 145 RX8 yX8_isOf wsX8_isOf) := goodIn_app (goodIn_of _ (by decide +kernel)) ggX11_place_X8_isOf
set_option maxRecDepth 20000 in
theorem ggX11_place_X9_isOf : GoodIn wsX11_place wsX9_isOf := goodIn_r _ [116] (by decide +kernel) (by decide +kernel)
set_option maxRecDepth 20000 in
theorem gX11_place_X9_isOf_u145X9 : GoodIn wsX11_place (va_wsO RX11 145 RX9 "FoldedInHalf$Strip" ⟨"FoldedInHalf$Strip", "isOf", "(I)Z"⟩ yX9_isOf wsX9_isOf) := goodIn_app (goodIn_of _ (by decide +kernel)) ggX11_place_X9_isOf
set_option maxRecDepth 20000 in
theorem ggX11_place_X0_walkTo : GoodIn wsX11_place wsX0_walkTo := goodIn_r _ [122, 123, 124, 125, 29, 19, 30, 31, 126, 127, 128, 129, 130, 131, 132, 133, 21, 22, 23, 24, 25, 26, 27, 28, 32, 33, 34, 35, 36, 37, 38, 39, 40, 41, 42, 43, 44, 45, 46, 47, 48, 49, 50, 51, 52, 53, 54, 55, 56, 57, 58, 59, 60, 61, 62, 63, 64, 65, 66, 67, 68, 69, 70, 71, 72, 73, 74, 134, 135, 136, 137, 138, 139, 140, 141, 142, 143, 144, 145, 146, 147, 148, 149, 150, 151, 152, 153, 154, 155, 156, 157, 158, 159, 160, 161, 162, 163, 164, 165, 166, 98, 167, 168, 169, 170, 171, 172, 173, 174, 109, 175, 176, 177, 178, 179, 180, 181, 182, 183, 184, 185, 186, 187, 188, 189, 87, 190, 191, 192, 193, 194, 277, 278, 279, 280, 281, 282, 296, 297, 298, 299, 300, 301, 302, 303, 304, 305, 306, 307, 308, 309, 310, 311, 312, 313, 314, 315, 316, 317, 318, 319, 320, 321, 322, 323] (by decide +kernel) (by decide +kernel)
set_option maxRecDepth 20000 in
theorem gX11_place_X0_walkTo_u225X0 : GoodIn wsX11_place (va_wsO RX11 225 RX0 "FoldedInHalf$Strip" ⟨"FoldedInHalf$Strip", "walkTo", "(J)LFoldedInHalf$Walk;"⟩ yX0_walkTo wsX0_walkTo) := goodIn_app (goodIn_of _ (by decide +kernel)) ggX11_place_X0_walkTo
set_option maxRecDepth 20000 in
theorem ggX11_place_X1_walkTo : GoodIn wsX11_place wsX1_walkTo := goodIn_r _ [198, 199, 200, 201, 50, 51, 52, 53, 54, 55, 56, 57, 29, 19, 30, 31, 58, 202, 203, 204, 205, 206, 129, 130, 131, 132, 133, 21, 22, 23, 24, 25, 26, 27, 28, 32, 33, 34, 35, 36, 37, 38, 39, 40, 41, 42, 43, 44, 45, 46, 47, 48, 49, 59, 60, 61, 62, 63, 64, 65, 66, 67, 68, 69, 70, 71, 72, 73, 74, 134, 135, 136, 137, 138, 139, 140, 141, 142, 143, 144, 145, 146, 147, 148, 149, 150, 151, 152, 153, 154, 155, 156, 157, 158, 159, 160, 161, 162, 163, 164, 165, 166, 98, 167, 168, 169, 170, 171, 172, 173, 174, 109, 175, 176, 177, 178, 179, 180, 181, 182, 183, 184, 185, 186, 207, 191, 192, 193, 194, 296, 297, 298, 299, 300, 301, 302, 303, 304, 305, 306, 307, 308, 309, 310, 311, 312, 313, 314, 315, 316, 317, 318, 319, 320, 321, 322, 323, 277, 278, 279, 280, 281, 282] (by decide +kernel) (by decide +kernel)
set_option maxRecDepth 20000 in
theorem gX11_place_X1_walkTo_u225X1 : GoodIn wsX11_place (va_wsO RX11 225 RX1 "FoldedInHalf$Strip" ⟨"FoldedInHalf$Strip", "walkTo", "(J)LFoldedInHalf$Walk;"⟩ yX1_walkTo wsX1_walkTo) := goodIn_app (goodIn_of _ (by decide +kernel)) ggX11_place_X1_walkTo
set_option maxRecDepth 20000 in
theorem ggX11_place_X8_walkTo : GoodIn wsX11_place wsX8_walkTo := goodIn_r _ [195, 210, 211, 212, 129, 19, 130, 131, 132, 133, 31, 21, 22, 23, 24, 25, 26, 27, 28, 29, 30, 32, 33, 34, 35, 36, 37, 38, 39, 40, 41, 42, 43, 44, 45, 46, 47, 48, 49, 50, 51, 52, 53, 54, 55, 56, 57, 58, 59, 60, 61, 62, 63, 64, 65, 66, 67, 68, 69, 70, 71, 72, 73, 74, 134, 135, 136, 137, 138, 139, 140, 141, 142, 143, 144, 145, 146, 147, 148, 149, 150, 151, 152, 153, 154, 155, 156, 157, 158, 159, 160, 161, 162, 163, 164, 165, 166, 98, 167, 168, 169, 170, 171, 172, 173, 174, 109, 175, 176, 177, 178, 179, 180, 181, 182, 183, 184, 185, 186, 213, 214, 215, 216, 217, 218, 219, 277, 278, 279, 280, 281, 282, 296, 297, 298, 299, 300, 301, 302, 303, 304, 305, 306, 307, 308, 309, 310, 311, 312, 313, 314, 315, 316, 317, 318, 319, 320, 321, 322, 323] (by decide +kernel) (by decide +kernel)
set_option maxRecDepth 20000 in
theorem gX11_place_X8_walkTo_u225X2 : GoodIn wsX11_place (va_wsU RX11 225 RX2 "FoldedInHalf$Strip" ⟨"FoldedInHalf$Strip", "walkTo", "(J)LFoldedInHalf$Walk;"⟩ yX8_walkTo wsX8_walkTo) := goodIn_app (goodIn_of _ (by decide +kernel)) ggX11_place_X8_walkTo
set_option maxRecDepth 20000 in
theorem ggX11_place_X4_walkTo : GoodIn wsX11_place wsX4_walkTo := goodIn_r _ [222, 223, 132, 133, 224, 225, 226, 227, 24, 19, 25, 26, 27, 28, 29, 30, 31, 32, 33, 34, 35, 36, 37, 38, 39, 40, 41, 42, 43, 44, 45, 46, 47, 48, 49, 50, 51, 52, 53, 54, 55, 56, 57, 58, 59, 60, 61, 62, 63, 64, 65, 66, 67, 134, 135, 136, 137, 138, 139, 140, 141, 142, 143, 144, 228, 229, 230, 231, 184, 185, 186, 232, 233, 234, 235, 236, 87, 237, 238, 239, 240, 241, 242, 91, 243, 244, 199, 200, 201, 202, 203, 245, 246, 247, 248, 249, 145, 146, 147, 148, 149, 150, 151, 152, 153, 154, 155, 156, 157, 158, 159, 160, 161, 162, 163, 164, 165, 166, 98, 167, 168, 169, 170, 171, 172, 173, 174, 109, 175, 176, 177, 178, 179, 180, 250, 251, 252, 253, 102, 254, 255, 256, 257, 258, 259, 260, 261, 262, 263, 264, 277, 278, 279, 280, 281, 282, 296, 297, 298, 299, 300, 301, 302, 303, 304, 305, 306, 307, 308, 309, 310, 311, 312, 313, 314, 315, 316, 317, 318, 319, 320, 321, 322, 323] (by decide +kernel) (by decide +kernel)
set_option maxRecDepth 20000 in
theorem gX11_place_X4_walkTo_u225X4 : GoodIn wsX11_place (va_wsO RX11 225 RX4 "FoldedInHalf$Strip" ⟨"FoldedInHalf$Strip", "walkTo", "(J)LFoldedInHalf$Walk;"⟩ yX4_walkTo wsX4_walkTo) := goodIn_app (goodIn_of _ (by decide +kernel)) ggX11_place_X4_walkTo
set_option maxRecDepth 20000 in
theorem gX11_place_X8_walkTo_u225X6 : GoodIn wsX11_place (va_wsU RX11 225 RX6 "FoldedInHalf$Strip" ⟨"FoldedInHalf$Strip", "walkTo", "(J)LFoldedInHalf$Walk;"⟩ yX8_walkTo wsX8_walkTo) := goodIn_app (goodIn_of _ (by decide +kernel)) ggX11_place_X8_walkTo
set_option maxRecDepth 20000 in
theorem gX11_place_X8_walkTo : GoodIn wsX11_place (wsV RX11 225 RX8 yX8_walkTo wsX8_walkTo) := goodIn_app (goodIn_of _ (by decide +kernel)) ggX11_place_X8_walkTo
set_option maxRecDepth 20000 in
theorem ggX11_place_X9_walkTo : GoodIn wsX11_place wsX9_walkTo := goodIn_r _ [270, 271, 132, 133, 43, 44, 45, 272, 273, 274, 24, 19, 25, 26, 27, 28, 29, 30, 31, 32, 33, 34, 35, 36, 37, 38, 39, 40, 41, 42, 46, 47, 48, 49, 50, 51, 52, 53, 54, 55, 56, 57, 58, 59, 60, 61, 62, 63, 64, 65, 66, 67, 134, 135, 136, 137, 138, 139, 140, 141, 142, 143, 144, 275, 276, 262, 263, 264, 148, 149, 150, 151, 152, 153, 154, 155, 156, 157, 158, 159, 160, 161, 162, 181, 182, 183, 184, 185, 186, 277, 278, 279, 280, 281, 282, 296, 297, 298, 299, 300, 301, 302, 303, 304, 305, 306, 307, 308, 309, 310, 311, 312, 313, 314, 315, 316, 317, 318, 319, 320, 321, 322, 323] (by decide +kernel) (by decide +kernel)
set_option maxRecDepth 20000 in
theorem gX11_place_X9_walkTo_u225X9 : GoodIn wsX11_place (va_wsO RX11 225 RX9 "FoldedInHalf$Strip" ⟨"FoldedInHalf$Strip", "walkTo", "(J)LFoldedInHalf$Walk;"⟩ yX9_walkTo wsX9_walkTo) := goodIn_app (goodIn_of _ (by decide +kernel)) ggX11_place_X9_walkTo
theorem dX11_place_0 : decode cX11_place 0 = .ok (.aload_n 0, 1) := by decide +kernel
theorem dX11_place_1 : decode cX11_place 1 = .ok (.iload_n 1, 1) := by decide +kernel
theorem dX11_place_2 : decode cX11_place 2 = .ok (.invokevirtual 137, 3) := by decide +kernel
theorem dX11_place_5 : decode cX11_place 5 = .ok (.astore 5, 2) := by decide +kernel
theorem dX11_place_7 : decode cX11_place 7 = .ok (.aload 5, 2) := by decide +kernel
theorem dX11_place_9 : decode cX11_place 9 = .ok (.ifnonnull 14, 3) := by decide +kernel
theorem dX11_place_12 : decode cX11_place 12 = .ok (.ldc2_w 234, 3) := by decide +kernel
theorem dX11_place_15 : decode cX11_place 15 = .ok (.aload_n 0, 1) := by decide +kernel
theorem dX11_place_16 : decode cX11_place 16 = .ok (.iconst (-1), 1) := by decide +kernel
theorem dX11_place_17 : decode cX11_place 17 = .ok (.invokevirtual 65, 3) := by decide +kernel
theorem dX11_place_20 : decode cX11_place 20 = .ok (.i2l, 1) := by decide +kernel
theorem dX11_place_21 : decode cX11_place 21 = .ok (.ladd, 1) := by decide +kernel
theorem dX11_place_22 : decode cX11_place 22 = .ok (.lreturn, 1) := by decide +kernel
theorem dX11_place_23 : decode cX11_place 23 = .ok (.lload_n 2, 1) := by decide +kernel
theorem dX11_place_24 : decode cX11_place 24 = .ok (.lconst 0, 1) := by decide +kernel
theorem dX11_place_25 : decode cX11_place 25 = .ok (.lcmp, 1) := by decide +kernel
theorem dX11_place_26 : decode cX11_place 26 = .ok (.ifCond .lt 24, 3) := by decide +kernel
theorem dX11_place_29 : decode cX11_place 29 = .ok (.lload_n 2, 1) := by decide +kernel
theorem dX11_place_30 : decode cX11_place 30 = .ok (.aload 5, 2) := by decide +kernel
theorem dX11_place_32 : decode cX11_place 32 = .ok (.invokevirtual 82, 3) := by decide +kernel
theorem dX11_place_35 : decode cX11_place 35 = .ok (.lcmp, 1) := by decide +kernel
theorem dX11_place_36 : decode cX11_place 36 = .ok (.ifCond .gt 14, 3) := by decide +kernel
theorem dX11_place_39 : decode cX11_place 39 = .ok (.iload 4, 2) := by decide +kernel
theorem dX11_place_41 : decode cX11_place 41 = .ok (.ifCond .lt 9, 3) := by decide +kernel
theorem dX11_place_44 : decode cX11_place 44 = .ok (.iload 4, 2) := by decide +kernel
theorem dX11_place_46 : decode cX11_place 46 = .ok (.iconst 1, 1) := by decide +kernel
theorem dX11_place_47 : decode cX11_place 47 = .ok (.if_icmp .le 15, 3) := by decide +kernel
theorem dX11_place_50 : decode cX11_place 50 = .ok (.ldc2_w 234, 3) := by decide +kernel
theorem dX11_place_53 : decode cX11_place 53 = .ok (.aload_n 0, 1) := by decide +kernel
theorem dX11_place_54 : decode cX11_place 54 = .ok (.bipush (-5), 2) := by decide +kernel
theorem dX11_place_56 : decode cX11_place 56 = .ok (.invokevirtual 65, 3) := by decide +kernel
theorem dX11_place_59 : decode cX11_place 59 = .ok (.i2l, 1) := by decide +kernel
theorem dX11_place_60 : decode cX11_place 60 = .ok (.ladd, 1) := by decide +kernel
theorem dX11_place_61 : decode cX11_place 61 = .ok (.lreturn, 1) := by decide +kernel
theorem dX11_place_62 : decode cX11_place 62 = .ok (.aload 5, 2) := by decide +kernel
theorem dX11_place_64 : decode cX11_place 64 = .ok (.bipush 6, 2) := by decide +kernel
theorem dX11_place_66 : decode cX11_place 66 = .ok (.invokevirtual 145, 3) := by decide +kernel
theorem dX11_place_69 : decode cX11_place 69 = .ok (.ifCond .eq 23, 3) := by decide +kernel
theorem dX11_place_72 : decode cX11_place 72 = .ok (.lload_n 2, 1) := by decide +kernel
theorem dX11_place_73 : decode cX11_place 73 = .ok (.ldc2_w 236, 3) := by decide +kernel
theorem dX11_place_76 : decode cX11_place 76 = .ok (.lcmp, 1) := by decide +kernel
theorem dX11_place_77 : decode cX11_place 77 = .ok (.ifCond .le 15, 3) := by decide +kernel
theorem dX11_place_80 : decode cX11_place 80 = .ok (.ldc2_w 234, 3) := by decide +kernel
theorem dX11_place_83 : decode cX11_place 83 = .ok (.aload_n 0, 1) := by decide +kernel
theorem dX11_place_84 : decode cX11_place 84 = .ok (.bipush (-7), 2) := by decide +kernel
theorem dX11_place_86 : decode cX11_place 86 = .ok (.invokevirtual 65, 3) := by decide +kernel
theorem dX11_place_89 : decode cX11_place 89 = .ok (.i2l, 1) := by decide +kernel
theorem dX11_place_90 : decode cX11_place 90 = .ok (.ladd, 1) := by decide +kernel
theorem dX11_place_91 : decode cX11_place 91 = .ok (.lreturn, 1) := by decide +kernel
theorem dX11_place_92 : decode cX11_place 92 = .ok (.aload 5, 2) := by decide +kernel
theorem dX11_place_94 : decode cX11_place 94 = .ok (.lload_n 2, 1) := by decide +kernel
theorem dX11_place_95 : decode cX11_place 95 = .ok (.invokevirtual 225, 3) := by decide +kernel
theorem dX11_place_98 : decode cX11_place 98 = .ok (.astore 6, 2) := by decide +kernel
theorem dX11_place_100 : decode cX11_place 100 = .ok (.iload 4, 2) := by decide +kernel
theorem dX11_place_102 : decode cX11_place 102 = .ok (.ifCond .ne 11, 3) := by decide +kernel
theorem dX11_place_105 : decode cX11_place 105 = .ok (.aload 6, 2) := by decide +kernel
theorem dX11_place_107 : decode cX11_place 107 = .ok (.getfield 238, 3) := by decide +kernel
theorem dX11_place_110 : decode cX11_place 110 = .ok (.goto 8, 3) := by decide +kernel
theorem dX11_place_113 : decode cX11_place 113 = .ok (.aload 6, 2) := by decide +kernel
theorem dX11_place_115 : decode cX11_place 115 = .ok (.getfield 242, 3) := by decide +kernel
theorem dX11_place_118 : decode cX11_place 118 = .ok (.lreturn, 1) := by decide +kernel
set_option maxRecDepth 20000 in
theorem ggX11_forget_J7_fill_53178 : GoodIn wsX11_forget wsJ7_fill_53178 := goodIn_r _ [5] (by decide +kernel) (by decide +kernel)
set_option maxRecDepth 20000 in
theorem gX11_forget_J7_fill_53178 : GoodIn wsX11_forget (va_wsS RX11 245 yJ7_fill_53178 wsJ7_fill_53178) := goodIn_app (goodIn_of _ (by decide +kernel)) ggX11_forget_J7_fill_53178
theorem dX11_forget_0 : decode cX11_forget 0 = .ok (.aload_n 0, 1) := by decide +kernel
theorem dX11_forget_1 : decode cX11_forget 1 = .ok (.getfield 34, 3) := by decide +kernel
theorem dX11_forget_4 : decode cX11_forget 4 = .ok (.iconst 0, 1) := by decide +kernel
theorem dX11_forget_5 : decode cX11_forget 5 = .ok (.invokestatic 245, 3) := by decide +kernel
theorem dX11_forget_8 : decode cX11_forget 8 = .ok (.return_, 1) := by decide +kernel
theorem dX11_tally_0 : decode cX11_tally 0 = .ok (.iload_n 1, 1) := by decide +kernel
theorem dX11_tally_1 : decode cX11_tally 1 = .ok (.sipush 8192, 3) := by decide +kernel
theorem dX11_tally_4 : decode cX11_tally 4 = .ok (.iadd, 1) := by decide +kernel
theorem dX11_tally_5 : decode cX11_tally 5 = .ok (.bipush 14, 2) := by decide +kernel
theorem dX11_tally_7 : decode cX11_tally 7 = .ok (.ishl, 1) := by decide +kernel
theorem dX11_tally_8 : decode cX11_tally 8 = .ok (.iload_n 2, 1) := by decide +kernel
theorem dX11_tally_9 : decode cX11_tally 9 = .ok (.sipush 8192, 3) := by decide +kernel
theorem dX11_tally_12 : decode cX11_tally 12 = .ok (.iadd, 1) := by decide +kernel
theorem dX11_tally_13 : decode cX11_tally 13 = .ok (.ior, 1) := by decide +kernel
theorem dX11_tally_14 : decode cX11_tally 14 = .ok (.istore_n 3, 1) := by decide +kernel
theorem dX11_tally_15 : decode cX11_tally 15 = .ok (.iload_n 3, 1) := by decide +kernel
theorem dX11_tally_16 : decode cX11_tally 16 = .ok (.ldc 251, 2) := by decide +kernel
theorem dX11_tally_18 : decode cX11_tally 18 = .ok (.imul, 1) := by decide +kernel
theorem dX11_tally_19 : decode cX11_tally 19 = .ok (.bipush 19, 2) := by decide +kernel
theorem dX11_tally_21 : decode cX11_tally 21 = .ok (.iushr, 1) := by decide +kernel
theorem dX11_tally_22 : decode cX11_tally 22 = .ok (.sipush 8191, 3) := by decide +kernel
theorem dX11_tally_25 : decode cX11_tally 25 = .ok (.iand, 1) := by decide +kernel
theorem dX11_tally_26 : decode cX11_tally 26 = .ok (.istore 4, 2) := by decide +kernel
theorem dX11_tally_28 : decode cX11_tally 28 = .ok (.iconst 0, 1) := by decide +kernel
theorem dX11_tally_29 : decode cX11_tally 29 = .ok (.istore 5, 2) := by decide +kernel
theorem dX11_tally_31 : decode cX11_tally 31 = .ok (.iload 5, 2) := by decide +kernel
theorem dX11_tally_33 : decode cX11_tally 33 = .ok (.sipush 8192, 3) := by decide +kernel
theorem dX11_tally_36 : decode cX11_tally 36 = .ok (.if_icmp .ge 69, 3) := by decide +kernel
theorem dX11_tally_39 : decode cX11_tally 39 = .ok (.aload_n 0, 1) := by decide +kernel
theorem dX11_tally_40 : decode cX11_tally 40 = .ok (.getfield 34, 3) := by decide +kernel
theorem dX11_tally_43 : decode cX11_tally 43 = .ok (.iload 4, 2) := by decide +kernel
theorem dX11_tally_45 : decode cX11_tally 45 = .ok (.iaload, 1) := by decide +kernel
theorem dX11_tally_46 : decode cX11_tally 46 = .ok (.ifCond .ne 11, 3) := by decide +kernel
theorem dX11_tally_49 : decode cX11_tally 49 = .ok (.aload_n 0, 1) := by decide +kernel
theorem dX11_tally_50 : decode cX11_tally 50 = .ok (.getfield 31, 3) := by decide +kernel
theorem dX11_tally_53 : decode cX11_tally 53 = .ok (.iload 4, 2) := by decide +kernel
theorem dX11_tally_55 : decode cX11_tally 55 = .ok (.iload_n 3, 1) := by decide +kernel
theorem dX11_tally_56 : decode cX11_tally 56 = .ok (.iastore, 1) := by decide +kernel
theorem dX11_tally_57 : decode cX11_tally 57 = .ok (.aload_n 0, 1) := by decide +kernel
theorem dX11_tally_58 : decode cX11_tally 58 = .ok (.getfield 31, 3) := by decide +kernel
theorem dX11_tally_61 : decode cX11_tally 61 = .ok (.iload 4, 2) := by decide +kernel
theorem dX11_tally_63 : decode cX11_tally 63 = .ok (.iaload, 1) := by decide +kernel
theorem dX11_tally_64 : decode cX11_tally 64 = .ok (.iload_n 3, 1) := by decide +kernel
theorem dX11_tally_65 : decode cX11_tally 65 = .ok (.if_icmp .ne 24, 3) := by decide +kernel
theorem dX11_tally_68 : decode cX11_tally 68 = .ok (.aload_n 0, 1) := by decide +kernel
theorem dX11_tally_69 : decode cX11_tally 69 = .ok (.getfield 34, 3) := by decide +kernel
theorem dX11_tally_72 : decode cX11_tally 72 = .ok (.iload 4, 2) := by decide +kernel
theorem dX11_tally_74 : decode cX11_tally 74 = .ok (.dup2, 1) := by decide +kernel
theorem dX11_tally_75 : decode cX11_tally 75 = .ok (.iaload, 1) := by decide +kernel
theorem dX11_tally_76 : decode cX11_tally 76 = .ok (.iconst 1, 1) := by decide +kernel
theorem dX11_tally_77 : decode cX11_tally 77 = .ok (.iadd, 1) := by decide +kernel
theorem dX11_tally_78 : decode cX11_tally 78 = .ok (.iastore, 1) := by decide +kernel
theorem dX11_tally_79 : decode cX11_tally 79 = .ok (.aload_n 0, 1) := by decide +kernel
theorem dX11_tally_80 : decode cX11_tally 80 = .ok (.getfield 34, 3) := by decide +kernel
theorem dX11_tally_83 : decode cX11_tally 83 = .ok (.iload 4, 2) := by decide +kernel
theorem dX11_tally_85 : decode cX11_tally 85 = .ok (.iaload, 1) := by decide +kernel
theorem dX11_tally_86 : decode cX11_tally 86 = .ok (.iconst 1, 1) := by decide +kernel
theorem dX11_tally_87 : decode cX11_tally 87 = .ok (.isub, 1) := by decide +kernel
theorem dX11_tally_88 : decode cX11_tally 88 = .ok (.ireturn, 1) := by decide +kernel
theorem dX11_tally_89 : decode cX11_tally 89 = .ok (.iload 4, 2) := by decide +kernel
theorem dX11_tally_91 : decode cX11_tally 91 = .ok (.iconst 1, 1) := by decide +kernel
theorem dX11_tally_92 : decode cX11_tally 92 = .ok (.iadd, 1) := by decide +kernel
theorem dX11_tally_93 : decode cX11_tally 93 = .ok (.sipush 8191, 3) := by decide +kernel
theorem dX11_tally_96 : decode cX11_tally 96 = .ok (.iand, 1) := by decide +kernel
theorem dX11_tally_97 : decode cX11_tally 97 = .ok (.istore 4, 2) := by decide +kernel
theorem dX11_tally_99 : decode cX11_tally 99 = .ok (.iinc 5 1, 3) := by decide +kernel
theorem dX11_tally_102 : decode cX11_tally 102 = .ok (.goto (-71), 3) := by decide +kernel
theorem dX11_tally_105 : decode cX11_tally 105 = .ok (.iconst 0, 1) := by decide +kernel
theorem dX11_tally_106 : decode cX11_tally 106 = .ok (.ireturn, 1) := by decide +kernel
set_option maxRecDepth 20000 in
theorem ggX11_tallyPlace_X11_tally : GoodIn wsX11_tallyPlace wsX11_tally := goodIn_r _ [5, 6, 7, 8, 15, 16, 17, 18, 19, 20, 21, 22, 23, 24, 25, 26, 27] (by decide +kernel) (by decide +kernel)
set_option maxRecDepth 20000 in
theorem gX11_tallyPlace_X11_tally : GoodIn wsX11_tallyPlace (wsV RX11 252 RX11 yX11_tally wsX11_tally) := goodIn_app (goodIn_of _ (by decide +kernel)) ggX11_tallyPlace_X11_tally
theorem dX11_tallyPlace_0 : decode cX11_tallyPlace 0 = .ok (.aload_n 0, 1) := by decide +kernel
theorem dX11_tallyPlace_1 : decode cX11_tallyPlace 1 = .ok (.aload_n 1, 1) := by decide +kernel
theorem dX11_tallyPlace_2 : decode cX11_tallyPlace 2 = .ok (.getfield 238, 3) := by decide +kernel
theorem dX11_tallyPlace_5 : decode cX11_tallyPlace 5 = .ok (.l2i, 1) := by decide +kernel
theorem dX11_tallyPlace_6 : decode cX11_tallyPlace 6 = .ok (.aload_n 1, 1) := by decide +kernel
theorem dX11_tallyPlace_7 : decode cX11_tallyPlace 7 = .ok (.getfield 242, 3) := by decide +kernel
theorem dX11_tallyPlace_10 : decode cX11_tallyPlace 10 = .ok (.l2i, 1) := by decide +kernel
theorem dX11_tallyPlace_11 : decode cX11_tallyPlace 11 = .ok (.invokevirtual 252, 3) := by decide +kernel
theorem dX11_tallyPlace_14 : decode cX11_tallyPlace 14 = .ok (.ireturn, 1) := by decide +kernel
set_option maxRecDepth 20000 in
theorem ggX11_passed_X11_stripAt : GoodIn wsX11_passed wsX11_stripAt := goodIn_r _ [8, 9, 10, 194, 195, 196, 197, 198, 199, 200, 201, 202, 203, 204, 205, 206] (by decide +kernel) (by decide +kernel)
set_option maxRecDepth 20000 in
theorem gX11_passed_X11_stripAt : GoodIn wsX11_passed (wsV RX11 137 RX11 yX11_stripAt wsX11_stripAt) := goodIn_app (goodIn_of _ (by decide +kernel)) ggX11_passed_X11_stripAt
set_option maxRecDepth 20000 in
theorem ggX11_passed_X11_walkTrouble : GoodIn wsX11_passed wsX11_walkTrouble := goodIn_r _ [13, 14, 15, 16, 17, 18, 19, 20, 21, 22, 23, 24, 25, 26, 27, 28, 29, 30, 31, 32, 33, 34, 35, 36, 37, 38, 39, 40, 41, 42, 43, 44, 45, 46, 47, 48, 49, 50, 51, 52, 53, 54, 55, 56, 57, 58, 59, 60, 61, 62, 63, 64, 65, 66, 67, 68, 69, 70, 71, 72, 73, 74, 75, 76, 77, 78, 79, 80, 207, 208, 209, 210, 211, 212, 213, 214, 215, 216, 217, 218, 219, 220, 221, 222, 223, 224, 225, 226, 227, 228, 229, 230, 231, 232, 233, 234] (by decide +kernel) (by decide +kernel)
set_option maxRecDepth 20000 in
theorem gX11_passed_X11_walkTrouble : GoodIn wsX11_passed (va_wsS RX11 256 yX11_walkTrouble wsX11_walkTrouble) := goodIn_app (goodIn_of _ (by decide +kernel)) ggX11_passed_X11_walkTrouble
set_option maxRecDepth 20000 in
theorem ggX11_passed_X11_refuse : GoodIn wsX11_passed wsX11_refuse := goodIn_r _ [84, 85, 194, 195, 196, 197, 198, 199, 200, 201, 202, 203, 204, 205, 206] (by decide +kernel) (by decide +kernel)
set_option maxRecDepth 20000 in
theorem gX11_passed_X11_refuse : GoodIn wsX11_passed (wsV RX11 65 RX11 yX11_refuse wsX11_refuse) := goodIn_app (goodIn_of _ (by decide +kernel)) ggX11_passed_X11_refuse
set_option maxRecDepth 20000 in
theorem ggX11_passed_X8_corners : GoodIn wsX11_passed wsX8_corners := goodIn_r _ [24, 25, 26, 27, 28, 18, 29, 30, 31, 32, 33, 34, 35, 36, 37, 38, 39, 40, 41, 42, 43, 44, 45, 46, 47, 48, 49, 50, 51, 52, 53, 54, 55, 56, 57, 58, 59, 60, 61, 62, 63, 64, 65, 66, 207, 208, 209, 210, 211, 212, 213, 214, 215, 216, 217, 218, 219, 220, 221, 222, 223, 224, 225, 226, 227, 228, 229, 230, 231, 232, 233, 234] (by decide +kernel) (by decide +kernel)
set_option maxRecDepth 20000 in
theorem gX11_passed_X8_corners_u152X0 : GoodIn wsX11_passed (va_wsU RX11 152 RX0 "FoldedInHalf$Strip" ⟨"FoldedInHalf$Strip", "corners", "()J"⟩ yX8_corners wsX8_corners) := goodIn_app (goodIn_of _ (by decide +kernel)) ggX11_passed_X8_corners
set_option maxRecDepth 20000 in
theorem gX11_passed_X8_corners_u152X1 : GoodIn wsX11_passed (va_wsU RX11 152 RX1 "FoldedInHalf$Strip" ⟨"FoldedInHalf$Strip", "corners", "()J"⟩ yX8_corners wsX8_corners) := goodIn_app (goodIn_of _ (by decide +kernel)) ggX11_passed_X8_corners
set_option maxRecDepth 20000 in
theorem gX11_passed_X8_corners_u152X2 : GoodIn wsX11_passed (va_wsU RX11 152 RX2 "FoldedInHalf$Strip" ⟨"FoldedInHalf$Strip", "corners", "()J"⟩ yX8_corners wsX8_corners) := goodIn_app (goodIn_of _ (by decide +kernel)) ggX11_passed_X8_corners
set_option maxRecDepth 20000 in
theorem gX11_passed_X8_corners_u152X4 : GoodIn wsX11_passed (va_wsU RX11 152 RX4 "FoldedInHalf$Strip" ⟨"FoldedInHalf$Strip", "corners", "()J"⟩ yX8_corners wsX8_corners) := goodIn_app (goodIn_of _ (by decide +kernel)) ggX11_passed_X8_corners
set_option maxRecDepth 20000 in
theorem gX11_passed_X8_corners_u152X6 : GoodIn wsX11_passed (va_wsU RX11 152 RX6 "FoldedInHalf$Strip" ⟨"FoldedInHalf$Strip", "corners", "()J"⟩ yX8_corners wsX8_corners) := goodIn_app (goodIn_of _ (by decide +kernel)) ggX11_passed_X8_corners
set_option maxRecDepth 20000 in
theorem gX11_passed_X8_corners : GoodIn wsX11_passed (wsV RX11 152 RX8 yX8_corners wsX8_corners) := goodIn_app (goodIn_of _ (by decide +kernel)) ggX11_passed_X8_corners
set_option maxRecDepth 20000 in
theorem gX11_passed_X8_corners_u152X9 : GoodIn wsX11_passed (va_wsU RX11 152 RX9 "FoldedInHalf$Strip" ⟨"FoldedInHalf$Strip", "corners", "()J"⟩ yX8_corners wsX8_corners) := goodIn_app (goodIn_of _ (by decide +kernel)) ggX11_passed_X8_corners
set_option maxRecDepth 20000 in
theorem ggX11_passed_X10_init : GoodIn wsX11_passed wsX10_init := goodIn_r _ [89, 90, 91, 92, 93, 94, 95, 96, 97, 98, 188, 189, 190, 191, 192, 193] (by decide +kernel) (by decide +kernel)
set_option maxRecDepth 20000 in
theorem gX11_passed_X10_init_n260 : GoodIn wsX11_passed (wsX10_init) := ggX11_passed_X10_init
set_option maxRecDepth 20000 in
theorem ggX11_passed_X10_isAt : GoodIn wsX11_passed wsX10_isAt := goodIn_r _ [101, 94, 95, 188, 189, 190, 191, 192, 193] (by decide +kernel) (by decide +kernel)
set_option maxRecDepth 20000 in
theorem gX11_passed_X10_isAt_n263 : GoodIn wsX11_passed (wsX10_isAt) := ggX11_passed_X10_isAt
set_option maxRecDepth 20000 in
theorem ggX11_passed_X10_step : GoodIn wsX11_passed wsX10_step := goodIn_r _ [104, 93, 98, 96, 97, 105, 106, 107, 3, 108, 94, 95, 109, 110, 111, 112, 113, 114, 115, 116, 117, 118, 23, 18, 24, 25, 26, 27, 28, 29, 30, 31, 32, 33, 34, 35, 36, 37, 38, 39, 40, 41, 42, 43, 44, 45, 46, 47, 48, 49, 50, 51, 52, 53, 54, 55, 56, 57, 58, 59, 60, 61, 62, 63, 64, 65, 66, 119, 120, 121, 122, 123, 124, 125, 126, 127, 128, 129, 130, 131, 132, 133, 134, 135, 136, 137, 138, 139, 140, 141, 142, 143, 144, 145, 146, 147, 148, 149, 150, 151, 152, 153, 154, 155, 156, 157, 158, 159, 160, 161, 162, 163, 164, 165, 166, 167, 168, 169, 170, 171, 172, 173, 174, 175, 176, 177, 178, 179, 180, 181, 182, 183, 184, 185, 186, 187, 188, 189, 190, 191, 192, 193, 207, 208, 209, 210, 211, 212, 213, 214, 215, 216, 217, 218, 219, 220, 221, 222, 223, 224, 225, 226, 227, 228, 229, 230, 231, 232, 233, 234] (by decide +kernel) (by decide +kernel)
set_option maxRecDepth 20000 in
theorem gX11_passed_X10_step_n266 : GoodIn wsX11_passed (wsX10_step) := ggX11_passed_X10_step
theorem dX11_passed_0 : decode cX11_passed 0 = .ok (.aload_n 0, 1) := by decide +kernel
theorem dX11_passed_1 : decode cX11_passed 1 = .ok (.iload_n 1, 1) := by decide +kernel
theorem dX11_passed_2 : decode cX11_passed 2 = .ok (.invokevirtual 137, 3) := by decide +kernel
theorem dX11_passed_5 : decode cX11_passed 5 = .ok (.astore 5, 2) := by decide +kernel
theorem dX11_passed_7 : decode cX11_passed 7 = .ok (.aload 5, 2) := by decide +kernel
theorem dX11_passed_9 : decode cX11_passed 9 = .ok (.iload_n 2, 1) := by decide +kernel
theorem dX11_passed_10 : decode cX11_passed 10 = .ok (.sipush 4000, 3) := by decide +kernel
theorem dX11_passed_13 : decode cX11_passed 13 = .ok (.invokestatic 256, 3) := by decide +kernel
theorem dX11_passed_16 : decode cX11_passed 16 = .ok (.istore 6, 2) := by decide +kernel
theorem dX11_passed_18 : decode cX11_passed 18 = .ok (.iload 6, 2) := by decide +kernel
theorem dX11_passed_20 : decode cX11_passed 20 = .ok (.ifCond .ne 8, 3) := by decide +kernel
theorem dX11_passed_23 : decode cX11_passed 23 = .ok (.aload 5, 2) := by decide +kernel
theorem dX11_passed_25 : decode cX11_passed 25 = .ok (.ifnonnull 10, 3) := by decide +kernel
theorem dX11_passed_28 : decode cX11_passed 28 = .ok (.aload_n 0, 1) := by decide +kernel
theorem dX11_passed_29 : decode cX11_passed 29 = .ok (.iload 6, 2) := by decide +kernel
theorem dX11_passed_31 : decode cX11_passed 31 = .ok (.invokevirtual 65, 3) := by decide +kernel
theorem dX11_passed_34 : decode cX11_passed 34 = .ok (.ireturn, 1) := by decide +kernel
theorem dX11_passed_35 : decode cX11_passed 35 = .ok (.new 230, 3) := by decide +kernel
theorem dX11_passed_38 : decode cX11_passed 38 = .ok (.dup, 1) := by decide +kernel
theorem dX11_passed_39 : decode cX11_passed 39 = .ok (.aload 5, 2) := by decide +kernel
theorem dX11_passed_41 : decode cX11_passed 41 = .ok (.aload 5, 2) := by decide +kernel
theorem dX11_passed_43 : decode cX11_passed 43 = .ok (.invokevirtual 152, 3) := by decide +kernel
theorem dX11_passed_46 : decode cX11_passed 46 = .ok (.invokespecial 260, 3) := by decide +kernel
theorem dX11_passed_49 : decode cX11_passed 49 = .ok (.astore 7, 2) := by decide +kernel
theorem dX11_passed_51 : decode cX11_passed 51 = .ok (.iconst 0, 1) := by decide +kernel
theorem dX11_passed_52 : decode cX11_passed 52 = .ok (.istore 8, 2) := by decide +kernel
theorem dX11_passed_54 : decode cX11_passed 54 = .ok (.iconst 0, 1) := by decide +kernel
theorem dX11_passed_55 : decode cX11_passed 55 = .ok (.istore 9, 2) := by decide +kernel
theorem dX11_passed_57 : decode cX11_passed 57 = .ok (.iload 9, 2) := by decide +kernel
theorem dX11_passed_59 : decode cX11_passed 59 = .ok (.iload_n 2, 1) := by decide +kernel
theorem dX11_passed_60 : decode cX11_passed 60 = .ok (.if_icmp .gt 28, 3) := by decide +kernel
theorem dX11_passed_63 : decode cX11_passed 63 = .ok (.aload 7, 2) := by decide +kernel
theorem dX11_passed_65 : decode cX11_passed 65 = .ok (.iload_n 3, 1) := by decide +kernel
theorem dX11_passed_66 : decode cX11_passed 66 = .ok (.iload 4, 2) := by decide +kernel
theorem dX11_passed_68 : decode cX11_passed 68 = .ok (.invokevirtual 263, 3) := by decide +kernel
theorem dX11_passed_71 : decode cX11_passed 71 = .ok (.ifCond .eq 6, 3) := by decide +kernel
theorem dX11_passed_74 : decode cX11_passed 74 = .ok (.iinc 8 1, 3) := by decide +kernel
theorem dX11_passed_77 : decode cX11_passed 77 = .ok (.aload 7, 2) := by decide +kernel
theorem dX11_passed_79 : decode cX11_passed 79 = .ok (.invokevirtual 266, 3) := by decide +kernel
theorem dX11_passed_82 : decode cX11_passed 82 = .ok (.iinc 9 1, 3) := by decide +kernel
theorem dX11_passed_85 : decode cX11_passed 85 = .ok (.goto (-28), 3) := by decide +kernel
theorem dX11_passed_88 : decode cX11_passed 88 = .ok (.iload 8, 2) := by decide +kernel
theorem dX11_passed_90 : decode cX11_passed 90 = .ok (.ireturn, 1) := by decide +kernel
set_option maxRecDepth 20000 in
theorem ggX11_most_X11_stripAt : GoodIn wsX11_most wsX11_stripAt := goodIn_r _ [12, 13, 14, 214, 215, 216, 217, 218, 219, 220, 221, 222, 223, 224, 225, 226] (by decide +kernel) (by decide +kernel)
set_option maxRecDepth 20000 in
theorem gX11_most_X11_stripAt : GoodIn wsX11_most (wsV RX11 137 RX11 yX11_stripAt wsX11_stripAt) := goodIn_app (goodIn_of _ (by decide +kernel)) ggX11_most_X11_stripAt
set_option maxRecDepth 20000 in
theorem ggX11_most_X11_walkTrouble : GoodIn wsX11_most wsX11_walkTrouble := goodIn_r _ [17, 18, 19, 20, 21, 22, 23, 24, 25, 26, 27, 28, 29, 30, 31, 32, 33, 34, 35, 36, 37, 38, 39, 40, 41, 42, 43, 44, 45, 46, 47, 48, 49, 50, 51, 52, 53, 54, 55, 56, 57, 58, 59, 60, 61, 62, 63, 64, 65, 66, 67, 68, 69, 70, 71, 72, 73, 74, 75, 76, 77, 78, 79, 80, 81, 82, 83, 84, 227, 228, 229, 230, 231, 232, 233, 234, 235, 236, 237, 238, 239, 240, 241, 242, 243, 244, 245, 246, 247, 248, 249, 250, 251, 252, 253, 254] (by decide +kernel) (by decide +kernel)
set_option maxRecDepth 20000 in
theorem gX11_most_X11_walkTrouble : GoodIn wsX11_most (va_wsS RX11 256 yX11_walkTrouble wsX11_walkTrouble) := goodIn_app (goodIn_of _ (by decide +kernel)) ggX11_most_X11_walkTrouble
set_option maxRecDepth 20000 in
theorem ggX11_most_X11_refuse : GoodIn wsX11_most wsX11_refuse := goodIn_r _ [88, 89, 214, 215, 216, 217, 218, 219, 220, 221, 222, 223, 224, 225, 226] (by decide +kernel) (by decide +kernel)
set_option maxRecDepth 20000 in
theorem gX11_most_X11_refuse : GoodIn wsX11_most (wsV RX11 65 RX11 yX11_refuse wsX11_refuse) := goodIn_app (goodIn_of _ (by decide +kernel)) ggX11_most_X11_refuse
set_option maxRecDepth 20000 in
theorem ggX11_most_X11_forget : GoodIn wsX11_most wsX11_forget := goodIn_r _ [93, 94, 95, 96, 97, 98, 214, 215, 216, 217, 218, 219, 220, 221, 222, 223, 224, 225, 226] (by decide +kernel) (by decide +kernel)
set_option maxRecDepth 20000 in
theorem gX11_most_X11_forget : GoodIn wsX11_most (wsV RX11 269 RX11 yX11_forget wsX11_forget) := goodIn_app (goodIn_of _ (by decide +kernel)) ggX11_most_X11_forget
set_option maxRecDepth 20000 in
theorem ggX11_most_X8_corners : GoodIn wsX11_most wsX8_corners := goodIn_r _ [28, 29, 30, 31, 32, 22, 33, 34, 35, 36, 37, 38, 39, 40, 41, 42, 43, 44, 45, 46, 47, 48, 49, 50, 51, 52, 53, 54, 55, 56, 57, 58, 59, 60, 61, 62, 63, 64, 65, 66, 67, 68, 69, 70, 227, 228, 229, 230, 231, 232, 233, 234, 235, 236, 237, 238, 239, 240, 241, 242, 243, 244, 245, 246, 247, 248, 249, 250, 251, 252, 253, 254] (by decide +kernel) (by decide +kernel)
set_option maxRecDepth 20000 in
theorem gX11_most_X8_corners_u152X0 : GoodIn wsX11_most (va_wsU RX11 152 RX0 "FoldedInHalf$Strip" ⟨"FoldedInHalf$Strip", "corners", "()J"⟩ yX8_corners wsX8_corners) := goodIn_app (goodIn_of _ (by decide +kernel)) ggX11_most_X8_corners
set_option maxRecDepth 20000 in
theorem gX11_most_X8_corners_u152X1 : GoodIn wsX11_most (va_wsU RX11 152 RX1 "FoldedInHalf$Strip" ⟨"FoldedInHalf$Strip", "corners", "()J"⟩ yX8_corners wsX8_corners) := goodIn_app (goodIn_of _ (by decide +kernel)) ggX11_most_X8_corners
set_option maxRecDepth 20000 in
theorem gX11_most_X8_corners_u152X2 : GoodIn wsX11_most (va_wsU RX11 152 RX2 "FoldedInHalf$Strip" ⟨"FoldedInHalf$Strip", "corners", "()J"⟩ yX8_corners wsX8_corners) := goodIn_app (goodIn_of _ (by decide +kernel)) ggX11_most_X8_corners
set_option maxRecDepth 20000 in
theorem gX11_most_X8_corners_u152X4 : GoodIn wsX11_most (va_wsU RX11 152 RX4 "FoldedInHalf$Strip" ⟨"FoldedInHalf$Strip", "corners", "()J"⟩ yX8_corners wsX8_corners) := goodIn_app (goodIn_of _ (by decide +kernel)) ggX11_most_X8_corners
set_option maxRecDepth 20000 in
theorem gX11_most_X8_corners_u152X6 : GoodIn wsX11_most (va_wsU RX11 152 RX6 "FoldedInHalf$Strip" ⟨"FoldedInHalf$Strip", "corners", "()J"⟩ yX8_corners wsX8_corners) := goodIn_app (goodIn_of _ (by decide +kernel)) ggX11_most_X8_corners
set_option maxRecDepth 20000 in
theorem gX11_most_X8_corners : GoodIn wsX11_most (wsV RX11 152 RX8 yX8_corners wsX8_corners) := goodIn_app (goodIn_of _ (by decide +kernel)) ggX11_most_X8_corners
set_option maxRecDepth 20000 in
theorem gX11_most_X8_corners_u152X9 : GoodIn wsX11_most (va_wsU RX11 152 RX9 "FoldedInHalf$Strip" ⟨"FoldedInHalf$Strip", "corners", "()J"⟩ yX8_corners wsX8_corners) := goodIn_app (goodIn_of _ (by decide +kernel)) ggX11_most_X8_corners
set_option maxRecDepth 20000 in
theorem ggX11_most_X10_init : GoodIn wsX11_most wsX10_init := goodIn_r _ [102, 103, 104, 105, 106, 107, 108, 109, 110, 111, 208, 209, 210, 211, 212, 213] (by decide +kernel) (by decide +kernel)
set_option maxRecDepth 20000 in
theorem gX11_most_X10_init_n260 : GoodIn wsX11_most (wsX10_init) := ggX11_most_X10_init
set_option maxRecDepth 20000 in
theorem ggX11_most_X11_tallyPlace : GoodIn wsX11_most wsX11_tallyPlace := goodIn_r _ [115, 116, 117, 118, 11, 119, 120, 94, 121, 208, 209, 210, 211, 212, 213, 214, 215, 216, 217, 218, 219, 220, 221, 222, 223, 224, 225, 226] (by decide +kernel) (by decide +kernel)
set_option maxRecDepth 20000 in
theorem gX11_most_X11_tallyPlace : GoodIn wsX11_most (wsV RX11 272 RX11 yX11_tallyPlace wsX11_tallyPlace) := goodIn_app (goodIn_of _ (by decide +kernel)) ggX11_most_X11_tallyPlace
set_option maxRecDepth 20000 in
theorem ggX11_most_X10_step : GoodIn wsX11_most wsX10_step := goodIn_r _ [124, 106, 111, 109, 110, 125, 126, 127, 3, 128, 107, 108, 129, 130, 131, 132, 133, 134, 135, 136, 137, 138, 27, 22, 28, 29, 30, 31, 32, 33, 34, 35, 36, 37, 38, 39, 40, 41, 42, 43, 44, 45, 46, 47, 48, 49, 50, 51, 52, 53, 54, 55, 56, 57, 58, 59, 60, 61, 62, 63, 64, 65, 66, 67, 68, 69, 70, 139, 140, 141, 142, 143, 144, 145, 146, 147, 148, 149, 150, 151, 152, 153, 154, 155, 156, 157, 158, 159, 160, 161, 162, 163, 164, 165, 166, 167, 168, 169, 170, 171, 172, 173, 174, 175, 176, 177, 178, 179, 180, 181, 182, 183, 184, 185, 186, 187, 188, 189, 190, 191, 192, 193, 194, 195, 196, 197, 198, 199, 200, 201, 202, 203, 204, 205, 206, 207, 208, 209, 210, 211, 212, 213, 227, 228, 229, 230, 231, 232, 233, 234, 235, 236, 237, 238, 239, 240, 241, 242, 243, 244, 245, 246, 247, 248, 249, 250, 251, 252, 253, 254] (by decide +kernel) (by decide +kernel)
set_option maxRecDepth 20000 in
theorem gX11_most_X10_step_n266 : GoodIn wsX11_most (wsX10_step) := ggX11_most_X10_step
theorem dX11_most_0 : decode cX11_most 0 = .ok (.aload_n 0, 1) := by decide +kernel
theorem dX11_most_1 : decode cX11_most 1 = .ok (.iload_n 1, 1) := by decide +kernel
theorem dX11_most_2 : decode cX11_most 2 = .ok (.invokevirtual 137, 3) := by decide +kernel
theorem dX11_most_5 : decode cX11_most 5 = .ok (.astore_n 3, 1) := by decide +kernel
theorem dX11_most_6 : decode cX11_most 6 = .ok (.aload_n 3, 1) := by decide +kernel
theorem dX11_most_7 : decode cX11_most 7 = .ok (.iload_n 2, 1) := by decide +kernel
theorem dX11_most_8 : decode cX11_most 8 = .ok (.sipush 4000, 3) := by decide +kernel
theorem dX11_most_11 : decode cX11_most 11 = .ok (.invokestatic 256, 3) := by decide +kernel
theorem dX11_most_14 : decode cX11_most 14 = .ok (.istore 4, 2) := by decide +kernel
theorem dX11_most_16 : decode cX11_most 16 = .ok (.iload 4, 2) := by decide +kernel
theorem dX11_most_18 : decode cX11_most 18 = .ok (.ifCond .ne 7, 3) := by decide +kernel
theorem dX11_most_21 : decode cX11_most 21 = .ok (.aload_n 3, 1) := by decide +kernel
theorem dX11_most_22 : decode cX11_most 22 = .ok (.ifnonnull 10, 3) := by decide +kernel
theorem dX11_most_25 : decode cX11_most 25 = .ok (.aload_n 0, 1) := by decide +kernel
theorem dX11_most_26 : decode cX11_most 26 = .ok (.iload 4, 2) := by decide +kernel
theorem dX11_most_28 : decode cX11_most 28 = .ok (.invokevirtual 65, 3) := by decide +kernel
theorem dX11_most_31 : decode cX11_most 31 = .ok (.ireturn, 1) := by decide +kernel
theorem dX11_most_32 : decode cX11_most 32 = .ok (.aload_n 0, 1) := by decide +kernel
theorem dX11_most_33 : decode cX11_most 33 = .ok (.invokevirtual 269, 3) := by decide +kernel
theorem dX11_most_36 : decode cX11_most 36 = .ok (.new 230, 3) := by decide +kernel
theorem dX11_most_39 : decode cX11_most 39 = .ok (.dup, 1) := by decide +kernel
theorem dX11_most_40 : decode cX11_most 40 = .ok (.aload_n 3, 1) := by decide +kernel
theorem dX11_most_41 : decode cX11_most 41 = .ok (.aload_n 3, 1) := by decide +kernel
theorem dX11_most_42 : decode cX11_most 42 = .ok (.invokevirtual 152, 3) := by decide +kernel
theorem dX11_most_45 : decode cX11_most 45 = .ok (.invokespecial 260, 3) := by decide +kernel
theorem dX11_most_48 : decode cX11_most 48 = .ok (.astore 5, 2) := by decide +kernel
theorem dX11_most_50 : decode cX11_most 50 = .ok (.iconst 0, 1) := by decide +kernel
theorem dX11_most_51 : decode cX11_most 51 = .ok (.istore 6, 2) := by decide +kernel
theorem dX11_most_53 : decode cX11_most 53 = .ok (.iconst 0, 1) := by decide +kernel
theorem dX11_most_54 : decode cX11_most 54 = .ok (.istore 7, 2) := by decide +kernel
theorem dX11_most_56 : decode cX11_most 56 = .ok (.iload 7, 2) := by decide +kernel
theorem dX11_most_58 : decode cX11_most 58 = .ok (.iload_n 2, 1) := by decide +kernel
theorem dX11_most_59 : decode cX11_most 59 = .ok (.if_icmp .gt 29, 3) := by decide +kernel
theorem dX11_most_62 : decode cX11_most 62 = .ok (.iload 6, 2) := by decide +kernel
theorem dX11_most_64 : decode cX11_most 64 = .ok (.aload_n 0, 1) := by decide +kernel
theorem dX11_most_65 : decode cX11_most 65 = .ok (.aload 5, 2) := by decide +kernel
theorem dX11_most_67 : decode cX11_most 67 = .ok (.invokevirtual 272, 3) := by decide +kernel
theorem dX11_most_70 : decode cX11_most 70 = .ok (.iconst 1, 1) := by decide +kernel
theorem dX11_most_71 : decode cX11_most 71 = .ok (.iadd, 1) := by decide +kernel
theorem dX11_most_72 : decode cX11_most 72 = .ok (.invokestatic 276, 3) := by decide +kernel
theorem dX11_most_75 : decode cX11_most 75 = .ok (.istore 6, 2) := by decide +kernel
theorem dX11_most_77 : decode cX11_most 77 = .ok (.aload 5, 2) := by decide +kernel
theorem dX11_most_79 : decode cX11_most 79 = .ok (.invokevirtual 266, 3) := by decide +kernel
theorem dX11_most_82 : decode cX11_most 82 = .ok (.iinc 7 1, 3) := by decide +kernel
theorem dX11_most_85 : decode cX11_most 85 = .ok (.goto (-29), 3) := by decide +kernel
theorem dX11_most_88 : decode cX11_most 88 = .ok (.iload 6, 2) := by decide +kernel
theorem dX11_most_90 : decode cX11_most 90 = .ok (.ireturn, 1) := by decide +kernel
set_option maxRecDepth 20000 in
theorem ggX11_twice_X11_stripAt : GoodIn wsX11_twice wsX11_stripAt := goodIn_r _ [8, 9, 10, 213, 214, 215, 216, 217, 218, 219, 220, 221, 222, 223, 224, 225] (by decide +kernel) (by decide +kernel)
set_option maxRecDepth 20000 in
theorem gX11_twice_X11_stripAt : GoodIn wsX11_twice (wsV RX11 137 RX11 yX11_stripAt wsX11_stripAt) := goodIn_app (goodIn_of _ (by decide +kernel)) ggX11_twice_X11_stripAt
set_option maxRecDepth 20000 in
theorem ggX11_twice_X11_walkTrouble : GoodIn wsX11_twice wsX11_walkTrouble := goodIn_r _ [13, 14, 15, 16, 17, 18, 19, 20, 21, 22, 23, 24, 25, 26, 27, 28, 29, 30, 31, 32, 33, 34, 35, 36, 37, 38, 39, 40, 41, 42, 43, 44, 45, 46, 47, 48, 49, 50, 51, 52, 53, 54, 55, 56, 57, 58, 59, 60, 61, 62, 63, 64, 65, 66, 67, 68, 69, 70, 71, 72, 73, 74, 75, 76, 77, 78, 79, 80, 226, 227, 228, 229, 230, 231, 232, 233, 234, 235, 236, 237, 238, 239, 240, 241, 242, 243, 244, 245, 246, 247, 248, 249, 250, 251, 252, 253] (by decide +kernel) (by decide +kernel)
set_option maxRecDepth 20000 in
theorem gX11_twice_X11_walkTrouble : GoodIn wsX11_twice (va_wsS RX11 256 yX11_walkTrouble wsX11_walkTrouble) := goodIn_app (goodIn_of _ (by decide +kernel)) ggX11_twice_X11_walkTrouble
set_option maxRecDepth 20000 in
theorem ggX11_twice_X11_refuse : GoodIn wsX11_twice wsX11_refuse := goodIn_r _ [84, 85, 213, 214, 215, 216, 217, 218, 219, 220, 221, 222, 223, 224, 225] (by decide +kernel) (by decide +kernel)
set_option maxRecDepth 20000 in
theorem gX11_twice_X11_refuse : GoodIn wsX11_twice (wsV RX11 65 RX11 yX11_refuse wsX11_refuse) := goodIn_app (goodIn_of _ (by decide +kernel)) ggX11_twice_X11_refuse
set_option maxRecDepth 20000 in
theorem ggX11_twice_X11_forget : GoodIn wsX11_twice wsX11_forget := goodIn_r _ [89, 90, 91, 92, 93, 94, 213, 214, 215, 216, 217, 218, 219, 220, 221, 222, 223, 224, 225] (by decide +kernel) (by decide +kernel)
set_option maxRecDepth 20000 in
theorem gX11_twice_X11_forget : GoodIn wsX11_twice (wsV RX11 269 RX11 yX11_forget wsX11_forget) := goodIn_app (goodIn_of _ (by decide +kernel)) ggX11_twice_X11_forget
set_option maxRecDepth 20000 in
theorem ggX11_twice_X8_corners : GoodIn wsX11_twice wsX8_corners := goodIn_r _ [24, 25, 26, 27, 28, 18, 29, 30, 31, 32, 33, 34, 35, 36, 37, 38, 39, 40, 41, 42, 43, 44, 45, 46, 47, 48, 49, 50, 51, 52, 53, 54, 55, 56, 57, 58, 59, 60, 61, 62, 63, 64, 65, 66, 226, 227, 228, 229, 230, 231, 232, 233, 234, 235, 236, 237, 238, 239, 240, 241, 242, 243, 244, 245, 246, 247, 248, 249, 250, 251, 252, 253] (by decide +kernel) (by decide +kernel)
set_option maxRecDepth 20000 in
theorem gX11_twice_X8_corners_u152X0 : GoodIn wsX11_twice (va_wsU RX11 152 RX0 "FoldedInHalf$Strip" ⟨"FoldedInHalf$Strip", "corners", "()J"⟩ yX8_corners wsX8_corners) := goodIn_app (goodIn_of _ (by decide +kernel)) ggX11_twice_X8_corners
set_option maxRecDepth 20000 in
theorem gX11_twice_X8_corners_u152X1 : GoodIn wsX11_twice (va_wsU RX11 152 RX1 "FoldedInHalf$Strip" ⟨"FoldedInHalf$Strip", "corners", "()J"⟩ yX8_corners wsX8_corners) := goodIn_app (goodIn_of _ (by decide +kernel)) ggX11_twice_X8_corners
set_option maxRecDepth 20000 in
theorem gX11_twice_X8_corners_u152X2 : GoodIn wsX11_twice (va_wsU RX11 152 RX2 "FoldedInHalf$Strip" ⟨"FoldedInHalf$Strip", "corners", "()J"⟩ yX8_corners wsX8_corners) := goodIn_app (goodIn_of _ (by decide +kernel)) ggX11_twice_X8_corners
set_option maxRecDepth 20000 in
theorem gX11_twice_X8_corners_u152X4 : GoodIn wsX11_twice (va_wsU RX11 152 RX4 "FoldedInHalf$Strip" ⟨"FoldedInHalf$Strip", "corners", "()J"⟩ yX8_corners wsX8_corners) := goodIn_app (goodIn_of _ (by decide +kernel)) ggX11_twice_X8_corners
set_option maxRecDepth 20000 in
theorem gX11_twice_X8_corners_u152X6 : GoodIn wsX11_twice (va_wsU RX11 152 RX6 "FoldedInHalf$Strip" ⟨"FoldedInHalf$Strip", "corners", "()J"⟩ yX8_corners wsX8_corners) := goodIn_app (goodIn_of _ (by decide +kernel)) ggX11_twice_X8_corners
set_option maxRecDepth 20000 in
theorem gX11_twice_X8_corners : GoodIn wsX11_twice (wsV RX11 152 RX8 yX8_corners wsX8_corners) := goodIn_app (goodIn_of _ (by decide +kernel)) ggX11_twice_X8_corners
set_option maxRecDepth 20000 in
theorem gX11_twice_X8_corners_u152X9 : GoodIn wsX11_twice (va_wsU RX11 152 RX9 "FoldedInHalf$Strip" ⟨"FoldedInHalf$Strip", "corners", "()J"⟩ yX8_corners wsX8_corners) := goodIn_app (goodIn_of _ (by decide +kernel)) ggX11_twice_X8_corners
set_option maxRecDepth 20000 in
theorem ggX11_twice_X10_init : GoodIn wsX11_twice wsX10_init := goodIn_r _ [98, 99, 100, 101, 102, 103, 104, 105, 106, 107, 207, 208, 209, 210, 211, 212] (by decide +kernel) (by decide +kernel)
set_option maxRecDepth 20000 in
theorem gX11_twice_X10_init_n260 : GoodIn wsX11_twice (wsX10_init) := ggX11_twice_X10_init
set_option maxRecDepth 20000 in
theorem ggX11_twice_X10_middleX : GoodIn wsX11_twice wsX10_middleX := goodIn_r _ [110, 111, 103, 105, 207, 208, 209, 210, 211, 212] (by decide +kernel) (by decide +kernel)
set_option maxRecDepth 20000 in
theorem gX11_twice_X10_middleX_n281 : GoodIn wsX11_twice (wsX10_middleX) := ggX11_twice_X10_middleX
set_option maxRecDepth 20000 in
theorem ggX11_twice_X10_middleY : GoodIn wsX11_twice wsX10_middleY := goodIn_r _ [114, 111, 104, 105, 207, 208, 209, 210, 211, 212] (by decide +kernel) (by decide +kernel)
set_option maxRecDepth 20000 in
theorem gX11_twice_X10_middleY_n284 : GoodIn wsX11_twice (wsX10_middleY) := ggX11_twice_X10_middleY
set_option maxRecDepth 20000 in
theorem ggX11_twice_X11_tally : GoodIn wsX11_twice wsX11_tally := goodIn_r _ [118, 119, 90, 120, 213, 214, 215, 216, 217, 218, 219, 220, 221, 222, 223, 224, 225] (by decide +kernel) (by decide +kernel)
set_option maxRecDepth 20000 in
theorem gX11_twice_X11_tally : GoodIn wsX11_twice (wsV RX11 252 RX11 yX11_tally wsX11_tally) := goodIn_app (goodIn_of _ (by decide +kernel)) ggX11_twice_X11_tally
set_option maxRecDepth 20000 in
theorem ggX11_twice_X10_step : GoodIn wsX11_twice wsX10_step := goodIn_r _ [123, 102, 107, 105, 106, 124, 125, 126, 3, 127, 103, 104, 128, 129, 130, 131, 132, 133, 134, 135, 136, 137, 23, 18, 24, 25, 26, 27, 28, 29, 30, 31, 32, 33, 34, 35, 36, 37, 38, 39, 40, 41, 42, 43, 44, 45, 46, 47, 48, 49, 50, 51, 52, 53, 54, 55, 56, 57, 58, 59, 60, 61, 62, 63, 64, 65, 66, 138, 139, 140, 141, 142, 143, 144, 145, 146, 147, 148, 149, 150, 151, 152, 153, 154, 155, 156, 157, 158, 159, 160, 161, 162, 163, 164, 165, 166, 167, 168, 169, 170, 171, 172, 173, 174, 175, 176, 177, 178, 179, 180, 181, 182, 183, 184, 185, 186, 187, 188, 189, 190, 191, 192, 193, 194, 195, 196, 197, 198, 199, 200, 201, 202, 203, 204, 205, 206, 207, 208, 209, 210, 211, 212, 226, 227, 228, 229, 230, 231, 232, 233, 234, 235, 236, 237, 238, 239, 240, 241, 242, 243, 244, 245, 246, 247, 248, 249, 250, 251, 252, 253] (by decide +kernel) (by decide +kernel)
set_option maxRecDepth 20000 in
theorem gX11_twice_X10_step_n266 : GoodIn wsX11_twice (wsX10_step) := ggX11_twice_X10_step
theorem dX11_twice_0 : decode cX11_twice 0 = .ok (.aload_n 0, 1) := by decide +kernel
theorem dX11_twice_1 : decode cX11_twice 1 = .ok (.iload_n 1, 1) := by decide +kernel
theorem dX11_twice_2 : decode cX11_twice 2 = .ok (.invokevirtual 137, 3) := by decide +kernel
theorem dX11_twice_5 : decode cX11_twice 5 = .ok (.astore_n 3, 1) := by decide +kernel
theorem dX11_twice_6 : decode cX11_twice 6 = .ok (.aload_n 3, 1) := by decide +kernel
theorem dX11_twice_7 : decode cX11_twice 7 = .ok (.iload_n 2, 1) := by decide +kernel
theorem dX11_twice_8 : decode cX11_twice 8 = .ok (.sipush 4000, 3) := by decide +kernel
theorem dX11_twice_11 : decode cX11_twice 11 = .ok (.invokestatic 256, 3) := by decide +kernel
theorem dX11_twice_14 : decode cX11_twice 14 = .ok (.istore 4, 2) := by decide +kernel
theorem dX11_twice_16 : decode cX11_twice 16 = .ok (.iload 4, 2) := by decide +kernel
theorem dX11_twice_18 : decode cX11_twice 18 = .ok (.ifCond .ne 7, 3) := by decide +kernel
theorem dX11_twice_21 : decode cX11_twice 21 = .ok (.aload_n 3, 1) := by decide +kernel
theorem dX11_twice_22 : decode cX11_twice 22 = .ok (.ifnonnull 10, 3) := by decide +kernel
theorem dX11_twice_25 : decode cX11_twice 25 = .ok (.aload_n 0, 1) := by decide +kernel
theorem dX11_twice_26 : decode cX11_twice 26 = .ok (.iload 4, 2) := by decide +kernel
theorem dX11_twice_28 : decode cX11_twice 28 = .ok (.invokevirtual 65, 3) := by decide +kernel
theorem dX11_twice_31 : decode cX11_twice 31 = .ok (.ireturn, 1) := by decide +kernel
theorem dX11_twice_32 : decode cX11_twice 32 = .ok (.aload_n 0, 1) := by decide +kernel
theorem dX11_twice_33 : decode cX11_twice 33 = .ok (.invokevirtual 269, 3) := by decide +kernel
theorem dX11_twice_36 : decode cX11_twice 36 = .ok (.new 230, 3) := by decide +kernel
theorem dX11_twice_39 : decode cX11_twice 39 = .ok (.dup, 1) := by decide +kernel
theorem dX11_twice_40 : decode cX11_twice 40 = .ok (.aload_n 3, 1) := by decide +kernel
theorem dX11_twice_41 : decode cX11_twice 41 = .ok (.aload_n 3, 1) := by decide +kernel
theorem dX11_twice_42 : decode cX11_twice 42 = .ok (.invokevirtual 152, 3) := by decide +kernel
theorem dX11_twice_45 : decode cX11_twice 45 = .ok (.invokespecial 260, 3) := by decide +kernel
theorem dX11_twice_48 : decode cX11_twice 48 = .ok (.astore 5, 2) := by decide +kernel
theorem dX11_twice_50 : decode cX11_twice 50 = .ok (.iconst 0, 1) := by decide +kernel
theorem dX11_twice_51 : decode cX11_twice 51 = .ok (.istore 6, 2) := by decide +kernel
theorem dX11_twice_53 : decode cX11_twice 53 = .ok (.iconst 0, 1) := by decide +kernel
theorem dX11_twice_54 : decode cX11_twice 54 = .ok (.istore 7, 2) := by decide +kernel
theorem dX11_twice_56 : decode cX11_twice 56 = .ok (.iload 7, 2) := by decide +kernel
theorem dX11_twice_58 : decode cX11_twice 58 = .ok (.iload_n 2, 1) := by decide +kernel
theorem dX11_twice_59 : decode cX11_twice 59 = .ok (.if_icmp .ge 34, 3) := by decide +kernel
theorem dX11_twice_62 : decode cX11_twice 62 = .ok (.aload_n 0, 1) := by decide +kernel
theorem dX11_twice_63 : decode cX11_twice 63 = .ok (.aload 5, 2) := by decide +kernel
theorem dX11_twice_65 : decode cX11_twice 65 = .ok (.invokevirtual 281, 3) := by decide +kernel
theorem dX11_twice_68 : decode cX11_twice 68 = .ok (.aload 5, 2) := by decide +kernel
theorem dX11_twice_70 : decode cX11_twice 70 = .ok (.invokevirtual 284, 3) := by decide +kernel
theorem dX11_twice_73 : decode cX11_twice 73 = .ok (.invokevirtual 252, 3) := by decide +kernel
theorem dX11_twice_76 : decode cX11_twice 76 = .ok (.ifCond .le 6, 3) := by decide +kernel
theorem dX11_twice_79 : decode cX11_twice 79 = .ok (.iinc 6 1, 3) := by decide +kernel
theorem dX11_twice_82 : decode cX11_twice 82 = .ok (.aload 5, 2) := by decide +kernel
theorem dX11_twice_84 : decode cX11_twice 84 = .ok (.invokevirtual 266, 3) := by decide +kernel
theorem dX11_twice_87 : decode cX11_twice 87 = .ok (.iinc 7 1, 3) := by decide +kernel
theorem dX11_twice_90 : decode cX11_twice 90 = .ok (.goto (-34), 3) := by decide +kernel
theorem dX11_twice_93 : decode cX11_twice 93 = .ok (.iload 6, 2) := by decide +kernel
theorem dX11_twice_95 : decode cX11_twice 95 = .ok (.ireturn, 1) := by decide +kernel
set_option maxRecDepth 20000 in
theorem ggX11_cover_X11_stripAt : GoodIn wsX11_cover wsX11_stripAt := goodIn_r _ [8, 9, 10, 210, 211, 212, 213, 214, 215, 216, 217, 218, 219, 220, 221, 222] (by decide +kernel) (by decide +kernel)
set_option maxRecDepth 20000 in
theorem gX11_cover_X11_stripAt : GoodIn wsX11_cover (wsV RX11 137 RX11 yX11_stripAt wsX11_stripAt) := goodIn_app (goodIn_of _ (by decide +kernel)) ggX11_cover_X11_stripAt
set_option maxRecDepth 20000 in
theorem ggX11_cover_X11_walkTrouble : GoodIn wsX11_cover wsX11_walkTrouble := goodIn_r _ [13, 14, 15, 16, 17, 18, 19, 20, 21, 22, 23, 24, 25, 26, 27, 28, 29, 30, 31, 32, 33, 34, 35, 36, 37, 38, 39, 40, 41, 42, 43, 44, 45, 46, 47, 48, 49, 50, 51, 52, 53, 54, 55, 56, 57, 58, 59, 60, 61, 62, 63, 64, 65, 66, 67, 68, 69, 70, 71, 72, 73, 74, 75, 76, 77, 78, 79, 80, 223, 224, 225, 226, 227, 228, 229, 230, 231, 232, 233, 234, 235, 236, 237, 238, 239, 240, 241, 242, 243, 244, 245, 246, 247, 248, 249, 250] (by decide +kernel) (by decide +kernel)
set_option maxRecDepth 20000 in
theorem gX11_cover_X11_walkTrouble : GoodIn wsX11_cover (va_wsS RX11 256 yX11_walkTrouble wsX11_walkTrouble) := goodIn_app (goodIn_of _ (by decide +kernel)) ggX11_cover_X11_walkTrouble
set_option maxRecDepth 20000 in
theorem ggX11_cover_X11_refuse : GoodIn wsX11_cover wsX11_refuse := goodIn_r _ [84, 85, 210, 211, 212, 213, 214, 215, 216, 217, 218, 219, 220, 221, 222] (by decide +kernel) (by decide +kernel)
set_option maxRecDepth 20000 in
theorem gX11_cover_X11_refuse : GoodIn wsX11_cover (wsV RX11 65 RX11 yX11_refuse wsX11_refuse) := goodIn_app (goodIn_of _ (by decide +kernel)) ggX11_cover_X11_refuse
set_option maxRecDepth 20000 in
theorem ggX11_cover_X11_forget : GoodIn wsX11_cover wsX11_forget := goodIn_r _ [89, 90, 91, 92, 93, 94, 210, 211, 212, 213, 214, 215, 216, 217, 218, 219, 220, 221, 222] (by decide +kernel) (by decide +kernel)
set_option maxRecDepth 20000 in
theorem gX11_cover_X11_forget : GoodIn wsX11_cover (wsV RX11 269 RX11 yX11_forget wsX11_forget) := goodIn_app (goodIn_of _ (by decide +kernel)) ggX11_cover_X11_forget
set_option maxRecDepth 20000 in
theorem ggX11_cover_X8_corners : GoodIn wsX11_cover wsX8_corners := goodIn_r _ [24, 25, 26, 27, 28, 18, 29, 30, 31, 32, 33, 34, 35, 36, 37, 38, 39, 40, 41, 42, 43, 44, 45, 46, 47, 48, 49, 50, 51, 52, 53, 54, 55, 56, 57, 58, 59, 60, 61, 62, 63, 64, 65, 66, 223, 224, 225, 226, 227, 228, 229, 230, 231, 232, 233, 234, 235, 236, 237, 238, 239, 240, 241, 242, 243, 244, 245, 246, 247, 248, 249, 250] (by decide +kernel) (by decide +kernel)
set_option maxRecDepth 20000 in
theorem gX11_cover_X8_corners_u152X0 : GoodIn wsX11_cover (va_wsU RX11 152 RX0 "FoldedInHalf$Strip" ⟨"FoldedInHalf$Strip", "corners", "()J"⟩ yX8_corners wsX8_corners) := goodIn_app (goodIn_of _ (by decide +kernel)) ggX11_cover_X8_corners
set_option maxRecDepth 20000 in
theorem gX11_cover_X8_corners_u152X1 : GoodIn wsX11_cover (va_wsU RX11 152 RX1 "FoldedInHalf$Strip" ⟨"FoldedInHalf$Strip", "corners", "()J"⟩ yX8_corners wsX8_corners) := goodIn_app (goodIn_of _ (by decide +kernel)) ggX11_cover_X8_corners
set_option maxRecDepth 20000 in
theorem gX11_cover_X8_corners_u152X2 : GoodIn wsX11_cover (va_wsU RX11 152 RX2 "FoldedInHalf$Strip" ⟨"FoldedInHalf$Strip", "corners", "()J"⟩ yX8_corners wsX8_corners) := goodIn_app (goodIn_of _ (by decide +kernel)) ggX11_cover_X8_corners
set_option maxRecDepth 20000 in
theorem gX11_cover_X8_corners_u152X4 : GoodIn wsX11_cover (va_wsU RX11 152 RX4 "FoldedInHalf$Strip" ⟨"FoldedInHalf$Strip", "corners", "()J"⟩ yX8_corners wsX8_corners) := goodIn_app (goodIn_of _ (by decide +kernel)) ggX11_cover_X8_corners
set_option maxRecDepth 20000 in
theorem gX11_cover_X8_corners_u152X6 : GoodIn wsX11_cover (va_wsU RX11 152 RX6 "FoldedInHalf$Strip" ⟨"FoldedInHalf$Strip", "corners", "()J"⟩ yX8_corners wsX8_corners) := goodIn_app (goodIn_of _ (by decide +kernel)) ggX11_cover_X8_corners
set_option maxRecDepth 20000 in
theorem gX11_cover_X8_corners : GoodIn wsX11_cover (wsV RX11 152 RX8 yX8_corners wsX8_corners) := goodIn_app (goodIn_of _ (by decide +kernel)) ggX11_cover_X8_corners
set_option maxRecDepth 20000 in
theorem gX11_cover_X8_corners_u152X9 : GoodIn wsX11_cover (va_wsU RX11 152 RX9 "FoldedInHalf$Strip" ⟨"FoldedInHalf$Strip", "corners", "()J"⟩ yX8_corners wsX8_corners) := goodIn_app (goodIn_of _ (by decide +kernel)) ggX11_cover_X8_corners
set_option maxRecDepth 20000 in
theorem ggX11_cover_X10_init : GoodIn wsX11_cover wsX10_init := goodIn_r _ [98, 99, 100, 101, 102, 103, 104, 105, 106, 107, 204, 205, 206, 207, 208, 209] (by decide +kernel) (by decide +kernel)
set_option maxRecDepth 20000 in
theorem gX11_cover_X10_init_n260 : GoodIn wsX11_cover (wsX10_init) := ggX11_cover_X10_init
set_option maxRecDepth 20000 in
theorem ggX11_cover_X11_tallyPlace : GoodIn wsX11_cover wsX11_tallyPlace := goodIn_r _ [111, 112, 113, 114, 7, 115, 116, 90, 117, 204, 205, 206, 207, 208, 209, 210, 211, 212, 213, 214, 215, 216, 217, 218, 219, 220, 221, 222] (by decide +kernel) (by decide +kernel)
set_option maxRecDepth 20000 in
theorem gX11_cover_X11_tallyPlace : GoodIn wsX11_cover (wsV RX11 272 RX11 yX11_tallyPlace wsX11_tallyPlace) := goodIn_app (goodIn_of _ (by decide +kernel)) ggX11_cover_X11_tallyPlace
set_option maxRecDepth 20000 in
theorem ggX11_cover_X10_step : GoodIn wsX11_cover wsX10_step := goodIn_r _ [120, 102, 107, 105, 106, 121, 122, 123, 3, 124, 103, 104, 125, 126, 127, 128, 129, 130, 131, 132, 133, 134, 23, 18, 24, 25, 26, 27, 28, 29, 30, 31, 32, 33, 34, 35, 36, 37, 38, 39, 40, 41, 42, 43, 44, 45, 46, 47, 48, 49, 50, 51, 52, 53, 54, 55, 56, 57, 58, 59, 60, 61, 62, 63, 64, 65, 66, 135, 136, 137, 138, 139, 140, 141, 142, 143, 144, 145, 146, 147, 148, 149, 150, 151, 152, 153, 154, 155, 156, 157, 158, 159, 160, 161, 162, 163, 164, 165, 166, 167, 168, 169, 170, 171, 172, 173, 174, 175, 176, 177, 178, 179, 180, 181, 182, 183, 184, 185, 186, 187, 188, 189, 190, 191, 192, 193, 194, 195, 196, 197, 198, 199, 200, 201, 202, 203, 204, 205, 206, 207, 208, 209, 223, 224, 225, 226, 227, 228, 229, 230, 231, 232, 233, 234, 235, 236, 237, 238, 239, 240, 241, 242, 243, 244, 245, 246, 247, 248, 249, 250] (by decide +kernel) (by decide +kernel)
set_option maxRecDepth 20000 in
theorem gX11_cover_X10_step_n266 : GoodIn wsX11_cover (wsX10_step) := ggX11_cover_X10_step
theorem dX11_cover_0 : decode cX11_cover 0 = .ok (.aload_n 0, 1) := by decide +kernel
theorem dX11_cover_1 : decode cX11_cover 1 = .ok (.iload_n 1, 1) := by decide +kernel
theorem dX11_cover_2 : decode cX11_cover 2 = .ok (.invokevirtual 137, 3) := by decide +kernel
theorem dX11_cover_5 : decode cX11_cover 5 = .ok (.astore_n 3, 1) := by decide +kernel
theorem dX11_cover_6 : decode cX11_cover 6 = .ok (.aload_n 3, 1) := by decide +kernel
theorem dX11_cover_7 : decode cX11_cover 7 = .ok (.iload_n 2, 1) := by decide +kernel
theorem dX11_cover_8 : decode cX11_cover 8 = .ok (.sipush 4000, 3) := by decide +kernel
theorem dX11_cover_11 : decode cX11_cover 11 = .ok (.invokestatic 256, 3) := by decide +kernel
theorem dX11_cover_14 : decode cX11_cover 14 = .ok (.istore 4, 2) := by decide +kernel
theorem dX11_cover_16 : decode cX11_cover 16 = .ok (.iload 4, 2) := by decide +kernel
theorem dX11_cover_18 : decode cX11_cover 18 = .ok (.ifCond .ne 7, 3) := by decide +kernel
theorem dX11_cover_21 : decode cX11_cover 21 = .ok (.aload_n 3, 1) := by decide +kernel
theorem dX11_cover_22 : decode cX11_cover 22 = .ok (.ifnonnull 10, 3) := by decide +kernel
theorem dX11_cover_25 : decode cX11_cover 25 = .ok (.aload_n 0, 1) := by decide +kernel
theorem dX11_cover_26 : decode cX11_cover 26 = .ok (.iload 4, 2) := by decide +kernel
theorem dX11_cover_28 : decode cX11_cover 28 = .ok (.invokevirtual 65, 3) := by decide +kernel
theorem dX11_cover_31 : decode cX11_cover 31 = .ok (.ireturn, 1) := by decide +kernel
theorem dX11_cover_32 : decode cX11_cover 32 = .ok (.aload_n 0, 1) := by decide +kernel
theorem dX11_cover_33 : decode cX11_cover 33 = .ok (.invokevirtual 269, 3) := by decide +kernel
theorem dX11_cover_36 : decode cX11_cover 36 = .ok (.new 230, 3) := by decide +kernel
theorem dX11_cover_39 : decode cX11_cover 39 = .ok (.dup, 1) := by decide +kernel
theorem dX11_cover_40 : decode cX11_cover 40 = .ok (.aload_n 3, 1) := by decide +kernel
theorem dX11_cover_41 : decode cX11_cover 41 = .ok (.aload_n 3, 1) := by decide +kernel
theorem dX11_cover_42 : decode cX11_cover 42 = .ok (.invokevirtual 152, 3) := by decide +kernel
theorem dX11_cover_45 : decode cX11_cover 45 = .ok (.invokespecial 260, 3) := by decide +kernel
theorem dX11_cover_48 : decode cX11_cover 48 = .ok (.astore 5, 2) := by decide +kernel
theorem dX11_cover_50 : decode cX11_cover 50 = .ok (.iconst 0, 1) := by decide +kernel
theorem dX11_cover_51 : decode cX11_cover 51 = .ok (.istore 6, 2) := by decide +kernel
theorem dX11_cover_53 : decode cX11_cover 53 = .ok (.iconst 0, 1) := by decide +kernel
theorem dX11_cover_54 : decode cX11_cover 54 = .ok (.istore 7, 2) := by decide +kernel
theorem dX11_cover_56 : decode cX11_cover 56 = .ok (.iload 7, 2) := by decide +kernel
theorem dX11_cover_58 : decode cX11_cover 58 = .ok (.iload_n 2, 1) := by decide +kernel
theorem dX11_cover_59 : decode cX11_cover 59 = .ok (.if_icmp .gt 26, 3) := by decide +kernel
theorem dX11_cover_62 : decode cX11_cover 62 = .ok (.aload_n 0, 1) := by decide +kernel
theorem dX11_cover_63 : decode cX11_cover 63 = .ok (.aload 5, 2) := by decide +kernel
theorem dX11_cover_65 : decode cX11_cover 65 = .ok (.invokevirtual 272, 3) := by decide +kernel
theorem dX11_cover_68 : decode cX11_cover 68 = .ok (.ifCond .ne 6, 3) := by decide +kernel
theorem dX11_cover_71 : decode cX11_cover 71 = .ok (.iinc 6 1, 3) := by decide +kernel
theorem dX11_cover_74 : decode cX11_cover 74 = .ok (.aload 5, 2) := by decide +kernel
theorem dX11_cover_76 : decode cX11_cover 76 = .ok (.invokevirtual 266, 3) := by decide +kernel
theorem dX11_cover_79 : decode cX11_cover 79 = .ok (.iinc 7 1, 3) := by decide +kernel
theorem dX11_cover_82 : decode cX11_cover 82 = .ok (.goto (-26), 3) := by decide +kernel
theorem dX11_cover_85 : decode cX11_cover 85 = .ok (.iload 6, 2) := by decide +kernel
theorem dX11_cover_87 : decode cX11_cover 87 = .ok (.ireturn, 1) := by decide +kernel
set_option maxRecDepth 20000 in
theorem ggX11_when_X11_stripAt : GoodIn wsX11_when wsX11_stripAt := goodIn_r _ [13, 14, 15, 200, 201, 202, 203, 204, 205, 206, 207, 208, 209, 210, 211, 212] (by decide +kernel) (by decide +kernel)
set_option maxRecDepth 20000 in
theorem gX11_when_X11_stripAt : GoodIn wsX11_when (wsV RX11 137 RX11 yX11_stripAt wsX11_stripAt) := goodIn_app (goodIn_of _ (by decide +kernel)) ggX11_when_X11_stripAt
set_option maxRecDepth 20000 in
theorem ggX11_when_X11_refuseTens : GoodIn wsX11_when wsX11_refuseTens := goodIn_r _ [19, 20, 21, 22, 12, 23, 24, 200, 201, 202, 203, 204, 205, 206, 207, 208, 209, 210, 211, 212] (by decide +kernel) (by decide +kernel)
set_option maxRecDepth 20000 in
theorem gX11_when_X11_refuseTens : GoodIn wsX11_when (wsV RX11 287 RX11 yX11_refuseTens wsX11_refuseTens) := goodIn_app (goodIn_of _ (by decide +kernel)) ggX11_when_X11_refuseTens
set_option maxRecDepth 20000 in
theorem ggX11_when_X8_sides : GoodIn wsX11_when wsX8_sides := goodIn_r _ [30, 31, 32, 33, 34, 29, 35, 36, 37, 38, 39, 40, 41, 42, 43, 44, 45, 46, 47, 48, 49, 50, 51, 52, 53, 54, 55, 56, 57, 58, 59, 60, 61, 62, 63, 64, 65, 66, 67, 68, 69, 70, 71, 72, 73, 74, 75, 76, 77, 78, 79, 80, 81, 82, 83, 84, 213, 214, 215, 216, 217, 218, 219, 220, 221, 222, 223, 224, 225, 226, 227, 228, 229, 230, 231, 232, 233, 234, 235, 236, 237, 238, 239, 240] (by decide +kernel) (by decide +kernel)
set_option maxRecDepth 20000 in
theorem gX11_when_X8_sides_u82X0 : GoodIn wsX11_when (va_wsU RX11 82 RX0 "FoldedInHalf$Strip" ⟨"FoldedInHalf$Strip", "sides", "()J"⟩ yX8_sides wsX8_sides) := goodIn_app (goodIn_of _ (by decide +kernel)) ggX11_when_X8_sides
set_option maxRecDepth 20000 in
theorem gX11_when_X8_sides_u82X1 : GoodIn wsX11_when (va_wsU RX11 82 RX1 "FoldedInHalf$Strip" ⟨"FoldedInHalf$Strip", "sides", "()J"⟩ yX8_sides wsX8_sides) := goodIn_app (goodIn_of _ (by decide +kernel)) ggX11_when_X8_sides
set_option maxRecDepth 20000 in
theorem gX11_when_X8_sides_u82X2 : GoodIn wsX11_when (va_wsU RX11 82 RX2 "FoldedInHalf$Strip" ⟨"FoldedInHalf$Strip", "sides", "()J"⟩ yX8_sides wsX8_sides) := goodIn_app (goodIn_of _ (by decide +kernel)) ggX11_when_X8_sides
set_option maxRecDepth 20000 in
theorem gX11_when_X8_sides_u82X4 : GoodIn wsX11_when (va_wsU RX11 82 RX4 "FoldedInHalf$Strip" ⟨"FoldedInHalf$Strip", "sides", "()J"⟩ yX8_sides wsX8_sides) := goodIn_app (goodIn_of _ (by decide +kernel)) ggX11_when_X8_sides
set_option maxRecDepth 20000 in
theorem gX11_when_X8_sides_u82X6 : GoodIn wsX11_when (va_wsU RX11 82 RX6 "FoldedInHalf$Strip" ⟨"FoldedInHalf$Strip", "sides", "()J"⟩ yX8_sides wsX8_sides) := goodIn_app (goodIn_of _ (by decide +kernel)) ggX11_when_X8_sides
set_option maxRecDepth 20000 in
theorem gX11_when_X8_sides : GoodIn wsX11_when (wsV RX11 82 RX8 yX8_sides wsX8_sides) := goodIn_app (goodIn_of _ (by decide +kernel)) ggX11_when_X8_sides
set_option maxRecDepth 20000 in
theorem gX11_when_X8_sides_u82X9 : GoodIn wsX11_when (va_wsU RX11 82 RX9 "FoldedInHalf$Strip" ⟨"FoldedInHalf$Strip", "sides", "()J"⟩ yX8_sides wsX8_sides) := goodIn_app (goodIn_of _ (by decide +kernel)) ggX11_when_X8_sides
set_option maxRecDepth 20000 in
theorem ggX11_when_X8_corners : GoodIn wsX11_when wsX8_corners := goodIn_r _ [35, 36, 37, 38, 39, 29, 40, 41, 42, 43, 44, 45, 46, 47, 48, 49, 50, 51, 52, 53, 54, 55, 56, 57, 58, 59, 60, 61, 62, 63, 64, 65, 66, 67, 68, 69, 70, 71, 72, 73, 74, 75, 76, 77, 213, 214, 215, 216, 217, 218, 219, 220, 221, 222, 223, 224, 225, 226, 227, 228, 229, 230, 231, 232, 233, 234, 235, 236, 237, 238, 239, 240] (by decide +kernel) (by decide +kernel)
set_option maxRecDepth 20000 in
theorem gX11_when_X8_corners_u152X0 : GoodIn wsX11_when (va_wsU RX11 152 RX0 "FoldedInHalf$Strip" ⟨"FoldedInHalf$Strip", "corners", "()J"⟩ yX8_corners wsX8_corners) := goodIn_app (goodIn_of _ (by decide +kernel)) ggX11_when_X8_corners
set_option maxRecDepth 20000 in
theorem gX11_when_X8_corners_u152X1 : GoodIn wsX11_when (va_wsU RX11 152 RX1 "FoldedInHalf$Strip" ⟨"FoldedInHalf$Strip", "corners", "()J"⟩ yX8_corners wsX8_corners) := goodIn_app (goodIn_of _ (by decide +kernel)) ggX11_when_X8_corners
set_option maxRecDepth 20000 in
theorem gX11_when_X8_corners_u152X2 : GoodIn wsX11_when (va_wsU RX11 152 RX2 "FoldedInHalf$Strip" ⟨"FoldedInHalf$Strip", "corners", "()J"⟩ yX8_corners wsX8_corners) := goodIn_app (goodIn_of _ (by decide +kernel)) ggX11_when_X8_corners
set_option maxRecDepth 20000 in
theorem gX11_when_X8_corners_u152X4 : GoodIn wsX11_when (va_wsU RX11 152 RX4 "FoldedInHalf$Strip" ⟨"FoldedInHalf$Strip", "corners", "()J"⟩ yX8_corners wsX8_corners) := goodIn_app (goodIn_of _ (by decide +kernel)) ggX11_when_X8_corners
set_option maxRecDepth 20000 in
theorem gX11_when_X8_corners_u152X6 : GoodIn wsX11_when (va_wsU RX11 152 RX6 "FoldedInHalf$Strip" ⟨"FoldedInHalf$Strip", "corners", "()J"⟩ yX8_corners wsX8_corners) := goodIn_app (goodIn_of _ (by decide +kernel)) ggX11_when_X8_corners
set_option maxRecDepth 20000 in
theorem gX11_when_X8_corners : GoodIn wsX11_when (wsV RX11 152 RX8 yX8_corners wsX8_corners) := goodIn_app (goodIn_of _ (by decide +kernel)) ggX11_when_X8_corners
set_option maxRecDepth 20000 in
theorem gX11_when_X8_corners_u152X9 : GoodIn wsX11_when (va_wsU RX11 152 RX9 "FoldedInHalf$Strip" ⟨"FoldedInHalf$Strip", "corners", "()J"⟩ yX8_corners wsX8_corners) := goodIn_app (goodIn_of _ (by decide +kernel)) ggX11_when_X8_corners
set_option maxRecDepth 20000 in
theorem ggX11_when_X10_init : GoodIn wsX11_when wsX10_init := goodIn_r _ [95, 96, 97, 98, 99, 100, 101, 102, 103, 104, 194, 195, 196, 197, 198, 199] (by decide +kernel) (by decide +kernel)
set_option maxRecDepth 20000 in
theorem gX11_when_X10_init_n260 : GoodIn wsX11_when (wsX10_init) := ggX11_when_X10_init
set_option maxRecDepth 20000 in
theorem ggX11_when_X10_isAt : GoodIn wsX11_when wsX10_isAt := goodIn_r _ [107, 100, 101, 194, 195, 196, 197, 198, 199] (by decide +kernel) (by decide +kernel)
set_option maxRecDepth 20000 in
theorem gX11_when_X10_isAt_n263 : GoodIn wsX11_when (wsX10_isAt) := ggX11_when_X10_isAt
set_option maxRecDepth 20000 in
theorem ggX11_when_X10_step : GoodIn wsX11_when wsX10_step := goodIn_r _ [110, 99, 104, 102, 103, 111, 112, 113, 8, 114, 100, 101, 115, 116, 117, 118, 119, 120, 121, 122, 123, 124, 34, 29, 35, 36, 37, 38, 39, 40, 41, 42, 43, 44, 45, 46, 47, 48, 49, 50, 51, 52, 53, 54, 55, 56, 57, 58, 59, 60, 61, 62, 63, 64, 65, 66, 67, 68, 69, 70, 71, 72, 73, 74, 75, 76, 77, 125, 126, 127, 128, 129, 130, 131, 132, 133, 134, 135, 136, 137, 138, 139, 140, 141, 142, 143, 144, 145, 146, 147, 148, 149, 150, 151, 152, 153, 154, 155, 156, 157, 158, 159, 160, 161, 162, 163, 164, 165, 166, 167, 168, 169, 170, 171, 172, 173, 174, 175, 176, 177, 178, 179, 180, 181, 182, 183, 184, 185, 186, 187, 188, 189, 190, 191, 192, 193, 194, 195, 196, 197, 198, 199, 213, 214, 215, 216, 217, 218, 219, 220, 221, 222, 223, 224, 225, 226, 227, 228, 229, 230, 231, 232, 233, 234, 235, 236, 237, 238, 239, 240] (by decide +kernel) (by decide +kernel)
set_option maxRecDepth 20000 in
theorem gX11_when_X10_step_n266 : GoodIn wsX11_when (wsX10_step) := ggX11_when_X10_step
theorem dX11_when_0 : decode cX11_when 0 = .ok (.aload_n 0, 1) := by decide +kernel
theorem dX11_when_1 : decode cX11_when 1 = .ok (.iload_n 1, 1) := by decide +kernel
theorem dX11_when_2 : decode cX11_when 2 = .ok (.invokevirtual 137, 3) := by decide +kernel
theorem dX11_when_5 : decode cX11_when 5 = .ok (.astore 5, 2) := by decide +kernel
theorem dX11_when_7 : decode cX11_when 7 = .ok (.aload 5, 2) := by decide +kernel
theorem dX11_when_9 : decode cX11_when 9 = .ok (.ifnonnull 9, 3) := by decide +kernel
theorem dX11_when_12 : decode cX11_when 12 = .ok (.aload_n 0, 1) := by decide +kernel
theorem dX11_when_13 : decode cX11_when 13 = .ok (.iconst (-1), 1) := by decide +kernel
theorem dX11_when_14 : decode cX11_when 14 = .ok (.invokevirtual 287, 3) := by decide +kernel
theorem dX11_when_17 : decode cX11_when 17 = .ok (.ireturn, 1) := by decide +kernel
theorem dX11_when_18 : decode cX11_when 18 = .ok (.iload 4, 2) := by decide +kernel
theorem dX11_when_20 : decode cX11_when 20 = .ok (.ifCond .ge 10, 3) := by decide +kernel
theorem dX11_when_23 : decode cX11_when 23 = .ok (.aload_n 0, 1) := by decide +kernel
theorem dX11_when_24 : decode cX11_when 24 = .ok (.bipush (-5), 2) := by decide +kernel
theorem dX11_when_26 : decode cX11_when 26 = .ok (.invokevirtual 287, 3) := by decide +kernel
theorem dX11_when_29 : decode cX11_when 29 = .ok (.ireturn, 1) := by decide +kernel
theorem dX11_when_30 : decode cX11_when 30 = .ok (.ldc2_w 290, 3) := by decide +kernel
theorem dX11_when_33 : decode cX11_when 33 = .ok (.aload 5, 2) := by decide +kernel
theorem dX11_when_35 : decode cX11_when 35 = .ok (.invokevirtual 82, 3) := by decide +kernel
theorem dX11_when_38 : decode cX11_when 38 = .ok (.invokestatic 292, 3) := by decide +kernel
theorem dX11_when_41 : decode cX11_when 41 = .ok (.lstore 6, 2) := by decide +kernel
theorem dX11_when_43 : decode cX11_when 43 = .ok (.new 230, 3) := by decide +kernel
theorem dX11_when_46 : decode cX11_when 46 = .ok (.dup, 1) := by decide +kernel
theorem dX11_when_47 : decode cX11_when 47 = .ok (.aload 5, 2) := by decide +kernel
theorem dX11_when_49 : decode cX11_when 49 = .ok (.aload 5, 2) := by decide +kernel
theorem dX11_when_51 : decode cX11_when 51 = .ok (.invokevirtual 152, 3) := by decide +kernel
theorem dX11_when_54 : decode cX11_when 54 = .ok (.invokespecial 260, 3) := by decide +kernel
theorem dX11_when_57 : decode cX11_when 57 = .ok (.astore 8, 2) := by decide +kernel
theorem dX11_when_59 : decode cX11_when 59 = .ok (.iconst 0, 1) := by decide +kernel
theorem dX11_when_60 : decode cX11_when 60 = .ok (.istore 9, 2) := by decide +kernel
theorem dX11_when_62 : decode cX11_when 62 = .ok (.iconst 0, 1) := by decide +kernel
theorem dX11_when_63 : decode cX11_when 63 = .ok (.istore 10, 2) := by decide +kernel
theorem dX11_when_65 : decode cX11_when 65 = .ok (.iload 10, 2) := by decide +kernel
theorem dX11_when_67 : decode cX11_when 67 = .ok (.i2l, 1) := by decide +kernel
theorem dX11_when_68 : decode cX11_when 68 = .ok (.lload 6, 2) := by decide +kernel
theorem dX11_when_70 : decode cX11_when 70 = .ok (.lcmp, 1) := by decide +kernel
theorem dX11_when_71 : decode cX11_when 71 = .ok (.ifCond .gt 37, 3) := by decide +kernel
theorem dX11_when_74 : decode cX11_when 74 = .ok (.aload 8, 2) := by decide +kernel
theorem dX11_when_76 : decode cX11_when 76 = .ok (.iload_n 2, 1) := by decide +kernel
theorem dX11_when_77 : decode cX11_when 77 = .ok (.iload_n 3, 1) := by decide +kernel
theorem dX11_when_78 : decode cX11_when 78 = .ok (.invokevirtual 263, 3) := by decide +kernel
theorem dX11_when_81 : decode cX11_when 81 = .ok (.ifCond .eq 16, 3) := by decide +kernel
theorem dX11_when_84 : decode cX11_when 84 = .ok (.iload 9, 2) := by decide +kernel
theorem dX11_when_86 : decode cX11_when 86 = .ok (.iload 4, 2) := by decide +kernel
theorem dX11_when_88 : decode cX11_when 88 = .ok (.if_icmp .ne 6, 3) := by decide +kernel
theorem dX11_when_91 : decode cX11_when 91 = .ok (.iload 10, 2) := by decide +kernel
theorem dX11_when_93 : decode cX11_when 93 = .ok (.ireturn, 1) := by decide +kernel
theorem dX11_when_94 : decode cX11_when 94 = .ok (.iinc 9 1, 3) := by decide +kernel
theorem dX11_when_97 : decode cX11_when 97 = .ok (.aload 8, 2) := by decide +kernel
theorem dX11_when_99 : decode cX11_when 99 = .ok (.invokevirtual 266, 3) := by decide +kernel
theorem dX11_when_102 : decode cX11_when 102 = .ok (.iinc 10 1, 3) := by decide +kernel
theorem dX11_when_105 : decode cX11_when 105 = .ok (.goto (-40), 3) := by decide +kernel
theorem dX11_when_108 : decode cX11_when 108 = .ok (.iconst (-1), 1) := by decide +kernel
theorem dX11_when_109 : decode cX11_when 109 = .ok (.ireturn, 1) := by decide +kernel
set_option maxRecDepth 20000 in
theorem ggX11_near_X11_stripAt : GoodIn wsX11_near wsX11_stripAt := goodIn_r _ [8, 9, 10, 191, 192, 193, 194, 195, 196, 197, 198, 199, 200, 201, 202, 203] (by decide +kernel) (by decide +kernel)
set_option maxRecDepth 20000 in
theorem gX11_near_X11_stripAt : GoodIn wsX11_near (wsV RX11 137 RX11 yX11_stripAt wsX11_stripAt) := goodIn_app (goodIn_of _ (by decide +kernel)) ggX11_near_X11_stripAt
set_option maxRecDepth 20000 in
theorem ggX11_near_X11_refuse : GoodIn wsX11_near wsX11_refuse := goodIn_r _ [14, 15, 191, 192, 193, 194, 195, 196, 197, 198, 199, 200, 201, 202, 203] (by decide +kernel) (by decide +kernel)
set_option maxRecDepth 20000 in
theorem gX11_near_X11_refuse : GoodIn wsX11_near (wsV RX11 65 RX11 yX11_refuse wsX11_refuse) := goodIn_app (goodIn_of _ (by decide +kernel)) ggX11_near_X11_refuse
set_option maxRecDepth 20000 in
theorem ggX11_near_X8_sides : GoodIn wsX11_near wsX8_sides := goodIn_r _ [21, 22, 23, 24, 25, 20, 26, 27, 28, 29, 30, 31, 32, 33, 34, 35, 36, 37, 38, 39, 40, 41, 42, 43, 44, 45, 46, 47, 48, 49, 50, 51, 52, 53, 54, 55, 56, 57, 58, 59, 60, 61, 62, 63, 64, 65, 66, 67, 68, 69, 70, 71, 72, 73, 74, 75, 204, 205, 206, 207, 208, 209, 210, 211, 212, 213, 214, 215, 216, 217, 218, 219, 220, 221, 222, 223, 224, 225, 226, 227, 228, 229, 230, 231] (by decide +kernel) (by decide +kernel)
set_option maxRecDepth 20000 in
theorem gX11_near_X8_sides_u82X0 : GoodIn wsX11_near (va_wsU RX11 82 RX0 "FoldedInHalf$Strip" ⟨"FoldedInHalf$Strip", "sides", "()J"⟩ yX8_sides wsX8_sides) := goodIn_app (goodIn_of _ (by decide +kernel)) ggX11_near_X8_sides
set_option maxRecDepth 20000 in
theorem gX11_near_X8_sides_u82X1 : GoodIn wsX11_near (va_wsU RX11 82 RX1 "FoldedInHalf$Strip" ⟨"FoldedInHalf$Strip", "sides", "()J"⟩ yX8_sides wsX8_sides) := goodIn_app (goodIn_of _ (by decide +kernel)) ggX11_near_X8_sides
set_option maxRecDepth 20000 in
theorem gX11_near_X8_sides_u82X2 : GoodIn wsX11_near (va_wsU RX11 82 RX2 "FoldedInHalf$Strip" ⟨"FoldedInHalf$Strip", "sides", "()J"⟩ yX8_sides wsX8_sides) := goodIn_app (goodIn_of _ (by decide +kernel)) ggX11_near_X8_sides
set_option maxRecDepth 20000 in
theorem gX11_near_X8_sides_u82X4 : GoodIn wsX11_near (va_wsU RX11 82 RX4 "FoldedInHalf$Strip" ⟨"FoldedInHalf$Strip", "sides", "()J"⟩ yX8_sides wsX8_sides) := goodIn_app (goodIn_of _ (by decide +kernel)) ggX11_near_X8_sides
set_option maxRecDepth 20000 in
theorem gX11_near_X8_sides_u82X6 : GoodIn wsX11_near (va_wsU RX11 82 RX6 "FoldedInHalf$Strip" ⟨"FoldedInHalf$Strip", "sides", "()J"⟩ yX8_sides wsX8_sides) := goodIn_app (goodIn_of _ (by decide +kernel)) ggX11_near_X8_sides
set_option maxRecDepth 20000 in
theorem gX11_near_X8_sides : GoodIn wsX11_near (wsV RX11 82 RX8 yX8_sides wsX8_sides) := goodIn_app (goodIn_of _ (by decide +kernel)) ggX11_near_X8_sides
set_option maxRecDepth 20000 in
theorem gX11_near_X8_sides_u82X9 : GoodIn wsX11_near (va_wsU RX11 82 RX9 "FoldedInHalf$Strip" ⟨"FoldedInHalf$Strip", "sides", "()J"⟩ yX8_sides wsX8_sides) := goodIn_app (goodIn_of _ (by decide +kernel)) ggX11_near_X8_sides
set_option maxRecDepth 20000 in
theorem ggX11_near_X11_isFarApart : GoodIn wsX11_near wsX11_isFarApart := goodIn_r _ [85] (by decide +kernel) (by decide +kernel)
set_option maxRecDepth 20000 in
theorem gX11_near_X11_isFarApart : GoodIn wsX11_near (va_wsS RX11 296 yX11_isFarApart wsX11_isFarApart) := goodIn_app (goodIn_of _ (by decide +kernel)) ggX11_near_X11_isFarApart
set_option maxRecDepth 20000 in
theorem ggX11_near_X8_corners : GoodIn wsX11_near wsX8_corners := goodIn_r _ [26, 27, 28, 29, 30, 20, 31, 32, 33, 34, 35, 36, 37, 38, 39, 40, 41, 42, 43, 44, 45, 46, 47, 48, 49, 50, 51, 52, 53, 54, 55, 56, 57, 58, 59, 60, 61, 62, 63, 64, 65, 66, 67, 68, 204, 205, 206, 207, 208, 209, 210, 211, 212, 213, 214, 215, 216, 217, 218, 219, 220, 221, 222, 223, 224, 225, 226, 227, 228, 229, 230, 231] (by decide +kernel) (by decide +kernel)
set_option maxRecDepth 20000 in
theorem gX11_near_X8_corners_u152X0 : GoodIn wsX11_near (va_wsU RX11 152 RX0 "FoldedInHalf$Strip" ⟨"FoldedInHalf$Strip", "corners", "()J"⟩ yX8_corners wsX8_corners) := goodIn_app (goodIn_of _ (by decide +kernel)) ggX11_near_X8_corners
set_option maxRecDepth 20000 in
theorem gX11_near_X8_corners_u152X1 : GoodIn wsX11_near (va_wsU RX11 152 RX1 "FoldedInHalf$Strip" ⟨"FoldedInHalf$Strip", "corners", "()J"⟩ yX8_corners wsX8_corners) := goodIn_app (goodIn_of _ (by decide +kernel)) ggX11_near_X8_corners
set_option maxRecDepth 20000 in
theorem gX11_near_X8_corners_u152X2 : GoodIn wsX11_near (va_wsU RX11 152 RX2 "FoldedInHalf$Strip" ⟨"FoldedInHalf$Strip", "corners", "()J"⟩ yX8_corners wsX8_corners) := goodIn_app (goodIn_of _ (by decide +kernel)) ggX11_near_X8_corners
set_option maxRecDepth 20000 in
theorem gX11_near_X8_corners_u152X4 : GoodIn wsX11_near (va_wsU RX11 152 RX4 "FoldedInHalf$Strip" ⟨"FoldedInHalf$Strip", "corners", "()J"⟩ yX8_corners wsX8_corners) := goodIn_app (goodIn_of _ (by decide +kernel)) ggX11_near_X8_corners
set_option maxRecDepth 20000 in
theorem gX11_near_X8_corners_u152X6 : GoodIn wsX11_near (va_wsU RX11 152 RX6 "FoldedInHalf$Strip" ⟨"FoldedInHalf$Strip", "corners", "()J"⟩ yX8_corners wsX8_corners) := goodIn_app (goodIn_of _ (by decide +kernel)) ggX11_near_X8_corners
set_option maxRecDepth 20000 in
theorem gX11_near_X8_corners : GoodIn wsX11_near (wsV RX11 152 RX8 yX8_corners wsX8_corners) := goodIn_app (goodIn_of _ (by decide +kernel)) ggX11_near_X8_corners
set_option maxRecDepth 20000 in
theorem gX11_near_X8_corners_u152X9 : GoodIn wsX11_near (va_wsU RX11 152 RX9 "FoldedInHalf$Strip" ⟨"FoldedInHalf$Strip", "corners", "()J"⟩ yX8_corners wsX8_corners) := goodIn_app (goodIn_of _ (by decide +kernel)) ggX11_near_X8_corners
set_option maxRecDepth 20000 in
theorem ggX11_near_X10_init : GoodIn wsX11_near wsX10_init := goodIn_r _ [89, 90, 91, 92, 93, 94, 95, 96, 97, 98, 185, 186, 187, 188, 189, 190] (by decide +kernel) (by decide +kernel)
set_option maxRecDepth 20000 in
theorem gX11_near_X10_init_n260 : GoodIn wsX11_near (wsX10_init) := ggX11_near_X10_init
set_option maxRecDepth 20000 in
theorem ggX11_near_X10_step : GoodIn wsX11_near wsX10_step := goodIn_r _ [101, 93, 98, 96, 97, 102, 103, 104, 3, 105, 94, 95, 106, 107, 108, 109, 110, 111, 112, 113, 114, 115, 25, 20, 26, 27, 28, 29, 30, 31, 32, 33, 34, 35, 36, 37, 38, 39, 40, 41, 42, 43, 44, 45, 46, 47, 48, 49, 50, 51, 52, 53, 54, 55, 56, 57, 58, 59, 60, 61, 62, 63, 64, 65, 66, 67, 68, 116, 117, 118, 119, 120, 121, 122, 123, 124, 125, 126, 127, 128, 129, 130, 131, 132, 133, 134, 135, 136, 137, 138, 139, 140, 141, 142, 143, 144, 145, 146, 147, 148, 149, 150, 151, 152, 153, 154, 155, 156, 157, 158, 159, 160, 161, 162, 163, 164, 165, 166, 167, 168, 169, 170, 171, 172, 173, 174, 175, 176, 177, 178, 179, 180, 181, 182, 183, 184, 185, 186, 187, 188, 189, 190, 204, 205, 206, 207, 208, 209, 210, 211, 212, 213, 214, 215, 216, 217, 218, 219, 220, 221, 222, 223, 224, 225, 226, 227, 228, 229, 230, 231] (by decide +kernel) (by decide +kernel)
set_option maxRecDepth 20000 in
theorem gX11_near_X10_step_n266 : GoodIn wsX11_near (wsX10_step) := ggX11_near_X10_step
theorem dX11_near_0 : decode cX11_near 0 = .ok (.aload_n 0, 1) := by decide +kernel
theorem dX11_near_1 : decode cX11_near 1 = .ok (.iload_n 1, 1) := by decide +kernel
theorem dX11_near_2 : decode cX11_near 2 = .ok (.invokevirtual 137, 3) := by decide +kernel
theorem dX11_near_5 : decode cX11_near 5 = .ok (.astore 7, 2) := by decide +kernel
theorem dX11_near_7 : decode cX11_near 7 = .ok (.aload_n 0, 1) := by decide +kernel
theorem dX11_near_8 : decode cX11_near 8 = .ok (.iload_n 2, 1) := by decide +kernel
theorem dX11_near_9 : decode cX11_near 9 = .ok (.invokevirtual 137, 3) := by decide +kernel
theorem dX11_near_12 : decode cX11_near 12 = .ok (.astore 8, 2) := by decide +kernel
theorem dX11_near_14 : decode cX11_near 14 = .ok (.aload 7, 2) := by decide +kernel
theorem dX11_near_16 : decode cX11_near 16 = .ok (.ifnull 8, 3) := by decide +kernel
theorem dX11_near_19 : decode cX11_near 19 = .ok (.aload 8, 2) := by decide +kernel
theorem dX11_near_21 : decode cX11_near 21 = .ok (.ifnonnull 9, 3) := by decide +kernel
theorem dX11_near_24 : decode cX11_near 24 = .ok (.aload_n 0, 1) := by decide +kernel
theorem dX11_near_25 : decode cX11_near 25 = .ok (.iconst (-1), 1) := by decide +kernel
theorem dX11_near_26 : decode cX11_near 26 = .ok (.invokevirtual 65, 3) := by decide +kernel
theorem dX11_near_29 : decode cX11_near 29 = .ok (.ireturn, 1) := by decide +kernel
theorem dX11_near_30 : decode cX11_near 30 = .ok (.iload_n 3, 1) := by decide +kernel
theorem dX11_near_31 : decode cX11_near 31 = .ok (.i2l, 1) := by decide +kernel
theorem dX11_near_32 : decode cX11_near 32 = .ok (.aload 7, 2) := by decide +kernel
theorem dX11_near_34 : decode cX11_near 34 = .ok (.invokevirtual 82, 3) := by decide +kernel
theorem dX11_near_37 : decode cX11_near 37 = .ok (.lcmp, 1) := by decide +kernel
theorem dX11_near_38 : decode cX11_near 38 = .ok (.ifCond .gt 25, 3) := by decide +kernel
theorem dX11_near_41 : decode cX11_near 41 = .ok (.iload_n 3, 1) := by decide +kernel
theorem dX11_near_42 : decode cX11_near 42 = .ok (.i2l, 1) := by decide +kernel
theorem dX11_near_43 : decode cX11_near 43 = .ok (.aload 8, 2) := by decide +kernel
theorem dX11_near_45 : decode cX11_near 45 = .ok (.invokevirtual 82, 3) := by decide +kernel
theorem dX11_near_48 : decode cX11_near 48 = .ok (.lcmp, 1) := by decide +kernel
theorem dX11_near_49 : decode cX11_near 49 = .ok (.ifCond .gt 14, 3) := by decide +kernel
theorem dX11_near_52 : decode cX11_near 52 = .ok (.iload 6, 2) := by decide +kernel
theorem dX11_near_54 : decode cX11_near 54 = .ok (.ifCond .lt 9, 3) := by decide +kernel
theorem dX11_near_57 : decode cX11_near 57 = .ok (.iload 6, 2) := by decide +kernel
theorem dX11_near_59 : decode cX11_near 59 = .ok (.iconst 1, 1) := by decide +kernel
theorem dX11_near_60 : decode cX11_near 60 = .ok (.if_icmp .le 10, 3) := by decide +kernel
theorem dX11_near_63 : decode cX11_near 63 = .ok (.aload_n 0, 1) := by decide +kernel
theorem dX11_near_64 : decode cX11_near 64 = .ok (.bipush (-5), 2) := by decide +kernel
theorem dX11_near_66 : decode cX11_near 66 = .ok (.invokevirtual 65, 3) := by decide +kernel
theorem dX11_near_69 : decode cX11_near 69 = .ok (.ireturn, 1) := by decide +kernel
theorem dX11_near_70 : decode cX11_near 70 = .ok (.iload_n 3, 1) := by decide +kernel
theorem dX11_near_71 : decode cX11_near 71 = .ok (.ifCond .lt 26, 3) := by decide +kernel
theorem dX11_near_74 : decode cX11_near 74 = .ok (.iload_n 3, 1) := by decide +kernel
theorem dX11_near_75 : decode cX11_near 75 = .ok (.sipush 4000, 3) := by decide +kernel
theorem dX11_near_78 : decode cX11_near 78 = .ok (.if_icmp .gt 19, 3) := by decide +kernel
theorem dX11_near_81 : decode cX11_near 81 = .ok (.iload 4, 2) := by decide +kernel
theorem dX11_near_83 : decode cX11_near 83 = .ok (.invokestatic 296, 3) := by decide +kernel
theorem dX11_near_86 : decode cX11_near 86 = .ok (.ifCond .ne 11, 3) := by decide +kernel
theorem dX11_near_89 : decode cX11_near 89 = .ok (.iload 5, 2) := by decide +kernel
theorem dX11_near_91 : decode cX11_near 91 = .ok (.invokestatic 296, 3) := by decide +kernel
theorem dX11_near_94 : decode cX11_near 94 = .ok (.ifCond .eq 10, 3) := by decide +kernel
theorem dX11_near_97 : decode cX11_near 97 = .ok (.aload_n 0, 1) := by decide +kernel
theorem dX11_near_98 : decode cX11_near 98 = .ok (.bipush (-6), 2) := by decide +kernel
theorem dX11_near_100 : decode cX11_near 100 = .ok (.invokevirtual 65, 3) := by decide +kernel
theorem dX11_near_103 : decode cX11_near 103 = .ok (.ireturn, 1) := by decide +kernel
theorem dX11_near_104 : decode cX11_near 104 = .ok (.new 230, 3) := by decide +kernel
theorem dX11_near_107 : decode cX11_near 107 = .ok (.dup, 1) := by decide +kernel
theorem dX11_near_108 : decode cX11_near 108 = .ok (.aload 7, 2) := by decide +kernel
theorem dX11_near_110 : decode cX11_near 110 = .ok (.aload 7, 2) := by decide +kernel
theorem dX11_near_112 : decode cX11_near 112 = .ok (.invokevirtual 152, 3) := by decide +kernel
theorem dX11_near_115 : decode cX11_near 115 = .ok (.invokespecial 260, 3) := by decide +kernel
theorem dX11_near_118 : decode cX11_near 118 = .ok (.astore 9, 2) := by decide +kernel
theorem dX11_near_120 : decode cX11_near 120 = .ok (.new 230, 3) := by decide +kernel
theorem dX11_near_123 : decode cX11_near 123 = .ok (.dup, 1) := by decide +kernel
theorem dX11_near_124 : decode cX11_near 124 = .ok (.aload 8, 2) := by decide +kernel
theorem dX11_near_126 : decode cX11_near 126 = .ok (.aload 8, 2) := by decide +kernel
theorem dX11_near_128 : decode cX11_near 128 = .ok (.invokevirtual 152, 3) := by decide +kernel
theorem dX11_near_131 : decode cX11_near 131 = .ok (.invokespecial 260, 3) := by decide +kernel
theorem dX11_near_134 : decode cX11_near 134 = .ok (.astore 10, 2) := by decide +kernel
theorem dX11_near_136 : decode cX11_near 136 = .ok (.lconst 0, 1) := by decide +kernel
theorem dX11_near_137 : decode cX11_near 137 = .ok (.lstore 11, 2) := by decide +kernel
theorem dX11_near_139 : decode cX11_near 139 = .ok (.iconst 0, 1) := by decide +kernel
theorem dX11_near_140 : decode cX11_near 140 = .ok (.istore 13, 2) := by decide +kernel
theorem dX11_near_142 : decode cX11_near 142 = .ok (.iconst 0, 1) := by decide +kernel
theorem dX11_near_143 : decode cX11_near 143 = .ok (.istore 14, 2) := by decide +kernel
theorem dX11_near_145 : decode cX11_near 145 = .ok (.iload 14, 2) := by decide +kernel
theorem dX11_near_147 : decode cX11_near 147 = .ok (.iload_n 3, 1) := by decide +kernel
theorem dX11_near_148 : decode cX11_near 148 = .ok (.if_icmp .gt 87, 3) := by decide +kernel
theorem dX11_near_151 : decode cX11_near 151 = .ok (.aload 10, 2) := by decide +kernel
theorem dX11_near_153 : decode cX11_near 153 = .ok (.getfield 238, 3) := by decide +kernel
theorem dX11_near_156 : decode cX11_near 156 = .ok (.iload 4, 2) := by decide +kernel
theorem dX11_near_158 : decode cX11_near 158 = .ok (.i2l, 1) := by decide +kernel
theorem dX11_near_159 : decode cX11_near 159 = .ok (.ladd, 1) := by decide +kernel
theorem dX11_near_160 : decode cX11_near 160 = .ok (.aload 9, 2) := by decide +kernel
theorem dX11_near_162 : decode cX11_near 162 = .ok (.getfield 238, 3) := by decide +kernel
theorem dX11_near_165 : decode cX11_near 165 = .ok (.lsub, 1) := by decide +kernel
theorem dX11_near_166 : decode cX11_near 166 = .ok (.lstore 15, 2) := by decide +kernel
theorem dX11_near_168 : decode cX11_near 168 = .ok (.aload 10, 2) := by decide +kernel
theorem dX11_near_170 : decode cX11_near 170 = .ok (.getfield 242, 3) := by decide +kernel
theorem dX11_near_173 : decode cX11_near 173 = .ok (.iload 5, 2) := by decide +kernel
theorem dX11_near_175 : decode cX11_near 175 = .ok (.i2l, 1) := by decide +kernel
theorem dX11_near_176 : decode cX11_near 176 = .ok (.ladd, 1) := by decide +kernel
theorem dX11_near_177 : decode cX11_near 177 = .ok (.aload 9, 2) := by decide +kernel
theorem dX11_near_179 : decode cX11_near 179 = .ok (.getfield 242, 3) := by decide +kernel
theorem dX11_near_182 : decode cX11_near 182 = .ok (.lsub, 1) := by decide +kernel
theorem dX11_near_183 : decode cX11_near 183 = .ok (.lstore 17, 2) := by decide +kernel
theorem dX11_near_185 : decode cX11_near 185 = .ok (.lload 15, 2) := by decide +kernel
theorem dX11_near_187 : decode cX11_near 187 = .ok (.lload 15, 2) := by decide +kernel
theorem dX11_near_189 : decode cX11_near 189 = .ok (.lmul, 1) := by decide +kernel
theorem dX11_near_190 : decode cX11_near 190 = .ok (.lload 17, 2) := by decide +kernel
theorem dX11_near_192 : decode cX11_near 192 = .ok (.lload 17, 2) := by decide +kernel
theorem dX11_near_194 : decode cX11_near 194 = .ok (.lmul, 1) := by decide +kernel
theorem dX11_near_195 : decode cX11_near 195 = .ok (.ladd, 1) := by decide +kernel
theorem dX11_near_196 : decode cX11_near 196 = .ok (.lstore 19, 2) := by decide +kernel
theorem dX11_near_198 : decode cX11_near 198 = .ok (.iload 14, 2) := by decide +kernel
theorem dX11_near_200 : decode cX11_near 200 = .ok (.ifCond .eq 11, 3) := by decide +kernel
theorem dX11_near_203 : decode cX11_near 203 = .ok (.lload 19, 2) := by decide +kernel
theorem dX11_near_205 : decode cX11_near 205 = .ok (.lload 11, 2) := by decide +kernel
theorem dX11_near_207 : decode cX11_near 207 = .ok (.lcmp, 1) := by decide +kernel
theorem dX11_near_208 : decode cX11_near 208 = .ok (.ifCond .ge 11, 3) := by decide +kernel
theorem dX11_near_211 : decode cX11_near 211 = .ok (.lload 19, 2) := by decide +kernel
theorem dX11_near_213 : decode cX11_near 213 = .ok (.lstore 11, 2) := by decide +kernel
theorem dX11_near_215 : decode cX11_near 215 = .ok (.iload 14, 2) := by decide +kernel
theorem dX11_near_217 : decode cX11_near 217 = .ok (.istore 13, 2) := by decide +kernel
theorem dX11_near_219 : decode cX11_near 219 = .ok (.aload 9, 2) := by decide +kernel
theorem dX11_near_221 : decode cX11_near 221 = .ok (.invokevirtual 266, 3) := by decide +kernel
theorem dX11_near_224 : decode cX11_near 224 = .ok (.aload 10, 2) := by decide +kernel
theorem dX11_near_226 : decode cX11_near 226 = .ok (.invokevirtual 266, 3) := by decide +kernel
theorem dX11_near_229 : decode cX11_near 229 = .ok (.iinc 14 1, 3) := by decide +kernel
theorem dX11_near_232 : decode cX11_near 232 = .ok (.goto (-87), 3) := by decide +kernel
theorem dX11_near_235 : decode cX11_near 235 = .ok (.iload 6, 2) := by decide +kernel
theorem dX11_near_237 : decode cX11_near 237 = .ok (.ifCond .ne 9, 3) := by decide +kernel
theorem dX11_near_240 : decode cX11_near 240 = .ok (.lload 11, 2) := by decide +kernel
theorem dX11_near_242 : decode cX11_near 242 = .ok (.l2i, 1) := by decide +kernel
theorem dX11_near_243 : decode cX11_near 243 = .ok (.goto 5, 3) := by decide +kernel
theorem dX11_near_246 : decode cX11_near 246 = .ok (.iload 13, 2) := by decide +kernel
theorem dX11_near_248 : decode cX11_near 248 = .ok (.ireturn, 1) := by decide +kernel
theorem dX11_isFarApart_0 : decode cX11_isFarApart 0 = .ok (.iload_n 0, 1) := by decide +kernel
theorem dX11_isFarApart_1 : decode cX11_isFarApart 1 = .ok (.bipush (-100), 2) := by decide +kernel
theorem dX11_isFarApart_3 : decode cX11_isFarApart 3 = .ok (.if_icmp .lt 9, 3) := by decide +kernel
theorem dX11_isFarApart_6 : decode cX11_isFarApart 6 = .ok (.iload_n 0, 1) := by decide +kernel
theorem dX11_isFarApart_7 : decode cX11_isFarApart 7 = .ok (.bipush 100, 2) := by decide +kernel
theorem dX11_isFarApart_9 : decode cX11_isFarApart 9 = .ok (.if_icmp .le 7, 3) := by decide +kernel
theorem dX11_isFarApart_12 : decode cX11_isFarApart 12 = .ok (.iconst 1, 1) := by decide +kernel
theorem dX11_isFarApart_13 : decode cX11_isFarApart 13 = .ok (.goto 4, 3) := by decide +kernel
theorem dX11_isFarApart_16 : decode cX11_isFarApart 16 = .ok (.iconst 0, 1) := by decide +kernel
theorem dX11_isFarApart_17 : decode cX11_isFarApart 17 = .ok (.ireturn, 1) := by decide +kernel
set_option maxRecDepth 20000 in
theorem ggX11_four_X11_stripAt : GoodIn wsX11_four wsX11_stripAt := goodIn_r _ [9, 10, 11, 219, 220, 221, 222, 223, 224, 225, 226, 227, 228, 229, 230, 231] (by decide +kernel) (by decide +kernel)
set_option maxRecDepth 20000 in
theorem gX11_four_X11_stripAt : GoodIn wsX11_four (wsV RX11 137 RX11 yX11_stripAt wsX11_stripAt) := goodIn_app (goodIn_of _ (by decide +kernel)) ggX11_four_X11_stripAt
set_option maxRecDepth 20000 in
theorem ggX11_four_X11_walkTrouble : GoodIn wsX11_four wsX11_walkTrouble := goodIn_r _ [14, 15, 16, 17, 18, 19, 20, 21, 22, 23, 24, 25, 26, 27, 28, 29, 30, 31, 32, 33, 34, 35, 36, 37, 38, 39, 40, 41, 42, 43, 44, 45, 46, 47, 48, 49, 50, 51, 52, 53, 54, 55, 56, 57, 58, 59, 60, 61, 62, 63, 64, 65, 66, 67, 68, 69, 70, 71, 72, 73, 74, 75, 76, 77, 78, 79, 80, 81, 238, 239, 240, 241, 242, 243, 244, 245, 246, 247, 248, 249, 250, 251, 252, 253, 254, 255, 256, 257, 258, 259, 260, 261, 262, 263, 264, 265] (by decide +kernel) (by decide +kernel)
set_option maxRecDepth 20000 in
theorem gX11_four_X11_walkTrouble : GoodIn wsX11_four (va_wsS RX11 256 yX11_walkTrouble wsX11_walkTrouble) := goodIn_app (goodIn_of _ (by decide +kernel)) ggX11_four_X11_walkTrouble
set_option maxRecDepth 20000 in
theorem ggX11_four_X11_refuse : GoodIn wsX11_four wsX11_refuse := goodIn_r _ [85, 86, 219, 220, 221, 222, 223, 224, 225, 226, 227, 228, 229, 230, 231] (by decide +kernel) (by decide +kernel)
set_option maxRecDepth 20000 in
theorem gX11_four_X11_refuse : GoodIn wsX11_four (wsV RX11 65 RX11 yX11_refuse wsX11_refuse) := goodIn_app (goodIn_of _ (by decide +kernel)) ggX11_four_X11_refuse
set_option maxRecDepth 20000 in
theorem ggX11_four_X11_forget : GoodIn wsX11_four wsX11_forget := goodIn_r _ [90, 91, 92, 93, 94, 95, 219, 220, 221, 222, 223, 224, 225, 226, 227, 228, 229, 230, 231] (by decide +kernel) (by decide +kernel)
set_option maxRecDepth 20000 in
theorem gX11_four_X11_forget : GoodIn wsX11_four (wsV RX11 269 RX11 yX11_forget wsX11_forget) := goodIn_app (goodIn_of _ (by decide +kernel)) ggX11_four_X11_forget
set_option maxRecDepth 20000 in
theorem ggX11_four_J7_fill_53178 : GoodIn wsX11_four wsJ7_fill_53178 := goodIn_r _ [95] (by decide +kernel) (by decide +kernel)
set_option maxRecDepth 20000 in
theorem gX11_four_J7_fill_53178 : GoodIn wsX11_four (va_wsS RX11 245 yJ7_fill_53178 wsJ7_fill_53178) := goodIn_app (goodIn_of _ (by decide +kernel)) ggX11_four_J7_fill_53178
set_option maxRecDepth 20000 in
theorem ggX11_four_X8_corners : GoodIn wsX11_four wsX8_corners := goodIn_r _ [25, 26, 27, 28, 29, 19, 30, 31, 32, 33, 34, 35, 36, 37, 38, 39, 40, 41, 42, 43, 44, 45, 46, 47, 48, 49, 50, 51, 52, 53, 54, 55, 56, 57, 58, 59, 60, 61, 62, 63, 64, 65, 66, 67, 238, 239, 240, 241, 242, 243, 244, 245, 246, 247, 248, 249, 250, 251, 252, 253, 254, 255, 256, 257, 258, 259, 260, 261, 262, 263, 264, 265] (by decide +kernel) (by decide +kernel)
set_option maxRecDepth 20000 in
theorem gX11_four_X8_corners_u152X0 : GoodIn wsX11_four (va_wsU RX11 152 RX0 "FoldedInHalf$Strip" ⟨"FoldedInHalf$Strip", "corners", "()J"⟩ yX8_corners wsX8_corners) := goodIn_app (goodIn_of _ (by decide +kernel)) ggX11_four_X8_corners
set_option maxRecDepth 20000 in
theorem gX11_four_X8_corners_u152X1 : GoodIn wsX11_four (va_wsU RX11 152 RX1 "FoldedInHalf$Strip" ⟨"FoldedInHalf$Strip", "corners", "()J"⟩ yX8_corners wsX8_corners) := goodIn_app (goodIn_of _ (by decide +kernel)) ggX11_four_X8_corners
set_option maxRecDepth 20000 in
theorem gX11_four_X8_corners_u152X2 : GoodIn wsX11_four (va_wsU RX11 152 RX2 "FoldedInHalf$Strip" ⟨"FoldedInHalf$Strip", "corners", "()J"⟩ yX8_corners wsX8_corners) := goodIn_app (goodIn_of _ (by decide +kernel)) ggX11_four_X8_corners
set_option maxRecDepth 20000 in
theorem gX11_four_X8_corners_u152X4 : GoodIn wsX11_four (va_wsU RX11 152 RX4 "FoldedInHalf$Strip" ⟨"FoldedInHalf$Strip", "corners", "()J"⟩ yX8_corners wsX8_corners) := goodIn_app (goodIn_of _ (by decide +kernel)) ggX11_four_X8_corners
set_option maxRecDepth 20000 in
theorem gX11_four_X8_corners_u152X6 : GoodIn wsX11_four (va_wsU RX11 152 RX6 "FoldedInHalf$Strip" ⟨"FoldedInHalf$Strip", "corners", "()J"⟩ yX8_corners wsX8_corners) := goodIn_app (goodIn_of _ (by decide +kernel)) ggX11_four_X8_corners
set_option maxRecDepth 20000 in
theorem gX11_four_X8_corners : GoodIn wsX11_four (wsV RX11 152 RX8 yX8_corners wsX8_corners) := goodIn_app (goodIn_of _ (by decide +kernel)) ggX11_four_X8_corners
set_option maxRecDepth 20000 in
theorem gX11_four_X8_corners_u152X9 : GoodIn wsX11_four (va_wsU RX11 152 RX9 "FoldedInHalf$Strip" ⟨"FoldedInHalf$Strip", "corners", "()J"⟩ yX8_corners wsX8_corners) := goodIn_app (goodIn_of _ (by decide +kernel)) ggX11_four_X8_corners
set_option maxRecDepth 20000 in
theorem ggX11_four_X10_init : GoodIn wsX11_four wsX10_init := goodIn_r _ [99, 100, 101, 102, 103, 104, 105, 106, 107, 108, 232, 233, 234, 235, 236, 237] (by decide +kernel) (by decide +kernel)
set_option maxRecDepth 20000 in
theorem gX11_four_X10_init_n260 : GoodIn wsX11_four (wsX10_init) := ggX11_four_X10_init
set_option maxRecDepth 20000 in
theorem ggX11_four_X10_middleX : GoodIn wsX11_four wsX10_middleX := goodIn_r _ [111, 112, 104, 106, 232, 233, 234, 235, 236, 237] (by decide +kernel) (by decide +kernel)
set_option maxRecDepth 20000 in
theorem gX11_four_X10_middleX_n281 : GoodIn wsX11_four (wsX10_middleX) := ggX11_four_X10_middleX
set_option maxRecDepth 20000 in
theorem ggX11_four_X10_middleY : GoodIn wsX11_four wsX10_middleY := goodIn_r _ [115, 112, 105, 106, 232, 233, 234, 235, 236, 237] (by decide +kernel) (by decide +kernel)
set_option maxRecDepth 20000 in
theorem gX11_four_X10_middleY_n284 : GoodIn wsX11_four (wsX10_middleY) := ggX11_four_X10_middleY
set_option maxRecDepth 20000 in
theorem ggX11_four_X11_tallyFour : GoodIn wsX11_four wsX11_tallyFour := goodIn_r _ [119, 120, 121, 122, 123, 124, 125, 126, 1, 127, 128, 129, 8, 130, 131, 91, 132, 219, 220, 221, 222, 223, 224, 225, 226, 227, 228, 229, 230, 231] (by decide +kernel) (by decide +kernel)
set_option maxRecDepth 20000 in
theorem gX11_four_X11_tallyFour : GoodIn wsX11_four (wsV RX11 299 RX11 yX11_tallyFour wsX11_tallyFour) := goodIn_app (goodIn_of _ (by decide +kernel)) ggX11_four_X11_tallyFour
set_option maxRecDepth 20000 in
theorem ggX11_four_X10_step : GoodIn wsX11_four wsX10_step := goodIn_r _ [135, 103, 108, 106, 107, 136, 137, 138, 4, 139, 104, 105, 140, 141, 142, 143, 144, 145, 146, 147, 148, 149, 24, 19, 25, 26, 27, 28, 29, 30, 31, 32, 33, 34, 35, 36, 37, 38, 39, 40, 41, 42, 43, 44, 45, 46, 47, 48, 49, 50, 51, 52, 53, 54, 55, 56, 57, 58, 59, 60, 61, 62, 63, 64, 65, 66, 67, 150, 151, 152, 153, 154, 155, 156, 157, 158, 159, 160, 161, 162, 163, 164, 165, 166, 167, 168, 169, 170, 171, 172, 173, 174, 175, 176, 177, 178, 179, 180, 181, 182, 183, 184, 185, 186, 187, 188, 189, 190, 191, 192, 193, 194, 195, 196, 197, 198, 199, 200, 201, 202, 203, 204, 205, 206, 207, 208, 209, 210, 211, 212, 213, 214, 215, 216, 217, 218, 232, 233, 234, 235, 236, 237, 238, 239, 240, 241, 242, 243, 244, 245, 246, 247, 248, 249, 250, 251, 252, 253, 254, 255, 256, 257, 258, 259, 260, 261, 262, 263, 264, 265] (by decide +kernel) (by decide +kernel)
set_option maxRecDepth 20000 in
theorem gX11_four_X10_step_n266 : GoodIn wsX11_four (wsX10_step) := ggX11_four_X10_step
theorem dX11_four_0 : decode cX11_four 0 = .ok (.aload_n 0, 1) := by decide +kernel
theorem dX11_four_1 : decode cX11_four 1 = .ok (.iload_n 1, 1) := by decide +kernel
theorem dX11_four_2 : decode cX11_four 2 = .ok (.invokevirtual 137, 3) := by decide +kernel
theorem dX11_four_5 : decode cX11_four 5 = .ok (.astore_n 3, 1) := by decide +kernel
theorem dX11_four_6 : decode cX11_four 6 = .ok (.aload_n 3, 1) := by decide +kernel
theorem dX11_four_7 : decode cX11_four 7 = .ok (.iload_n 2, 1) := by decide +kernel
theorem dX11_four_8 : decode cX11_four 8 = .ok (.sipush 1000, 3) := by decide +kernel
theorem dX11_four_11 : decode cX11_four 11 = .ok (.invokestatic 256, 3) := by decide +kernel
theorem dX11_four_14 : decode cX11_four 14 = .ok (.istore 4, 2) := by decide +kernel
theorem dX11_four_16 : decode cX11_four 16 = .ok (.iload 4, 2) := by decide +kernel
theorem dX11_four_18 : decode cX11_four 18 = .ok (.ifCond .ne 7, 3) := by decide +kernel
theorem dX11_four_21 : decode cX11_four 21 = .ok (.aload_n 3, 1) := by decide +kernel
theorem dX11_four_22 : decode cX11_four 22 = .ok (.ifnonnull 10, 3) := by decide +kernel
theorem dX11_four_25 : decode cX11_four 25 = .ok (.aload_n 0, 1) := by decide +kernel
theorem dX11_four_26 : decode cX11_four 26 = .ok (.iload 4, 2) := by decide +kernel
theorem dX11_four_28 : decode cX11_four 28 = .ok (.invokevirtual 65, 3) := by decide +kernel
theorem dX11_four_31 : decode cX11_four 31 = .ok (.ireturn, 1) := by decide +kernel
theorem dX11_four_32 : decode cX11_four 32 = .ok (.aload_n 0, 1) := by decide +kernel
theorem dX11_four_33 : decode cX11_four 33 = .ok (.invokevirtual 269, 3) := by decide +kernel
theorem dX11_four_36 : decode cX11_four 36 = .ok (.aload_n 0, 1) := by decide +kernel
theorem dX11_four_37 : decode cX11_four 37 = .ok (.getfield 37, 3) := by decide +kernel
theorem dX11_four_40 : decode cX11_four 40 = .ok (.iconst 0, 1) := by decide +kernel
theorem dX11_four_41 : decode cX11_four 41 = .ok (.invokestatic 245, 3) := by decide +kernel
theorem dX11_four_44 : decode cX11_four 44 = .ok (.new 230, 3) := by decide +kernel
theorem dX11_four_47 : decode cX11_four 47 = .ok (.dup, 1) := by decide +kernel
theorem dX11_four_48 : decode cX11_four 48 = .ok (.aload_n 3, 1) := by decide +kernel
theorem dX11_four_49 : decode cX11_four 49 = .ok (.aload_n 3, 1) := by decide +kernel
theorem dX11_four_50 : decode cX11_four 50 = .ok (.invokevirtual 152, 3) := by decide +kernel
theorem dX11_four_53 : decode cX11_four 53 = .ok (.invokespecial 260, 3) := by decide +kernel
theorem dX11_four_56 : decode cX11_four 56 = .ok (.astore 5, 2) := by decide +kernel
theorem dX11_four_58 : decode cX11_four 58 = .ok (.bipush 30, 2) := by decide +kernel
theorem dX11_four_60 : decode cX11_four 60 = .ok (.istore 6, 2) := by decide +kernel
theorem dX11_four_62 : decode cX11_four 62 = .ok (.iconst 0, 1) := by decide +kernel
theorem dX11_four_63 : decode cX11_four 63 = .ok (.istore 7, 2) := by decide +kernel
theorem dX11_four_65 : decode cX11_four 65 = .ok (.iload 7, 2) := by decide +kernel
theorem dX11_four_67 : decode cX11_four 67 = .ok (.iload_n 2, 1) := by decide +kernel
theorem dX11_four_68 : decode cX11_four 68 = .ok (.if_icmp .ge 32, 3) := by decide +kernel
theorem dX11_four_71 : decode cX11_four 71 = .ok (.aload_n 0, 1) := by decide +kernel
theorem dX11_four_72 : decode cX11_four 72 = .ok (.aload 5, 2) := by decide +kernel
theorem dX11_four_74 : decode cX11_four 74 = .ok (.invokevirtual 281, 3) := by decide +kernel
theorem dX11_four_77 : decode cX11_four 77 = .ok (.aload 5, 2) := by decide +kernel
theorem dX11_four_79 : decode cX11_four 79 = .ok (.invokevirtual 284, 3) := by decide +kernel
theorem dX11_four_82 : decode cX11_four 82 = .ok (.iload 6, 2) := by decide +kernel
theorem dX11_four_84 : decode cX11_four 84 = .ok (.invokevirtual 299, 3) := by decide +kernel
theorem dX11_four_87 : decode cX11_four 87 = .ok (.istore 6, 2) := by decide +kernel
theorem dX11_four_89 : decode cX11_four 89 = .ok (.aload 5, 2) := by decide +kernel
theorem dX11_four_91 : decode cX11_four 91 = .ok (.invokevirtual 266, 3) := by decide +kernel
theorem dX11_four_94 : decode cX11_four 94 = .ok (.iinc 7 1, 3) := by decide +kernel
theorem dX11_four_97 : decode cX11_four 97 = .ok (.goto (-32), 3) := by decide +kernel
theorem dX11_four_100 : decode cX11_four 100 = .ok (.iconst 0, 1) := by decide +kernel
theorem dX11_four_101 : decode cX11_four 101 = .ok (.istore 7, 2) := by decide +kernel
theorem dX11_four_103 : decode cX11_four 103 = .ok (.iload 7, 2) := by decide +kernel
theorem dX11_four_105 : decode cX11_four 105 = .ok (.iload 6, 2) := by decide +kernel
theorem dX11_four_107 : decode cX11_four 107 = .ok (.if_icmp .ge 36, 3) := by decide +kernel
theorem dX11_four_110 : decode cX11_four 110 = .ok (.iload 7, 2) := by decide +kernel
theorem dX11_four_112 : decode cX11_four 112 = .ok (.bipush 30, 2) := by decide +kernel
theorem dX11_four_114 : decode cX11_four 114 = .ok (.if_icmp .ge 29, 3) := by decide +kernel
theorem dX11_four_117 : decode cX11_four 117 = .ok (.aload_n 0, 1) := by decide +kernel
theorem dX11_four_118 : decode cX11_four 118 = .ok (.getfield 37, 3) := by decide +kernel
theorem dX11_four_121 : decode cX11_four 121 = .ok (.iload 7, 2) := by decide +kernel
theorem dX11_four_123 : decode cX11_four 123 = .ok (.iconst 1, 1) := by decide +kernel
theorem dX11_four_124 : decode cX11_four 124 = .ok (.iadd, 1) := by decide +kernel
theorem dX11_four_125 : decode cX11_four 125 = .ok (.iaload, 1) := by decide +kernel
theorem dX11_four_126 : decode cX11_four 126 = .ok (.bipush 16, 2) := by decide +kernel
theorem dX11_four_128 : decode cX11_four 128 = .ok (.iload 7, 2) := by decide +kernel
theorem dX11_four_130 : decode cX11_four 130 = .ok (.imul, 1) := by decide +kernel
theorem dX11_four_131 : decode cX11_four 131 = .ok (.bipush 12, 2) := by decide +kernel
theorem dX11_four_133 : decode cX11_four 133 = .ok (.iadd, 1) := by decide +kernel
theorem dX11_four_134 : decode cX11_four 134 = .ok (.if_icmp .ne 9, 3) := by decide +kernel
theorem dX11_four_137 : decode cX11_four 137 = .ok (.iinc 7 1, 3) := by decide +kernel
theorem dX11_four_140 : decode cX11_four 140 = .ok (.goto (-37), 3) := by decide +kernel
theorem dX11_four_143 : decode cX11_four 143 = .ok (.iload 7, 2) := by decide +kernel
theorem dX11_four_145 : decode cX11_four 145 = .ok (.ireturn, 1) := by decide +kernel
set_option maxRecDepth 20000 in
theorem ggX11_tallyFour_X11_tally : GoodIn wsX11_tallyFour wsX11_tally := goodIn_r _ [13, 14, 15, 16, 17, 18, 19, 20, 21, 22, 23, 24, 25, 26, 27, 28, 29] (by decide +kernel) (by decide +kernel)
set_option maxRecDepth 20000 in
theorem gX11_tallyFour_X11_tally : GoodIn wsX11_tallyFour (wsV RX11 252 RX11 yX11_tally wsX11_tally) := goodIn_app (goodIn_of _ (by decide +kernel)) ggX11_tallyFour_X11_tally
theorem dX11_tallyFour_0 : decode cX11_tallyFour 0 = .ok (.iload_n 1, 1) := by decide +kernel
theorem dX11_tallyFour_1 : decode cX11_tallyFour 1 = .ok (.istore 4, 2) := by decide +kernel
theorem dX11_tallyFour_3 : decode cX11_tallyFour 3 = .ok (.iload_n 2, 1) := by decide +kernel
theorem dX11_tallyFour_4 : decode cX11_tallyFour 4 = .ok (.istore 5, 2) := by decide +kernel
theorem dX11_tallyFour_6 : decode cX11_tallyFour 6 = .ok (.iload_n 3, 1) := by decide +kernel
theorem dX11_tallyFour_7 : decode cX11_tallyFour 7 = .ok (.istore 6, 2) := by decide +kernel
theorem dX11_tallyFour_9 : decode cX11_tallyFour 9 = .ok (.iconst 0, 1) := by decide +kernel
theorem dX11_tallyFour_10 : decode cX11_tallyFour 10 = .ok (.istore 7, 2) := by decide +kernel
theorem dX11_tallyFour_12 : decode cX11_tallyFour 12 = .ok (.iload 7, 2) := by decide +kernel
theorem dX11_tallyFour_14 : decode cX11_tallyFour 14 = .ok (.iconst 4, 1) := by decide +kernel
theorem dX11_tallyFour_15 : decode cX11_tallyFour 15 = .ok (.if_icmp .ge 91, 3) := by decide +kernel
theorem dX11_tallyFour_18 : decode cX11_tallyFour 18 = .ok (.iload 4, 2) := by decide +kernel
theorem dX11_tallyFour_20 : decode cX11_tallyFour 20 = .ok (.invokestatic 303, 3) := by decide +kernel
theorem dX11_tallyFour_23 : decode cX11_tallyFour 23 = .ok (.iload 5, 2) := by decide +kernel
theorem dX11_tallyFour_25 : decode cX11_tallyFour 25 = .ok (.invokestatic 303, 3) := by decide +kernel
theorem dX11_tallyFour_28 : decode cX11_tallyFour 28 = .ok (.invokestatic 276, 3) := by decide +kernel
theorem dX11_tallyFour_31 : decode cX11_tallyFour 31 = .ok (.iconst 1, 1) := by decide +kernel
theorem dX11_tallyFour_32 : decode cX11_tallyFour 32 = .ok (.iadd, 1) := by decide +kernel
theorem dX11_tallyFour_33 : decode cX11_tallyFour 33 = .ok (.iconst 2, 1) := by decide +kernel
theorem dX11_tallyFour_34 : decode cX11_tallyFour 34 = .ok (.idiv, 1) := by decide +kernel
theorem dX11_tallyFour_35 : decode cX11_tallyFour 35 = .ok (.istore 8, 2) := by decide +kernel
theorem dX11_tallyFour_37 : decode cX11_tallyFour 37 = .ok (.iload 8, 2) := by decide +kernel
theorem dX11_tallyFour_39 : decode cX11_tallyFour 39 = .ok (.ifCond .lt 48, 3) := by decide +kernel
theorem dX11_tallyFour_42 : decode cX11_tallyFour 42 = .ok (.iload 8, 2) := by decide +kernel
theorem dX11_tallyFour_44 : decode cX11_tallyFour 44 = .ok (.iload 6, 2) := by decide +kernel
theorem dX11_tallyFour_46 : decode cX11_tallyFour 46 = .ok (.if_icmp .gt 41, 3) := by decide +kernel
theorem dX11_tallyFour_49 : decode cX11_tallyFour 49 = .ok (.iload 8, 2) := by decide +kernel
theorem dX11_tallyFour_51 : decode cX11_tallyFour 51 = .ok (.bipush 30, 2) := by decide +kernel
theorem dX11_tallyFour_53 : decode cX11_tallyFour 53 = .ok (.if_icmp .gt 34, 3) := by decide +kernel
theorem dX11_tallyFour_56 : decode cX11_tallyFour 56 = .ok (.aload_n 0, 1) := by decide +kernel
theorem dX11_tallyFour_57 : decode cX11_tallyFour 57 = .ok (.iload 4, 2) := by decide +kernel
theorem dX11_tallyFour_59 : decode cX11_tallyFour 59 = .ok (.iload 5, 2) := by decide +kernel
theorem dX11_tallyFour_61 : decode cX11_tallyFour 61 = .ok (.invokevirtual 252, 3) := by decide +kernel
theorem dX11_tallyFour_64 : decode cX11_tallyFour 64 = .ok (.ifCond .le 12, 3) := by decide +kernel
theorem dX11_tallyFour_67 : decode cX11_tallyFour 67 = .ok (.iload 8, 2) := by decide +kernel
theorem dX11_tallyFour_69 : decode cX11_tallyFour 69 = .ok (.iconst 1, 1) := by decide +kernel
theorem dX11_tallyFour_70 : decode cX11_tallyFour 70 = .ok (.isub, 1) := by decide +kernel
theorem dX11_tallyFour_71 : decode cX11_tallyFour 71 = .ok (.istore 6, 2) := by decide +kernel
theorem dX11_tallyFour_73 : decode cX11_tallyFour 73 = .ok (.goto 14, 3) := by decide +kernel
theorem dX11_tallyFour_76 : decode cX11_tallyFour 76 = .ok (.aload_n 0, 1) := by decide +kernel
theorem dX11_tallyFour_77 : decode cX11_tallyFour 77 = .ok (.getfield 37, 3) := by decide +kernel
theorem dX11_tallyFour_80 : decode cX11_tallyFour 80 = .ok (.iload 8, 2) := by decide +kernel
theorem dX11_tallyFour_82 : decode cX11_tallyFour 82 = .ok (.dup2, 1) := by decide +kernel
theorem dX11_tallyFour_83 : decode cX11_tallyFour 83 = .ok (.iaload, 1) := by decide +kernel
theorem dX11_tallyFour_84 : decode cX11_tallyFour 84 = .ok (.iconst 1, 1) := by decide +kernel
theorem dX11_tallyFour_85 : decode cX11_tallyFour 85 = .ok (.iadd, 1) := by decide +kernel
theorem dX11_tallyFour_86 : decode cX11_tallyFour 86 = .ok (.iastore, 1) := by decide +kernel
theorem dX11_tallyFour_87 : decode cX11_tallyFour 87 = .ok (.iload 5, 2) := by decide +kernel
theorem dX11_tallyFour_89 : decode cX11_tallyFour 89 = .ok (.ineg, 1) := by decide +kernel
theorem dX11_tallyFour_90 : decode cX11_tallyFour 90 = .ok (.istore 9, 2) := by decide +kernel
theorem dX11_tallyFour_92 : decode cX11_tallyFour 92 = .ok (.iload 4, 2) := by decide +kernel
theorem dX11_tallyFour_94 : decode cX11_tallyFour 94 = .ok (.istore 5, 2) := by decide +kernel
theorem dX11_tallyFour_96 : decode cX11_tallyFour 96 = .ok (.iload 9, 2) := by decide +kernel
theorem dX11_tallyFour_98 : decode cX11_tallyFour 98 = .ok (.istore 4, 2) := by decide +kernel
theorem dX11_tallyFour_100 : decode cX11_tallyFour 100 = .ok (.iinc 7 1, 3) := by decide +kernel
theorem dX11_tallyFour_103 : decode cX11_tallyFour 103 = .ok (.goto (-91), 3) := by decide +kernel
theorem dX11_tallyFour_106 : decode cX11_tallyFour 106 = .ok (.iload 6, 2) := by decide +kernel
theorem dX11_tallyFour_108 : decode cX11_tallyFour 108 = .ok (.ireturn, 1) := by decide +kernel
theorem dX11_levelOf_0 : decode cX11_levelOf 0 = .ok (.iconst 0, 1) := by decide +kernel
theorem dX11_levelOf_1 : decode cX11_levelOf 1 = .ok (.istore_n 1, 1) := by decide +kernel
theorem dX11_levelOf_2 : decode cX11_levelOf 2 = .ok (.iload_n 1, 1) := by decide +kernel
theorem dX11_levelOf_3 : decode cX11_levelOf 3 = .ok (.bipush 31, 2) := by decide +kernel
theorem dX11_levelOf_5 : decode cX11_levelOf 5 = .ok (.if_icmp .ge 17, 3) := by decide +kernel
theorem dX11_levelOf_8 : decode cX11_levelOf 8 = .ok (.iload_n 0, 1) := by decide +kernel
theorem dX11_levelOf_9 : decode cX11_levelOf 9 = .ok (.iload_n 1, 1) := by decide +kernel
theorem dX11_levelOf_10 : decode cX11_levelOf 10 = .ok (.ishr, 1) := by decide +kernel
theorem dX11_levelOf_11 : decode cX11_levelOf 11 = .ok (.iconst 1, 1) := by decide +kernel
theorem dX11_levelOf_12 : decode cX11_levelOf 12 = .ok (.iand, 1) := by decide +kernel
theorem dX11_levelOf_13 : decode cX11_levelOf 13 = .ok (.ifCond .ne 9, 3) := by decide +kernel
theorem dX11_levelOf_16 : decode cX11_levelOf 16 = .ok (.iinc 1 1, 3) := by decide +kernel
theorem dX11_levelOf_19 : decode cX11_levelOf 19 = .ok (.goto (-17), 3) := by decide +kernel
theorem dX11_levelOf_22 : decode cX11_levelOf 22 = .ok (.iload_n 1, 1) := by decide +kernel
theorem dX11_levelOf_23 : decode cX11_levelOf 23 = .ok (.ireturn, 1) := by decide +kernel
theorem dX11_levelsReached_0 : decode cX11_levelsReached 0 = .ok (.iconst 0, 1) := by decide +kernel
theorem dX11_levelsReached_1 : decode cX11_levelsReached 1 = .ok (.istore_n 1, 1) := by decide +kernel
theorem dX11_levelsReached_2 : decode cX11_levelsReached 2 = .ok (.iload_n 1, 1) := by decide +kernel
theorem dX11_levelsReached_3 : decode cX11_levelsReached 3 = .ok (.bipush 31, 2) := by decide +kernel
theorem dX11_levelsReached_5 : decode cX11_levelsReached 5 = .ok (.if_icmp .ge 15, 3) := by decide +kernel
theorem dX11_levelsReached_8 : decode cX11_levelsReached 8 = .ok (.iload_n 0, 1) := by decide +kernel
theorem dX11_levelsReached_9 : decode cX11_levelsReached 9 = .ok (.iload_n 1, 1) := by decide +kernel
theorem dX11_levelsReached_10 : decode cX11_levelsReached 10 = .ok (.ishr, 1) := by decide +kernel
theorem dX11_levelsReached_11 : decode cX11_levelsReached 11 = .ok (.ifCond .eq 9, 3) := by decide +kernel
theorem dX11_levelsReached_14 : decode cX11_levelsReached 14 = .ok (.iinc 1 1, 3) := by decide +kernel
theorem dX11_levelsReached_17 : decode cX11_levelsReached 17 = .ok (.goto (-15), 3) := by decide +kernel
theorem dX11_levelsReached_20 : decode cX11_levelsReached 20 = .ok (.iload_n 1, 1) := by decide +kernel
theorem dX11_levelsReached_21 : decode cX11_levelsReached 21 = .ok (.ireturn, 1) := by decide +kernel
set_option maxRecDepth 20000 in
theorem ggX11_votes_X7_number : GoodIn wsX11_votes wsX7_number := goodIn_r _ [4, 5, 6, 11, 12, 13, 14] (by decide +kernel) (by decide +kernel)
set_option maxRecDepth 20000 in
theorem gX11_votes_X7_number_n175 : GoodIn wsX11_votes (wsX7_number) := ggX11_votes_X7_number
set_option maxRecDepth 20000 in
theorem ggX11_votes_X11_levelOf : GoodIn wsX11_votes wsX11_levelOf := goodIn_r _ [10] (by decide +kernel) (by decide +kernel)
set_option maxRecDepth 20000 in
theorem gX11_votes_X11_levelOf : GoodIn wsX11_votes (va_wsS RX11 306 yX11_levelOf wsX11_levelOf) := goodIn_app (goodIn_of _ (by decide +kernel)) ggX11_votes_X11_levelOf
theorem dX11_votes_0 : decode cX11_votes 0 = .ok (.iconst 0, 1) := by decide +kernel
theorem dX11_votes_1 : decode cX11_votes 1 = .ok (.istore 4, 2) := by decide +kernel
theorem dX11_votes_3 : decode cX11_votes 3 = .ok (.iconst 1, 1) := by decide +kernel
theorem dX11_votes_4 : decode cX11_votes 4 = .ok (.istore 5, 2) := by decide +kernel
theorem dX11_votes_6 : decode cX11_votes 6 = .ok (.iload 5, 2) := by decide +kernel
theorem dX11_votes_8 : decode cX11_votes 8 = .ok (.iload_n 1, 1) := by decide +kernel
theorem dX11_votes_9 : decode cX11_votes 9 = .ok (.if_icmp .gt 77, 3) := by decide +kernel
theorem dX11_votes_12 : decode cX11_votes 12 = .ok (.aload_n 0, 1) := by decide +kernel
theorem dX11_votes_13 : decode cX11_votes 13 = .ok (.iload 5, 2) := by decide +kernel
theorem dX11_votes_15 : decode cX11_votes 15 = .ok (.iconst 1, 1) := by decide +kernel
theorem dX11_votes_16 : decode cX11_votes 16 = .ok (.isub, 1) := by decide +kernel
theorem dX11_votes_17 : decode cX11_votes 17 = .ok (.invokevirtual 175, 3) := by decide +kernel
theorem dX11_votes_20 : decode cX11_votes 20 = .ok (.istore 6, 2) := by decide +kernel
theorem dX11_votes_22 : decode cX11_votes 22 = .ok (.iload 6, 2) := by decide +kernel
theorem dX11_votes_24 : decode cX11_votes 24 = .ok (.ifCond .eq 9, 3) := by decide +kernel
theorem dX11_votes_27 : decode cX11_votes 27 = .ok (.iload 6, 2) := by decide +kernel
theorem dX11_votes_29 : decode cX11_votes 29 = .ok (.iconst 1, 1) := by decide +kernel
theorem dX11_votes_30 : decode cX11_votes 30 = .ok (.if_icmp .ne 50, 3) := by decide +kernel
theorem dX11_votes_33 : decode cX11_votes 33 = .ok (.iload 5, 2) := by decide +kernel
theorem dX11_votes_35 : decode cX11_votes 35 = .ok (.invokestatic 306, 3) := by decide +kernel
theorem dX11_votes_38 : decode cX11_votes 38 = .ok (.iload_n 2, 1) := by decide +kernel
theorem dX11_votes_39 : decode cX11_votes 39 = .ok (.if_icmp .ne 41, 3) := by decide +kernel
theorem dX11_votes_42 : decode cX11_votes 42 = .ok (.iload 5, 2) := by decide +kernel
theorem dX11_votes_44 : decode cX11_votes 44 = .ok (.iload_n 2, 1) := by decide +kernel
theorem dX11_votes_45 : decode cX11_votes 45 = .ok (.ishr, 1) := by decide +kernel
theorem dX11_votes_46 : decode cX11_votes 46 = .ok (.iconst 3, 1) := by decide +kernel
theorem dX11_votes_47 : decode cX11_votes 47 = .ok (.iand, 1) := by decide +kernel
theorem dX11_votes_48 : decode cX11_votes 48 = .ok (.iconst 1, 1) := by decide +kernel
theorem dX11_votes_49 : decode cX11_votes 49 = .ok (.if_icmp .ne 7, 3) := by decide +kernel
theorem dX11_votes_52 : decode cX11_votes 52 = .ok (.iconst 1, 1) := by decide +kernel
theorem dX11_votes_53 : decode cX11_votes 53 = .ok (.goto 4, 3) := by decide +kernel
theorem dX11_votes_56 : decode cX11_votes 56 = .ok (.iconst 0, 1) := by decide +kernel
theorem dX11_votes_57 : decode cX11_votes 57 = .ok (.istore 7, 2) := by decide +kernel
theorem dX11_votes_59 : decode cX11_votes 59 = .ok (.iload 7, 2) := by decide +kernel
theorem dX11_votes_61 : decode cX11_votes 61 = .ok (.ifCond .eq 8, 3) := by decide +kernel
theorem dX11_votes_64 : decode cX11_votes 64 = .ok (.iload 6, 2) := by decide +kernel
theorem dX11_votes_66 : decode cX11_votes 66 = .ok (.goto 7, 3) := by decide +kernel
theorem dX11_votes_69 : decode cX11_votes 69 = .ok (.iconst 1, 1) := by decide +kernel
theorem dX11_votes_70 : decode cX11_votes 70 = .ok (.iload 6, 2) := by decide +kernel
theorem dX11_votes_72 : decode cX11_votes 72 = .ok (.isub, 1) := by decide +kernel
theorem dX11_votes_73 : decode cX11_votes 73 = .ok (.iload_n 3, 1) := by decide +kernel
theorem dX11_votes_74 : decode cX11_votes 74 = .ok (.if_icmp .ne 6, 3) := by decide +kernel
theorem dX11_votes_77 : decode cX11_votes 77 = .ok (.iinc 4 1, 3) := by decide +kernel
theorem dX11_votes_80 : decode cX11_votes 80 = .ok (.iinc 5 1, 3) := by decide +kernel
theorem dX11_votes_83 : decode cX11_votes 83 = .ok (.goto (-77), 3) := by decide +kernel
theorem dX11_votes_86 : decode cX11_votes 86 = .ok (.iload 4, 2) := by decide +kernel
theorem dX11_votes_88 : decode cX11_votes 88 = .ok (.ireturn, 1) := by decide +kernel
set_option maxRecDepth 20000 in
theorem ggX11_anyWordFits_X11_levelsReached : GoodIn wsX11_anyWordFits wsX11_levelsReached := goodIn_r _ [4] (by decide +kernel) (by decide +kernel)
set_option maxRecDepth 20000 in
theorem gX11_anyWordFits_X11_levelsReached : GoodIn wsX11_anyWordFits (va_wsS RX11 309 yX11_levelsReached wsX11_levelsReached) := goodIn_app (goodIn_of _ (by decide +kernel)) ggX11_anyWordFits_X11_levelsReached
set_option maxRecDepth 20000 in
theorem ggX11_anyWordFits_X11_votes : GoodIn wsX11_anyWordFits wsX11_votes := goodIn_r _ [7, 8, 9, 10, 11, 12, 13, 14, 15, 3, 16, 17, 18, 19, 20] (by decide +kernel) (by decide +kernel)
set_option maxRecDepth 20000 in
theorem gX11_anyWordFits_X11_votes : GoodIn wsX11_anyWordFits (va_wsS RX11 312 yX11_votes wsX11_votes) := goodIn_app (goodIn_of _ (by decide +kernel)) ggX11_anyWordFits_X11_votes
theorem dX11_anyWordFits_0 : decode cX11_anyWordFits 0 = .ok (.iload_n 1, 1) := by decide +kernel
theorem dX11_anyWordFits_1 : decode cX11_anyWordFits 1 = .ok (.invokestatic 309, 3) := by decide +kernel
theorem dX11_anyWordFits_4 : decode cX11_anyWordFits 4 = .ok (.istore_n 2, 1) := by decide +kernel
theorem dX11_anyWordFits_5 : decode cX11_anyWordFits 5 = .ok (.iconst 0, 1) := by decide +kernel
theorem dX11_anyWordFits_6 : decode cX11_anyWordFits 6 = .ok (.istore_n 3, 1) := by decide +kernel
theorem dX11_anyWordFits_7 : decode cX11_anyWordFits 7 = .ok (.iload_n 3, 1) := by decide +kernel
theorem dX11_anyWordFits_8 : decode cX11_anyWordFits 8 = .ok (.iload_n 2, 1) := by decide +kernel
theorem dX11_anyWordFits_9 : decode cX11_anyWordFits 9 = .ok (.if_icmp .ge 31, 3) := by decide +kernel
theorem dX11_anyWordFits_12 : decode cX11_anyWordFits 12 = .ok (.aload_n 0, 1) := by decide +kernel
theorem dX11_anyWordFits_13 : decode cX11_anyWordFits 13 = .ok (.iload_n 1, 1) := by decide +kernel
theorem dX11_anyWordFits_14 : decode cX11_anyWordFits 14 = .ok (.iload_n 3, 1) := by decide +kernel
theorem dX11_anyWordFits_15 : decode cX11_anyWordFits 15 = .ok (.iconst 0, 1) := by decide +kernel
theorem dX11_anyWordFits_16 : decode cX11_anyWordFits 16 = .ok (.invokestatic 312, 3) := by decide +kernel
theorem dX11_anyWordFits_19 : decode cX11_anyWordFits 19 = .ok (.ifCond .le 15, 3) := by decide +kernel
theorem dX11_anyWordFits_22 : decode cX11_anyWordFits 22 = .ok (.aload_n 0, 1) := by decide +kernel
theorem dX11_anyWordFits_23 : decode cX11_anyWordFits 23 = .ok (.iload_n 1, 1) := by decide +kernel
theorem dX11_anyWordFits_24 : decode cX11_anyWordFits 24 = .ok (.iload_n 3, 1) := by decide +kernel
theorem dX11_anyWordFits_25 : decode cX11_anyWordFits 25 = .ok (.iconst 1, 1) := by decide +kernel
theorem dX11_anyWordFits_26 : decode cX11_anyWordFits 26 = .ok (.invokestatic 312, 3) := by decide +kernel
theorem dX11_anyWordFits_29 : decode cX11_anyWordFits 29 = .ok (.ifCond .le 5, 3) := by decide +kernel
theorem dX11_anyWordFits_32 : decode cX11_anyWordFits 32 = .ok (.iconst 0, 1) := by decide +kernel
theorem dX11_anyWordFits_33 : decode cX11_anyWordFits 33 = .ok (.ireturn, 1) := by decide +kernel
theorem dX11_anyWordFits_34 : decode cX11_anyWordFits 34 = .ok (.iinc 3 1, 3) := by decide +kernel
theorem dX11_anyWordFits_37 : decode cX11_anyWordFits 37 = .ok (.goto (-30), 3) := by decide +kernel
theorem dX11_anyWordFits_40 : decode cX11_anyWordFits 40 = .ok (.iconst 1, 1) := by decide +kernel
theorem dX11_anyWordFits_41 : decode cX11_anyWordFits 41 = .ok (.ireturn, 1) := by decide +kernel
set_option maxRecDepth 20000 in
theorem ggX11_freeLevels_X11_levelsReached : GoodIn wsX11_freeLevels wsX11_levelsReached := goodIn_r _ [4] (by decide +kernel) (by decide +kernel)
set_option maxRecDepth 20000 in
theorem gX11_freeLevels_X11_levelsReached : GoodIn wsX11_freeLevels (va_wsS RX11 309 yX11_levelsReached wsX11_levelsReached) := goodIn_app (goodIn_of _ (by decide +kernel)) ggX11_freeLevels_X11_levelsReached
set_option maxRecDepth 20000 in
theorem ggX11_freeLevels_X11_votes : GoodIn wsX11_freeLevels wsX11_votes := goodIn_r _ [7, 8, 9, 10, 11, 12, 13, 14, 15, 3, 16, 17, 18, 19, 20] (by decide +kernel) (by decide +kernel)
set_option maxRecDepth 20000 in
theorem gX11_freeLevels_X11_votes : GoodIn wsX11_freeLevels (va_wsS RX11 312 yX11_votes wsX11_votes) := goodIn_app (goodIn_of _ (by decide +kernel)) ggX11_freeLevels_X11_votes
theorem dX11_freeLevels_0 : decode cX11_freeLevels 0 = .ok (.iload_n 1, 1) := by decide +kernel
theorem dX11_freeLevels_1 : decode cX11_freeLevels 1 = .ok (.invokestatic 309, 3) := by decide +kernel
theorem dX11_freeLevels_4 : decode cX11_freeLevels 4 = .ok (.istore_n 2, 1) := by decide +kernel
theorem dX11_freeLevels_5 : decode cX11_freeLevels 5 = .ok (.iconst 0, 1) := by decide +kernel
theorem dX11_freeLevels_6 : decode cX11_freeLevels 6 = .ok (.istore_n 3, 1) := by decide +kernel
theorem dX11_freeLevels_7 : decode cX11_freeLevels 7 = .ok (.iconst 0, 1) := by decide +kernel
theorem dX11_freeLevels_8 : decode cX11_freeLevels 8 = .ok (.istore 4, 2) := by decide +kernel
theorem dX11_freeLevels_10 : decode cX11_freeLevels 10 = .ok (.iload 4, 2) := by decide +kernel
theorem dX11_freeLevels_12 : decode cX11_freeLevels 12 = .ok (.iload_n 2, 1) := by decide +kernel
theorem dX11_freeLevels_13 : decode cX11_freeLevels 13 = .ok (.if_icmp .ge 34, 3) := by decide +kernel
theorem dX11_freeLevels_16 : decode cX11_freeLevels 16 = .ok (.aload_n 0, 1) := by decide +kernel
theorem dX11_freeLevels_17 : decode cX11_freeLevels 17 = .ok (.iload_n 1, 1) := by decide +kernel
theorem dX11_freeLevels_18 : decode cX11_freeLevels 18 = .ok (.iload 4, 2) := by decide +kernel
theorem dX11_freeLevels_20 : decode cX11_freeLevels 20 = .ok (.iconst 0, 1) := by decide +kernel
theorem dX11_freeLevels_21 : decode cX11_freeLevels 21 = .ok (.invokestatic 312, 3) := by decide +kernel
theorem dX11_freeLevels_24 : decode cX11_freeLevels 24 = .ok (.ifCond .ne 17, 3) := by decide +kernel
theorem dX11_freeLevels_27 : decode cX11_freeLevels 27 = .ok (.aload_n 0, 1) := by decide +kernel
theorem dX11_freeLevels_28 : decode cX11_freeLevels 28 = .ok (.iload_n 1, 1) := by decide +kernel
theorem dX11_freeLevels_29 : decode cX11_freeLevels 29 = .ok (.iload 4, 2) := by decide +kernel
theorem dX11_freeLevels_31 : decode cX11_freeLevels 31 = .ok (.iconst 1, 1) := by decide +kernel
theorem dX11_freeLevels_32 : decode cX11_freeLevels 32 = .ok (.invokestatic 312, 3) := by decide +kernel
theorem dX11_freeLevels_35 : decode cX11_freeLevels 35 = .ok (.ifCond .ne 6, 3) := by decide +kernel
theorem dX11_freeLevels_38 : decode cX11_freeLevels 38 = .ok (.iinc 3 1, 3) := by decide +kernel
theorem dX11_freeLevels_41 : decode cX11_freeLevels 41 = .ok (.iinc 4 1, 3) := by decide +kernel
theorem dX11_freeLevels_44 : decode cX11_freeLevels 44 = .ok (.goto (-34), 3) := by decide +kernel
theorem dX11_freeLevels_47 : decode cX11_freeLevels 47 = .ok (.iload_n 3, 1) := by decide +kernel
theorem dX11_freeLevels_48 : decode cX11_freeLevels 48 = .ok (.ireturn, 1) := by decide +kernel
set_option maxRecDepth 20000 in
theorem ggX11_toldTroubleTo63_X11_toldTrouble : GoodIn wsX11_toldTroubleTo63 wsX11_toldTrouble := goodIn_r _ [4, 5, 6, 3, 7, 8, 9, 10, 11] (by decide +kernel) (by decide +kernel)
set_option maxRecDepth 20000 in
theorem gX11_toldTroubleTo63_X11_toldTrouble : GoodIn wsX11_toldTroubleTo63 (va_wsS RX11 167 yX11_toldTrouble wsX11_toldTrouble) := goodIn_app (goodIn_of _ (by decide +kernel)) ggX11_toldTroubleTo63_X11_toldTrouble
theorem dX11_toldTroubleTo63_0 : decode cX11_toldTroubleTo63 0 = .ok (.aload_n 0, 1) := by decide +kernel
theorem dX11_toldTroubleTo63_1 : decode cX11_toldTroubleTo63 1 = .ok (.iload_n 1, 1) := by decide +kernel
theorem dX11_toldTroubleTo63_2 : decode cX11_toldTroubleTo63 2 = .ok (.invokestatic 167, 3) := by decide +kernel
theorem dX11_toldTroubleTo63_5 : decode cX11_toldTroubleTo63 5 = .ok (.istore_n 2, 1) := by decide +kernel
theorem dX11_toldTroubleTo63_6 : decode cX11_toldTroubleTo63 6 = .ok (.iload_n 2, 1) := by decide +kernel
theorem dX11_toldTroubleTo63_7 : decode cX11_toldTroubleTo63 7 = .ok (.ifCond .ne 14, 3) := by decide +kernel
theorem dX11_toldTroubleTo63_10 : decode cX11_toldTroubleTo63 10 = .ok (.iload_n 1, 1) := by decide +kernel
theorem dX11_toldTroubleTo63_11 : decode cX11_toldTroubleTo63 11 = .ok (.bipush 63, 2) := by decide +kernel
theorem dX11_toldTroubleTo63_13 : decode cX11_toldTroubleTo63 13 = .ok (.if_icmp .le 8, 3) := by decide +kernel
theorem dX11_toldTroubleTo63_16 : decode cX11_toldTroubleTo63 16 = .ok (.bipush (-6), 2) := by decide +kernel
theorem dX11_toldTroubleTo63_18 : decode cX11_toldTroubleTo63 18 = .ok (.goto 4, 3) := by decide +kernel
theorem dX11_toldTroubleTo63_21 : decode cX11_toldTroubleTo63 21 = .ok (.iload_n 2, 1) := by decide +kernel
theorem dX11_toldTroubleTo63_22 : decode cX11_toldTroubleTo63 22 = .ok (.ireturn, 1) := by decide +kernel
set_option maxRecDepth 20000 in
theorem ggX11_words_X11_shelfAt : GoodIn wsX11_words wsX11_shelfAt := goodIn_r _ [5, 6, 46, 47, 48, 49, 50, 51, 52, 53, 54, 55, 56, 57, 58] (by decide +kernel) (by decide +kernel)
set_option maxRecDepth 20000 in
theorem gX11_words_X11_shelfAt : GoodIn wsX11_words (wsV RX11 107 RX11 yX11_shelfAt wsX11_shelfAt) := goodIn_app (goodIn_of _ (by decide +kernel)) ggX11_words_X11_shelfAt
set_option maxRecDepth 20000 in
theorem ggX11_words_X11_toldTroubleTo63 : GoodIn wsX11_words wsX11_toldTroubleTo63 := goodIn_r _ [9, 10, 11, 4, 12, 13, 14, 15, 59, 60, 61, 62] (by decide +kernel) (by decide +kernel)
set_option maxRecDepth 20000 in
theorem gX11_words_X11_toldTroubleTo63 : GoodIn wsX11_words (va_wsS RX11 316 yX11_toldTroubleTo63 wsX11_toldTroubleTo63) := goodIn_app (goodIn_of _ (by decide +kernel)) ggX11_words_X11_toldTroubleTo63
set_option maxRecDepth 20000 in
theorem ggX11_words_X11_refuseTens : GoodIn wsX11_words wsX11_refuseTens := goodIn_r _ [19, 20, 21, 22, 4, 23, 24, 46, 47, 48, 49, 50, 51, 52, 53, 54, 55, 56, 57, 58] (by decide +kernel) (by decide +kernel)
set_option maxRecDepth 20000 in
theorem gX11_words_X11_refuseTens : GoodIn wsX11_words (wsV RX11 287 RX11 yX11_refuseTens wsX11_refuseTens) := goodIn_app (goodIn_of _ (by decide +kernel)) ggX11_words_X11_refuseTens
set_option maxRecDepth 20000 in
theorem ggX11_words_X11_anyWordFits : GoodIn wsX11_words wsX11_anyWordFits := goodIn_r _ [27, 28, 29, 4, 30, 31, 32, 33, 34, 35, 36, 37, 38, 39, 40, 41, 42, 59, 60, 61, 62] (by decide +kernel) (by decide +kernel)
set_option maxRecDepth 20000 in
theorem gX11_words_X11_anyWordFits : GoodIn wsX11_words (va_wsS RX11 319 yX11_anyWordFits wsX11_anyWordFits) := goodIn_app (goodIn_of _ (by decide +kernel)) ggX11_words_X11_anyWordFits
set_option maxRecDepth 20000 in
theorem ggX11_words_X11_freeLevels : GoodIn wsX11_words wsX11_freeLevels := goodIn_r _ [45, 28, 29, 4, 30, 31, 32, 33, 34, 35, 36, 37, 38, 39, 40, 41, 42, 59, 60, 61, 62] (by decide +kernel) (by decide +kernel)
set_option maxRecDepth 20000 in
theorem gX11_words_X11_freeLevels : GoodIn wsX11_words (va_wsS RX11 323 yX11_freeLevels wsX11_freeLevels) := goodIn_app (goodIn_of _ (by decide +kernel)) ggX11_words_X11_freeLevels
set_option maxRecDepth 20000 in
theorem ggX11_words_X11_levelsReached : GoodIn wsX11_words wsX11_levelsReached := goodIn_r _ [30] (by decide +kernel) (by decide +kernel)
set_option maxRecDepth 20000 in
theorem gX11_words_X11_levelsReached : GoodIn wsX11_words (va_wsS RX11 309 yX11_levelsReached wsX11_levelsReached) := goodIn_app (goodIn_of _ (by decide +kernel)) ggX11_words_X11_levelsReached
set_option maxRecDepth 20000 in
theorem ggX11_words_X11_votes : GoodIn wsX11_words wsX11_votes := goodIn_r _ [33, 34, 35, 36, 37, 38, 39, 40, 41, 4, 42, 59, 60, 61, 62] (by decide +kernel) (by decide +kernel)
set_option maxRecDepth 20000 in
theorem gX11_words_X11_votes : GoodIn wsX11_words (va_wsS RX11 312 yX11_votes wsX11_votes) := goodIn_app (goodIn_of _ (by decide +kernel)) ggX11_words_X11_votes
theorem dX11_words_0 : decode cX11_words 0 = .ok (.aload_n 0, 1) := by decide +kernel
theorem dX11_words_1 : decode cX11_words 1 = .ok (.iload_n 1, 1) := by decide +kernel
theorem dX11_words_2 : decode cX11_words 2 = .ok (.invokevirtual 107, 3) := by decide +kernel
theorem dX11_words_5 : decode cX11_words 5 = .ok (.astore 4, 2) := by decide +kernel
theorem dX11_words_7 : decode cX11_words 7 = .ok (.aload 4, 2) := by decide +kernel
theorem dX11_words_9 : decode cX11_words 9 = .ok (.iload_n 2, 1) := by decide +kernel
theorem dX11_words_10 : decode cX11_words 10 = .ok (.invokestatic 316, 3) := by decide +kernel
theorem dX11_words_13 : decode cX11_words 13 = .ok (.istore 5, 2) := by decide +kernel
theorem dX11_words_15 : decode cX11_words 15 = .ok (.iload 5, 2) := by decide +kernel
theorem dX11_words_17 : decode cX11_words 17 = .ok (.ifCond .ne 8, 3) := by decide +kernel
theorem dX11_words_20 : decode cX11_words 20 = .ok (.aload 4, 2) := by decide +kernel
theorem dX11_words_22 : decode cX11_words 22 = .ok (.ifnonnull 10, 3) := by decide +kernel
theorem dX11_words_25 : decode cX11_words 25 = .ok (.aload_n 0, 1) := by decide +kernel
theorem dX11_words_26 : decode cX11_words 26 = .ok (.iload 5, 2) := by decide +kernel
theorem dX11_words_28 : decode cX11_words 28 = .ok (.invokevirtual 287, 3) := by decide +kernel
theorem dX11_words_31 : decode cX11_words 31 = .ok (.ireturn, 1) := by decide +kernel
theorem dX11_words_32 : decode cX11_words 32 = .ok (.aload 4, 2) := by decide +kernel
theorem dX11_words_34 : decode cX11_words 34 = .ok (.iload_n 2, 1) := by decide +kernel
theorem dX11_words_35 : decode cX11_words 35 = .ok (.invokestatic 319, 3) := by decide +kernel
theorem dX11_words_38 : decode cX11_words 38 = .ok (.istore 6, 2) := by decide +kernel
theorem dX11_words_40 : decode cX11_words 40 = .ok (.iload_n 3, 1) := by decide +kernel
theorem dX11_words_41 : decode cX11_words 41 = .ok (.iconst (-1), 1) := by decide +kernel
theorem dX11_words_42 : decode cX11_words 42 = .ok (.if_icmp .ne 19, 3) := by decide +kernel
theorem dX11_words_45 : decode cX11_words 45 = .ok (.iload 6, 2) := by decide +kernel
theorem dX11_words_47 : decode cX11_words 47 = .ok (.ifCond .eq 12, 3) := by decide +kernel
theorem dX11_words_50 : decode cX11_words 50 = .ok (.aload 4, 2) := by decide +kernel
theorem dX11_words_52 : decode cX11_words 52 = .ok (.iload_n 2, 1) := by decide +kernel
theorem dX11_words_53 : decode cX11_words 53 = .ok (.invokestatic 323, 3) := by decide +kernel
theorem dX11_words_56 : decode cX11_words 56 = .ok (.goto 4, 3) := by decide +kernel
theorem dX11_words_59 : decode cX11_words 59 = .ok (.iconst (-1), 1) := by decide +kernel
theorem dX11_words_60 : decode cX11_words 60 = .ok (.ireturn, 1) := by decide +kernel
theorem dX11_words_61 : decode cX11_words 61 = .ok (.iload_n 3, 1) := by decide +kernel
theorem dX11_words_62 : decode cX11_words 62 = .ok (.ifCond .lt 16, 3) := by decide +kernel
theorem dX11_words_65 : decode cX11_words 65 = .ok (.iload_n 3, 1) := by decide +kernel
theorem dX11_words_66 : decode cX11_words 66 = .ok (.iload_n 2, 1) := by decide +kernel
theorem dX11_words_67 : decode cX11_words 67 = .ok (.invokestatic 309, 3) := by decide +kernel
theorem dX11_words_70 : decode cX11_words 70 = .ok (.if_icmp .ge 8, 3) := by decide +kernel
theorem dX11_words_73 : decode cX11_words 73 = .ok (.iload 6, 2) := by decide +kernel
theorem dX11_words_75 : decode cX11_words 75 = .ok (.ifCond .ne 10, 3) := by decide +kernel
theorem dX11_words_78 : decode cX11_words 78 = .ok (.aload_n 0, 1) := by decide +kernel
theorem dX11_words_79 : decode cX11_words 79 = .ok (.bipush (-5), 2) := by decide +kernel
theorem dX11_words_81 : decode cX11_words 81 = .ok (.invokevirtual 287, 3) := by decide +kernel
theorem dX11_words_84 : decode cX11_words 84 = .ok (.ireturn, 1) := by decide +kernel
theorem dX11_words_85 : decode cX11_words 85 = .ok (.aload 4, 2) := by decide +kernel
theorem dX11_words_87 : decode cX11_words 87 = .ok (.iload_n 2, 1) := by decide +kernel
theorem dX11_words_88 : decode cX11_words 88 = .ok (.iload_n 3, 1) := by decide +kernel
theorem dX11_words_89 : decode cX11_words 89 = .ok (.iconst 1, 1) := by decide +kernel
theorem dX11_words_90 : decode cX11_words 90 = .ok (.invokestatic 312, 3) := by decide +kernel
theorem dX11_words_93 : decode cX11_words 93 = .ok (.ifCond .le 7, 3) := by decide +kernel
theorem dX11_words_96 : decode cX11_words 96 = .ok (.iconst 1, 1) := by decide +kernel
theorem dX11_words_97 : decode cX11_words 97 = .ok (.goto 4, 3) := by decide +kernel
theorem dX11_words_100 : decode cX11_words 100 = .ok (.iconst 0, 1) := by decide +kernel
theorem dX11_words_101 : decode cX11_words 101 = .ok (.ireturn, 1) := by decide +kernel
set_option maxRecDepth 20000 in
theorem ggX11_wrong_X11_shelfAt : GoodIn wsX11_wrong wsX11_shelfAt := goodIn_r _ [5, 6, 43, 44, 45, 46, 47, 48, 49, 50, 51, 52, 53, 54, 55] (by decide +kernel) (by decide +kernel)
set_option maxRecDepth 20000 in
theorem gX11_wrong_X11_shelfAt : GoodIn wsX11_wrong (wsV RX11 107 RX11 yX11_shelfAt wsX11_shelfAt) := goodIn_app (goodIn_of _ (by decide +kernel)) ggX11_wrong_X11_shelfAt
set_option maxRecDepth 20000 in
theorem ggX11_wrong_X11_toldTroubleTo63 : GoodIn wsX11_wrong wsX11_toldTroubleTo63 := goodIn_r _ [9, 10, 11, 4, 12, 13, 14, 15, 56, 57, 58, 59] (by decide +kernel) (by decide +kernel)
set_option maxRecDepth 20000 in
theorem gX11_wrong_X11_toldTroubleTo63 : GoodIn wsX11_wrong (va_wsS RX11 316 yX11_toldTroubleTo63 wsX11_toldTroubleTo63) := goodIn_app (goodIn_of _ (by decide +kernel)) ggX11_wrong_X11_toldTroubleTo63
set_option maxRecDepth 20000 in
theorem ggX11_wrong_X11_refuseTens : GoodIn wsX11_wrong wsX11_refuseTens := goodIn_r _ [19, 20, 21, 22, 4, 23, 24, 43, 44, 45, 46, 47, 48, 49, 50, 51, 52, 53, 54, 55] (by decide +kernel) (by decide +kernel)
set_option maxRecDepth 20000 in
theorem gX11_wrong_X11_refuseTens : GoodIn wsX11_wrong (wsV RX11 287 RX11 yX11_refuseTens wsX11_refuseTens) := goodIn_app (goodIn_of _ (by decide +kernel)) ggX11_wrong_X11_refuseTens
set_option maxRecDepth 20000 in
theorem ggX11_wrong_X11_anyWordFits : GoodIn wsX11_wrong wsX11_anyWordFits := goodIn_r _ [27, 28, 29, 4, 30, 31, 32, 33, 34, 35, 36, 37, 38, 39, 40, 41, 42, 56, 57, 58, 59] (by decide +kernel) (by decide +kernel)
set_option maxRecDepth 20000 in
theorem gX11_wrong_X11_anyWordFits : GoodIn wsX11_wrong (va_wsS RX11 319 yX11_anyWordFits wsX11_anyWordFits) := goodIn_app (goodIn_of _ (by decide +kernel)) ggX11_wrong_X11_anyWordFits
theorem dX11_wrong_0 : decode cX11_wrong 0 = .ok (.aload_n 0, 1) := by decide +kernel
theorem dX11_wrong_1 : decode cX11_wrong 1 = .ok (.iload_n 1, 1) := by decide +kernel
theorem dX11_wrong_2 : decode cX11_wrong 2 = .ok (.invokevirtual 107, 3) := by decide +kernel
theorem dX11_wrong_5 : decode cX11_wrong 5 = .ok (.astore_n 3, 1) := by decide +kernel
theorem dX11_wrong_6 : decode cX11_wrong 6 = .ok (.aload_n 3, 1) := by decide +kernel
theorem dX11_wrong_7 : decode cX11_wrong 7 = .ok (.iload_n 2, 1) := by decide +kernel
theorem dX11_wrong_8 : decode cX11_wrong 8 = .ok (.invokestatic 316, 3) := by decide +kernel
theorem dX11_wrong_11 : decode cX11_wrong 11 = .ok (.istore 4, 2) := by decide +kernel
theorem dX11_wrong_13 : decode cX11_wrong 13 = .ok (.iload 4, 2) := by decide +kernel
theorem dX11_wrong_15 : decode cX11_wrong 15 = .ok (.ifCond .ne 7, 3) := by decide +kernel
theorem dX11_wrong_18 : decode cX11_wrong 18 = .ok (.aload_n 3, 1) := by decide +kernel
theorem dX11_wrong_19 : decode cX11_wrong 19 = .ok (.ifnonnull 10, 3) := by decide +kernel
theorem dX11_wrong_22 : decode cX11_wrong 22 = .ok (.aload_n 0, 1) := by decide +kernel
theorem dX11_wrong_23 : decode cX11_wrong 23 = .ok (.iload 4, 2) := by decide +kernel
theorem dX11_wrong_25 : decode cX11_wrong 25 = .ok (.invokevirtual 287, 3) := by decide +kernel
theorem dX11_wrong_28 : decode cX11_wrong 28 = .ok (.ireturn, 1) := by decide +kernel
theorem dX11_wrong_29 : decode cX11_wrong 29 = .ok (.iconst 1, 1) := by decide +kernel
theorem dX11_wrong_30 : decode cX11_wrong 30 = .ok (.istore 5, 2) := by decide +kernel
theorem dX11_wrong_32 : decode cX11_wrong 32 = .ok (.iload 5, 2) := by decide +kernel
theorem dX11_wrong_34 : decode cX11_wrong 34 = .ok (.iload_n 2, 1) := by decide +kernel
theorem dX11_wrong_35 : decode cX11_wrong 35 = .ok (.if_icmp .gt 21, 3) := by decide +kernel
theorem dX11_wrong_38 : decode cX11_wrong 38 = .ok (.aload_n 3, 1) := by decide +kernel
theorem dX11_wrong_39 : decode cX11_wrong 39 = .ok (.iload 5, 2) := by decide +kernel
theorem dX11_wrong_41 : decode cX11_wrong 41 = .ok (.invokestatic 319, 3) := by decide +kernel
theorem dX11_wrong_44 : decode cX11_wrong 44 = .ok (.ifCond .ne 6, 3) := by decide +kernel
theorem dX11_wrong_47 : decode cX11_wrong 47 = .ok (.iload 5, 2) := by decide +kernel
theorem dX11_wrong_49 : decode cX11_wrong 49 = .ok (.ireturn, 1) := by decide +kernel
theorem dX11_wrong_50 : decode cX11_wrong 50 = .ok (.iinc 5 1, 3) := by decide +kernel
theorem dX11_wrong_53 : decode cX11_wrong 53 = .ok (.goto (-21), 3) := by decide +kernel
theorem dX11_wrong_56 : decode cX11_wrong 56 = .ok (.iconst (-1), 1) := by decide +kernel
theorem dX11_wrong_57 : decode cX11_wrong 57 = .ok (.ireturn, 1) := by decide +kernel
set_option maxRecDepth 20000 in
theorem ggX11_mend_X11_shelfAt : GoodIn wsX11_mend wsX11_shelfAt := goodIn_r _ [9, 10, 40, 41, 42, 43, 44, 45, 46, 47, 48, 49, 50, 51, 52] (by decide +kernel) (by decide +kernel)
set_option maxRecDepth 20000 in
theorem gX11_mend_X11_shelfAt : GoodIn wsX11_mend (wsV RX11 107 RX11 yX11_shelfAt wsX11_shelfAt) := goodIn_app (goodIn_of _ (by decide +kernel)) ggX11_mend_X11_shelfAt
set_option maxRecDepth 20000 in
theorem ggX11_mend_X11_toldTroubleTo63 : GoodIn wsX11_mend wsX11_toldTroubleTo63 := goodIn_r _ [13, 14, 15, 8, 16, 17, 18, 19, 53, 54, 55, 56] (by decide +kernel) (by decide +kernel)
set_option maxRecDepth 20000 in
theorem gX11_mend_X11_toldTroubleTo63 : GoodIn wsX11_mend (va_wsS RX11 316 yX11_toldTroubleTo63 wsX11_toldTroubleTo63) := goodIn_app (goodIn_of _ (by decide +kernel)) ggX11_mend_X11_toldTroubleTo63
set_option maxRecDepth 20000 in
theorem ggX11_mend_X11_refuse : GoodIn wsX11_mend wsX11_refuse := goodIn_r _ [23, 24, 40, 41, 42, 43, 44, 45, 46, 47, 48, 49, 50, 51, 52] (by decide +kernel) (by decide +kernel)
set_option maxRecDepth 20000 in
theorem gX11_mend_X11_refuse : GoodIn wsX11_mend (wsV RX11 65 RX11 yX11_refuse wsX11_refuse) := goodIn_app (goodIn_of _ (by decide +kernel)) ggX11_mend_X11_refuse
set_option maxRecDepth 20000 in
theorem ggX11_mend_X11_levelsReached : GoodIn wsX11_mend wsX11_levelsReached := goodIn_r _ [27] (by decide +kernel) (by decide +kernel)
set_option maxRecDepth 20000 in
theorem gX11_mend_X11_levelsReached : GoodIn wsX11_mend (va_wsS RX11 309 yX11_levelsReached wsX11_levelsReached) := goodIn_app (goodIn_of _ (by decide +kernel)) ggX11_mend_X11_levelsReached
set_option maxRecDepth 20000 in
theorem ggX11_mend_X11_votes : GoodIn wsX11_mend wsX11_votes := goodIn_r _ [30, 31, 32, 33, 34, 35, 36, 37, 38, 8, 39, 53, 54, 55, 56] (by decide +kernel) (by decide +kernel)
set_option maxRecDepth 20000 in
theorem gX11_mend_X11_votes : GoodIn wsX11_mend (va_wsS RX11 312 yX11_votes wsX11_votes) := goodIn_app (goodIn_of _ (by decide +kernel)) ggX11_mend_X11_votes
theorem dX11_mend_0 : decode cX11_mend 0 = .ok (.aload_n 0, 1) := by decide +kernel
theorem dX11_mend_1 : decode cX11_mend 1 = .ok (.iload_n 1, 1) := by decide +kernel
theorem dX11_mend_2 : decode cX11_mend 2 = .ok (.invokevirtual 107, 3) := by decide +kernel
theorem dX11_mend_5 : decode cX11_mend 5 = .ok (.astore_n 3, 1) := by decide +kernel
theorem dX11_mend_6 : decode cX11_mend 6 = .ok (.aload_n 3, 1) := by decide +kernel
theorem dX11_mend_7 : decode cX11_mend 7 = .ok (.iload_n 2, 1) := by decide +kernel
theorem dX11_mend_8 : decode cX11_mend 8 = .ok (.invokestatic 316, 3) := by decide +kernel
theorem dX11_mend_11 : decode cX11_mend 11 = .ok (.istore 4, 2) := by decide +kernel
theorem dX11_mend_13 : decode cX11_mend 13 = .ok (.iload 4, 2) := by decide +kernel
theorem dX11_mend_15 : decode cX11_mend 15 = .ok (.ifCond .ne 7, 3) := by decide +kernel
theorem dX11_mend_18 : decode cX11_mend 18 = .ok (.aload_n 3, 1) := by decide +kernel
theorem dX11_mend_19 : decode cX11_mend 19 = .ok (.ifnonnull 10, 3) := by decide +kernel
theorem dX11_mend_22 : decode cX11_mend 22 = .ok (.aload_n 0, 1) := by decide +kernel
theorem dX11_mend_23 : decode cX11_mend 23 = .ok (.iload 4, 2) := by decide +kernel
theorem dX11_mend_25 : decode cX11_mend 25 = .ok (.invokevirtual 65, 3) := by decide +kernel
theorem dX11_mend_28 : decode cX11_mend 28 = .ok (.ireturn, 1) := by decide +kernel
theorem dX11_mend_29 : decode cX11_mend 29 = .ok (.iload_n 2, 1) := by decide +kernel
theorem dX11_mend_30 : decode cX11_mend 30 = .ok (.invokestatic 309, 3) := by decide +kernel
theorem dX11_mend_33 : decode cX11_mend 33 = .ok (.istore 5, 2) := by decide +kernel
theorem dX11_mend_35 : decode cX11_mend 35 = .ok (.iconst 0, 1) := by decide +kernel
theorem dX11_mend_36 : decode cX11_mend 36 = .ok (.istore 6, 2) := by decide +kernel
theorem dX11_mend_38 : decode cX11_mend 38 = .ok (.iconst 0, 1) := by decide +kernel
theorem dX11_mend_39 : decode cX11_mend 39 = .ok (.istore 7, 2) := by decide +kernel
theorem dX11_mend_41 : decode cX11_mend 41 = .ok (.iload 7, 2) := by decide +kernel
theorem dX11_mend_43 : decode cX11_mend 43 = .ok (.iload 5, 2) := by decide +kernel
theorem dX11_mend_45 : decode cX11_mend 45 = .ok (.if_icmp .ge 33, 3) := by decide +kernel
theorem dX11_mend_48 : decode cX11_mend 48 = .ok (.iload 6, 2) := by decide +kernel
theorem dX11_mend_50 : decode cX11_mend 50 = .ok (.aload_n 3, 1) := by decide +kernel
theorem dX11_mend_51 : decode cX11_mend 51 = .ok (.iload_n 2, 1) := by decide +kernel
theorem dX11_mend_52 : decode cX11_mend 52 = .ok (.iload 7, 2) := by decide +kernel
theorem dX11_mend_54 : decode cX11_mend 54 = .ok (.iconst 0, 1) := by decide +kernel
theorem dX11_mend_55 : decode cX11_mend 55 = .ok (.invokestatic 312, 3) := by decide +kernel
theorem dX11_mend_58 : decode cX11_mend 58 = .ok (.aload_n 3, 1) := by decide +kernel
theorem dX11_mend_59 : decode cX11_mend 59 = .ok (.iload_n 2, 1) := by decide +kernel
theorem dX11_mend_60 : decode cX11_mend 60 = .ok (.iload 7, 2) := by decide +kernel
theorem dX11_mend_62 : decode cX11_mend 62 = .ok (.iconst 1, 1) := by decide +kernel
theorem dX11_mend_63 : decode cX11_mend 63 = .ok (.invokestatic 312, 3) := by decide +kernel
theorem dX11_mend_66 : decode cX11_mend 66 = .ok (.invokestatic 326, 3) := by decide +kernel
theorem dX11_mend_69 : decode cX11_mend 69 = .ok (.iadd, 1) := by decide +kernel
theorem dX11_mend_70 : decode cX11_mend 70 = .ok (.istore 6, 2) := by decide +kernel
theorem dX11_mend_72 : decode cX11_mend 72 = .ok (.iinc 7 1, 3) := by decide +kernel
theorem dX11_mend_75 : decode cX11_mend 75 = .ok (.goto (-34), 3) := by decide +kernel
theorem dX11_mend_78 : decode cX11_mend 78 = .ok (.iload 6, 2) := by decide +kernel
theorem dX11_mend_80 : decode cX11_mend 80 = .ok (.ireturn, 1) := by decide +kernel
set_option maxRecDepth 20000 in
theorem ggX11_judge_X11_stripAt : GoodIn wsX11_judge wsX11_stripAt := goodIn_r _ [5, 6, 7, 168, 169, 170, 171, 172, 173, 174, 175, 176, 177, 178, 179, 180] (by decide +kernel) (by decide +kernel)
set_option maxRecDepth 20000 in
theorem gX11_judge_X11_stripAt : GoodIn wsX11_judge (wsV RX11 137 RX11 yX11_stripAt wsX11_stripAt) := goodIn_app (goodIn_of _ (by decide +kernel)) ggX11_judge_X11_stripAt
set_option maxRecDepth 20000 in
theorem ggX11_judge_X11_shelfAt : GoodIn wsX11_judge wsX11_shelfAt := goodIn_r _ [11, 12, 168, 169, 170, 171, 172, 173, 174, 175, 176, 177, 178, 179, 180] (by decide +kernel) (by decide +kernel)
set_option maxRecDepth 20000 in
theorem gX11_judge_X11_shelfAt : GoodIn wsX11_judge (wsV RX11 107 RX11 yX11_shelfAt wsX11_shelfAt) := goodIn_app (goodIn_of _ (by decide +kernel)) ggX11_judge_X11_shelfAt
set_option maxRecDepth 20000 in
theorem ggX11_judge_X11_refuseTens : GoodIn wsX11_judge wsX11_refuseTens := goodIn_r _ [16, 17, 18, 19, 4, 20, 21, 168, 169, 170, 171, 172, 173, 174, 175, 176, 177, 178, 179, 180] (by decide +kernel) (by decide +kernel)
set_option maxRecDepth 20000 in
theorem gX11_judge_X11_refuseTens : GoodIn wsX11_judge (wsV RX11 287 RX11 yX11_refuseTens wsX11_refuseTens) := goodIn_app (goodIn_of _ (by decide +kernel)) ggX11_judge_X11_refuseTens
set_option maxRecDepth 20000 in
theorem ggX11_judge_X11_toldTrouble : GoodIn wsX11_judge wsX11_toldTrouble := goodIn_r _ [24, 25, 26, 4, 27, 181, 182, 183, 184] (by decide +kernel) (by decide +kernel)
set_option maxRecDepth 20000 in
theorem gX11_judge_X11_toldTrouble : GoodIn wsX11_judge (va_wsS RX11 167 yX11_toldTrouble wsX11_toldTrouble) := goodIn_app (goodIn_of _ (by decide +kernel)) ggX11_judge_X11_toldTrouble
set_option maxRecDepth 20000 in
theorem ggX11_judge_X8_corners : GoodIn wsX11_judge wsX8_corners := goodIn_r _ [33, 34, 35, 36, 37, 32, 38, 39, 40, 41, 42, 43, 44, 45, 46, 47, 48, 49, 50, 51, 52, 53, 54, 55, 56, 57, 58, 59, 60, 61, 62, 63, 64, 65, 66, 67, 68, 69, 70, 71, 72, 73, 74, 75, 185, 186, 187, 188, 189, 190, 191, 192, 193, 194, 195, 196, 197, 198, 199, 200, 201, 202, 203, 204, 205, 206, 207, 208, 209, 210, 211, 212] (by decide +kernel) (by decide +kernel)
set_option maxRecDepth 20000 in
theorem gX11_judge_X8_corners_u152X0 : GoodIn wsX11_judge (va_wsU RX11 152 RX0 "FoldedInHalf$Strip" ⟨"FoldedInHalf$Strip", "corners", "()J"⟩ yX8_corners wsX8_corners) := goodIn_app (goodIn_of _ (by decide +kernel)) ggX11_judge_X8_corners
set_option maxRecDepth 20000 in
theorem gX11_judge_X8_corners_u152X1 : GoodIn wsX11_judge (va_wsU RX11 152 RX1 "FoldedInHalf$Strip" ⟨"FoldedInHalf$Strip", "corners", "()J"⟩ yX8_corners wsX8_corners) := goodIn_app (goodIn_of _ (by decide +kernel)) ggX11_judge_X8_corners
set_option maxRecDepth 20000 in
theorem gX11_judge_X8_corners_u152X2 : GoodIn wsX11_judge (va_wsU RX11 152 RX2 "FoldedInHalf$Strip" ⟨"FoldedInHalf$Strip", "corners", "()J"⟩ yX8_corners wsX8_corners) := goodIn_app (goodIn_of _ (by decide +kernel)) ggX11_judge_X8_corners
set_option maxRecDepth 20000 in
theorem gX11_judge_X8_corners_u152X4 : GoodIn wsX11_judge (va_wsU RX11 152 RX4 "FoldedInHalf$Strip" ⟨"FoldedInHalf$Strip", "corners", "()J"⟩ yX8_corners wsX8_corners) := goodIn_app (goodIn_of _ (by decide +kernel)) ggX11_judge_X8_corners
set_option maxRecDepth 20000 in
theorem gX11_judge_X8_corners_u152X6 : GoodIn wsX11_judge (va_wsU RX11 152 RX6 "FoldedInHalf$Strip" ⟨"FoldedInHalf$Strip", "corners", "()J"⟩ yX8_corners wsX8_corners) := goodIn_app (goodIn_of _ (by decide +kernel)) ggX11_judge_X8_corners
set_option maxRecDepth 20000 in
theorem gX11_judge_X8_corners : GoodIn wsX11_judge (wsV RX11 152 RX8 yX8_corners wsX8_corners) := goodIn_app (goodIn_of _ (by decide +kernel)) ggX11_judge_X8_corners
set_option maxRecDepth 20000 in
theorem gX11_judge_X8_corners_u152X9 : GoodIn wsX11_judge (va_wsU RX11 152 RX9 "FoldedInHalf$Strip" ⟨"FoldedInHalf$Strip", "corners", "()J"⟩ yX8_corners wsX8_corners) := goodIn_app (goodIn_of _ (by decide +kernel)) ggX11_judge_X8_corners
set_option maxRecDepth 20000 in
theorem ggX11_judge_X7_number : GoodIn wsX11_judge wsX7_number := goodIn_r _ [86, 87, 88, 181, 182, 183, 184] (by decide +kernel) (by decide +kernel)
set_option maxRecDepth 20000 in
theorem gX11_judge_X7_number_n175 : GoodIn wsX11_judge (wsX7_number) := ggX11_judge_X7_number
set_option maxRecDepth 20000 in
theorem ggX11_judge_X0_creaseAt : GoodIn wsX11_judge wsX0_creaseAt := goodIn_r _ [95, 96, 97, 98, 31, 32, 33, 34, 35, 36, 37, 38, 39, 40, 41, 42, 43, 44, 45, 46, 47, 48, 49, 50, 51, 52, 53, 54, 55, 56, 57, 58, 59, 60, 61, 62, 63, 64, 65, 66, 67, 68, 69, 70, 71, 72, 73, 74, 75, 99, 100, 101, 102, 103, 104, 105, 106, 107, 108, 109, 90, 110, 111, 112, 113, 114, 115, 116, 117, 118, 119, 120, 121, 122, 123, 124, 125, 126, 127, 128, 129, 130, 131, 132, 133, 134, 135, 136, 137, 138, 139, 140, 141, 142, 143, 144, 145, 146, 147, 148, 149, 150, 151, 185, 186, 187, 188, 189, 190, 191, 192, 193, 194, 195, 196, 197, 198, 199, 200, 201, 202, 203, 204, 205, 206, 207, 208, 209, 210, 211, 212] (by decide +kernel) (by decide +kernel)
set_option maxRecDepth 20000 in
theorem gX11_judge_X0_creaseAt_u160X0 : GoodIn wsX11_judge (va_wsO RX11 160 RX0 "FoldedInHalf$Strip" ⟨"FoldedInHalf$Strip", "creaseAt", "(J)I"⟩ yX0_creaseAt wsX0_creaseAt) := goodIn_app (goodIn_of _ (by decide +kernel)) ggX11_judge_X0_creaseAt
set_option maxRecDepth 20000 in
theorem ggX11_judge_X1_creaseAt : GoodIn wsX11_judge wsX1_creaseAt := goodIn_r _ [103, 104, 105, 106, 58, 59, 60, 61, 62, 63, 64, 65, 37, 32, 38, 39, 66, 107, 108, 109, 90, 110, 111, 112, 113, 114, 115, 116, 117, 118, 119, 120, 121, 122, 123, 124, 125, 126, 127, 128, 129, 130, 131, 132, 133, 134, 135, 136, 137, 138, 139, 140, 141, 142, 143, 144, 145, 146, 147, 148, 149, 150, 151, 185, 186, 187, 188, 189, 190, 191, 192, 193, 194, 195, 196, 197, 198, 199, 200, 201, 202, 203, 204, 205, 206, 207, 208, 209, 210, 211, 212] (by decide +kernel) (by decide +kernel)
set_option maxRecDepth 20000 in
theorem gX11_judge_X1_creaseAt_u160X1 : GoodIn wsX11_judge (va_wsO RX11 160 RX1 "FoldedInHalf$Strip" ⟨"FoldedInHalf$Strip", "creaseAt", "(J)I"⟩ yX1_creaseAt wsX1_creaseAt) := goodIn_app (goodIn_of _ (by decide +kernel)) ggX11_judge_X1_creaseAt
set_option maxRecDepth 20000 in
theorem ggX11_judge_X8_creaseAt : GoodIn wsX11_judge wsX8_creaseAt := goodIn_r _ [112, 113, 114, 115, 116, 117, 32, 118, 119, 120, 121, 122, 123, 124, 125, 126, 127, 128, 129, 130, 131, 132, 133, 134, 135, 136, 137, 138, 139, 140, 141, 142, 143, 144, 145, 146, 147, 148, 149, 150, 151, 185, 186, 187, 188, 189, 190, 191, 192, 193, 194, 195, 196, 197, 198, 199, 200, 201, 202, 203, 204, 205, 206, 207, 208, 209, 210, 211, 212] (by decide +kernel) (by decide +kernel)
set_option maxRecDepth 20000 in
theorem gX11_judge_X8_creaseAt_u160X2 : GoodIn wsX11_judge (va_wsU RX11 160 RX2 "FoldedInHalf$Strip" ⟨"FoldedInHalf$Strip", "creaseAt", "(J)I"⟩ yX8_creaseAt wsX8_creaseAt) := goodIn_app (goodIn_of _ (by decide +kernel)) ggX11_judge_X8_creaseAt
set_option maxRecDepth 20000 in
theorem ggX11_judge_X4_creaseAt : GoodIn wsX11_judge wsX4_creaseAt := goodIn_r _ [157, 158] (by decide +kernel) (by decide +kernel)
set_option maxRecDepth 20000 in
theorem gX11_judge_X4_creaseAt_u160X4 : GoodIn wsX11_judge (va_wsO RX11 160 RX4 "FoldedInHalf$Strip" ⟨"FoldedInHalf$Strip", "creaseAt", "(J)I"⟩ yX4_creaseAt wsX4_creaseAt) := goodIn_app (goodIn_of _ (by decide +kernel)) ggX11_judge_X4_creaseAt
set_option maxRecDepth 20000 in
theorem gX11_judge_X8_creaseAt_u160X6 : GoodIn wsX11_judge (va_wsU RX11 160 RX6 "FoldedInHalf$Strip" ⟨"FoldedInHalf$Strip", "creaseAt", "(J)I"⟩ yX8_creaseAt wsX8_creaseAt) := goodIn_app (goodIn_of _ (by decide +kernel)) ggX11_judge_X8_creaseAt
set_option maxRecDepth 20000 in
theorem gX11_judge_X8_creaseAt : GoodIn wsX11_judge (wsV RX11 160 RX8 yX8_creaseAt wsX8_creaseAt) := goodIn_app (goodIn_of _ (by decide +kernel)) ggX11_judge_X8_creaseAt
set_option maxRecDepth 20000 in
theorem ggX11_judge_X9_creaseAt : GoodIn wsX11_judge wsX9_creaseAt := goodIn_r _ [164, 53, 165, 166, 167, 117, 32, 118, 119, 120, 121, 122, 123, 124, 125, 126, 127, 128, 129, 130, 131, 185, 186, 187, 188, 189, 190, 191, 192, 193, 194, 195, 196, 197, 198, 199, 200, 201, 202, 203, 204, 205, 206, 207, 208, 209, 210, 211, 212] (by decide +kernel) (by decide +kernel)
set_option maxRecDepth 20000 in
theorem gX11_judge_X9_creaseAt_u160X9 : GoodIn wsX11_judge (va_wsO RX11 160 RX9 "FoldedInHalf$Strip" ⟨"FoldedInHalf$Strip", "creaseAt", "(J)I"⟩ yX9_creaseAt wsX9_creaseAt) := goodIn_app (goodIn_of _ (by decide +kernel)) ggX11_judge_X9_creaseAt
theorem dX11_judge_0 : decode cX11_judge 0 = .ok (.aload_n 0, 1) := by decide +kernel
theorem dX11_judge_1 : decode cX11_judge 1 = .ok (.iload_n 1, 1) := by decide +kernel
theorem dX11_judge_2 : decode cX11_judge 2 = .ok (.invokevirtual 137, 3) := by decide +kernel
theorem dX11_judge_5 : decode cX11_judge 5 = .ok (.astore 4, 2) := by decide +kernel
theorem dX11_judge_7 : decode cX11_judge 7 = .ok (.aload_n 0, 1) := by decide +kernel
theorem dX11_judge_8 : decode cX11_judge 8 = .ok (.iload_n 2, 1) := by decide +kernel
theorem dX11_judge_9 : decode cX11_judge 9 = .ok (.invokevirtual 107, 3) := by decide +kernel
theorem dX11_judge_12 : decode cX11_judge 12 = .ok (.astore 5, 2) := by decide +kernel
theorem dX11_judge_14 : decode cX11_judge 14 = .ok (.aload 4, 2) := by decide +kernel
theorem dX11_judge_16 : decode cX11_judge 16 = .ok (.ifnull 8, 3) := by decide +kernel
theorem dX11_judge_19 : decode cX11_judge 19 = .ok (.aload 5, 2) := by decide +kernel
theorem dX11_judge_21 : decode cX11_judge 21 = .ok (.ifnonnull 9, 3) := by decide +kernel
theorem dX11_judge_24 : decode cX11_judge 24 = .ok (.aload_n 0, 1) := by decide +kernel
theorem dX11_judge_25 : decode cX11_judge 25 = .ok (.iconst (-1), 1) := by decide +kernel
theorem dX11_judge_26 : decode cX11_judge 26 = .ok (.invokevirtual 287, 3) := by decide +kernel
theorem dX11_judge_29 : decode cX11_judge 29 = .ok (.ireturn, 1) := by decide +kernel
theorem dX11_judge_30 : decode cX11_judge 30 = .ok (.aload 5, 2) := by decide +kernel
theorem dX11_judge_32 : decode cX11_judge 32 = .ok (.iload_n 3, 1) := by decide +kernel
theorem dX11_judge_33 : decode cX11_judge 33 = .ok (.invokestatic 167, 3) := by decide +kernel
theorem dX11_judge_36 : decode cX11_judge 36 = .ok (.istore 6, 2) := by decide +kernel
theorem dX11_judge_38 : decode cX11_judge 38 = .ok (.iload 6, 2) := by decide +kernel
theorem dX11_judge_40 : decode cX11_judge 40 = .ok (.ifCond .ne 18, 3) := by decide +kernel
theorem dX11_judge_43 : decode cX11_judge 43 = .ok (.iload_n 3, 1) := by decide +kernel
theorem dX11_judge_44 : decode cX11_judge 44 = .ok (.i2l, 1) := by decide +kernel
theorem dX11_judge_45 : decode cX11_judge 45 = .ok (.aload 4, 2) := by decide +kernel
theorem dX11_judge_47 : decode cX11_judge 47 = .ok (.invokevirtual 152, 3) := by decide +kernel
theorem dX11_judge_50 : decode cX11_judge 50 = .ok (.lcmp, 1) := by decide +kernel
theorem dX11_judge_51 : decode cX11_judge 51 = .ok (.ifCond .le 7, 3) := by decide +kernel
theorem dX11_judge_54 : decode cX11_judge 54 = .ok (.bipush (-5), 2) := by decide +kernel
theorem dX11_judge_56 : decode cX11_judge 56 = .ok (.istore 6, 2) := by decide +kernel
theorem dX11_judge_58 : decode cX11_judge 58 = .ok (.iload 6, 2) := by decide +kernel
theorem dX11_judge_60 : decode cX11_judge 60 = .ok (.ifCond .ne 13, 3) := by decide +kernel
theorem dX11_judge_63 : decode cX11_judge 63 = .ok (.iload_n 3, 1) := by decide +kernel
theorem dX11_judge_64 : decode cX11_judge 64 = .ok (.bipush 63, 2) := by decide +kernel
theorem dX11_judge_66 : decode cX11_judge 66 = .ok (.if_icmp .le 7, 3) := by decide +kernel
theorem dX11_judge_69 : decode cX11_judge 69 = .ok (.bipush (-6), 2) := by decide +kernel
theorem dX11_judge_71 : decode cX11_judge 71 = .ok (.istore 6, 2) := by decide +kernel
theorem dX11_judge_73 : decode cX11_judge 73 = .ok (.iload 6, 2) := by decide +kernel
theorem dX11_judge_75 : decode cX11_judge 75 = .ok (.ifCond .eq 10, 3) := by decide +kernel
theorem dX11_judge_78 : decode cX11_judge 78 = .ok (.aload_n 0, 1) := by decide +kernel
theorem dX11_judge_79 : decode cX11_judge 79 = .ok (.iload 6, 2) := by decide +kernel
theorem dX11_judge_81 : decode cX11_judge 81 = .ok (.invokevirtual 287, 3) := by decide +kernel
theorem dX11_judge_84 : decode cX11_judge 84 = .ok (.ireturn, 1) := by decide +kernel
theorem dX11_judge_85 : decode cX11_judge 85 = .ok (.iconst 1, 1) := by decide +kernel
theorem dX11_judge_86 : decode cX11_judge 86 = .ok (.istore 7, 2) := by decide +kernel
theorem dX11_judge_88 : decode cX11_judge 88 = .ok (.iload 7, 2) := by decide +kernel
theorem dX11_judge_90 : decode cX11_judge 90 = .ok (.iload_n 3, 1) := by decide +kernel
theorem dX11_judge_91 : decode cX11_judge 91 = .ok (.if_icmp .gt 47, 3) := by decide +kernel
theorem dX11_judge_94 : decode cX11_judge 94 = .ok (.aload 5, 2) := by decide +kernel
theorem dX11_judge_96 : decode cX11_judge 96 = .ok (.iload 7, 2) := by decide +kernel
theorem dX11_judge_98 : decode cX11_judge 98 = .ok (.iconst 1, 1) := by decide +kernel
theorem dX11_judge_99 : decode cX11_judge 99 = .ok (.isub, 1) := by decide +kernel
theorem dX11_judge_100 : decode cX11_judge 100 = .ok (.invokevirtual 175, 3) := by decide +kernel
theorem dX11_judge_103 : decode cX11_judge 103 = .ok (.istore 8, 2) := by decide +kernel
theorem dX11_judge_105 : decode cX11_judge 105 = .ok (.iload 8, 2) := by decide +kernel
theorem dX11_judge_107 : decode cX11_judge 107 = .ok (.ifCond .eq 9, 3) := by decide +kernel
theorem dX11_judge_110 : decode cX11_judge 110 = .ok (.iload 8, 2) := by decide +kernel
theorem dX11_judge_112 : decode cX11_judge 112 = .ok (.iconst 1, 1) := by decide +kernel
theorem dX11_judge_113 : decode cX11_judge 113 = .ok (.if_icmp .ne 19, 3) := by decide +kernel
theorem dX11_judge_116 : decode cX11_judge 116 = .ok (.aload 4, 2) := by decide +kernel
theorem dX11_judge_118 : decode cX11_judge 118 = .ok (.iload 7, 2) := by decide +kernel
theorem dX11_judge_120 : decode cX11_judge 120 = .ok (.i2l, 1) := by decide +kernel
theorem dX11_judge_121 : decode cX11_judge 121 = .ok (.invokevirtual 160, 3) := by decide +kernel
theorem dX11_judge_124 : decode cX11_judge 124 = .ok (.iload 8, 2) := by decide +kernel
theorem dX11_judge_126 : decode cX11_judge 126 = .ok (.if_icmp .eq 6, 3) := by decide +kernel
theorem dX11_judge_129 : decode cX11_judge 129 = .ok (.iload 7, 2) := by decide +kernel
theorem dX11_judge_131 : decode cX11_judge 131 = .ok (.ireturn, 1) := by decide +kernel
theorem dX11_judge_132 : decode cX11_judge 132 = .ok (.iinc 7 1, 3) := by decide +kernel
theorem dX11_judge_135 : decode cX11_judge 135 = .ok (.goto (-47), 3) := by decide +kernel
theorem dX11_judge_138 : decode cX11_judge 138 = .ok (.iconst (-1), 1) := by decide +kernel
theorem dX11_judge_139 : decode cX11_judge 139 = .ok (.ireturn, 1) := by decide +kernel
theorem dX11_endsAt_0 : decode cX11_endsAt 0 = .ok (.iconst 1, 1) := by decide +kernel
theorem dX11_endsAt_1 : decode cX11_endsAt 1 = .ok (.istore 4, 2) := by decide +kernel
theorem dX11_endsAt_3 : decode cX11_endsAt 3 = .ok (.iconst 0, 1) := by decide +kernel
theorem dX11_endsAt_4 : decode cX11_endsAt 4 = .ok (.istore 5, 2) := by decide +kernel
theorem dX11_endsAt_6 : decode cX11_endsAt 6 = .ok (.iconst 0, 1) := by decide +kernel
theorem dX11_endsAt_7 : decode cX11_endsAt 7 = .ok (.istore 6, 2) := by decide +kernel
theorem dX11_endsAt_9 : decode cX11_endsAt 9 = .ok (.iload 6, 2) := by decide +kernel
theorem dX11_endsAt_11 : decode cX11_endsAt 11 = .ok (.iload_n 0, 1) := by decide +kernel
theorem dX11_endsAt_12 : decode cX11_endsAt 12 = .ok (.if_icmp .ge 46, 3) := by decide +kernel
theorem dX11_endsAt_15 : decode cX11_endsAt 15 = .ok (.iload 6, 2) := by decide +kernel
theorem dX11_endsAt_17 : decode cX11_endsAt 17 = .ok (.iload_n 1, 1) := by decide +kernel
theorem dX11_endsAt_18 : decode cX11_endsAt 18 = .ok (.if_icmp .ge 7, 3) := by decide +kernel
theorem dX11_endsAt_21 : decode cX11_endsAt 21 = .ok (.iconst 1, 1) := by decide +kernel
theorem dX11_endsAt_22 : decode cX11_endsAt 22 = .ok (.goto 4, 3) := by decide +kernel
theorem dX11_endsAt_25 : decode cX11_endsAt 25 = .ok (.iconst (-1), 1) := by decide +kernel
theorem dX11_endsAt_26 : decode cX11_endsAt 26 = .ok (.istore 7, 2) := by decide +kernel
theorem dX11_endsAt_28 : decode cX11_endsAt 28 = .ok (.iload 4, 2) := by decide +kernel
theorem dX11_endsAt_30 : decode cX11_endsAt 30 = .ok (.iload 7, 2) := by decide +kernel
theorem dX11_endsAt_32 : decode cX11_endsAt 32 = .ok (.iload 5, 2) := by decide +kernel
theorem dX11_endsAt_34 : decode cX11_endsAt 34 = .ok (.imul, 1) := by decide +kernel
theorem dX11_endsAt_35 : decode cX11_endsAt 35 = .ok (.isub, 1) := by decide +kernel
theorem dX11_endsAt_36 : decode cX11_endsAt 36 = .ok (.istore 8, 2) := by decide +kernel
theorem dX11_endsAt_38 : decode cX11_endsAt 38 = .ok (.iload 5, 2) := by decide +kernel
theorem dX11_endsAt_40 : decode cX11_endsAt 40 = .ok (.iload 7, 2) := by decide +kernel
theorem dX11_endsAt_42 : decode cX11_endsAt 42 = .ok (.iload 4, 2) := by decide +kernel
theorem dX11_endsAt_44 : decode cX11_endsAt 44 = .ok (.imul, 1) := by decide +kernel
theorem dX11_endsAt_45 : decode cX11_endsAt 45 = .ok (.iadd, 1) := by decide +kernel
theorem dX11_endsAt_46 : decode cX11_endsAt 46 = .ok (.istore 5, 2) := by decide +kernel
theorem dX11_endsAt_48 : decode cX11_endsAt 48 = .ok (.iload 8, 2) := by decide +kernel
theorem dX11_endsAt_50 : decode cX11_endsAt 50 = .ok (.istore 4, 2) := by decide +kernel
theorem dX11_endsAt_52 : decode cX11_endsAt 52 = .ok (.iinc 6 1, 3) := by decide +kernel
theorem dX11_endsAt_55 : decode cX11_endsAt 55 = .ok (.goto (-46), 3) := by decide +kernel
theorem dX11_endsAt_58 : decode cX11_endsAt 58 = .ok (.iload 4, 2) := by decide +kernel
theorem dX11_endsAt_60 : decode cX11_endsAt 60 = .ok (.iload_n 2, 1) := by decide +kernel
theorem dX11_endsAt_61 : decode cX11_endsAt 61 = .ok (.if_icmp .ne 13, 3) := by decide +kernel
theorem dX11_endsAt_64 : decode cX11_endsAt 64 = .ok (.iload 5, 2) := by decide +kernel
theorem dX11_endsAt_66 : decode cX11_endsAt 66 = .ok (.iload_n 3, 1) := by decide +kernel
theorem dX11_endsAt_67 : decode cX11_endsAt 67 = .ok (.if_icmp .ne 7, 3) := by decide +kernel
theorem dX11_endsAt_70 : decode cX11_endsAt 70 = .ok (.iconst 1, 1) := by decide +kernel
theorem dX11_endsAt_71 : decode cX11_endsAt 71 = .ok (.goto 4, 3) := by decide +kernel
theorem dX11_endsAt_74 : decode cX11_endsAt 74 = .ok (.iconst 0, 1) := by decide +kernel
theorem dX11_endsAt_75 : decode cX11_endsAt 75 = .ok (.ireturn, 1) := by decide +kernel
set_option maxRecDepth 20000 in
theorem ggX11_ends_X11_refuse : GoodIn wsX11_ends wsX11_refuse := goodIn_r _ [5, 6, 17, 18, 19, 20, 21, 22, 23, 24, 25, 26, 27, 28, 29] (by decide +kernel) (by decide +kernel)
set_option maxRecDepth 20000 in
theorem gX11_ends_X11_refuse : GoodIn wsX11_ends (wsV RX11 65 RX11 yX11_refuse wsX11_refuse) := goodIn_app (goodIn_of _ (by decide +kernel)) ggX11_ends_X11_refuse
set_option maxRecDepth 20000 in
theorem ggX11_ends_X11_endsAt : GoodIn wsX11_ends wsX11_endsAt := goodIn_r _ [9] (by decide +kernel) (by decide +kernel)
set_option maxRecDepth 20000 in
theorem gX11_ends_X11_endsAt : GoodIn wsX11_ends (va_wsS RX11 328 yX11_endsAt wsX11_endsAt) := goodIn_app (goodIn_of _ (by decide +kernel)) ggX11_ends_X11_endsAt
set_option maxRecDepth 20000 in
theorem ggX11_ends_J6_bitCount_0f7a4 : GoodIn wsX11_ends wsJ6_bitCount_0f7a4 := goodIn_r _ [13, 14, 15, 16] (by decide +kernel) (by decide +kernel)
set_option maxRecDepth 20000 in
theorem gX11_ends_J6_bitCount_0f7a4 : GoodIn wsX11_ends (va_wsS RX11 332 yJ6_bitCount_0f7a4 wsJ6_bitCount_0f7a4) := goodIn_app (goodIn_of _ (by decide +kernel)) ggX11_ends_J6_bitCount_0f7a4
theorem dX11_ends_0 : decode cX11_ends 0 = .ok (.iload 4, 2) := by decide +kernel
theorem dX11_ends_2 : decode cX11_ends 2 = .ok (.ifCond .lt 9, 3) := by decide +kernel
theorem dX11_ends_5 : decode cX11_ends 5 = .ok (.iload 4, 2) := by decide +kernel
theorem dX11_ends_7 : decode cX11_ends 7 = .ok (.iconst 1, 1) := by decide +kernel
theorem dX11_ends_8 : decode cX11_ends 8 = .ok (.if_icmp .le 10, 3) := by decide +kernel
theorem dX11_ends_11 : decode cX11_ends 11 = .ok (.aload_n 0, 1) := by decide +kernel
theorem dX11_ends_12 : decode cX11_ends 12 = .ok (.bipush (-5), 2) := by decide +kernel
theorem dX11_ends_14 : decode cX11_ends 14 = .ok (.invokevirtual 65, 3) := by decide +kernel
theorem dX11_ends_17 : decode cX11_ends 17 = .ok (.ireturn, 1) := by decide +kernel
theorem dX11_ends_18 : decode cX11_ends 18 = .ok (.iload_n 1, 1) := by decide +kernel
theorem dX11_ends_19 : decode cX11_ends 19 = .ok (.iconst 1, 1) := by decide +kernel
theorem dX11_ends_20 : decode cX11_ends 20 = .ok (.if_icmp .lt 9, 3) := by decide +kernel
theorem dX11_ends_23 : decode cX11_ends 23 = .ok (.iload_n 1, 1) := by decide +kernel
theorem dX11_ends_24 : decode cX11_ends 24 = .ok (.bipush 10, 2) := by decide +kernel
theorem dX11_ends_26 : decode cX11_ends 26 = .ok (.if_icmp .le 10, 3) := by decide +kernel
theorem dX11_ends_29 : decode cX11_ends 29 = .ok (.aload_n 0, 1) := by decide +kernel
theorem dX11_ends_30 : decode cX11_ends 30 = .ok (.bipush (-6), 2) := by decide +kernel
theorem dX11_ends_32 : decode cX11_ends 32 = .ok (.invokevirtual 65, 3) := by decide +kernel
theorem dX11_ends_35 : decode cX11_ends 35 = .ok (.ireturn, 1) := by decide +kernel
theorem dX11_ends_36 : decode cX11_ends 36 = .ok (.iconst 0, 1) := by decide +kernel
theorem dX11_ends_37 : decode cX11_ends 37 = .ok (.istore 5, 2) := by decide +kernel
theorem dX11_ends_39 : decode cX11_ends 39 = .ok (.iconst 0, 1) := by decide +kernel
theorem dX11_ends_40 : decode cX11_ends 40 = .ok (.istore 6, 2) := by decide +kernel
theorem dX11_ends_42 : decode cX11_ends 42 = .ok (.iload 6, 2) := by decide +kernel
theorem dX11_ends_44 : decode cX11_ends 44 = .ok (.iload_n 1, 1) := by decide +kernel
theorem dX11_ends_45 : decode cX11_ends 45 = .ok (.if_icmp .gt 29, 3) := by decide +kernel
theorem dX11_ends_48 : decode cX11_ends 48 = .ok (.iload_n 1, 1) := by decide +kernel
theorem dX11_ends_49 : decode cX11_ends 49 = .ok (.iload 6, 2) := by decide +kernel
theorem dX11_ends_51 : decode cX11_ends 51 = .ok (.iload_n 2, 1) := by decide +kernel
theorem dX11_ends_52 : decode cX11_ends 52 = .ok (.iload_n 3, 1) := by decide +kernel
theorem dX11_ends_53 : decode cX11_ends 53 = .ok (.invokestatic 328, 3) := by decide +kernel
theorem dX11_ends_56 : decode cX11_ends 56 = .ok (.ifCond .eq 12, 3) := by decide +kernel
theorem dX11_ends_59 : decode cX11_ends 59 = .ok (.iload 5, 2) := by decide +kernel
theorem dX11_ends_61 : decode cX11_ends 61 = .ok (.iconst 1, 1) := by decide +kernel
theorem dX11_ends_62 : decode cX11_ends 62 = .ok (.iload 6, 2) := by decide +kernel
theorem dX11_ends_64 : decode cX11_ends 64 = .ok (.ishl, 1) := by decide +kernel
theorem dX11_ends_65 : decode cX11_ends 65 = .ok (.ior, 1) := by decide +kernel
theorem dX11_ends_66 : decode cX11_ends 66 = .ok (.istore 5, 2) := by decide +kernel
theorem dX11_ends_68 : decode cX11_ends 68 = .ok (.iinc 6 1, 3) := by decide +kernel
theorem dX11_ends_71 : decode cX11_ends 71 = .ok (.goto (-29), 3) := by decide +kernel
theorem dX11_ends_74 : decode cX11_ends 74 = .ok (.iconst 0, 1) := by decide +kernel
theorem dX11_ends_75 : decode cX11_ends 75 = .ok (.istore 6, 2) := by decide +kernel
theorem dX11_ends_77 : decode cX11_ends 77 = .ok (.iconst (-1), 1) := by decide +kernel
theorem dX11_ends_78 : decode cX11_ends 78 = .ok (.istore 7, 2) := by decide +kernel
theorem dX11_ends_80 : decode cX11_ends 80 = .ok (.iconst 0, 1) := by decide +kernel
theorem dX11_ends_81 : decode cX11_ends 81 = .ok (.istore 8, 2) := by decide +kernel
theorem dX11_ends_83 : decode cX11_ends 83 = .ok (.iload 8, 2) := by decide +kernel
theorem dX11_ends_85 : decode cX11_ends 85 = .ok (.iconst 1, 1) := by decide +kernel
theorem dX11_ends_86 : decode cX11_ends 86 = .ok (.iload_n 1, 1) := by decide +kernel
theorem dX11_ends_87 : decode cX11_ends 87 = .ok (.ishl, 1) := by decide +kernel
theorem dX11_ends_88 : decode cX11_ends 88 = .ok (.if_icmp .ge 40, 3) := by decide +kernel
theorem dX11_ends_91 : decode cX11_ends 91 = .ok (.iload 5, 2) := by decide +kernel
theorem dX11_ends_93 : decode cX11_ends 93 = .ok (.iload 8, 2) := by decide +kernel
theorem dX11_ends_95 : decode cX11_ends 95 = .ok (.invokestatic 332, 3) := by decide +kernel
theorem dX11_ends_98 : decode cX11_ends 98 = .ok (.ishr, 1) := by decide +kernel
theorem dX11_ends_99 : decode cX11_ends 99 = .ok (.iconst 1, 1) := by decide +kernel
theorem dX11_ends_100 : decode cX11_ends 100 = .ok (.iand, 1) := by decide +kernel
theorem dX11_ends_101 : decode cX11_ends 101 = .ok (.iconst 1, 1) := by decide +kernel
theorem dX11_ends_102 : decode cX11_ends 102 = .ok (.if_icmp .ne 20, 3) := by decide +kernel
theorem dX11_ends_105 : decode cX11_ends 105 = .ok (.iload 6, 2) := by decide +kernel
theorem dX11_ends_107 : decode cX11_ends 107 = .ok (.ifCond .ne 8, 3) := by decide +kernel
theorem dX11_ends_110 : decode cX11_ends 110 = .ok (.iload 8, 2) := by decide +kernel
theorem dX11_ends_112 : decode cX11_ends 112 = .ok (.goto 5, 3) := by decide +kernel
theorem dX11_ends_115 : decode cX11_ends 115 = .ok (.iload 7, 2) := by decide +kernel
theorem dX11_ends_117 : decode cX11_ends 117 = .ok (.istore 7, 2) := by decide +kernel
theorem dX11_ends_119 : decode cX11_ends 119 = .ok (.iinc 6 1, 3) := by decide +kernel
theorem dX11_ends_122 : decode cX11_ends 122 = .ok (.iinc 8 1, 3) := by decide +kernel
theorem dX11_ends_125 : decode cX11_ends 125 = .ok (.goto (-42), 3) := by decide +kernel
theorem dX11_ends_128 : decode cX11_ends 128 = .ok (.iload 4, 2) := by decide +kernel
theorem dX11_ends_130 : decode cX11_ends 130 = .ok (.ifCond .ne 6, 3) := by decide +kernel
theorem dX11_ends_133 : decode cX11_ends 133 = .ok (.iload 6, 2) := by decide +kernel
theorem dX11_ends_135 : decode cX11_ends 135 = .ok (.ireturn, 1) := by decide +kernel
theorem dX11_ends_136 : decode cX11_ends 136 = .ok (.iload 7, 2) := by decide +kernel
theorem dX11_ends_138 : decode cX11_ends 138 = .ok (.iconst (-1), 1) := by decide +kernel
theorem dX11_ends_139 : decode cX11_ends 139 = .ok (.if_icmp .ne 12, 3) := by decide +kernel
theorem dX11_ends_142 : decode cX11_ends 142 = .ok (.aload_n 0, 1) := by decide +kernel
theorem dX11_ends_143 : decode cX11_ends 143 = .ok (.bipush (-5), 2) := by decide +kernel
theorem dX11_ends_145 : decode cX11_ends 145 = .ok (.invokevirtual 65, 3) := by decide +kernel
theorem dX11_ends_148 : decode cX11_ends 148 = .ok (.goto 5, 3) := by decide +kernel
theorem dX11_ends_151 : decode cX11_ends 151 = .ok (.iload 7, 2) := by decide +kernel
theorem dX11_ends_153 : decode cX11_ends 153 = .ok (.ireturn, 1) := by decide +kernel
set_option maxRecDepth 20000 in
theorem ggX11_toldBits_X7_number : GoodIn wsX11_toldBits wsX7_number := goodIn_r _ [4, 5, 6, 7, 8, 9, 10] (by decide +kernel) (by decide +kernel)
set_option maxRecDepth 20000 in
theorem gX11_toldBits_X7_number_n175 : GoodIn wsX11_toldBits (wsX7_number) := ggX11_toldBits_X7_number
theorem dX11_toldBits_0 : decode cX11_toldBits 0 = .ok (.lconst 0, 1) := by decide +kernel
theorem dX11_toldBits_1 : decode cX11_toldBits 1 = .ok (.lstore_n 3, 1) := by decide +kernel
theorem dX11_toldBits_2 : decode cX11_toldBits 2 = .ok (.iconst 0, 1) := by decide +kernel
theorem dX11_toldBits_3 : decode cX11_toldBits 3 = .ok (.istore 5, 2) := by decide +kernel
theorem dX11_toldBits_5 : decode cX11_toldBits 5 = .ok (.iload 5, 2) := by decide +kernel
theorem dX11_toldBits_7 : decode cX11_toldBits 7 = .ok (.iload_n 1, 1) := by decide +kernel
theorem dX11_toldBits_8 : decode cX11_toldBits 8 = .ok (.if_icmp .ge 30, 3) := by decide +kernel
theorem dX11_toldBits_11 : decode cX11_toldBits 11 = .ok (.lload_n 3, 1) := by decide +kernel
theorem dX11_toldBits_12 : decode cX11_toldBits 12 = .ok (.iconst 1, 1) := by decide +kernel
theorem dX11_toldBits_13 : decode cX11_toldBits 13 = .ok (.lshl, 1) := by decide +kernel
theorem dX11_toldBits_14 : decode cX11_toldBits 14 = .ok (.aload_n 0, 1) := by decide +kernel
theorem dX11_toldBits_15 : decode cX11_toldBits 15 = .ok (.iload 5, 2) := by decide +kernel
theorem dX11_toldBits_17 : decode cX11_toldBits 17 = .ok (.invokevirtual 175, 3) := by decide +kernel
theorem dX11_toldBits_20 : decode cX11_toldBits 20 = .ok (.iload_n 2, 1) := by decide +kernel
theorem dX11_toldBits_21 : decode cX11_toldBits 21 = .ok (.if_icmp .ne 7, 3) := by decide +kernel
theorem dX11_toldBits_24 : decode cX11_toldBits 24 = .ok (.iconst 1, 1) := by decide +kernel
theorem dX11_toldBits_25 : decode cX11_toldBits 25 = .ok (.goto 4, 3) := by decide +kernel
theorem dX11_toldBits_28 : decode cX11_toldBits 28 = .ok (.iconst 0, 1) := by decide +kernel
theorem dX11_toldBits_29 : decode cX11_toldBits 29 = .ok (.i2l, 1) := by decide +kernel
theorem dX11_toldBits_30 : decode cX11_toldBits 30 = .ok (.lor, 1) := by decide +kernel
theorem dX11_toldBits_31 : decode cX11_toldBits 31 = .ok (.lstore_n 3, 1) := by decide +kernel
theorem dX11_toldBits_32 : decode cX11_toldBits 32 = .ok (.iinc 5 1, 3) := by decide +kernel
theorem dX11_toldBits_35 : decode cX11_toldBits 35 = .ok (.goto (-30), 3) := by decide +kernel
theorem dX11_toldBits_38 : decode cX11_toldBits 38 = .ok (.lload_n 3, 1) := by decide +kernel
theorem dX11_toldBits_39 : decode cX11_toldBits 39 = .ok (.lreturn, 1) := by decide +kernel
set_option maxRecDepth 20000 in
theorem ggX11_piece_X11_stripAt : GoodIn wsX11_piece wsX11_stripAt := goodIn_r _ [10, 11, 12, 172, 173, 174, 175, 176, 177, 178, 179, 180, 181, 182, 183, 184] (by decide +kernel) (by decide +kernel)
set_option maxRecDepth 20000 in
theorem gX11_piece_X11_stripAt : GoodIn wsX11_piece (wsV RX11 137 RX11 yX11_stripAt wsX11_stripAt) := goodIn_app (goodIn_of _ (by decide +kernel)) ggX11_piece_X11_stripAt
set_option maxRecDepth 20000 in
theorem ggX11_piece_X11_shelfAt : GoodIn wsX11_piece wsX11_shelfAt := goodIn_r _ [16, 17, 172, 173, 174, 175, 176, 177, 178, 179, 180, 181, 182, 183, 184] (by decide +kernel) (by decide +kernel)
set_option maxRecDepth 20000 in
theorem gX11_piece_X11_shelfAt : GoodIn wsX11_piece (wsV RX11 107 RX11 yX11_shelfAt wsX11_shelfAt) := goodIn_app (goodIn_of _ (by decide +kernel)) ggX11_piece_X11_shelfAt
set_option maxRecDepth 20000 in
theorem ggX11_piece_X11_refuse : GoodIn wsX11_piece wsX11_refuse := goodIn_r _ [21, 22, 172, 173, 174, 175, 176, 177, 178, 179, 180, 181, 182, 183, 184] (by decide +kernel) (by decide +kernel)
set_option maxRecDepth 20000 in
theorem gX11_piece_X11_refuse : GoodIn wsX11_piece (wsV RX11 65 RX11 yX11_refuse wsX11_refuse) := goodIn_app (goodIn_of _ (by decide +kernel)) ggX11_piece_X11_refuse
set_option maxRecDepth 20000 in
theorem ggX11_piece_X11_toldTrouble : GoodIn wsX11_piece wsX11_toldTrouble := goodIn_r _ [25, 26, 27, 9, 28, 185, 186, 187, 188] (by decide +kernel) (by decide +kernel)
set_option maxRecDepth 20000 in
theorem gX11_piece_X11_toldTrouble : GoodIn wsX11_piece (va_wsS RX11 167 yX11_toldTrouble wsX11_toldTrouble) := goodIn_app (goodIn_of _ (by decide +kernel)) ggX11_piece_X11_toldTrouble
set_option maxRecDepth 20000 in
theorem ggX11_piece_X11_toldBits : GoodIn wsX11_piece wsX11_toldBits := goodIn_r _ [31, 32, 33, 34, 35, 36, 37, 185, 186, 187, 188] (by decide +kernel) (by decide +kernel)
set_option maxRecDepth 20000 in
theorem gX11_piece_X11_toldBits : GoodIn wsX11_piece (va_wsS RX11 337 yX11_toldBits wsX11_toldBits) := goodIn_app (goodIn_of _ (by decide +kernel)) ggX11_piece_X11_toldBits
set_option maxRecDepth 20000 in
theorem ggX11_piece_X8_corners : GoodIn wsX11_piece wsX8_corners := goodIn_r _ [43, 44, 45, 46, 47, 42, 48, 49, 50, 51, 52, 53, 54, 55, 56, 57, 58, 59, 60, 61, 62, 63, 64, 65, 66, 67, 68, 69, 70, 71, 72, 73, 74, 75, 76, 77, 78, 79, 80, 81, 82, 83, 84, 85, 189, 190, 191, 192, 193, 194, 195, 196, 197, 198, 199, 200, 201, 202, 203, 204, 205, 206, 207, 208, 209, 210, 211, 212, 213, 214, 215, 216] (by decide +kernel) (by decide +kernel)
set_option maxRecDepth 20000 in
theorem gX11_piece_X8_corners_u152X0 : GoodIn wsX11_piece (va_wsU RX11 152 RX0 "FoldedInHalf$Strip" ⟨"FoldedInHalf$Strip", "corners", "()J"⟩ yX8_corners wsX8_corners) := goodIn_app (goodIn_of _ (by decide +kernel)) ggX11_piece_X8_corners
set_option maxRecDepth 20000 in
theorem gX11_piece_X8_corners_u152X1 : GoodIn wsX11_piece (va_wsU RX11 152 RX1 "FoldedInHalf$Strip" ⟨"FoldedInHalf$Strip", "corners", "()J"⟩ yX8_corners wsX8_corners) := goodIn_app (goodIn_of _ (by decide +kernel)) ggX11_piece_X8_corners
set_option maxRecDepth 20000 in
theorem gX11_piece_X8_corners_u152X2 : GoodIn wsX11_piece (va_wsU RX11 152 RX2 "FoldedInHalf$Strip" ⟨"FoldedInHalf$Strip", "corners", "()J"⟩ yX8_corners wsX8_corners) := goodIn_app (goodIn_of _ (by decide +kernel)) ggX11_piece_X8_corners
set_option maxRecDepth 20000 in
theorem gX11_piece_X8_corners_u152X4 : GoodIn wsX11_piece (va_wsU RX11 152 RX4 "FoldedInHalf$Strip" ⟨"FoldedInHalf$Strip", "corners", "()J"⟩ yX8_corners wsX8_corners) := goodIn_app (goodIn_of _ (by decide +kernel)) ggX11_piece_X8_corners
set_option maxRecDepth 20000 in
theorem gX11_piece_X8_corners_u152X6 : GoodIn wsX11_piece (va_wsU RX11 152 RX6 "FoldedInHalf$Strip" ⟨"FoldedInHalf$Strip", "corners", "()J"⟩ yX8_corners wsX8_corners) := goodIn_app (goodIn_of _ (by decide +kernel)) ggX11_piece_X8_corners
set_option maxRecDepth 20000 in
theorem gX11_piece_X8_corners : GoodIn wsX11_piece (wsV RX11 152 RX8 yX8_corners wsX8_corners) := goodIn_app (goodIn_of _ (by decide +kernel)) ggX11_piece_X8_corners
set_option maxRecDepth 20000 in
theorem gX11_piece_X8_corners_u152X9 : GoodIn wsX11_piece (va_wsU RX11 152 RX9 "FoldedInHalf$Strip" ⟨"FoldedInHalf$Strip", "corners", "()J"⟩ yX8_corners wsX8_corners) := goodIn_app (goodIn_of _ (by decide +kernel)) ggX11_piece_X8_corners
set_option maxRecDepth 20000 in
theorem ggX11_piece_X0_creaseAt : GoodIn wsX11_piece wsX0_creaseAt := goodIn_r _ [99, 100, 101, 102, 41, 42, 43, 44, 45, 46, 47, 48, 49, 50, 51, 52, 53, 54, 55, 56, 57, 58, 59, 60, 61, 62, 63, 64, 65, 66, 67, 68, 69, 70, 71, 72, 73, 74, 75, 76, 77, 78, 79, 80, 81, 82, 83, 84, 85, 103, 104, 105, 106, 107, 108, 109, 110, 111, 112, 113, 94, 114, 115, 116, 117, 118, 119, 120, 121, 122, 123, 124, 125, 126, 127, 128, 129, 130, 131, 132, 133, 134, 135, 136, 137, 138, 139, 140, 141, 142, 143, 144, 145, 146, 147, 148, 149, 150, 151, 152, 153, 154, 155, 189, 190, 191, 192, 193, 194, 195, 196, 197, 198, 199, 200, 201, 202, 203, 204, 205, 206, 207, 208, 209, 210, 211, 212, 213, 214, 215, 216] (by decide +kernel) (by decide +kernel)
set_option maxRecDepth 20000 in
theorem gX11_piece_X0_creaseAt_u160X0 : GoodIn wsX11_piece (va_wsO RX11 160 RX0 "FoldedInHalf$Strip" ⟨"FoldedInHalf$Strip", "creaseAt", "(J)I"⟩ yX0_creaseAt wsX0_creaseAt) := goodIn_app (goodIn_of _ (by decide +kernel)) ggX11_piece_X0_creaseAt
set_option maxRecDepth 20000 in
theorem ggX11_piece_X1_creaseAt : GoodIn wsX11_piece wsX1_creaseAt := goodIn_r _ [107, 108, 109, 110, 68, 69, 70, 71, 72, 73, 74, 75, 47, 42, 48, 49, 76, 111, 112, 113, 94, 114, 115, 116, 117, 118, 119, 120, 121, 122, 123, 124, 125, 126, 127, 128, 129, 130, 131, 132, 133, 134, 135, 136, 137, 138, 139, 140, 141, 142, 143, 144, 145, 146, 147, 148, 149, 150, 151, 152, 153, 154, 155, 189, 190, 191, 192, 193, 194, 195, 196, 197, 198, 199, 200, 201, 202, 203, 204, 205, 206, 207, 208, 209, 210, 211, 212, 213, 214, 215, 216] (by decide +kernel) (by decide +kernel)
set_option maxRecDepth 20000 in
theorem gX11_piece_X1_creaseAt_u160X1 : GoodIn wsX11_piece (va_wsO RX11 160 RX1 "FoldedInHalf$Strip" ⟨"FoldedInHalf$Strip", "creaseAt", "(J)I"⟩ yX1_creaseAt wsX1_creaseAt) := goodIn_app (goodIn_of _ (by decide +kernel)) ggX11_piece_X1_creaseAt
set_option maxRecDepth 20000 in
theorem ggX11_piece_X8_creaseAt : GoodIn wsX11_piece wsX8_creaseAt := goodIn_r _ [116, 117, 118, 119, 120, 121, 42, 122, 123, 124, 125, 126, 127, 128, 129, 130, 131, 132, 133, 134, 135, 136, 137, 138, 139, 140, 141, 142, 143, 144, 145, 146, 147, 148, 149, 150, 151, 152, 153, 154, 155, 189, 190, 191, 192, 193, 194, 195, 196, 197, 198, 199, 200, 201, 202, 203, 204, 205, 206, 207, 208, 209, 210, 211, 212, 213, 214, 215, 216] (by decide +kernel) (by decide +kernel)
set_option maxRecDepth 20000 in
theorem gX11_piece_X8_creaseAt_u160X2 : GoodIn wsX11_piece (va_wsU RX11 160 RX2 "FoldedInHalf$Strip" ⟨"FoldedInHalf$Strip", "creaseAt", "(J)I"⟩ yX8_creaseAt wsX8_creaseAt) := goodIn_app (goodIn_of _ (by decide +kernel)) ggX11_piece_X8_creaseAt
set_option maxRecDepth 20000 in
theorem ggX11_piece_X4_creaseAt : GoodIn wsX11_piece wsX4_creaseAt := goodIn_r _ [161, 162] (by decide +kernel) (by decide +kernel)
set_option maxRecDepth 20000 in
theorem gX11_piece_X4_creaseAt_u160X4 : GoodIn wsX11_piece (va_wsO RX11 160 RX4 "FoldedInHalf$Strip" ⟨"FoldedInHalf$Strip", "creaseAt", "(J)I"⟩ yX4_creaseAt wsX4_creaseAt) := goodIn_app (goodIn_of _ (by decide +kernel)) ggX11_piece_X4_creaseAt
set_option maxRecDepth 20000 in
theorem gX11_piece_X8_creaseAt_u160X6 : GoodIn wsX11_piece (va_wsU RX11 160 RX6 "FoldedInHalf$Strip" ⟨"FoldedInHalf$Strip", "creaseAt", "(J)I"⟩ yX8_creaseAt wsX8_creaseAt) := goodIn_app (goodIn_of _ (by decide +kernel)) ggX11_piece_X8_creaseAt
set_option maxRecDepth 20000 in
theorem gX11_piece_X8_creaseAt : GoodIn wsX11_piece (wsV RX11 160 RX8 yX8_creaseAt wsX8_creaseAt) := goodIn_app (goodIn_of _ (by decide +kernel)) ggX11_piece_X8_creaseAt
set_option maxRecDepth 20000 in
theorem ggX11_piece_X9_creaseAt : GoodIn wsX11_piece wsX9_creaseAt := goodIn_r _ [168, 63, 169, 170, 171, 121, 42, 122, 123, 124, 125, 126, 127, 128, 129, 130, 131, 132, 133, 134, 135, 189, 190, 191, 192, 193, 194, 195, 196, 197, 198, 199, 200, 201, 202, 203, 204, 205, 206, 207, 208, 209, 210, 211, 212, 213, 214, 215, 216] (by decide +kernel) (by decide +kernel)
set_option maxRecDepth 20000 in
theorem gX11_piece_X9_creaseAt_u160X9 : GoodIn wsX11_piece (va_wsO RX11 160 RX9 "FoldedInHalf$Strip" ⟨"FoldedInHalf$Strip", "creaseAt", "(J)I"⟩ yX9_creaseAt wsX9_creaseAt) := goodIn_app (goodIn_of _ (by decide +kernel)) ggX11_piece_X9_creaseAt
theorem dX11_piece_0 : decode cX11_piece 0 = .ok (.aload_n 0, 1) := by decide +kernel
theorem dX11_piece_1 : decode cX11_piece 1 = .ok (.iload_n 1, 1) := by decide +kernel
theorem dX11_piece_2 : decode cX11_piece 2 = .ok (.invokevirtual 137, 3) := by decide +kernel
theorem dX11_piece_5 : decode cX11_piece 5 = .ok (.astore 5, 2) := by decide +kernel
theorem dX11_piece_7 : decode cX11_piece 7 = .ok (.aload_n 0, 1) := by decide +kernel
theorem dX11_piece_8 : decode cX11_piece 8 = .ok (.iload_n 2, 1) := by decide +kernel
theorem dX11_piece_9 : decode cX11_piece 9 = .ok (.invokevirtual 107, 3) := by decide +kernel
theorem dX11_piece_12 : decode cX11_piece 12 = .ok (.astore 6, 2) := by decide +kernel
theorem dX11_piece_14 : decode cX11_piece 14 = .ok (.aload 5, 2) := by decide +kernel
theorem dX11_piece_16 : decode cX11_piece 16 = .ok (.ifnull 8, 3) := by decide +kernel
theorem dX11_piece_19 : decode cX11_piece 19 = .ok (.aload 6, 2) := by decide +kernel
theorem dX11_piece_21 : decode cX11_piece 21 = .ok (.ifnonnull 9, 3) := by decide +kernel
theorem dX11_piece_24 : decode cX11_piece 24 = .ok (.aload_n 0, 1) := by decide +kernel
theorem dX11_piece_25 : decode cX11_piece 25 = .ok (.iconst (-1), 1) := by decide +kernel
theorem dX11_piece_26 : decode cX11_piece 26 = .ok (.invokevirtual 65, 3) := by decide +kernel
theorem dX11_piece_29 : decode cX11_piece 29 = .ok (.ireturn, 1) := by decide +kernel
theorem dX11_piece_30 : decode cX11_piece 30 = .ok (.aload 6, 2) := by decide +kernel
theorem dX11_piece_32 : decode cX11_piece 32 = .ok (.iload_n 3, 1) := by decide +kernel
theorem dX11_piece_33 : decode cX11_piece 33 = .ok (.invokestatic 167, 3) := by decide +kernel
theorem dX11_piece_36 : decode cX11_piece 36 = .ok (.istore 7, 2) := by decide +kernel
theorem dX11_piece_38 : decode cX11_piece 38 = .ok (.iload 7, 2) := by decide +kernel
theorem dX11_piece_40 : decode cX11_piece 40 = .ok (.ifCond .ne 18, 3) := by decide +kernel
theorem dX11_piece_43 : decode cX11_piece 43 = .ok (.iload 4, 2) := by decide +kernel
theorem dX11_piece_45 : decode cX11_piece 45 = .ok (.ifCond .lt 9, 3) := by decide +kernel
theorem dX11_piece_48 : decode cX11_piece 48 = .ok (.iload 4, 2) := by decide +kernel
theorem dX11_piece_50 : decode cX11_piece 50 = .ok (.iconst 1, 1) := by decide +kernel
theorem dX11_piece_51 : decode cX11_piece 51 = .ok (.if_icmp .le 7, 3) := by decide +kernel
theorem dX11_piece_54 : decode cX11_piece 54 = .ok (.bipush (-5), 2) := by decide +kernel
theorem dX11_piece_56 : decode cX11_piece 56 = .ok (.istore 7, 2) := by decide +kernel
theorem dX11_piece_58 : decode cX11_piece 58 = .ok (.iload 7, 2) := by decide +kernel
theorem dX11_piece_60 : decode cX11_piece 60 = .ok (.ifCond .ne 18, 3) := by decide +kernel
theorem dX11_piece_63 : decode cX11_piece 63 = .ok (.iload_n 3, 1) := by decide +kernel
theorem dX11_piece_64 : decode cX11_piece 64 = .ok (.iconst 1, 1) := by decide +kernel
theorem dX11_piece_65 : decode cX11_piece 65 = .ok (.if_icmp .lt 9, 3) := by decide +kernel
theorem dX11_piece_68 : decode cX11_piece 68 = .ok (.iload_n 3, 1) := by decide +kernel
theorem dX11_piece_69 : decode cX11_piece 69 = .ok (.bipush 40, 2) := by decide +kernel
theorem dX11_piece_71 : decode cX11_piece 71 = .ok (.if_icmp .le 7, 3) := by decide +kernel
theorem dX11_piece_74 : decode cX11_piece 74 = .ok (.bipush (-6), 2) := by decide +kernel
theorem dX11_piece_76 : decode cX11_piece 76 = .ok (.istore 7, 2) := by decide +kernel
theorem dX11_piece_78 : decode cX11_piece 78 = .ok (.iload 7, 2) := by decide +kernel
theorem dX11_piece_80 : decode cX11_piece 80 = .ok (.ifCond .eq 10, 3) := by decide +kernel
theorem dX11_piece_83 : decode cX11_piece 83 = .ok (.aload_n 0, 1) := by decide +kernel
theorem dX11_piece_84 : decode cX11_piece 84 = .ok (.iload 7, 2) := by decide +kernel
theorem dX11_piece_86 : decode cX11_piece 86 = .ok (.invokevirtual 65, 3) := by decide +kernel
theorem dX11_piece_89 : decode cX11_piece 89 = .ok (.ireturn, 1) := by decide +kernel
theorem dX11_piece_90 : decode cX11_piece 90 = .ok (.aload 6, 2) := by decide +kernel
theorem dX11_piece_92 : decode cX11_piece 92 = .ok (.iload_n 3, 1) := by decide +kernel
theorem dX11_piece_93 : decode cX11_piece 93 = .ok (.iconst 1, 1) := by decide +kernel
theorem dX11_piece_94 : decode cX11_piece 94 = .ok (.invokestatic 337, 3) := by decide +kernel
theorem dX11_piece_97 : decode cX11_piece 97 = .ok (.lstore 8, 2) := by decide +kernel
theorem dX11_piece_99 : decode cX11_piece 99 = .ok (.aload 6, 2) := by decide +kernel
theorem dX11_piece_101 : decode cX11_piece 101 = .ok (.iload_n 3, 1) := by decide +kernel
theorem dX11_piece_102 : decode cX11_piece 102 = .ok (.iconst 0, 1) := by decide +kernel
theorem dX11_piece_103 : decode cX11_piece 103 = .ok (.invokestatic 337, 3) := by decide +kernel
theorem dX11_piece_106 : decode cX11_piece 106 = .ok (.lload 8, 2) := by decide +kernel
theorem dX11_piece_108 : decode cX11_piece 108 = .ok (.lor, 1) := by decide +kernel
theorem dX11_piece_109 : decode cX11_piece 109 = .ok (.lstore 10, 2) := by decide +kernel
theorem dX11_piece_111 : decode cX11_piece 111 = .ok (.ldc2_w 290, 3) := by decide +kernel
theorem dX11_piece_114 : decode cX11_piece 114 = .ok (.aload 5, 2) := by decide +kernel
theorem dX11_piece_116 : decode cX11_piece 116 = .ok (.invokevirtual 152, 3) := by decide +kernel
theorem dX11_piece_119 : decode cX11_piece 119 = .ok (.invokestatic 292, 3) := by decide +kernel
theorem dX11_piece_122 : decode cX11_piece 122 = .ok (.lstore 12, 2) := by decide +kernel
theorem dX11_piece_124 : decode cX11_piece 124 = .ok (.lconst 0, 1) := by decide +kernel
theorem dX11_piece_125 : decode cX11_piece 125 = .ok (.lstore 14, 2) := by decide +kernel
theorem dX11_piece_127 : decode cX11_piece 127 = .ok (.iconst 0, 1) := by decide +kernel
theorem dX11_piece_128 : decode cX11_piece 128 = .ok (.istore 16, 2) := by decide +kernel
theorem dX11_piece_130 : decode cX11_piece 130 = .ok (.iconst (-1), 1) := by decide +kernel
theorem dX11_piece_131 : decode cX11_piece 131 = .ok (.istore 17, 2) := by decide +kernel
theorem dX11_piece_133 : decode cX11_piece 133 = .ok (.iconst 1, 1) := by decide +kernel
theorem dX11_piece_134 : decode cX11_piece 134 = .ok (.istore 18, 2) := by decide +kernel
theorem dX11_piece_136 : decode cX11_piece 136 = .ok (.iload 18, 2) := by decide +kernel
theorem dX11_piece_138 : decode cX11_piece 138 = .ok (.i2l, 1) := by decide +kernel
theorem dX11_piece_139 : decode cX11_piece 139 = .ok (.lload 12, 2) := by decide +kernel
theorem dX11_piece_141 : decode cX11_piece 141 = .ok (.lcmp, 1) := by decide +kernel
theorem dX11_piece_142 : decode cX11_piece 142 = .ok (.ifCond .gt 63, 3) := by decide +kernel
theorem dX11_piece_145 : decode cX11_piece 145 = .ok (.lload 14, 2) := by decide +kernel
theorem dX11_piece_147 : decode cX11_piece 147 = .ok (.iconst 1, 1) := by decide +kernel
theorem dX11_piece_148 : decode cX11_piece 148 = .ok (.lshl, 1) := by decide +kernel
theorem dX11_piece_149 : decode cX11_piece 149 = .ok (.aload 5, 2) := by decide +kernel
theorem dX11_piece_151 : decode cX11_piece 151 = .ok (.iload 18, 2) := by decide +kernel
theorem dX11_piece_153 : decode cX11_piece 153 = .ok (.i2l, 1) := by decide +kernel
theorem dX11_piece_154 : decode cX11_piece 154 = .ok (.invokevirtual 160, 3) := by decide +kernel
theorem dX11_piece_157 : decode cX11_piece 157 = .ok (.i2l, 1) := by decide +kernel
theorem dX11_piece_158 : decode cX11_piece 158 = .ok (.lor, 1) := by decide +kernel
theorem dX11_piece_159 : decode cX11_piece 159 = .ok (.lstore 14, 2) := by decide +kernel
theorem dX11_piece_161 : decode cX11_piece 161 = .ok (.iload 18, 2) := by decide +kernel
theorem dX11_piece_163 : decode cX11_piece 163 = .ok (.iload_n 3, 1) := by decide +kernel
theorem dX11_piece_164 : decode cX11_piece 164 = .ok (.if_icmp .lt 35, 3) := by decide +kernel
theorem dX11_piece_167 : decode cX11_piece 167 = .ok (.lload 14, 2) := by decide +kernel
theorem dX11_piece_169 : decode cX11_piece 169 = .ok (.lload 10, 2) := by decide +kernel
theorem dX11_piece_171 : decode cX11_piece 171 = .ok (.land, 1) := by decide +kernel
theorem dX11_piece_172 : decode cX11_piece 172 = .ok (.lload 8, 2) := by decide +kernel
theorem dX11_piece_174 : decode cX11_piece 174 = .ok (.lcmp, 1) := by decide +kernel
theorem dX11_piece_175 : decode cX11_piece 175 = .ok (.ifCond .ne 24, 3) := by decide +kernel
theorem dX11_piece_178 : decode cX11_piece 178 = .ok (.iload 16, 2) := by decide +kernel
theorem dX11_piece_180 : decode cX11_piece 180 = .ok (.ifCond .ne 12, 3) := by decide +kernel
theorem dX11_piece_183 : decode cX11_piece 183 = .ok (.iload 18, 2) := by decide +kernel
theorem dX11_piece_185 : decode cX11_piece 185 = .ok (.iload_n 3, 1) := by decide +kernel
theorem dX11_piece_186 : decode cX11_piece 186 = .ok (.isub, 1) := by decide +kernel
theorem dX11_piece_187 : decode cX11_piece 187 = .ok (.iconst 1, 1) := by decide +kernel
theorem dX11_piece_188 : decode cX11_piece 188 = .ok (.iadd, 1) := by decide +kernel
theorem dX11_piece_189 : decode cX11_piece 189 = .ok (.goto 5, 3) := by decide +kernel
theorem dX11_piece_192 : decode cX11_piece 192 = .ok (.iload 17, 2) := by decide +kernel
theorem dX11_piece_194 : decode cX11_piece 194 = .ok (.istore 17, 2) := by decide +kernel
theorem dX11_piece_196 : decode cX11_piece 196 = .ok (.iinc 16 1, 3) := by decide +kernel
theorem dX11_piece_199 : decode cX11_piece 199 = .ok (.iinc 18 1, 3) := by decide +kernel
theorem dX11_piece_202 : decode cX11_piece 202 = .ok (.goto (-66), 3) := by decide +kernel
theorem dX11_piece_205 : decode cX11_piece 205 = .ok (.iload 4, 2) := by decide +kernel
theorem dX11_piece_207 : decode cX11_piece 207 = .ok (.ifCond .ne 6, 3) := by decide +kernel
theorem dX11_piece_210 : decode cX11_piece 210 = .ok (.iload 16, 2) := by decide +kernel
theorem dX11_piece_212 : decode cX11_piece 212 = .ok (.ireturn, 1) := by decide +kernel
theorem dX11_piece_213 : decode cX11_piece 213 = .ok (.iload 17, 2) := by decide +kernel
theorem dX11_piece_215 : decode cX11_piece 215 = .ok (.iconst (-1), 1) := by decide +kernel
theorem dX11_piece_216 : decode cX11_piece 216 = .ok (.if_icmp .ne 12, 3) := by decide +kernel
theorem dX11_piece_219 : decode cX11_piece 219 = .ok (.aload_n 0, 1) := by decide +kernel
theorem dX11_piece_220 : decode cX11_piece 220 = .ok (.bipush (-5), 2) := by decide +kernel
theorem dX11_piece_222 : decode cX11_piece 222 = .ok (.invokevirtual 65, 3) := by decide +kernel
theorem dX11_piece_225 : decode cX11_piece 225 = .ok (.goto 5, 3) := by decide +kernel
theorem dX11_piece_228 : decode cX11_piece 228 = .ok (.iload 17, 2) := by decide +kernel
theorem dX11_piece_230 : decode cX11_piece 230 = .ok (.ireturn, 1) := by decide +kernel
set_option maxRecDepth 20000 in
theorem ggX11_can_X11_shelfAt : GoodIn wsX11_can wsX11_shelfAt := goodIn_r _ [6, 7, 58, 59, 60, 61, 62, 63, 64, 65, 66, 67, 68, 69, 70] (by decide +kernel) (by decide +kernel)
set_option maxRecDepth 20000 in
theorem gX11_can_X11_shelfAt : GoodIn wsX11_can (wsV RX11 107 RX11 yX11_shelfAt wsX11_shelfAt) := goodIn_app (goodIn_of _ (by decide +kernel)) ggX11_can_X11_shelfAt
set_option maxRecDepth 20000 in
theorem ggX11_can_X11_toldTrouble : GoodIn wsX11_can wsX11_toldTrouble := goodIn_r _ [10, 11, 12, 5, 13, 71, 72, 73, 74] (by decide +kernel) (by decide +kernel)
set_option maxRecDepth 20000 in
theorem gX11_can_X11_toldTrouble : GoodIn wsX11_can (va_wsS RX11 167 yX11_toldTrouble wsX11_toldTrouble) := goodIn_app (goodIn_of _ (by decide +kernel)) ggX11_can_X11_toldTrouble
set_option maxRecDepth 20000 in
theorem ggX11_can_X11_refuse : GoodIn wsX11_can wsX11_refuse := goodIn_r _ [17, 18, 58, 59, 60, 61, 62, 63, 64, 65, 66, 67, 68, 69, 70] (by decide +kernel) (by decide +kernel)
set_option maxRecDepth 20000 in
theorem gX11_can_X11_refuse : GoodIn wsX11_can (wsV RX11 65 RX11 yX11_refuse wsX11_refuse) := goodIn_app (goodIn_of _ (by decide +kernel)) ggX11_can_X11_refuse
set_option maxRecDepth 20000 in
theorem ggX11_can_X7_number : GoodIn wsX11_can wsX7_number := goodIn_r _ [22, 23, 24, 71, 72, 73, 74] (by decide +kernel) (by decide +kernel)
set_option maxRecDepth 20000 in
theorem gX11_can_X7_number_n175 : GoodIn wsX11_can (wsX7_number) := ggX11_can_X7_number
set_option maxRecDepth 20000 in
theorem ggX11_can_X3_clear : GoodIn wsX11_can wsX3_clear := goodIn_r _ [28, 29, 30, 31, 32, 33, 34, 75, 76, 77, 78, 79, 80, 81] (by decide +kernel) (by decide +kernel)
set_option maxRecDepth 20000 in
theorem gX11_can_X3_clear_n341 : GoodIn wsX11_can (wsX3_clear) := ggX11_can_X3_clear
set_option maxRecDepth 20000 in
theorem ggX11_can_X3_fits : GoodIn wsX11_can wsX3_fits := goodIn_r _ [37, 38, 39, 40, 26, 41, 42, 43, 44, 45, 29, 46, 47, 48, 49, 30, 50, 51, 52, 53, 54, 75, 76, 77, 78, 79, 80, 81] (by decide +kernel) (by decide +kernel)
set_option maxRecDepth 20000 in
theorem gX11_can_X3_fits_n344 : GoodIn wsX11_can (wsX3_fits) := ggX11_can_X3_fits
set_option maxRecDepth 20000 in
theorem ggX11_can_X3_lay : GoodIn wsX11_can wsX3_lay := goodIn_r _ [57, 30, 54, 75, 76, 77, 78, 79, 80, 81] (by decide +kernel) (by decide +kernel)
set_option maxRecDepth 20000 in
theorem gX11_can_X3_lay_n347 : GoodIn wsX11_can (wsX3_lay) := ggX11_can_X3_lay
theorem dX11_can_0 : decode cX11_can 0 = .ok (.aload_n 0, 1) := by decide +kernel
theorem dX11_can_1 : decode cX11_can 1 = .ok (.iload_n 1, 1) := by decide +kernel
theorem dX11_can_2 : decode cX11_can 2 = .ok (.invokevirtual 107, 3) := by decide +kernel
theorem dX11_can_5 : decode cX11_can 5 = .ok (.astore_n 3, 1) := by decide +kernel
theorem dX11_can_6 : decode cX11_can 6 = .ok (.aload_n 3, 1) := by decide +kernel
theorem dX11_can_7 : decode cX11_can 7 = .ok (.iload_n 2, 1) := by decide +kernel
theorem dX11_can_8 : decode cX11_can 8 = .ok (.invokestatic 167, 3) := by decide +kernel
theorem dX11_can_11 : decode cX11_can 11 = .ok (.istore 4, 2) := by decide +kernel
theorem dX11_can_13 : decode cX11_can 13 = .ok (.iload 4, 2) := by decide +kernel
theorem dX11_can_15 : decode cX11_can 15 = .ok (.ifCond .ne 18, 3) := by decide +kernel
theorem dX11_can_18 : decode cX11_can 18 = .ok (.iload_n 2, 1) := by decide +kernel
theorem dX11_can_19 : decode cX11_can 19 = .ok (.iconst 1, 1) := by decide +kernel
theorem dX11_can_20 : decode cX11_can 20 = .ok (.if_icmp .lt 9, 3) := by decide +kernel
theorem dX11_can_23 : decode cX11_can 23 = .ok (.iload_n 2, 1) := by decide +kernel
theorem dX11_can_24 : decode cX11_can 24 = .ok (.bipush 8, 2) := by decide +kernel
theorem dX11_can_26 : decode cX11_can 26 = .ok (.if_icmp .le 7, 3) := by decide +kernel
theorem dX11_can_29 : decode cX11_can 29 = .ok (.bipush (-6), 2) := by decide +kernel
theorem dX11_can_31 : decode cX11_can 31 = .ok (.istore 4, 2) := by decide +kernel
theorem dX11_can_33 : decode cX11_can 33 = .ok (.iload 4, 2) := by decide +kernel
theorem dX11_can_35 : decode cX11_can 35 = .ok (.ifCond .ne 7, 3) := by decide +kernel
theorem dX11_can_38 : decode cX11_can 38 = .ok (.aload_n 3, 1) := by decide +kernel
theorem dX11_can_39 : decode cX11_can 39 = .ok (.ifnonnull 10, 3) := by decide +kernel
theorem dX11_can_42 : decode cX11_can 42 = .ok (.aload_n 0, 1) := by decide +kernel
theorem dX11_can_43 : decode cX11_can 43 = .ok (.iload 4, 2) := by decide +kernel
theorem dX11_can_45 : decode cX11_can 45 = .ok (.invokevirtual 65, 3) := by decide +kernel
theorem dX11_can_48 : decode cX11_can 48 = .ok (.ireturn, 1) := by decide +kernel
theorem dX11_can_49 : decode cX11_can 49 = .ok (.iconst 0, 1) := by decide +kernel
theorem dX11_can_50 : decode cX11_can 50 = .ok (.istore 5, 2) := by decide +kernel
theorem dX11_can_52 : decode cX11_can 52 = .ok (.iconst 0, 1) := by decide +kernel
theorem dX11_can_53 : decode cX11_can 53 = .ok (.istore 6, 2) := by decide +kernel
theorem dX11_can_55 : decode cX11_can 55 = .ok (.iload 6, 2) := by decide +kernel
theorem dX11_can_57 : decode cX11_can 57 = .ok (.iload_n 2, 1) := by decide +kernel
theorem dX11_can_58 : decode cX11_can 58 = .ok (.if_icmp .ge 55, 3) := by decide +kernel
theorem dX11_can_61 : decode cX11_can 61 = .ok (.aload_n 3, 1) := by decide +kernel
theorem dX11_can_62 : decode cX11_can 62 = .ok (.iload 6, 2) := by decide +kernel
theorem dX11_can_64 : decode cX11_can 64 = .ok (.invokevirtual 175, 3) := by decide +kernel
theorem dX11_can_67 : decode cX11_can 67 = .ok (.istore 7, 2) := by decide +kernel
theorem dX11_can_69 : decode cX11_can 69 = .ok (.iload 7, 2) := by decide +kernel
theorem dX11_can_71 : decode cX11_can 71 = .ok (.ifCond .lt 20, 3) := by decide +kernel
theorem dX11_can_74 : decode cX11_can 74 = .ok (.iload 7, 2) := by decide +kernel
theorem dX11_can_76 : decode cX11_can 76 = .ok (.iload_n 2, 1) := by decide +kernel
theorem dX11_can_77 : decode cX11_can 77 = .ok (.if_icmp .ge 14, 3) := by decide +kernel
theorem dX11_can_80 : decode cX11_can 80 = .ok (.iload 5, 2) := by decide +kernel
theorem dX11_can_82 : decode cX11_can 82 = .ok (.iload 7, 2) := by decide +kernel
theorem dX11_can_84 : decode cX11_can 84 = .ok (.ishr, 1) := by decide +kernel
theorem dX11_can_85 : decode cX11_can 85 = .ok (.iconst 1, 1) := by decide +kernel
theorem dX11_can_86 : decode cX11_can 86 = .ok (.iand, 1) := by decide +kernel
theorem dX11_can_87 : decode cX11_can 87 = .ok (.iconst 1, 1) := by decide +kernel
theorem dX11_can_88 : decode cX11_can 88 = .ok (.if_icmp .ne 10, 3) := by decide +kernel
theorem dX11_can_91 : decode cX11_can 91 = .ok (.aload_n 0, 1) := by decide +kernel
theorem dX11_can_92 : decode cX11_can 92 = .ok (.bipush (-6), 2) := by decide +kernel
theorem dX11_can_94 : decode cX11_can 94 = .ok (.invokevirtual 65, 3) := by decide +kernel
theorem dX11_can_97 : decode cX11_can 97 = .ok (.ireturn, 1) := by decide +kernel
theorem dX11_can_98 : decode cX11_can 98 = .ok (.iload 5, 2) := by decide +kernel
theorem dX11_can_100 : decode cX11_can 100 = .ok (.iconst 1, 1) := by decide +kernel
theorem dX11_can_101 : decode cX11_can 101 = .ok (.iload 7, 2) := by decide +kernel
theorem dX11_can_103 : decode cX11_can 103 = .ok (.ishl, 1) := by decide +kernel
theorem dX11_can_104 : decode cX11_can 104 = .ok (.ior, 1) := by decide +kernel
theorem dX11_can_105 : decode cX11_can 105 = .ok (.istore 5, 2) := by decide +kernel
theorem dX11_can_107 : decode cX11_can 107 = .ok (.iinc 6 1, 3) := by decide +kernel
theorem dX11_can_110 : decode cX11_can 110 = .ok (.goto (-55), 3) := by decide +kernel
theorem dX11_can_113 : decode cX11_can 113 = .ok (.aload_n 0, 1) := by decide +kernel
theorem dX11_can_114 : decode cX11_can 114 = .ok (.getfield 50, 3) := by decide +kernel
theorem dX11_can_117 : decode cX11_can 117 = .ok (.iload_n 2, 1) := by decide +kernel
theorem dX11_can_118 : decode cX11_can 118 = .ok (.invokevirtual 341, 3) := by decide +kernel
theorem dX11_can_121 : decode cX11_can 121 = .ok (.iconst 0, 1) := by decide +kernel
theorem dX11_can_122 : decode cX11_can 122 = .ok (.istore 6, 2) := by decide +kernel
theorem dX11_can_124 : decode cX11_can 124 = .ok (.iload 6, 2) := by decide +kernel
theorem dX11_can_126 : decode cX11_can 126 = .ok (.iload_n 2, 1) := by decide +kernel
theorem dX11_can_127 : decode cX11_can 127 = .ok (.if_icmp .ge 44, 3) := by decide +kernel
theorem dX11_can_130 : decode cX11_can 130 = .ok (.aload_n 3, 1) := by decide +kernel
theorem dX11_can_131 : decode cX11_can 131 = .ok (.iload 6, 2) := by decide +kernel
theorem dX11_can_133 : decode cX11_can 133 = .ok (.invokevirtual 175, 3) := by decide +kernel
theorem dX11_can_136 : decode cX11_can 136 = .ok (.istore 7, 2) := by decide +kernel
theorem dX11_can_138 : decode cX11_can 138 = .ok (.aload_n 0, 1) := by decide +kernel
theorem dX11_can_139 : decode cX11_can 139 = .ok (.getfield 50, 3) := by decide +kernel
theorem dX11_can_142 : decode cX11_can 142 = .ok (.iload 7, 2) := by decide +kernel
theorem dX11_can_144 : decode cX11_can 144 = .ok (.iload 6, 2) := by decide +kernel
theorem dX11_can_146 : decode cX11_can 146 = .ok (.invokevirtual 344, 3) := by decide +kernel
theorem dX11_can_149 : decode cX11_can 149 = .ok (.ifCond .ne 5, 3) := by decide +kernel
theorem dX11_can_152 : decode cX11_can 152 = .ok (.iconst 0, 1) := by decide +kernel
theorem dX11_can_153 : decode cX11_can 153 = .ok (.ireturn, 1) := by decide +kernel
theorem dX11_can_154 : decode cX11_can 154 = .ok (.aload_n 0, 1) := by decide +kernel
theorem dX11_can_155 : decode cX11_can 155 = .ok (.getfield 50, 3) := by decide +kernel
theorem dX11_can_158 : decode cX11_can 158 = .ok (.iload 7, 2) := by decide +kernel
theorem dX11_can_160 : decode cX11_can 160 = .ok (.iload 6, 2) := by decide +kernel
theorem dX11_can_162 : decode cX11_can 162 = .ok (.invokevirtual 347, 3) := by decide +kernel
theorem dX11_can_165 : decode cX11_can 165 = .ok (.iinc 6 1, 3) := by decide +kernel
theorem dX11_can_168 : decode cX11_can 168 = .ok (.goto (-44), 3) := by decide +kernel
theorem dX11_can_171 : decode cX11_can 171 = .ok (.iconst 1, 1) := by decide +kernel
theorem dX11_can_172 : decode cX11_can 172 = .ok (.ireturn, 1) := by decide +kernel
set_option maxRecDepth 20000 in
theorem ggX11_orders_X11_refuse : GoodIn wsX11_orders wsX11_refuse := goodIn_r _ [6, 7, 62, 63, 64, 65, 66, 67, 68, 69, 70, 71, 72, 73, 74] (by decide +kernel) (by decide +kernel)
set_option maxRecDepth 20000 in
theorem gX11_orders_X11_refuse : GoodIn wsX11_orders (wsV RX11 65 RX11 yX11_refuse wsX11_refuse) := goodIn_app (goodIn_of _ (by decide +kernel)) ggX11_orders_X11_refuse
set_option maxRecDepth 20000 in
theorem ggX11_orders_X3_countOf : GoodIn wsX11_orders wsX3_countOf := goodIn_r _ [11, 12, 13, 14, 15, 16, 17, 9, 18, 19, 20, 21, 22, 23, 24, 25, 26, 27, 28, 29, 30, 31, 32, 33, 34, 35, 36, 37, 38, 39, 40, 41, 42, 43, 44, 45, 46, 47, 48, 49, 50, 51, 52, 53, 54, 55, 56, 57, 58, 59, 60, 61, 75, 76, 77, 78, 79, 80, 81] (by decide +kernel) (by decide +kernel)
set_option maxRecDepth 20000 in
theorem gX11_orders_X3_countOf_n350 : GoodIn wsX11_orders (wsX3_countOf) := ggX11_orders_X3_countOf
theorem dX11_orders_0 : decode cX11_orders 0 = .ok (.iload_n 1, 1) := by decide +kernel
theorem dX11_orders_1 : decode cX11_orders 1 = .ok (.iconst 1, 1) := by decide +kernel
theorem dX11_orders_2 : decode cX11_orders 2 = .ok (.if_icmp .lt 9, 3) := by decide +kernel
theorem dX11_orders_5 : decode cX11_orders 5 = .ok (.iload_n 1, 1) := by decide +kernel
theorem dX11_orders_6 : decode cX11_orders 6 = .ok (.bipush 8, 2) := by decide +kernel
theorem dX11_orders_8 : decode cX11_orders 8 = .ok (.if_icmp .le 12, 3) := by decide +kernel
theorem dX11_orders_11 : decode cX11_orders 11 = .ok (.aload_n 0, 1) := by decide +kernel
theorem dX11_orders_12 : decode cX11_orders 12 = .ok (.bipush (-6), 2) := by decide +kernel
theorem dX11_orders_14 : decode cX11_orders 14 = .ok (.invokevirtual 65, 3) := by decide +kernel
theorem dX11_orders_17 : decode cX11_orders 17 = .ok (.goto 11, 3) := by decide +kernel
theorem dX11_orders_20 : decode cX11_orders 20 = .ok (.aload_n 0, 1) := by decide +kernel
theorem dX11_orders_21 : decode cX11_orders 21 = .ok (.getfield 50, 3) := by decide +kernel
theorem dX11_orders_24 : decode cX11_orders 24 = .ok (.iload_n 1, 1) := by decide +kernel
theorem dX11_orders_25 : decode cX11_orders 25 = .ok (.invokevirtual 350, 3) := by decide +kernel
theorem dX11_orders_28 : decode cX11_orders 28 = .ok (.ireturn, 1) := by decide +kernel
set_option maxRecDepth 20000 in
theorem ggX11_order_X11_refuse : GoodIn wsX11_order wsX11_refuse := goodIn_r _ [6, 7, 66, 67, 68, 69, 70, 71, 72, 73, 74, 75, 76, 77, 78] (by decide +kernel) (by decide +kernel)
set_option maxRecDepth 20000 in
theorem gX11_order_X11_refuse : GoodIn wsX11_order (wsV RX11 65 RX11 yX11_refuse wsX11_refuse) := goodIn_app (goodIn_of _ (by decide +kernel)) ggX11_order_X11_refuse
set_option maxRecDepth 20000 in
theorem ggX11_order_X3_countOf : GoodIn wsX11_order wsX3_countOf := goodIn_r _ [11, 12, 13, 14, 15, 16, 17, 9, 18, 19, 20, 21, 22, 23, 24, 25, 26, 27, 28, 29, 30, 31, 32, 33, 34, 35, 36, 37, 38, 39, 40, 41, 42, 43, 44, 45, 46, 47, 48, 49, 50, 51, 52, 53, 54, 55, 56, 57, 58, 59, 60, 61, 79, 80, 81, 82, 83, 84, 85] (by decide +kernel) (by decide +kernel)
set_option maxRecDepth 20000 in
theorem gX11_order_X3_countOf_n350 : GoodIn wsX11_order (wsX3_countOf) := ggX11_order_X3_countOf
set_option maxRecDepth 20000 in
theorem ggX11_order_X3_leafOf : GoodIn wsX11_order wsX3_leafOf := goodIn_r _ [64, 13, 32, 65, 8, 10, 9, 11, 12, 14, 15, 16, 17, 18, 19, 20, 21, 22, 23, 24, 25, 26, 27, 28, 29, 30, 31, 33, 34, 35, 36, 37, 38, 39, 40, 41, 42, 43, 44, 45, 46, 47, 48, 49, 50, 51, 52, 53, 54, 55, 56, 57, 58, 59, 60, 61, 79, 80, 81, 82, 83, 84, 85] (by decide +kernel) (by decide +kernel)
set_option maxRecDepth 20000 in
theorem gX11_order_X3_leafOf_n353 : GoodIn wsX11_order (wsX3_leafOf) := ggX11_order_X3_leafOf
theorem dX11_order_0 : decode cX11_order 0 = .ok (.iload_n 2, 1) := by decide +kernel
theorem dX11_order_1 : decode cX11_order 1 = .ok (.ifCond .lt 7, 3) := by decide +kernel
theorem dX11_order_4 : decode cX11_order 4 = .ok (.iload_n 3, 1) := by decide +kernel
theorem dX11_order_5 : decode cX11_order 5 = .ok (.ifCond .ge 10, 3) := by decide +kernel
theorem dX11_order_8 : decode cX11_order 8 = .ok (.aload_n 0, 1) := by decide +kernel
theorem dX11_order_9 : decode cX11_order 9 = .ok (.bipush (-5), 2) := by decide +kernel
theorem dX11_order_11 : decode cX11_order 11 = .ok (.invokevirtual 65, 3) := by decide +kernel
theorem dX11_order_14 : decode cX11_order 14 = .ok (.ireturn, 1) := by decide +kernel
theorem dX11_order_15 : decode cX11_order 15 = .ok (.iload_n 1, 1) := by decide +kernel
theorem dX11_order_16 : decode cX11_order 16 = .ok (.iconst 1, 1) := by decide +kernel
theorem dX11_order_17 : decode cX11_order 17 = .ok (.if_icmp .lt 9, 3) := by decide +kernel
theorem dX11_order_20 : decode cX11_order 20 = .ok (.iload_n 1, 1) := by decide +kernel
theorem dX11_order_21 : decode cX11_order 21 = .ok (.bipush 8, 2) := by decide +kernel
theorem dX11_order_23 : decode cX11_order 23 = .ok (.if_icmp .le 10, 3) := by decide +kernel
theorem dX11_order_26 : decode cX11_order 26 = .ok (.aload_n 0, 1) := by decide +kernel
theorem dX11_order_27 : decode cX11_order 27 = .ok (.bipush (-6), 2) := by decide +kernel
theorem dX11_order_29 : decode cX11_order 29 = .ok (.invokevirtual 65, 3) := by decide +kernel
theorem dX11_order_32 : decode cX11_order 32 = .ok (.ireturn, 1) := by decide +kernel
theorem dX11_order_33 : decode cX11_order 33 = .ok (.iload_n 3, 1) := by decide +kernel
theorem dX11_order_34 : decode cX11_order 34 = .ok (.iload_n 1, 1) := by decide +kernel
theorem dX11_order_35 : decode cX11_order 35 = .ok (.if_icmp .ge 15, 3) := by decide +kernel
theorem dX11_order_38 : decode cX11_order 38 = .ok (.iload_n 2, 1) := by decide +kernel
theorem dX11_order_39 : decode cX11_order 39 = .ok (.aload_n 0, 1) := by decide +kernel
theorem dX11_order_40 : decode cX11_order 40 = .ok (.getfield 50, 3) := by decide +kernel
theorem dX11_order_43 : decode cX11_order 43 = .ok (.iload_n 1, 1) := by decide +kernel
theorem dX11_order_44 : decode cX11_order 44 = .ok (.invokevirtual 350, 3) := by decide +kernel
theorem dX11_order_47 : decode cX11_order 47 = .ok (.if_icmp .lt 10, 3) := by decide +kernel
theorem dX11_order_50 : decode cX11_order 50 = .ok (.aload_n 0, 1) := by decide +kernel
theorem dX11_order_51 : decode cX11_order 51 = .ok (.bipush (-5), 2) := by decide +kernel
theorem dX11_order_53 : decode cX11_order 53 = .ok (.invokevirtual 65, 3) := by decide +kernel
theorem dX11_order_56 : decode cX11_order 56 = .ok (.ireturn, 1) := by decide +kernel
theorem dX11_order_57 : decode cX11_order 57 = .ok (.aload_n 0, 1) := by decide +kernel
theorem dX11_order_58 : decode cX11_order 58 = .ok (.getfield 50, 3) := by decide +kernel
theorem dX11_order_61 : decode cX11_order 61 = .ok (.iload_n 1, 1) := by decide +kernel
theorem dX11_order_62 : decode cX11_order 62 = .ok (.iload_n 2, 1) := by decide +kernel
theorem dX11_order_63 : decode cX11_order 63 = .ok (.iload_n 3, 1) := by decide +kernel
theorem dX11_order_64 : decode cX11_order 64 = .ok (.invokevirtual 353, 3) := by decide +kernel
theorem dX11_order_67 : decode cX11_order 67 = .ok (.ireturn, 1) := by decide +kernel
set_option maxRecDepth 20000 in
theorem ggX11_page_X11_refuse : GoodIn wsX11_page wsX11_refuse := goodIn_r _ [5, 6, 7, 8, 9, 10, 11, 12, 13, 14, 15, 16, 17, 18, 19] (by decide +kernel) (by decide +kernel)
set_option maxRecDepth 20000 in
theorem gX11_page_X11_refuse : GoodIn wsX11_page (wsV RX11 65 RX11 yX11_refuse wsX11_refuse) := goodIn_app (goodIn_of _ (by decide +kernel)) ggX11_page_X11_refuse
theorem dX11_page_0 : decode cX11_page 0 = .ok (.iload_n 2, 1) := by decide +kernel
theorem dX11_page_1 : decode cX11_page 1 = .ok (.ifCond .ge 10, 3) := by decide +kernel
theorem dX11_page_4 : decode cX11_page 4 = .ok (.aload_n 0, 1) := by decide +kernel
theorem dX11_page_5 : decode cX11_page 5 = .ok (.bipush (-5), 2) := by decide +kernel
theorem dX11_page_7 : decode cX11_page 7 = .ok (.invokevirtual 65, 3) := by decide +kernel
theorem dX11_page_10 : decode cX11_page 10 = .ok (.ireturn, 1) := by decide +kernel
theorem dX11_page_11 : decode cX11_page 11 = .ok (.iload_n 1, 1) := by decide +kernel
theorem dX11_page_12 : decode cX11_page 12 = .ok (.iconst 1, 1) := by decide +kernel
theorem dX11_page_13 : decode cX11_page 13 = .ok (.if_icmp .lt 9, 3) := by decide +kernel
theorem dX11_page_16 : decode cX11_page 16 = .ok (.iload_n 1, 1) := by decide +kernel
theorem dX11_page_17 : decode cX11_page 17 = .ok (.bipush 6, 2) := by decide +kernel
theorem dX11_page_19 : decode cX11_page 19 = .ok (.if_icmp .le 10, 3) := by decide +kernel
theorem dX11_page_22 : decode cX11_page 22 = .ok (.aload_n 0, 1) := by decide +kernel
theorem dX11_page_23 : decode cX11_page 23 = .ok (.bipush (-6), 2) := by decide +kernel
theorem dX11_page_25 : decode cX11_page 25 = .ok (.invokevirtual 65, 3) := by decide +kernel
theorem dX11_page_28 : decode cX11_page 28 = .ok (.ireturn, 1) := by decide +kernel
theorem dX11_page_29 : decode cX11_page 29 = .ok (.iload_n 2, 1) := by decide +kernel
theorem dX11_page_30 : decode cX11_page 30 = .ok (.iconst 1, 1) := by decide +kernel
theorem dX11_page_31 : decode cX11_page 31 = .ok (.iload_n 1, 1) := by decide +kernel
theorem dX11_page_32 : decode cX11_page 32 = .ok (.ishl, 1) := by decide +kernel
theorem dX11_page_33 : decode cX11_page 33 = .ok (.if_icmp .lt 10, 3) := by decide +kernel
theorem dX11_page_36 : decode cX11_page 36 = .ok (.aload_n 0, 1) := by decide +kernel
theorem dX11_page_37 : decode cX11_page 37 = .ok (.bipush (-5), 2) := by decide +kernel
theorem dX11_page_39 : decode cX11_page 39 = .ok (.invokevirtual 65, 3) := by decide +kernel
theorem dX11_page_42 : decode cX11_page 42 = .ok (.ireturn, 1) := by decide +kernel
theorem dX11_page_43 : decode cX11_page 43 = .ok (.iconst 0, 1) := by decide +kernel
theorem dX11_page_44 : decode cX11_page 44 = .ok (.istore_n 3, 1) := by decide +kernel
theorem dX11_page_45 : decode cX11_page 45 = .ok (.iconst 1, 1) := by decide +kernel
theorem dX11_page_46 : decode cX11_page 46 = .ok (.istore 4, 2) := by decide +kernel
theorem dX11_page_48 : decode cX11_page 48 = .ok (.iload_n 2, 1) := by decide +kernel
theorem dX11_page_49 : decode cX11_page 49 = .ok (.istore 5, 2) := by decide +kernel
theorem dX11_page_51 : decode cX11_page 51 = .ok (.iconst 1, 1) := by decide +kernel
theorem dX11_page_52 : decode cX11_page 52 = .ok (.iload_n 1, 1) := by decide +kernel
theorem dX11_page_53 : decode cX11_page 53 = .ok (.iconst 1, 1) := by decide +kernel
theorem dX11_page_54 : decode cX11_page 54 = .ok (.isub, 1) := by decide +kernel
theorem dX11_page_55 : decode cX11_page 55 = .ok (.ishl, 1) := by decide +kernel
theorem dX11_page_56 : decode cX11_page 56 = .ok (.istore 6, 2) := by decide +kernel
theorem dX11_page_58 : decode cX11_page 58 = .ok (.iload 6, 2) := by decide +kernel
theorem dX11_page_60 : decode cX11_page 60 = .ok (.ifCond .le 51, 3) := by decide +kernel
theorem dX11_page_63 : decode cX11_page 63 = .ok (.iload 4, 2) := by decide +kernel
theorem dX11_page_65 : decode cX11_page 65 = .ok (.iconst 2, 1) := by decide +kernel
theorem dX11_page_66 : decode cX11_page 66 = .ok (.imul, 1) := by decide +kernel
theorem dX11_page_67 : decode cX11_page 67 = .ok (.istore 4, 2) := by decide +kernel
theorem dX11_page_69 : decode cX11_page 69 = .ok (.iload 5, 2) := by decide +kernel
theorem dX11_page_71 : decode cX11_page 71 = .ok (.iload 6, 2) := by decide +kernel
theorem dX11_page_73 : decode cX11_page 73 = .ok (.if_icmp .ge 22, 3) := by decide +kernel
theorem dX11_page_76 : decode cX11_page 76 = .ok (.iload 4, 2) := by decide +kernel
theorem dX11_page_78 : decode cX11_page 78 = .ok (.iconst 1, 1) := by decide +kernel
theorem dX11_page_79 : decode cX11_page 79 = .ok (.isub, 1) := by decide +kernel
theorem dX11_page_80 : decode cX11_page 80 = .ok (.iload_n 3, 1) := by decide +kernel
theorem dX11_page_81 : decode cX11_page 81 = .ok (.isub, 1) := by decide +kernel
theorem dX11_page_82 : decode cX11_page 82 = .ok (.istore_n 3, 1) := by decide +kernel
theorem dX11_page_83 : decode cX11_page 83 = .ok (.iload 6, 2) := by decide +kernel
theorem dX11_page_85 : decode cX11_page 85 = .ok (.iconst 1, 1) := by decide +kernel
theorem dX11_page_86 : decode cX11_page 86 = .ok (.isub, 1) := by decide +kernel
theorem dX11_page_87 : decode cX11_page 87 = .ok (.iload 5, 2) := by decide +kernel
theorem dX11_page_89 : decode cX11_page 89 = .ok (.isub, 1) := by decide +kernel
theorem dX11_page_90 : decode cX11_page 90 = .ok (.istore 5, 2) := by decide +kernel
theorem dX11_page_92 : decode cX11_page 92 = .ok (.goto 10, 3) := by decide +kernel
theorem dX11_page_95 : decode cX11_page 95 = .ok (.iload 5, 2) := by decide +kernel
theorem dX11_page_97 : decode cX11_page 97 = .ok (.iload 6, 2) := by decide +kernel
theorem dX11_page_99 : decode cX11_page 99 = .ok (.isub, 1) := by decide +kernel
theorem dX11_page_100 : decode cX11_page 100 = .ok (.istore 5, 2) := by decide +kernel
theorem dX11_page_102 : decode cX11_page 102 = .ok (.iload 6, 2) := by decide +kernel
theorem dX11_page_104 : decode cX11_page 104 = .ok (.iconst 1, 1) := by decide +kernel
theorem dX11_page_105 : decode cX11_page 105 = .ok (.ishr, 1) := by decide +kernel
theorem dX11_page_106 : decode cX11_page 106 = .ok (.istore 6, 2) := by decide +kernel
theorem dX11_page_108 : decode cX11_page 108 = .ok (.goto (-50), 3) := by decide +kernel
theorem dX11_page_111 : decode cX11_page 111 = .ok (.iload_n 3, 1) := by decide +kernel
theorem dX11_page_112 : decode cX11_page 112 = .ok (.ireturn, 1) := by decide +kernel
theorem dX11_began_0 : decode cX11_began 0 = .ok (.aload_n 0, 1) := by decide +kernel
theorem dX11_began_1 : decode cX11_began 1 = .ok (.getfield 61, 3) := by decide +kernel
theorem dX11_began_4 : decode cX11_began 4 = .ok (.bipush 20, 2) := by decide +kernel
theorem dX11_began_6 : decode cX11_began 6 = .ok (.if_icmp .ge 13, 3) := by decide +kernel
theorem dX11_began_9 : decode cX11_began 9 = .ok (.aload_n 0, 1) := by decide +kernel
theorem dX11_began_10 : decode cX11_began 10 = .ok (.getfield 28, 3) := by decide +kernel
theorem dX11_began_13 : decode cX11_began 13 = .ok (.aload_n 0, 1) := by decide +kernel
theorem dX11_began_14 : decode cX11_began 14 = .ok (.getfield 61, 3) := by decide +kernel
theorem dX11_began_17 : decode cX11_began 17 = .ok (.iload_n 1, 1) := by decide +kernel
theorem dX11_began_18 : decode cX11_began 18 = .ok (.iastore, 1) := by decide +kernel
theorem dX11_began_19 : decode cX11_began 19 = .ok (.aload_n 0, 1) := by decide +kernel
theorem dX11_began_20 : decode cX11_began 20 = .ok (.dup, 1) := by decide +kernel
theorem dX11_began_21 : decode cX11_began 21 = .ok (.getfield 61, 3) := by decide +kernel
theorem dX11_began_24 : decode cX11_began 24 = .ok (.iconst 1, 1) := by decide +kernel
theorem dX11_began_25 : decode cX11_began 25 = .ok (.iadd, 1) := by decide +kernel
theorem dX11_began_26 : decode cX11_began 26 = .ok (.putfield 61, 3) := by decide +kernel
theorem dX11_began_29 : decode cX11_began 29 = .ok (.return_, 1) := by decide +kernel
set_option maxRecDepth 20000 in
theorem ggX11_act_X11_stripAt : GoodIn wsX11_act wsX11_stripAt := goodIn_r _ [6, 7, 8, 95, 96, 97, 98, 99, 100, 101, 102, 103, 104, 105, 106, 107] (by decide +kernel) (by decide +kernel)
set_option maxRecDepth 20000 in
theorem gX11_act_X11_stripAt : GoodIn wsX11_act (wsV RX11 137 RX11 yX11_stripAt wsX11_stripAt) := goodIn_app (goodIn_of _ (by decide +kernel)) ggX11_act_X11_stripAt
set_option maxRecDepth 20000 in
theorem ggX11_act_X0_folds : GoodIn wsX11_act wsX0_folds := goodIn_r _ [15, 16, 17, 18, 5, 19, 20, 1, 21, 108, 109, 110, 111, 112, 113, 114, 115, 116, 117, 118, 119, 120, 121, 122, 123, 124, 125, 126, 127, 128, 129, 130, 131, 132, 133, 134, 135, 95, 96, 97, 98, 99, 100, 101, 102, 103, 104, 105, 106, 107] (by decide +kernel) (by decide +kernel)
set_option maxRecDepth 20000 in
theorem gX11_act_X0_folds_u356X0 : GoodIn wsX11_act (va_wsO RX11 356 RX0 "FoldedInHalf$Strip" ⟨"FoldedInHalf$Strip", "folds", "(ILFoldedInHalf;)I"⟩ yX0_folds wsX0_folds) := goodIn_app (goodIn_of _ (by decide +kernel)) ggX11_act_X0_folds
set_option maxRecDepth 20000 in
theorem ggX11_act_X8_folds : GoodIn wsX11_act wsX8_folds := goodIn_r _ [22, 26, 18, 5, 19, 20, 1, 21, 108, 109, 110, 111, 112, 113, 114, 115, 116, 117, 118, 119, 120, 121, 122, 123, 124, 125, 126, 127, 128, 129, 130, 131, 132, 133, 134, 135, 95, 96, 97, 98, 99, 100, 101, 102, 103, 104, 105, 106, 107] (by decide +kernel) (by decide +kernel)
set_option maxRecDepth 20000 in
theorem gX11_act_X8_folds_u356X1 : GoodIn wsX11_act (va_wsU RX11 356 RX1 "FoldedInHalf$Strip" ⟨"FoldedInHalf$Strip", "folds", "(ILFoldedInHalf;)I"⟩ yX8_folds wsX8_folds) := goodIn_app (goodIn_of _ (by decide +kernel)) ggX11_act_X8_folds
set_option maxRecDepth 20000 in
theorem gX11_act_X8_folds_u356X2 : GoodIn wsX11_act (va_wsU RX11 356 RX2 "FoldedInHalf$Strip" ⟨"FoldedInHalf$Strip", "folds", "(ILFoldedInHalf;)I"⟩ yX8_folds wsX8_folds) := goodIn_app (goodIn_of _ (by decide +kernel)) ggX11_act_X8_folds
set_option maxRecDepth 20000 in
theorem ggX11_act_X4_folds : GoodIn wsX11_act wsX4_folds := goodIn_r _ [31, 18, 5, 19, 20, 1, 21, 95, 96, 97, 98, 99, 100, 101, 102, 103, 104, 105, 106, 107] (by decide +kernel) (by decide +kernel)
set_option maxRecDepth 20000 in
theorem gX11_act_X4_folds_u356X4 : GoodIn wsX11_act (va_wsO RX11 356 RX4 "FoldedInHalf$Strip" ⟨"FoldedInHalf$Strip", "folds", "(ILFoldedInHalf;)I"⟩ yX4_folds wsX4_folds) := goodIn_app (goodIn_of _ (by decide +kernel)) ggX11_act_X4_folds
set_option maxRecDepth 20000 in
theorem ggX11_act_X6_folds : GoodIn wsX11_act wsX6_folds := goodIn_r _ [35, 36, 37, 18, 5, 19, 20, 1, 21, 38, 10, 39, 24, 25, 22, 26, 108, 109, 110, 111, 112, 113, 114, 115, 116, 117, 118, 119, 120, 121, 122, 123, 124, 125, 126, 127, 128, 129, 130, 131, 132, 133, 134, 135, 95, 96, 97, 98, 99, 100, 101, 102, 103, 104, 105, 106, 107] (by decide +kernel) (by decide +kernel)
set_option maxRecDepth 20000 in
theorem gX11_act_X6_folds_u356X6 : GoodIn wsX11_act (va_wsO RX11 356 RX6 "FoldedInHalf$Strip" ⟨"FoldedInHalf$Strip", "folds", "(ILFoldedInHalf;)I"⟩ yX6_folds wsX6_folds) := goodIn_app (goodIn_of _ (by decide +kernel)) ggX11_act_X6_folds
set_option maxRecDepth 20000 in
theorem gX11_act_X8_folds : GoodIn wsX11_act (wsV RX11 356 RX8 yX8_folds wsX8_folds) := goodIn_app (goodIn_of _ (by decide +kernel)) ggX11_act_X8_folds
set_option maxRecDepth 20000 in
theorem gX11_act_X8_folds_u356X9 : GoodIn wsX11_act (va_wsU RX11 356 RX9 "FoldedInHalf$Strip" ⟨"FoldedInHalf$Strip", "folds", "(ILFoldedInHalf;)I"⟩ yX8_folds wsX8_folds) := goodIn_app (goodIn_of _ (by decide +kernel)) ggX11_act_X8_folds
set_option maxRecDepth 20000 in
theorem ggX11_act_X1_opens : GoodIn wsX11_act wsX1_opens := goodIn_r _ [49, 18, 5, 19, 20, 1, 21, 50, 44, 51, 52, 25, 53, 54, 10, 11, 12, 13, 14, 15, 16, 17, 22, 23, 24, 26, 27, 28, 29, 30, 31, 32, 33, 34, 35, 36, 37, 38, 39, 55, 41, 42, 95, 96, 97, 98, 99, 100, 101, 102, 103, 104, 105, 106, 107, 108, 109, 110, 111, 112, 113, 114, 115, 116, 117, 118, 119, 120, 121, 122, 123, 124, 125, 126, 127, 128, 129, 130, 131, 132, 133, 134, 135] (by decide +kernel) (by decide +kernel)
set_option maxRecDepth 20000 in
theorem gX11_act_X1_opens_u360X0 : GoodIn wsX11_act (va_wsO RX11 360 RX0 "FoldedInHalf$Strip" ⟨"FoldedInHalf$Strip", "opens", "(ILFoldedInHalf;)I"⟩ yX1_opens wsX1_opens) := goodIn_app (goodIn_of _ (by decide +kernel)) ggX11_act_X1_opens
set_option maxRecDepth 20000 in
theorem gX11_act_X1_opens_u360X1 : GoodIn wsX11_act (va_wsO RX11 360 RX1 "FoldedInHalf$Strip" ⟨"FoldedInHalf$Strip", "opens", "(ILFoldedInHalf;)I"⟩ yX1_opens wsX1_opens) := goodIn_app (goodIn_of _ (by decide +kernel)) ggX11_act_X1_opens
set_option maxRecDepth 20000 in
theorem ggX11_act_X8_opens : GoodIn wsX11_act wsX8_opens := goodIn_r _ [53, 18, 5, 19, 20, 1, 21, 54, 10, 11, 12, 13, 14, 15, 16, 17, 22, 23, 24, 25, 26, 27, 28, 29, 30, 31, 32, 33, 34, 35, 36, 37, 38, 39, 55, 41, 42, 95, 96, 97, 98, 99, 100, 101, 102, 103, 104, 105, 106, 107, 108, 109, 110, 111, 112, 113, 114, 115, 116, 117, 118, 119, 120, 121, 122, 123, 124, 125, 126, 127, 128, 129, 130, 131, 132, 133, 134, 135] (by decide +kernel) (by decide +kernel)
set_option maxRecDepth 20000 in
theorem gX11_act_X8_opens_u360X2 : GoodIn wsX11_act (va_wsU RX11 360 RX2 "FoldedInHalf$Strip" ⟨"FoldedInHalf$Strip", "opens", "(ILFoldedInHalf;)I"⟩ yX8_opens wsX8_opens) := goodIn_app (goodIn_of _ (by decide +kernel)) ggX11_act_X8_opens
set_option maxRecDepth 20000 in
theorem ggX11_act_X4_opens : GoodIn wsX11_act wsX4_opens := goodIn_r _ [60, 61, 62, 18, 5, 19, 20, 1, 21, 108, 109, 110, 111, 112, 113, 114, 115, 116, 117, 118, 119, 120, 121, 122, 123, 124, 125, 126, 127, 128, 129, 130, 131, 132, 133, 134, 135, 95, 96, 97, 98, 99, 100, 101, 102, 103, 104, 105, 106, 107] (by decide +kernel) (by decide +kernel)
set_option maxRecDepth 20000 in
theorem gX11_act_X4_opens_u360X4 : GoodIn wsX11_act (va_wsO RX11 360 RX4 "FoldedInHalf$Strip" ⟨"FoldedInHalf$Strip", "opens", "(ILFoldedInHalf;)I"⟩ yX4_opens wsX4_opens) := goodIn_app (goodIn_of _ (by decide +kernel)) ggX11_act_X4_opens
set_option maxRecDepth 20000 in
theorem gX11_act_X8_opens_u360X6 : GoodIn wsX11_act (va_wsU RX11 360 RX6 "FoldedInHalf$Strip" ⟨"FoldedInHalf$Strip", "opens", "(ILFoldedInHalf;)I"⟩ yX8_opens wsX8_opens) := goodIn_app (goodIn_of _ (by decide +kernel)) ggX11_act_X8_opens
set_option maxRecDepth 20000 in
theorem gX11_act_X8_opens : GoodIn wsX11_act (wsV RX11 360 RX8 yX8_opens wsX8_opens) := goodIn_app (goodIn_of _ (by decide +kernel)) ggX11_act_X8_opens
set_option maxRecDepth 20000 in
theorem ggX11_act_X9_opens : GoodIn wsX11_act wsX9_opens := goodIn_r _ [69, 18, 5, 19, 20, 1, 21, 70, 44, 71, 52, 25, 53, 54, 10, 11, 12, 13, 14, 15, 16, 17, 22, 23, 24, 26, 27, 28, 29, 30, 31, 32, 33, 34, 35, 36, 37, 38, 39, 55, 41, 42, 95, 96, 97, 98, 99, 100, 101, 102, 103, 104, 105, 106, 107, 108, 109, 110, 111, 112, 113, 114, 115, 116, 117, 118, 119, 120, 121, 122, 123, 124, 125, 126, 127, 128, 129, 130, 131, 132, 133, 134, 135] (by decide +kernel) (by decide +kernel)
set_option maxRecDepth 20000 in
theorem gX11_act_X9_opens_u360X9 : GoodIn wsX11_act (va_wsO RX11 360 RX9 "FoldedInHalf$Strip" ⟨"FoldedInHalf$Strip", "opens", "(ILFoldedInHalf;)I"⟩ yX9_opens wsX9_opens) := goodIn_app (goodIn_of _ (by decide +kernel)) ggX11_act_X9_opens
set_option maxRecDepth 20000 in
theorem ggX11_act_X0_lies : GoodIn wsX11_act wsX0_lies := goodIn_r _ [77, 18, 5, 19, 20, 1, 21, 95, 96, 97, 98, 99, 100, 101, 102, 103, 104, 105, 106, 107] (by decide +kernel) (by decide +kernel)
set_option maxRecDepth 20000 in
theorem gX11_act_X0_lies_u363X0 : GoodIn wsX11_act (va_wsO RX11 363 RX0 "FoldedInHalf$Strip" ⟨"FoldedInHalf$Strip", "lies", "(ILFoldedInHalf;)I"⟩ yX0_lies wsX0_lies) := goodIn_app (goodIn_of _ (by decide +kernel)) ggX11_act_X0_lies
set_option maxRecDepth 20000 in
theorem ggX11_act_X8_lies : GoodIn wsX11_act wsX8_lies := goodIn_r _ [78, 81, 18, 5, 19, 20, 1, 21, 82, 44, 45, 46, 47, 48, 49, 50, 51, 52, 25, 53, 54, 10, 11, 12, 13, 14, 15, 16, 17, 22, 23, 24, 26, 27, 28, 29, 30, 31, 32, 33, 34, 35, 36, 37, 38, 39, 55, 41, 42, 56, 57, 58, 59, 60, 61, 62, 63, 83, 65, 66, 67, 68, 69, 70, 71, 108, 109, 110, 111, 112, 113, 114, 115, 116, 117, 118, 119, 120, 121, 122, 123, 124, 125, 126, 127, 128, 129, 130, 131, 132, 133, 134, 135, 95, 96, 97, 98, 99, 100, 101, 102, 103, 104, 105, 106, 107] (by decide +kernel) (by decide +kernel)
set_option maxRecDepth 20000 in
theorem gX11_act_X8_lies_u363X1 : GoodIn wsX11_act (va_wsU RX11 363 RX1 "FoldedInHalf$Strip" ⟨"FoldedInHalf$Strip", "lies", "(ILFoldedInHalf;)I"⟩ yX8_lies wsX8_lies) := goodIn_app (goodIn_of _ (by decide +kernel)) ggX11_act_X8_lies
set_option maxRecDepth 20000 in
theorem ggX11_act_X2_lies : GoodIn wsX11_act wsX2_lies := goodIn_r _ [87, 18, 5, 19, 20, 1, 21, 88, 73, 89, 80, 25, 78, 81, 82, 44, 45, 46, 47, 48, 49, 50, 51, 52, 53, 54, 10, 11, 12, 13, 14, 15, 16, 17, 22, 23, 24, 26, 27, 28, 29, 30, 31, 32, 33, 34, 35, 36, 37, 38, 39, 55, 41, 42, 56, 57, 58, 59, 60, 61, 62, 63, 83, 65, 66, 67, 68, 69, 70, 71, 95, 96, 97, 98, 99, 100, 101, 102, 103, 104, 105, 106, 107, 108, 109, 110, 111, 112, 113, 114, 115, 116, 117, 118, 119, 120, 121, 122, 123, 124, 125, 126, 127, 128, 129, 130, 131, 132, 133, 134, 135] (by decide +kernel) (by decide +kernel)
set_option maxRecDepth 20000 in
theorem gX11_act_X2_lies_u363X2 : GoodIn wsX11_act (va_wsO RX11 363 RX2 "FoldedInHalf$Strip" ⟨"FoldedInHalf$Strip", "lies", "(ILFoldedInHalf;)I"⟩ yX2_lies wsX2_lies) := goodIn_app (goodIn_of _ (by decide +kernel)) ggX11_act_X2_lies
set_option maxRecDepth 20000 in
theorem gX11_act_X2_lies_u363X4 : GoodIn wsX11_act (va_wsO RX11 363 RX4 "FoldedInHalf$Strip" ⟨"FoldedInHalf$Strip", "lies", "(ILFoldedInHalf;)I"⟩ yX2_lies wsX2_lies) := goodIn_app (goodIn_of _ (by decide +kernel)) ggX11_act_X2_lies
set_option maxRecDepth 20000 in
theorem gX11_act_X8_lies_u363X6 : GoodIn wsX11_act (va_wsU RX11 363 RX6 "FoldedInHalf$Strip" ⟨"FoldedInHalf$Strip", "lies", "(ILFoldedInHalf;)I"⟩ yX8_lies wsX8_lies) := goodIn_app (goodIn_of _ (by decide +kernel)) ggX11_act_X8_lies
set_option maxRecDepth 20000 in
theorem gX11_act_X8_lies : GoodIn wsX11_act (wsV RX11 363 RX8 yX8_lies wsX8_lies) := goodIn_app (goodIn_of _ (by decide +kernel)) ggX11_act_X8_lies
set_option maxRecDepth 20000 in
theorem gX11_act_X8_lies_u363X9 : GoodIn wsX11_act (va_wsU RX11 363 RX9 "FoldedInHalf$Strip" ⟨"FoldedInHalf$Strip", "lies", "(ILFoldedInHalf;)I"⟩ yX8_lies wsX8_lies) := goodIn_app (goodIn_of _ (by decide +kernel)) ggX11_act_X8_lies
theorem dX11_act_0 : decode cX11_act 0 = .ok (.aload_n 0, 1) := by decide +kernel
theorem dX11_act_1 : decode cX11_act 1 = .ok (.iconst 0, 1) := by decide +kernel
theorem dX11_act_2 : decode cX11_act 2 = .ok (.putfield 61, 3) := by decide +kernel
theorem dX11_act_5 : decode cX11_act 5 = .ok (.aload_n 0, 1) := by decide +kernel
theorem dX11_act_6 : decode cX11_act 6 = .ok (.iload_n 1, 1) := by decide +kernel
theorem dX11_act_7 : decode cX11_act 7 = .ok (.invokevirtual 137, 3) := by decide +kernel
theorem dX11_act_10 : decode cX11_act 10 = .ok (.astore 4, 2) := by decide +kernel
theorem dX11_act_12 : decode cX11_act 12 = .ok (.aload 4, 2) := by decide +kernel
theorem dX11_act_14 : decode cX11_act 14 = .ok (.ifnonnull 5, 3) := by decide +kernel
theorem dX11_act_17 : decode cX11_act 17 = .ok (.iconst 0, 1) := by decide +kernel
theorem dX11_act_18 : decode cX11_act 18 = .ok (.ireturn, 1) := by decide +kernel
theorem dX11_act_19 : decode cX11_act 19 = .ok (.iload_n 2, 1) := by decide +kernel
theorem dX11_act_20 : decode cX11_act 20 = .ok (.tableswitch 52 0 2 #[28, 36, 44], 28) := by decide +kernel
theorem dX11_act_48 : decode cX11_act 48 = .ok (.aload 4, 2) := by decide +kernel
theorem dX11_act_50 : decode cX11_act 50 = .ok (.iload_n 3, 1) := by decide +kernel
theorem dX11_act_51 : decode cX11_act 51 = .ok (.aload_n 0, 1) := by decide +kernel
theorem dX11_act_52 : decode cX11_act 52 = .ok (.invokevirtual 356, 3) := by decide +kernel
theorem dX11_act_55 : decode cX11_act 55 = .ok (.ireturn, 1) := by decide +kernel
theorem dX11_act_56 : decode cX11_act 56 = .ok (.aload 4, 2) := by decide +kernel
theorem dX11_act_58 : decode cX11_act 58 = .ok (.iload_n 3, 1) := by decide +kernel
theorem dX11_act_59 : decode cX11_act 59 = .ok (.aload_n 0, 1) := by decide +kernel
theorem dX11_act_60 : decode cX11_act 60 = .ok (.invokevirtual 360, 3) := by decide +kernel
theorem dX11_act_63 : decode cX11_act 63 = .ok (.ireturn, 1) := by decide +kernel
theorem dX11_act_64 : decode cX11_act 64 = .ok (.aload 4, 2) := by decide +kernel
theorem dX11_act_66 : decode cX11_act 66 = .ok (.iload_n 3, 1) := by decide +kernel
theorem dX11_act_67 : decode cX11_act 67 = .ok (.aload_n 0, 1) := by decide +kernel
theorem dX11_act_68 : decode cX11_act 68 = .ok (.invokevirtual 363, 3) := by decide +kernel
theorem dX11_act_71 : decode cX11_act 71 = .ok (.ireturn, 1) := by decide +kernel
theorem dX11_act_72 : decode cX11_act 72 = .ok (.iconst 0, 1) := by decide +kernel
theorem dX11_act_73 : decode cX11_act 73 = .ok (.ireturn, 1) := by decide +kernel
theorem dX11_trace_0 : decode cX11_trace 0 = .ok (.iload_n 1, 1) := by decide +kernel
theorem dX11_trace_1 : decode cX11_trace 1 = .ok (.ifCond .lt 26, 3) := by decide +kernel
theorem dX11_trace_4 : decode cX11_trace 4 = .ok (.iload_n 1, 1) := by decide +kernel
theorem dX11_trace_5 : decode cX11_trace 5 = .ok (.aload_n 0, 1) := by decide +kernel
theorem dX11_trace_6 : decode cX11_trace 6 = .ok (.getfield 61, 3) := by decide +kernel
theorem dX11_trace_9 : decode cX11_trace 9 = .ok (.if_icmp .ge 18, 3) := by decide +kernel
theorem dX11_trace_12 : decode cX11_trace 12 = .ok (.iload_n 1, 1) := by decide +kernel
theorem dX11_trace_13 : decode cX11_trace 13 = .ok (.bipush 20, 2) := by decide +kernel
theorem dX11_trace_15 : decode cX11_trace 15 = .ok (.if_icmp .ge 12, 3) := by decide +kernel
theorem dX11_trace_18 : decode cX11_trace 18 = .ok (.aload_n 0, 1) := by decide +kernel
theorem dX11_trace_19 : decode cX11_trace 19 = .ok (.getfield 28, 3) := by decide +kernel
theorem dX11_trace_22 : decode cX11_trace 22 = .ok (.iload_n 1, 1) := by decide +kernel
theorem dX11_trace_23 : decode cX11_trace 23 = .ok (.iaload, 1) := by decide +kernel
theorem dX11_trace_24 : decode cX11_trace 24 = .ok (.goto 4, 3) := by decide +kernel
theorem dX11_trace_27 : decode cX11_trace 27 = .ok (.iconst (-1), 1) := by decide +kernel
theorem dX11_trace_28 : decode cX11_trace 28 = .ok (.ireturn, 1) := by decide +kernel
set_option maxRecDepth 20000 in
theorem ggX11_status_X11_stripAt : GoodIn wsX11_status wsX11_stripAt := goodIn_r _ [10, 2, 11, 19, 20, 21, 22, 23, 24, 25, 26, 27, 28, 29, 30, 31] (by decide +kernel) (by decide +kernel)
set_option maxRecDepth 20000 in
theorem gX11_status_X11_stripAt : GoodIn wsX11_status (wsV RX11 137 RX11 yX11_stripAt wsX11_stripAt) := goodIn_app (goodIn_of _ (by decide +kernel)) ggX11_status_X11_stripAt
set_option maxRecDepth 20000 in
theorem ggX11_status_J13_bitCount_95d88 : GoodIn wsX11_status wsJ13_bitCount_95d88 := goodIn_r _ [15, 16, 17, 18] (by decide +kernel) (by decide +kernel)
set_option maxRecDepth 20000 in
theorem gX11_status_J13_bitCount_95d88 : GoodIn wsX11_status (va_wsS RX11 369 yJ13_bitCount_95d88 wsJ13_bitCount_95d88) := goodIn_app (goodIn_of _ (by decide +kernel)) ggX11_status_J13_bitCount_95d88
theorem dX11_status_0 : decode cX11_status 0 = .ok (.iload_n 1, 1) := by decide +kernel
theorem dX11_status_1 : decode cX11_status 1 = .ok (.bipush 11, 2) := by decide +kernel
theorem dX11_status_3 : decode cX11_status 3 = .ok (.if_icmp .lt 19, 3) := by decide +kernel
theorem dX11_status_6 : decode cX11_status 6 = .ok (.iload_n 1, 1) := by decide +kernel
theorem dX11_status_7 : decode cX11_status 7 = .ok (.bipush 17, 2) := by decide +kernel
theorem dX11_status_9 : decode cX11_status 9 = .ok (.if_icmp .gt 13, 3) := by decide +kernel
theorem dX11_status_12 : decode cX11_status 12 = .ok (.aload_n 0, 1) := by decide +kernel
theorem dX11_status_13 : decode cX11_status 13 = .ok (.getfield 24, 3) := by decide +kernel
theorem dX11_status_16 : decode cX11_status 16 = .ok (.iload_n 1, 1) := by decide +kernel
theorem dX11_status_17 : decode cX11_status 17 = .ok (.bipush 10, 2) := by decide +kernel
theorem dX11_status_19 : decode cX11_status 19 = .ok (.isub, 1) := by decide +kernel
theorem dX11_status_20 : decode cX11_status 20 = .ok (.iaload, 1) := by decide +kernel
theorem dX11_status_21 : decode cX11_status 21 = .ok (.ireturn, 1) := by decide +kernel
theorem dX11_status_22 : decode cX11_status 22 = .ok (.iconst 0, 1) := by decide +kernel
theorem dX11_status_23 : decode cX11_status 23 = .ok (.istore_n 2, 1) := by decide +kernel
theorem dX11_status_24 : decode cX11_status 24 = .ok (.iconst 0, 1) := by decide +kernel
theorem dX11_status_25 : decode cX11_status 25 = .ok (.istore_n 3, 1) := by decide +kernel
theorem dX11_status_26 : decode cX11_status 26 = .ok (.iconst 0, 1) := by decide +kernel
theorem dX11_status_27 : decode cX11_status 27 = .ok (.istore 4, 2) := by decide +kernel
theorem dX11_status_29 : decode cX11_status 29 = .ok (.iload 4, 2) := by decide +kernel
theorem dX11_status_31 : decode cX11_status 31 = .ok (.aload_n 0, 1) := by decide +kernel
theorem dX11_status_32 : decode cX11_status 32 = .ok (.getfield 54, 3) := by decide +kernel
theorem dX11_status_35 : decode cX11_status 35 = .ok (.if_icmp .ge 41, 3) := by decide +kernel
theorem dX11_status_38 : decode cX11_status 38 = .ok (.aload_n 0, 1) := by decide +kernel
theorem dX11_status_39 : decode cX11_status 39 = .ok (.iload 4, 2) := by decide +kernel
theorem dX11_status_41 : decode cX11_status 41 = .ok (.invokevirtual 137, 3) := by decide +kernel
theorem dX11_status_44 : decode cX11_status 44 = .ok (.astore 5, 2) := by decide +kernel
theorem dX11_status_46 : decode cX11_status 46 = .ok (.aload 5, 2) := by decide +kernel
theorem dX11_status_48 : decode cX11_status 48 = .ok (.ifnull 22, 3) := by decide +kernel
theorem dX11_status_51 : decode cX11_status 51 = .ok (.iload_n 2, 1) := by decide +kernel
theorem dX11_status_52 : decode cX11_status 52 = .ok (.aload 5, 2) := by decide +kernel
theorem dX11_status_54 : decode cX11_status 54 = .ok (.getfield 164, 3) := by decide +kernel
theorem dX11_status_57 : decode cX11_status 57 = .ok (.iadd, 1) := by decide +kernel
theorem dX11_status_58 : decode cX11_status 58 = .ok (.istore_n 2, 1) := by decide +kernel
theorem dX11_status_59 : decode cX11_status 59 = .ok (.iload_n 3, 1) := by decide +kernel
theorem dX11_status_60 : decode cX11_status 60 = .ok (.aload 5, 2) := by decide +kernel
theorem dX11_status_62 : decode cX11_status 62 = .ok (.getfield 366, 3) := by decide +kernel
theorem dX11_status_65 : decode cX11_status 65 = .ok (.invokestatic 369, 3) := by decide +kernel
theorem dX11_status_68 : decode cX11_status 68 = .ok (.iadd, 1) := by decide +kernel
theorem dX11_status_69 : decode cX11_status 69 = .ok (.istore_n 3, 1) := by decide +kernel
theorem dX11_status_70 : decode cX11_status 70 = .ok (.iinc 4 1, 3) := by decide +kernel
theorem dX11_status_73 : decode cX11_status 73 = .ok (.goto (-44), 3) := by decide +kernel
theorem dX11_status_76 : decode cX11_status 76 = .ok (.iload_n 1, 1) := by decide +kernel
theorem dX11_status_77 : decode cX11_status 77 = .ok (.tableswitch 45 0 3 #[31, 36, 38, 40], 31) := by decide +kernel
theorem dX11_status_108 : decode cX11_status 108 = .ok (.aload_n 0, 1) := by decide +kernel
theorem dX11_status_109 : decode cX11_status 109 = .ok (.getfield 54, 3) := by decide +kernel
theorem dX11_status_112 : decode cX11_status 112 = .ok (.ireturn, 1) := by decide +kernel
theorem dX11_status_113 : decode cX11_status 113 = .ok (.iload_n 2, 1) := by decide +kernel
theorem dX11_status_114 : decode cX11_status 114 = .ok (.ireturn, 1) := by decide +kernel
theorem dX11_status_115 : decode cX11_status 115 = .ok (.iload_n 3, 1) := by decide +kernel
theorem dX11_status_116 : decode cX11_status 116 = .ok (.ireturn, 1) := by decide +kernel
theorem dX11_status_117 : decode cX11_status 117 = .ok (.aload_n 0, 1) := by decide +kernel
theorem dX11_status_118 : decode cX11_status 118 = .ok (.getfield 61, 3) := by decide +kernel
theorem dX11_status_121 : decode cX11_status 121 = .ok (.ireturn, 1) := by decide +kernel
theorem dX11_status_122 : decode cX11_status 122 = .ok (.iconst (-1), 1) := by decide +kernel
theorem dX11_status_123 : decode cX11_status 123 = .ok (.ireturn, 1) := by decide +kernel
