set_option maxRecDepth 20000 in
theorem ggX0_init_X0_kind : GoodIn wsX0_init wsX0_kind := goodIn_r _ [14, 15, 16, 17, 18, 19, 20, 21, 22, 23, 24, 13, 25, 26, 5, 27, 28, 29, 30, 31, 32, 33, 34, 35, 36, 37, 38, 39, 40, 41, 42, 43, 44, 45, 46, 47, 48, 7, 49, 50, 51, 52, 53, 54, 55, 56, 57, 58, 59, 60, 61, 62, 63, 64, 65, 66, 67, 68, 69, 70, 71] (by decide +kernel) (by decide +kernel)
set_option maxRecDepth 20000 in
theorem gX0_init_X0_kind : GoodIn wsX0_init (wsV RX0 23 RX0 yX0_kind wsX0_kind) := goodIn_app (goodIn_of _ (by decide +kernel)) ggX0_init_X0_kind
theorem dX0_init_0 : decode cX0_init 0 = .ok (.aload_n 0, 1) := by decide +kernel
theorem dX0_init_1 : decode cX0_init 1 = .ok (.invokespecial 3, 3) := by decide +kernel
theorem dX0_init_4 : decode cX0_init 4 = .ok (.aload_n 0, 1) := by decide +kernel
theorem dX0_init_5 : decode cX0_init 5 = .ok (.sipush 625, 3) := by decide +kernel
theorem dX0_init_8 : decode cX0_init 8 = .ok (.newarray .long, 2) := by decide +kernel
theorem dX0_init_10 : decode cX0_init 10 = .ok (.putfield 9, 3) := by decide +kernel
theorem dX0_init_13 : decode cX0_init 13 = .ok (.aload_n 0, 1) := by decide +kernel
theorem dX0_init_14 : decode cX0_init 14 = .ok (.sipush 626, 3) := by decide +kernel
theorem dX0_init_17 : decode cX0_init 17 = .ok (.newarray .long, 2) := by decide +kernel
theorem dX0_init_19 : decode cX0_init 19 = .ok (.putfield 13, 3) := by decide +kernel
theorem dX0_init_22 : decode cX0_init 22 = .ok (.aload_n 0, 1) := by decide +kernel
theorem dX0_init_23 : decode cX0_init 23 = .ok (.sipush 2048, 3) := by decide +kernel
theorem dX0_init_26 : decode cX0_init 26 = .ok (.newarray .long, 2) := by decide +kernel
theorem dX0_init_28 : decode cX0_init 28 = .ok (.putfield 16, 3) := by decide +kernel
theorem dX0_init_31 : decode cX0_init 31 = .ok (.aload_n 0, 1) := by decide +kernel
theorem dX0_init_32 : decode cX0_init 32 = .ok (.bipush 32, 2) := by decide +kernel
theorem dX0_init_34 : decode cX0_init 34 = .ok (.ldc2_w 19, 3) := by decide +kernel
theorem dX0_init_37 : decode cX0_init 37 = .ok (.ldc2_w 21, 3) := by decide +kernel
theorem dX0_init_40 : decode cX0_init 40 = .ok (.iconst 1, 1) := by decide +kernel
theorem dX0_init_41 : decode cX0_init 41 = .ok (.iconst 1, 1) := by decide +kernel
theorem dX0_init_42 : decode cX0_init 42 = .ok (.ldc2_w 21, 3) := by decide +kernel
theorem dX0_init_45 : decode cX0_init 45 = .ok (.invokevirtual 23, 3) := by decide +kernel
theorem dX0_init_48 : decode cX0_init 48 = .ok (.pop, 1) := by decide +kernel
theorem dX0_init_49 : decode cX0_init 49 = .ok (.return_, 1) := by decide +kernel
set_option maxRecDepth 20000 in
theorem ggX0_kind_X0_turnBytesOfRow : GoodIn wsX0_kind wsX0_turnBytesOfRow := goodIn_r _ [12, 13, 14, 15, 16, 11, 17, 18, 19, 20, 50, 51, 52, 53, 54, 55, 56, 57, 58, 59, 60] (by decide +kernel) (by decide +kernel)
set_option maxRecDepth 20000 in
theorem gX0_kind_X0_turnBytesOfRow : GoodIn wsX0_kind (wsV RX0 31 RX0 yX0_turnBytesOfRow wsX0_turnBytesOfRow) := goodIn_app (goodIn_of _ (by decide +kernel)) ggX0_kind_X0_turnBytesOfRow
set_option maxRecDepth 20000 in
theorem ggX0_kind_X0_lowerBits : GoodIn wsX0_kind wsX0_lowerBits := goodIn_r _ [24, 25, 26, 27, 11, 28, 2, 29, 30, 31, 32, 50, 51, 52, 53, 54, 55, 56, 57, 58, 59, 60] (by decide +kernel) (by decide +kernel)
set_option maxRecDepth 20000 in
theorem gX0_kind_X0_lowerBits : GoodIn wsX0_kind (wsV RX0 38 RX0 yX0_lowerBits wsX0_lowerBits) := goodIn_app (goodIn_of _ (by decide +kernel)) ggX0_kind_X0_lowerBits
set_option maxRecDepth 20000 in
theorem ggX0_kind_X0_atTop : GoodIn wsX0_kind wsX0_atTop := goodIn_r _ [28, 2, 50, 51, 52, 53, 54, 55, 56, 57, 58, 59, 60] (by decide +kernel) (by decide +kernel)
set_option maxRecDepth 20000 in
theorem gX0_kind_X0_atTop : GoodIn wsX0_kind (wsV RX0 46 RX0 yX0_atTop wsX0_atTop) := goodIn_app (goodIn_of _ (by decide +kernel)) ggX0_kind_X0_atTop
set_option maxRecDepth 20000 in
theorem ggX0_kind_X0_fillSlices : GoodIn wsX0_kind wsX0_fillSlices := goodIn_r _ [36, 37, 38, 39, 40, 11, 41, 42, 43, 44, 45, 4, 46, 47, 48, 49, 50, 51, 52, 53, 54, 55, 56, 57, 58, 59, 60] (by decide +kernel) (by decide +kernel)
set_option maxRecDepth 20000 in
theorem gX0_kind_X0_fillSlices : GoodIn wsX0_kind (wsV RX0 61 RX0 yX0_fillSlices wsX0_fillSlices) := goodIn_app (goodIn_of _ (by decide +kernel)) ggX0_kind_X0_fillSlices
theorem dX0_kind_0 : decode cX0_kind 0 = .ok (.iload_n 1, 1) := by decide +kernel
theorem dX0_kind_1 : decode cX0_kind 1 = .ok (.iconst 1, 1) := by decide +kernel
theorem dX0_kind_2 : decode cX0_kind 2 = .ok (.if_icmp .lt 9, 3) := by decide +kernel
theorem dX0_kind_5 : decode cX0_kind 5 = .ok (.iload_n 1, 1) := by decide +kernel
theorem dX0_kind_6 : decode cX0_kind 6 = .ok (.bipush 64, 2) := by decide +kernel
theorem dX0_kind_8 : decode cX0_kind 8 = .ok (.if_icmp .le 5, 3) := by decide +kernel
theorem dX0_kind_11 : decode cX0_kind 11 = .ok (.iconst 0, 1) := by decide +kernel
theorem dX0_kind_12 : decode cX0_kind 12 = .ok (.ireturn, 1) := by decide +kernel
theorem dX0_kind_13 : decode cX0_kind 13 = .ok (.aload_n 0, 1) := by decide +kernel
theorem dX0_kind_14 : decode cX0_kind 14 = .ok (.getfield 27, 3) := by decide +kernel
theorem dX0_kind_17 : decode cX0_kind 17 = .ok (.iload 6, 2) := by decide +kernel
theorem dX0_kind_19 : decode cX0_kind 19 = .ok (.if_icmp .eq 7, 3) := by decide +kernel
theorem dX0_kind_22 : decode cX0_kind 22 = .ok (.aload_n 0, 1) := by decide +kernel
theorem dX0_kind_23 : decode cX0_kind 23 = .ok (.invokevirtual 31, 3) := by decide +kernel
theorem dX0_kind_26 : decode cX0_kind 26 = .ok (.aload_n 0, 1) := by decide +kernel
theorem dX0_kind_27 : decode cX0_kind 27 = .ok (.iload_n 1, 1) := by decide +kernel
theorem dX0_kind_28 : decode cX0_kind 28 = .ok (.putfield 34, 3) := by decide +kernel
theorem dX0_kind_31 : decode cX0_kind 31 = .ok (.aload_n 0, 1) := by decide +kernel
theorem dX0_kind_32 : decode cX0_kind 32 = .ok (.aload_n 0, 1) := by decide +kernel
theorem dX0_kind_33 : decode cX0_kind 33 = .ok (.lload_n 2, 1) := by decide +kernel
theorem dX0_kind_34 : decode cX0_kind 34 = .ok (.invokevirtual 38, 3) := by decide +kernel
theorem dX0_kind_37 : decode cX0_kind 37 = .ok (.putfield 42, 3) := by decide +kernel
theorem dX0_kind_40 : decode cX0_kind 40 = .ok (.aload_n 0, 1) := by decide +kernel
theorem dX0_kind_41 : decode cX0_kind 41 = .ok (.aload_n 0, 1) := by decide +kernel
theorem dX0_kind_42 : decode cX0_kind 42 = .ok (.lload_n 2, 1) := by decide +kernel
theorem dX0_kind_43 : decode cX0_kind 43 = .ok (.invokevirtual 46, 3) := by decide +kernel
theorem dX0_kind_46 : decode cX0_kind 46 = .ok (.putfield 49, 3) := by decide +kernel
theorem dX0_kind_49 : decode cX0_kind 49 = .ok (.aload_n 0, 1) := by decide +kernel
theorem dX0_kind_50 : decode cX0_kind 50 = .ok (.aload_n 0, 1) := by decide +kernel
theorem dX0_kind_51 : decode cX0_kind 51 = .ok (.lload 4, 2) := by decide +kernel
theorem dX0_kind_53 : decode cX0_kind 53 = .ok (.invokevirtual 38, 3) := by decide +kernel
theorem dX0_kind_56 : decode cX0_kind 56 = .ok (.putfield 52, 3) := by decide +kernel
theorem dX0_kind_59 : decode cX0_kind 59 = .ok (.aload_n 0, 1) := by decide +kernel
theorem dX0_kind_60 : decode cX0_kind 60 = .ok (.iload 6, 2) := by decide +kernel
theorem dX0_kind_62 : decode cX0_kind 62 = .ok (.putfield 27, 3) := by decide +kernel
theorem dX0_kind_65 : decode cX0_kind 65 = .ok (.aload_n 0, 1) := by decide +kernel
theorem dX0_kind_66 : decode cX0_kind 66 = .ok (.iload 7, 2) := by decide +kernel
theorem dX0_kind_68 : decode cX0_kind 68 = .ok (.putfield 55, 3) := by decide +kernel
theorem dX0_kind_71 : decode cX0_kind 71 = .ok (.aload_n 0, 1) := by decide +kernel
theorem dX0_kind_72 : decode cX0_kind 72 = .ok (.aload_n 0, 1) := by decide +kernel
theorem dX0_kind_73 : decode cX0_kind 73 = .ok (.lload 8, 2) := by decide +kernel
theorem dX0_kind_75 : decode cX0_kind 75 = .ok (.invokevirtual 38, 3) := by decide +kernel
theorem dX0_kind_78 : decode cX0_kind 78 = .ok (.putfield 58, 3) := by decide +kernel
theorem dX0_kind_81 : decode cX0_kind 81 = .ok (.aload_n 0, 1) := by decide +kernel
theorem dX0_kind_82 : decode cX0_kind 82 = .ok (.invokevirtual 61, 3) := by decide +kernel
theorem dX0_kind_85 : decode cX0_kind 85 = .ok (.iconst 1, 1) := by decide +kernel
theorem dX0_kind_86 : decode cX0_kind 86 = .ok (.ireturn, 1) := by decide +kernel
set_option maxRecDepth 20000 in
theorem ggX0_feed_X0_isByte : GoodIn wsX0_feed wsX0_isByte := goodIn_r _ [6] (by decide +kernel) (by decide +kernel)
set_option maxRecDepth 20000 in
theorem gX0_feed_X0_isByte : GoodIn wsX0_feed (va_wsS RX0 64 yX0_isByte wsX0_isByte) := goodIn_app (goodIn_of _ (by decide +kernel)) ggX0_feed_X0_isByte
set_option maxRecDepth 20000 in
theorem ggX0_feed_X0_asItComes : GoodIn wsX0_feed wsX0_asItComes := goodIn_r _ [10, 11, 12, 13, 5, 14, 18, 19, 20, 21, 22, 23, 24, 25, 26, 27, 28] (by decide +kernel) (by decide +kernel)
set_option maxRecDepth 20000 in
theorem gX0_feed_X0_asItComes : GoodIn wsX0_feed (wsV RX0 71 RX0 yX0_asItComes wsX0_asItComes) := goodIn_app (goodIn_of _ (by decide +kernel)) ggX0_feed_X0_asItComes
set_option maxRecDepth 20000 in
theorem ggX0_feed_X0_shiftOfByte : GoodIn wsX0_feed wsX0_shiftOfByte := goodIn_r _ [17] (by decide +kernel) (by decide +kernel)
set_option maxRecDepth 20000 in
theorem gX0_feed_X0_shiftOfByte : GoodIn wsX0_feed (va_wsS RX0 75 yX0_shiftOfByte wsX0_shiftOfByte) := goodIn_app (goodIn_of _ (by decide +kernel)) ggX0_feed_X0_shiftOfByte
theorem dX0_feed_0 : decode cX0_feed 0 = .ok (.iload_n 1, 1) := by decide +kernel
theorem dX0_feed_1 : decode cX0_feed 1 = .ok (.invokestatic 64, 3) := by decide +kernel
theorem dX0_feed_4 : decode cX0_feed 4 = .ok (.ifCond .eq 20, 3) := by decide +kernel
theorem dX0_feed_7 : decode cX0_feed 7 = .ok (.iload_n 2, 1) := by decide +kernel
theorem dX0_feed_8 : decode cX0_feed 8 = .ok (.iconst 1, 1) := by decide +kernel
theorem dX0_feed_9 : decode cX0_feed 9 = .ok (.if_icmp .lt 15, 3) := by decide +kernel
theorem dX0_feed_12 : decode cX0_feed 12 = .ok (.iload_n 2, 1) := by decide +kernel
theorem dX0_feed_13 : decode cX0_feed 13 = .ok (.sipush 5000, 3) := by decide +kernel
theorem dX0_feed_16 : decode cX0_feed 16 = .ok (.aload_n 0, 1) := by decide +kernel
theorem dX0_feed_17 : decode cX0_feed 17 = .ok (.getfield 68, 3) := by decide +kernel
theorem dX0_feed_20 : decode cX0_feed 20 = .ok (.isub, 1) := by decide +kernel
theorem dX0_feed_21 : decode cX0_feed 21 = .ok (.if_icmp .le 5, 3) := by decide +kernel
theorem dX0_feed_24 : decode cX0_feed 24 = .ok (.iconst 0, 1) := by decide +kernel
theorem dX0_feed_25 : decode cX0_feed 25 = .ok (.ireturn, 1) := by decide +kernel
theorem dX0_feed_26 : decode cX0_feed 26 = .ok (.aload_n 0, 1) := by decide +kernel
theorem dX0_feed_27 : decode cX0_feed 27 = .ok (.iload_n 1, 1) := by decide +kernel
theorem dX0_feed_28 : decode cX0_feed 28 = .ok (.invokevirtual 71, 3) := by decide +kernel
theorem dX0_feed_31 : decode cX0_feed 31 = .ok (.lstore_n 3, 1) := by decide +kernel
theorem dX0_feed_32 : decode cX0_feed 32 = .ok (.iconst 0, 1) := by decide +kernel
theorem dX0_feed_33 : decode cX0_feed 33 = .ok (.istore 5, 2) := by decide +kernel
theorem dX0_feed_35 : decode cX0_feed 35 = .ok (.iload 5, 2) := by decide +kernel
theorem dX0_feed_37 : decode cX0_feed 37 = .ok (.iload_n 2, 1) := by decide +kernel
theorem dX0_feed_38 : decode cX0_feed 38 = .ok (.if_icmp .ge 43, 3) := by decide +kernel
theorem dX0_feed_41 : decode cX0_feed 41 = .ok (.aload_n 0, 1) := by decide +kernel
theorem dX0_feed_42 : decode cX0_feed 42 = .ok (.getfield 9, 3) := by decide +kernel
theorem dX0_feed_45 : decode cX0_feed 45 = .ok (.aload_n 0, 1) := by decide +kernel
theorem dX0_feed_46 : decode cX0_feed 46 = .ok (.getfield 68, 3) := by decide +kernel
theorem dX0_feed_49 : decode cX0_feed 49 = .ok (.bipush 8, 2) := by decide +kernel
theorem dX0_feed_51 : decode cX0_feed 51 = .ok (.idiv, 1) := by decide +kernel
theorem dX0_feed_52 : decode cX0_feed 52 = .ok (.dup2, 1) := by decide +kernel
theorem dX0_feed_53 : decode cX0_feed 53 = .ok (.laload, 1) := by decide +kernel
theorem dX0_feed_54 : decode cX0_feed 54 = .ok (.lload_n 3, 1) := by decide +kernel
theorem dX0_feed_55 : decode cX0_feed 55 = .ok (.aload_n 0, 1) := by decide +kernel
theorem dX0_feed_56 : decode cX0_feed 56 = .ok (.getfield 68, 3) := by decide +kernel
theorem dX0_feed_59 : decode cX0_feed 59 = .ok (.invokestatic 75, 3) := by decide +kernel
theorem dX0_feed_62 : decode cX0_feed 62 = .ok (.lshl, 1) := by decide +kernel
theorem dX0_feed_63 : decode cX0_feed 63 = .ok (.lor, 1) := by decide +kernel
theorem dX0_feed_64 : decode cX0_feed 64 = .ok (.lastore, 1) := by decide +kernel
theorem dX0_feed_65 : decode cX0_feed 65 = .ok (.aload_n 0, 1) := by decide +kernel
theorem dX0_feed_66 : decode cX0_feed 66 = .ok (.dup, 1) := by decide +kernel
theorem dX0_feed_67 : decode cX0_feed 67 = .ok (.getfield 68, 3) := by decide +kernel
theorem dX0_feed_70 : decode cX0_feed 70 = .ok (.iconst 1, 1) := by decide +kernel
theorem dX0_feed_71 : decode cX0_feed 71 = .ok (.iadd, 1) := by decide +kernel
theorem dX0_feed_72 : decode cX0_feed 72 = .ok (.putfield 68, 3) := by decide +kernel
theorem dX0_feed_75 : decode cX0_feed 75 = .ok (.iinc 5 1, 3) := by decide +kernel
theorem dX0_feed_78 : decode cX0_feed 78 = .ok (.goto (-43), 3) := by decide +kernel
theorem dX0_feed_81 : decode cX0_feed 81 = .ok (.iconst 1, 1) := by decide +kernel
theorem dX0_feed_82 : decode cX0_feed 82 = .ok (.ireturn, 1) := by decide +kernel
set_option maxRecDepth 20000 in
theorem ggX0_clear_J7_fill_d0a16 : GoodIn wsX0_clear wsJ7_fill_d0a16 := goodIn_r _ [6] (by decide +kernel) (by decide +kernel)
set_option maxRecDepth 20000 in
theorem gX0_clear_J7_fill_d0a16 : GoodIn wsX0_clear (va_wsS RX0 79 yJ7_fill_d0a16 wsJ7_fill_d0a16) := goodIn_app (goodIn_of _ (by decide +kernel)) ggX0_clear_J7_fill_d0a16
theorem dX0_clear_0 : decode cX0_clear 0 = .ok (.aload_n 0, 1) := by decide +kernel
theorem dX0_clear_1 : decode cX0_clear 1 = .ok (.getfield 9, 3) := by decide +kernel
theorem dX0_clear_4 : decode cX0_clear 4 = .ok (.lconst 0, 1) := by decide +kernel
theorem dX0_clear_5 : decode cX0_clear 5 = .ok (.invokestatic 79, 3) := by decide +kernel
theorem dX0_clear_8 : decode cX0_clear 8 = .ok (.aload_n 0, 1) := by decide +kernel
theorem dX0_clear_9 : decode cX0_clear 9 = .ok (.iconst 0, 1) := by decide +kernel
theorem dX0_clear_10 : decode cX0_clear 10 = .ok (.putfield 68, 3) := by decide +kernel
theorem dX0_clear_13 : decode cX0_clear 13 = .ok (.return_, 1) := by decide +kernel
set_option maxRecDepth 20000 in
theorem ggX0_flip_X0_bitsOfRow : GoodIn wsX0_flip wsX0_bitsOfRow := goodIn_r _ [6, 7, 8, 9, 10, 11, 12, 13, 14, 15, 16, 17, 18] (by decide +kernel) (by decide +kernel)
set_option maxRecDepth 20000 in
theorem gX0_flip_X0_bitsOfRow : GoodIn wsX0_flip (wsV RX0 85 RX0 yX0_bitsOfRow wsX0_bitsOfRow) := goodIn_app (goodIn_of _ (by decide +kernel)) ggX0_flip_X0_bitsOfRow
theorem dX0_flip_0 : decode cX0_flip 0 = .ok (.iload_n 1, 1) := by decide +kernel
theorem dX0_flip_1 : decode cX0_flip 1 = .ok (.ifCond .lt 11, 3) := by decide +kernel
theorem dX0_flip_4 : decode cX0_flip 4 = .ok (.iload_n 1, 1) := by decide +kernel
theorem dX0_flip_5 : decode cX0_flip 5 = .ok (.aload_n 0, 1) := by decide +kernel
theorem dX0_flip_6 : decode cX0_flip 6 = .ok (.invokevirtual 85, 3) := by decide +kernel
theorem dX0_flip_9 : decode cX0_flip 9 = .ok (.if_icmp .lt 5, 3) := by decide +kernel
theorem dX0_flip_12 : decode cX0_flip 12 = .ok (.iconst 0, 1) := by decide +kernel
theorem dX0_flip_13 : decode cX0_flip 13 = .ok (.ireturn, 1) := by decide +kernel
theorem dX0_flip_14 : decode cX0_flip 14 = .ok (.aload_n 0, 1) := by decide +kernel
theorem dX0_flip_15 : decode cX0_flip 15 = .ok (.getfield 9, 3) := by decide +kernel
theorem dX0_flip_18 : decode cX0_flip 18 = .ok (.iload_n 1, 1) := by decide +kernel
theorem dX0_flip_19 : decode cX0_flip 19 = .ok (.bipush 64, 2) := by decide +kernel
theorem dX0_flip_21 : decode cX0_flip 21 = .ok (.idiv, 1) := by decide +kernel
theorem dX0_flip_22 : decode cX0_flip 22 = .ok (.dup2, 1) := by decide +kernel
theorem dX0_flip_23 : decode cX0_flip 23 = .ok (.laload, 1) := by decide +kernel
theorem dX0_flip_24 : decode cX0_flip 24 = .ok (.lconst 1, 1) := by decide +kernel
theorem dX0_flip_25 : decode cX0_flip 25 = .ok (.bipush 63, 2) := by decide +kernel
theorem dX0_flip_27 : decode cX0_flip 27 = .ok (.iload_n 1, 1) := by decide +kernel
theorem dX0_flip_28 : decode cX0_flip 28 = .ok (.bipush 64, 2) := by decide +kernel
theorem dX0_flip_30 : decode cX0_flip 30 = .ok (.irem, 1) := by decide +kernel
theorem dX0_flip_31 : decode cX0_flip 31 = .ok (.isub, 1) := by decide +kernel
theorem dX0_flip_32 : decode cX0_flip 32 = .ok (.lshl, 1) := by decide +kernel
theorem dX0_flip_33 : decode cX0_flip 33 = .ok (.lxor, 1) := by decide +kernel
theorem dX0_flip_34 : decode cX0_flip 34 = .ok (.lastore, 1) := by decide +kernel
theorem dX0_flip_35 : decode cX0_flip 35 = .ok (.iconst 1, 1) := by decide +kernel
theorem dX0_flip_36 : decode cX0_flip 36 = .ok (.ireturn, 1) := by decide +kernel
set_option maxRecDepth 20000 in
theorem ggX0_check_X0_bitByBit : GoodIn wsX0_check wsX0_bitByBit := goodIn_r _ [7, 1, 2, 8, 9, 10, 6, 11, 12, 13, 14, 15, 16, 17, 18, 19, 20, 21, 22, 23, 24, 25, 26, 27, 28, 29, 82, 83, 84, 85, 86, 87, 88, 89, 90, 91, 92] (by decide +kernel) (by decide +kernel)
set_option maxRecDepth 20000 in
theorem gX0_check_X0_bitByBit : GoodIn wsX0_check (wsV RX0 89 RX0 yX0_bitByBit wsX0_bitByBit) := goodIn_app (goodIn_of _ (by decide +kernel)) ggX0_check_X0_bitByBit
set_option maxRecDepth 20000 in
theorem ggX0_check_X0_checkOf : GoodIn wsX0_check wsX0_checkOf := goodIn_r _ [33, 34, 12, 35, 36, 37, 38, 6, 39, 40, 41, 42, 82, 83, 84, 85, 86, 87, 88, 89, 90, 91, 92] (by decide +kernel) (by decide +kernel)
set_option maxRecDepth 20000 in
theorem gX0_check_X0_checkOf : GoodIn wsX0_check (wsV RX0 93 RX0 yX0_checkOf wsX0_checkOf) := goodIn_app (goodIn_of _ (by decide +kernel)) ggX0_check_X0_checkOf
set_option maxRecDepth 20000 in
theorem ggX0_check_X0_atTop : GoodIn wsX0_check wsX0_atTop := goodIn_r _ [11, 12, 82, 83, 84, 85, 86, 87, 88, 89, 90, 91, 92] (by decide +kernel) (by decide +kernel)
set_option maxRecDepth 20000 in
theorem gX0_check_X0_atTop : GoodIn wsX0_check (wsV RX0 46 RX0 yX0_atTop wsX0_atTop) := goodIn_app (goodIn_of _ (by decide +kernel)) ggX0_check_X0_atTop
set_option maxRecDepth 20000 in
theorem ggX0_check_X0_byteByByte : GoodIn wsX0_check wsX0_byteByByte := goodIn_r _ [46, 13, 14, 15, 6, 16, 17, 18, 19, 20, 47, 48, 49, 50, 51, 82, 83, 84, 85, 86, 87, 88, 89, 90, 91, 92] (by decide +kernel) (by decide +kernel)
set_option maxRecDepth 20000 in
theorem gX0_check_X0_byteByByte : GoodIn wsX0_check (wsV RX0 96 RX0 yX0_byteByByte wsX0_byteByByte) := goodIn_app (goodIn_of _ (by decide +kernel)) ggX0_check_X0_byteByByte
set_option maxRecDepth 20000 in
theorem ggX0_check_X0_eightAtOnce : GoodIn wsX0_check wsX0_eightAtOnce := goodIn_r _ [55, 1, 17, 8, 9, 10, 6, 11, 12, 43, 44, 45, 46, 13, 14, 15, 16, 18, 19, 20, 47, 48, 49, 50, 51, 56, 57, 58, 59, 60, 82, 83, 84, 85, 86, 87, 88, 89, 90, 91, 92] (by decide +kernel) (by decide +kernel)
set_option maxRecDepth 20000 in
theorem gX0_check_X0_eightAtOnce : GoodIn wsX0_check (wsV RX0 100 RX0 yX0_eightAtOnce wsX0_eightAtOnce) := goodIn_app (goodIn_of _ (by decide +kernel)) ggX0_check_X0_eightAtOnce
set_option maxRecDepth 20000 in
theorem ggX0_check_X0_byDividing : GoodIn wsX0_check wsX0_byDividing := goodIn_r _ [64, 17, 65, 66, 67, 68, 69, 1, 8, 9, 10, 6, 11, 12, 70, 71, 72, 73, 2, 74, 75, 76, 77, 29, 78, 79, 80, 81, 82, 83, 84, 85, 86, 87, 88, 89, 90, 91, 92] (by decide +kernel) (by decide +kernel)
set_option maxRecDepth 20000 in
theorem gX0_check_X0_byDividing : GoodIn wsX0_check (wsV RX0 104 RX0 yX0_byDividing wsX0_byDividing) := goodIn_app (goodIn_of _ (by decide +kernel)) ggX0_check_X0_byDividing
theorem dX0_check_0 : decode cX0_check 0 = .ok (.iload_n 1, 1) := by decide +kernel
theorem dX0_check_1 : decode cX0_check 1 = .ok (.tableswitch 85 0 3 #[31, 40, 62, 76], 31) := by decide +kernel
theorem dX0_check_32 : decode cX0_check 32 = .ok (.aload_n 0, 1) := by decide +kernel
theorem dX0_check_33 : decode cX0_check 33 = .ok (.aload_n 0, 1) := by decide +kernel
theorem dX0_check_34 : decode cX0_check 34 = .ok (.invokevirtual 89, 3) := by decide +kernel
theorem dX0_check_37 : decode cX0_check 37 = .ok (.invokevirtual 93, 3) := by decide +kernel
theorem dX0_check_40 : decode cX0_check 40 = .ok (.lreturn, 1) := by decide +kernel
theorem dX0_check_41 : decode cX0_check 41 = .ok (.aload_n 0, 1) := by decide +kernel
theorem dX0_check_42 : decode cX0_check 42 = .ok (.aload_n 0, 1) := by decide +kernel
theorem dX0_check_43 : decode cX0_check 43 = .ok (.aload_n 0, 1) := by decide +kernel
theorem dX0_check_44 : decode cX0_check 44 = .ok (.aload_n 0, 1) := by decide +kernel
theorem dX0_check_45 : decode cX0_check 45 = .ok (.getfield 52, 3) := by decide +kernel
theorem dX0_check_48 : decode cX0_check 48 = .ok (.invokevirtual 46, 3) := by decide +kernel
theorem dX0_check_51 : decode cX0_check 51 = .ok (.iconst 0, 1) := by decide +kernel
theorem dX0_check_52 : decode cX0_check 52 = .ok (.aload_n 0, 1) := by decide +kernel
theorem dX0_check_53 : decode cX0_check 53 = .ok (.getfield 68, 3) := by decide +kernel
theorem dX0_check_56 : decode cX0_check 56 = .ok (.invokevirtual 96, 3) := by decide +kernel
theorem dX0_check_59 : decode cX0_check 59 = .ok (.invokevirtual 93, 3) := by decide +kernel
theorem dX0_check_62 : decode cX0_check 62 = .ok (.lreturn, 1) := by decide +kernel
theorem dX0_check_63 : decode cX0_check 63 = .ok (.aload_n 0, 1) := by decide +kernel
theorem dX0_check_64 : decode cX0_check 64 = .ok (.aload_n 0, 1) := by decide +kernel
theorem dX0_check_65 : decode cX0_check 65 = .ok (.iconst 0, 1) := by decide +kernel
theorem dX0_check_66 : decode cX0_check 66 = .ok (.aload_n 0, 1) := by decide +kernel
theorem dX0_check_67 : decode cX0_check 67 = .ok (.getfield 68, 3) := by decide +kernel
theorem dX0_check_70 : decode cX0_check 70 = .ok (.invokevirtual 100, 3) := by decide +kernel
theorem dX0_check_73 : decode cX0_check 73 = .ok (.invokevirtual 93, 3) := by decide +kernel
theorem dX0_check_76 : decode cX0_check 76 = .ok (.lreturn, 1) := by decide +kernel
theorem dX0_check_77 : decode cX0_check 77 = .ok (.aload_n 0, 1) := by decide +kernel
theorem dX0_check_78 : decode cX0_check 78 = .ok (.aload_n 0, 1) := by decide +kernel
theorem dX0_check_79 : decode cX0_check 79 = .ok (.invokevirtual 104, 3) := by decide +kernel
theorem dX0_check_82 : decode cX0_check 82 = .ok (.invokevirtual 93, 3) := by decide +kernel
theorem dX0_check_85 : decode cX0_check 85 = .ok (.lreturn, 1) := by decide +kernel
theorem dX0_check_86 : decode cX0_check 86 = .ok (.lconst 0, 1) := by decide +kernel
theorem dX0_check_87 : decode cX0_check 87 = .ok (.lreturn, 1) := by decide +kernel
set_option maxRecDepth 20000 in
theorem ggX0_part_X0_eightAtOnce : GoodIn wsX0_part wsX0_eightAtOnce := goodIn_r _ [6, 7, 8, 9, 10, 11, 5, 12, 13, 14, 15, 16, 17, 18, 19, 20, 21, 22, 23, 24, 25, 26, 27, 28, 29, 30, 31, 32, 33, 34, 48, 49, 50, 51, 52, 53, 54, 55, 56, 57, 58] (by decide +kernel) (by decide +kernel)
set_option maxRecDepth 20000 in
theorem gX0_part_X0_eightAtOnce : GoodIn wsX0_part (wsV RX0 100 RX0 yX0_eightAtOnce wsX0_eightAtOnce) := goodIn_app (goodIn_of _ (by decide +kernel)) ggX0_part_X0_eightAtOnce
set_option maxRecDepth 20000 in
theorem ggX0_part_X0_checkOf : GoodIn wsX0_part wsX0_checkOf := goodIn_r _ [38, 39, 13, 40, 41, 42, 43, 5, 44, 45, 46, 47, 48, 49, 50, 51, 52, 53, 54, 55, 56, 57, 58] (by decide +kernel) (by decide +kernel)
set_option maxRecDepth 20000 in
theorem gX0_part_X0_checkOf : GoodIn wsX0_part (wsV RX0 93 RX0 yX0_checkOf wsX0_checkOf) := goodIn_app (goodIn_of _ (by decide +kernel)) ggX0_part_X0_checkOf
theorem dX0_part_0 : decode cX0_part 0 = .ok (.iload_n 1, 1) := by decide +kernel
theorem dX0_part_1 : decode cX0_part 1 = .ok (.ifCond .lt 16, 3) := by decide +kernel
theorem dX0_part_4 : decode cX0_part 4 = .ok (.iload_n 1, 1) := by decide +kernel
theorem dX0_part_5 : decode cX0_part 5 = .ok (.iload_n 2, 1) := by decide +kernel
theorem dX0_part_6 : decode cX0_part 6 = .ok (.if_icmp .gt 11, 3) := by decide +kernel
theorem dX0_part_9 : decode cX0_part 9 = .ok (.iload_n 2, 1) := by decide +kernel
theorem dX0_part_10 : decode cX0_part 10 = .ok (.aload_n 0, 1) := by decide +kernel
theorem dX0_part_11 : decode cX0_part 11 = .ok (.getfield 68, 3) := by decide +kernel
theorem dX0_part_14 : decode cX0_part 14 = .ok (.if_icmp .le 5, 3) := by decide +kernel
theorem dX0_part_17 : decode cX0_part 17 = .ok (.lconst 0, 1) := by decide +kernel
theorem dX0_part_18 : decode cX0_part 18 = .ok (.lreturn, 1) := by decide +kernel
theorem dX0_part_19 : decode cX0_part 19 = .ok (.aload_n 0, 1) := by decide +kernel
theorem dX0_part_20 : decode cX0_part 20 = .ok (.aload_n 0, 1) := by decide +kernel
theorem dX0_part_21 : decode cX0_part 21 = .ok (.iload_n 1, 1) := by decide +kernel
theorem dX0_part_22 : decode cX0_part 22 = .ok (.iload_n 2, 1) := by decide +kernel
theorem dX0_part_23 : decode cX0_part 23 = .ok (.invokevirtual 100, 3) := by decide +kernel
theorem dX0_part_26 : decode cX0_part 26 = .ok (.invokevirtual 93, 3) := by decide +kernel
theorem dX0_part_29 : decode cX0_part 29 = .ok (.lreturn, 1) := by decide +kernel
set_option maxRecDepth 20000 in
theorem ggX0_joined_X0_registerOf : GoodIn wsX0_joined wsX0_registerOf := goodIn_r _ [7, 8, 9, 10, 11, 12, 6, 13, 14, 15, 16, 17, 39, 40, 41, 42, 43, 44, 45, 46, 47, 48, 49] (by decide +kernel) (by decide +kernel)
set_option maxRecDepth 20000 in
theorem gX0_joined_X0_registerOf : GoodIn wsX0_joined (wsV RX0 107 RX0 yX0_registerOf wsX0_registerOf) := goodIn_app (goodIn_of _ (by decide +kernel)) ggX0_joined_X0_registerOf
set_option maxRecDepth 20000 in
theorem ggX0_joined_X0_atTop : GoodIn wsX0_joined wsX0_atTop := goodIn_r _ [17, 10, 39, 40, 41, 42, 43, 44, 45, 46, 47, 48, 49] (by decide +kernel) (by decide +kernel)
set_option maxRecDepth 20000 in
theorem gX0_joined_X0_atTop : GoodIn wsX0_joined (wsV RX0 46 RX0 yX0_atTop wsX0_atTop) := goodIn_app (goodIn_of _ (by decide +kernel)) ggX0_joined_X0_atTop
set_option maxRecDepth 20000 in
theorem ggX0_joined_X0_behindZeros : GoodIn wsX0_joined wsX0_behindZeros := goodIn_r _ [21, 14, 15, 16, 6, 17, 10, 22, 23, 24, 25, 26, 27, 28, 29, 30, 39, 40, 41, 42, 43, 44, 45, 46, 47, 48, 49] (by decide +kernel) (by decide +kernel)
set_option maxRecDepth 20000 in
theorem gX0_joined_X0_behindZeros : GoodIn wsX0_joined (wsV RX0 112 RX0 yX0_behindZeros wsX0_behindZeros) := goodIn_app (goodIn_of _ (by decide +kernel)) ggX0_joined_X0_behindZeros
set_option maxRecDepth 20000 in
theorem ggX0_joined_X0_checkOf : GoodIn wsX0_joined wsX0_checkOf := goodIn_r _ [34, 9, 10, 8, 35, 36, 37, 6, 38, 11, 12, 13, 39, 40, 41, 42, 43, 44, 45, 46, 47, 48, 49] (by decide +kernel) (by decide +kernel)
set_option maxRecDepth 20000 in
theorem gX0_joined_X0_checkOf : GoodIn wsX0_joined (wsV RX0 93 RX0 yX0_checkOf wsX0_checkOf) := goodIn_app (goodIn_of _ (by decide +kernel)) ggX0_joined_X0_checkOf
theorem dX0_joined_0 : decode cX0_joined 0 = .ok (.iload 5, 2) := by decide +kernel
theorem dX0_joined_2 : decode cX0_joined 2 = .ok (.ifCond .ge 5, 3) := by decide +kernel
theorem dX0_joined_5 : decode cX0_joined 5 = .ok (.lconst 0, 1) := by decide +kernel
theorem dX0_joined_6 : decode cX0_joined 6 = .ok (.lreturn, 1) := by decide +kernel
theorem dX0_joined_7 : decode cX0_joined 7 = .ok (.aload_n 0, 1) := by decide +kernel
theorem dX0_joined_8 : decode cX0_joined 8 = .ok (.lload_n 1, 1) := by decide +kernel
theorem dX0_joined_9 : decode cX0_joined 9 = .ok (.invokevirtual 107, 3) := by decide +kernel
theorem dX0_joined_12 : decode cX0_joined 12 = .ok (.aload_n 0, 1) := by decide +kernel
theorem dX0_joined_13 : decode cX0_joined 13 = .ok (.aload_n 0, 1) := by decide +kernel
theorem dX0_joined_14 : decode cX0_joined 14 = .ok (.getfield 52, 3) := by decide +kernel
theorem dX0_joined_17 : decode cX0_joined 17 = .ok (.invokevirtual 46, 3) := by decide +kernel
theorem dX0_joined_20 : decode cX0_joined 20 = .ok (.lxor, 1) := by decide +kernel
theorem dX0_joined_21 : decode cX0_joined 21 = .ok (.lstore 6, 2) := by decide +kernel
theorem dX0_joined_23 : decode cX0_joined 23 = .ok (.aload_n 0, 1) := by decide +kernel
theorem dX0_joined_24 : decode cX0_joined 24 = .ok (.aload_n 0, 1) := by decide +kernel
theorem dX0_joined_25 : decode cX0_joined 25 = .ok (.lload_n 3, 1) := by decide +kernel
theorem dX0_joined_26 : decode cX0_joined 26 = .ok (.invokevirtual 107, 3) := by decide +kernel
theorem dX0_joined_29 : decode cX0_joined 29 = .ok (.aload_n 0, 1) := by decide +kernel
theorem dX0_joined_30 : decode cX0_joined 30 = .ok (.lload 6, 2) := by decide +kernel
theorem dX0_joined_32 : decode cX0_joined 32 = .ok (.iload 5, 2) := by decide +kernel
theorem dX0_joined_34 : decode cX0_joined 34 = .ok (.i2l, 1) := by decide +kernel
theorem dX0_joined_35 : decode cX0_joined 35 = .ok (.ldc2_w 110, 3) := by decide +kernel
theorem dX0_joined_38 : decode cX0_joined 38 = .ok (.lmul, 1) := by decide +kernel
theorem dX0_joined_39 : decode cX0_joined 39 = .ok (.invokevirtual 112, 3) := by decide +kernel
theorem dX0_joined_42 : decode cX0_joined 42 = .ok (.lxor, 1) := by decide +kernel
theorem dX0_joined_43 : decode cX0_joined 43 = .ok (.invokevirtual 93, 3) := by decide +kernel
theorem dX0_joined_46 : decode cX0_joined 46 = .ok (.lreturn, 1) := by decide +kernel
set_option maxRecDepth 20000 in
theorem ggX0_entry_X0_isByte : GoodIn wsX0_entry wsX0_isByte := goodIn_r _ [5] (by decide +kernel) (by decide +kernel)
set_option maxRecDepth 20000 in
theorem gX0_entry_X0_isByte : GoodIn wsX0_entry (va_wsS RX0 64 yX0_isByte wsX0_isByte) := goodIn_app (goodIn_of _ (by decide +kernel)) ggX0_entry_X0_isByte
set_option maxRecDepth 20000 in
theorem ggX0_entry_X0_asItComes : GoodIn wsX0_entry wsX0_asItComes := goodIn_r _ [9, 10, 11, 12, 4, 13, 19, 20, 21, 22, 23, 24, 25, 26, 27, 28, 29] (by decide +kernel) (by decide +kernel)
set_option maxRecDepth 20000 in
theorem gX0_entry_X0_asItComes : GoodIn wsX0_entry (wsV RX0 71 RX0 yX0_asItComes wsX0_asItComes) := goodIn_app (goodIn_of _ (by decide +kernel)) ggX0_entry_X0_asItComes
set_option maxRecDepth 20000 in
theorem ggX0_entry_X0_fromTop : GoodIn wsX0_entry wsX0_fromTop := goodIn_r _ [17, 18, 19, 20, 21, 22, 23, 24, 25, 26, 27, 28, 29] (by decide +kernel) (by decide +kernel)
set_option maxRecDepth 20000 in
theorem gX0_entry_X0_fromTop : GoodIn wsX0_entry (wsV RX0 116 RX0 yX0_fromTop wsX0_fromTop) := goodIn_app (goodIn_of _ (by decide +kernel)) ggX0_entry_X0_fromTop
theorem dX0_entry_0 : decode cX0_entry 0 = .ok (.iload_n 1, 1) := by decide +kernel
theorem dX0_entry_1 : decode cX0_entry 1 = .ok (.ifCond .lt 16, 3) := by decide +kernel
theorem dX0_entry_4 : decode cX0_entry 4 = .ok (.iload_n 1, 1) := by decide +kernel
theorem dX0_entry_5 : decode cX0_entry 5 = .ok (.bipush 8, 2) := by decide +kernel
theorem dX0_entry_7 : decode cX0_entry 7 = .ok (.if_icmp .ge 10, 3) := by decide +kernel
theorem dX0_entry_10 : decode cX0_entry 10 = .ok (.iload_n 2, 1) := by decide +kernel
theorem dX0_entry_11 : decode cX0_entry 11 = .ok (.invokestatic 64, 3) := by decide +kernel
theorem dX0_entry_14 : decode cX0_entry 14 = .ok (.ifCond .ne 5, 3) := by decide +kernel
theorem dX0_entry_17 : decode cX0_entry 17 = .ok (.lconst 0, 1) := by decide +kernel
theorem dX0_entry_18 : decode cX0_entry 18 = .ok (.lreturn, 1) := by decide +kernel
theorem dX0_entry_19 : decode cX0_entry 19 = .ok (.aload_n 0, 1) := by decide +kernel
theorem dX0_entry_20 : decode cX0_entry 20 = .ok (.aload_n 0, 1) := by decide +kernel
theorem dX0_entry_21 : decode cX0_entry 21 = .ok (.getfield 16, 3) := by decide +kernel
theorem dX0_entry_24 : decode cX0_entry 24 = .ok (.iload_n 1, 1) := by decide +kernel
theorem dX0_entry_25 : decode cX0_entry 25 = .ok (.sipush 256, 3) := by decide +kernel
theorem dX0_entry_28 : decode cX0_entry 28 = .ok (.imul, 1) := by decide +kernel
theorem dX0_entry_29 : decode cX0_entry 29 = .ok (.aload_n 0, 1) := by decide +kernel
theorem dX0_entry_30 : decode cX0_entry 30 = .ok (.iload_n 2, 1) := by decide +kernel
theorem dX0_entry_31 : decode cX0_entry 31 = .ok (.invokevirtual 71, 3) := by decide +kernel
theorem dX0_entry_34 : decode cX0_entry 34 = .ok (.l2i, 1) := by decide +kernel
theorem dX0_entry_35 : decode cX0_entry 35 = .ok (.iadd, 1) := by decide +kernel
theorem dX0_entry_36 : decode cX0_entry 36 = .ok (.laload, 1) := by decide +kernel
theorem dX0_entry_37 : decode cX0_entry 37 = .ok (.invokevirtual 116, 3) := by decide +kernel
theorem dX0_entry_40 : decode cX0_entry 40 = .ok (.lreturn, 1) := by decide +kernel
set_option maxRecDepth 20000 in
theorem ggX0_zeros_X0_atTop : GoodIn wsX0_zeros wsX0_atTop := goodIn_r _ [6, 7, 25, 26, 27, 28, 29, 30, 31, 32, 33, 34, 35] (by decide +kernel) (by decide +kernel)
set_option maxRecDepth 20000 in
theorem gX0_zeros_X0_atTop : GoodIn wsX0_zeros (wsV RX0 46 RX0 yX0_atTop wsX0_atTop) := goodIn_app (goodIn_of _ (by decide +kernel)) ggX0_zeros_X0_atTop
set_option maxRecDepth 20000 in
theorem ggX0_zeros_X0_behindZeros : GoodIn wsX0_zeros wsX0_behindZeros := goodIn_r _ [11, 2, 3, 4, 5, 6, 7, 12, 13, 14, 15, 16, 17, 18, 19, 20, 25, 26, 27, 28, 29, 30, 31, 32, 33, 34, 35] (by decide +kernel) (by decide +kernel)
set_option maxRecDepth 20000 in
theorem gX0_zeros_X0_behindZeros : GoodIn wsX0_zeros (wsV RX0 112 RX0 yX0_behindZeros wsX0_behindZeros) := goodIn_app (goodIn_of _ (by decide +kernel)) ggX0_zeros_X0_behindZeros
set_option maxRecDepth 20000 in
theorem ggX0_zeros_X0_fromTop : GoodIn wsX0_zeros wsX0_fromTop := goodIn_r _ [24, 7, 25, 26, 27, 28, 29, 30, 31, 32, 33, 34, 35] (by decide +kernel) (by decide +kernel)
set_option maxRecDepth 20000 in
theorem gX0_zeros_X0_fromTop : GoodIn wsX0_zeros (wsV RX0 116 RX0 yX0_fromTop wsX0_fromTop) := goodIn_app (goodIn_of _ (by decide +kernel)) ggX0_zeros_X0_fromTop
theorem dX0_zeros_0 : decode cX0_zeros 0 = .ok (.iload_n 3, 1) := by decide +kernel
theorem dX0_zeros_1 : decode cX0_zeros 1 = .ok (.ifCond .lt 9, 3) := by decide +kernel
theorem dX0_zeros_4 : decode cX0_zeros 4 = .ok (.iload_n 3, 1) := by decide +kernel
theorem dX0_zeros_5 : decode cX0_zeros 5 = .ok (.ldc 119, 2) := by decide +kernel
theorem dX0_zeros_7 : decode cX0_zeros 7 = .ok (.if_icmp .le 5, 3) := by decide +kernel
theorem dX0_zeros_10 : decode cX0_zeros 10 = .ok (.lconst 0, 1) := by decide +kernel
theorem dX0_zeros_11 : decode cX0_zeros 11 = .ok (.lreturn, 1) := by decide +kernel
theorem dX0_zeros_12 : decode cX0_zeros 12 = .ok (.aload_n 0, 1) := by decide +kernel
theorem dX0_zeros_13 : decode cX0_zeros 13 = .ok (.aload_n 0, 1) := by decide +kernel
theorem dX0_zeros_14 : decode cX0_zeros 14 = .ok (.aload_n 0, 1) := by decide +kernel
theorem dX0_zeros_15 : decode cX0_zeros 15 = .ok (.lload_n 1, 1) := by decide +kernel
theorem dX0_zeros_16 : decode cX0_zeros 16 = .ok (.invokevirtual 46, 3) := by decide +kernel
theorem dX0_zeros_19 : decode cX0_zeros 19 = .ok (.iload_n 3, 1) := by decide +kernel
theorem dX0_zeros_20 : decode cX0_zeros 20 = .ok (.i2l, 1) := by decide +kernel
theorem dX0_zeros_21 : decode cX0_zeros 21 = .ok (.invokevirtual 112, 3) := by decide +kernel
theorem dX0_zeros_24 : decode cX0_zeros 24 = .ok (.invokevirtual 116, 3) := by decide +kernel
theorem dX0_zeros_27 : decode cX0_zeros 27 = .ok (.lreturn, 1) := by decide +kernel
set_option maxRecDepth 20000 in
theorem ggX0_round_X0_atTop : GoodIn wsX0_round wsX0_atTop := goodIn_r _ [5, 6, 12, 13, 14, 15, 16, 17, 18, 19, 20, 21, 22] (by decide +kernel) (by decide +kernel)
set_option maxRecDepth 20000 in
theorem gX0_round_X0_atTop : GoodIn wsX0_round (wsV RX0 46 RX0 yX0_atTop wsX0_atTop) := goodIn_app (goodIn_of _ (by decide +kernel)) ggX0_round_X0_atTop
set_option maxRecDepth 20000 in
theorem ggX0_round_X0_behindBit : GoodIn wsX0_round wsX0_behindBit := goodIn_r _ [10, 11, 12, 13, 14, 15, 16, 17, 18, 19, 20, 21, 22] (by decide +kernel) (by decide +kernel)
set_option maxRecDepth 20000 in
theorem gX0_round_X0_behindBit : GoodIn wsX0_round (wsV RX0 120 RX0 yX0_behindBit wsX0_behindBit) := goodIn_app (goodIn_of _ (by decide +kernel)) ggX0_round_X0_behindBit
theorem dX0_round_0 : decode cX0_round 0 = .ok (.aload_n 0, 1) := by decide +kernel
theorem dX0_round_1 : decode cX0_round 1 = .ok (.lconst 1, 1) := by decide +kernel
theorem dX0_round_2 : decode cX0_round 2 = .ok (.invokevirtual 46, 3) := by decide +kernel
theorem dX0_round_5 : decode cX0_round 5 = .ok (.lstore_n 1, 1) := by decide +kernel
theorem dX0_round_6 : decode cX0_round 6 = .ok (.lload_n 1, 1) := by decide +kernel
theorem dX0_round_7 : decode cX0_round 7 = .ok (.lstore_n 3, 1) := by decide +kernel
theorem dX0_round_8 : decode cX0_round 8 = .ok (.iconst 1, 1) := by decide +kernel
theorem dX0_round_9 : decode cX0_round 9 = .ok (.istore 5, 2) := by decide +kernel
theorem dX0_round_11 : decode cX0_round 11 = .ok (.iload 5, 2) := by decide +kernel
theorem dX0_round_13 : decode cX0_round 13 = .ok (.sipush 4096, 3) := by decide +kernel
theorem dX0_round_16 : decode cX0_round 16 = .ok (.if_icmp .gt 25, 3) := by decide +kernel
theorem dX0_round_19 : decode cX0_round 19 = .ok (.aload_n 0, 1) := by decide +kernel
theorem dX0_round_20 : decode cX0_round 20 = .ok (.lload_n 3, 1) := by decide +kernel
theorem dX0_round_21 : decode cX0_round 21 = .ok (.iconst 0, 1) := by decide +kernel
theorem dX0_round_22 : decode cX0_round 22 = .ok (.invokevirtual 120, 3) := by decide +kernel
theorem dX0_round_25 : decode cX0_round 25 = .ok (.lstore_n 3, 1) := by decide +kernel
theorem dX0_round_26 : decode cX0_round 26 = .ok (.lload_n 3, 1) := by decide +kernel
theorem dX0_round_27 : decode cX0_round 27 = .ok (.lload_n 1, 1) := by decide +kernel
theorem dX0_round_28 : decode cX0_round 28 = .ok (.lcmp, 1) := by decide +kernel
theorem dX0_round_29 : decode cX0_round 29 = .ok (.ifCond .ne 6, 3) := by decide +kernel
theorem dX0_round_32 : decode cX0_round 32 = .ok (.iload 5, 2) := by decide +kernel
theorem dX0_round_34 : decode cX0_round 34 = .ok (.ireturn, 1) := by decide +kernel
theorem dX0_round_35 : decode cX0_round 35 = .ok (.iinc 5 1, 3) := by decide +kernel
theorem dX0_round_38 : decode cX0_round 38 = .ok (.goto (-27), 3) := by decide +kernel
theorem dX0_round_41 : decode cX0_round 41 = .ok (.iconst (-1), 1) := by decide +kernel
theorem dX0_round_42 : decode cX0_round 42 = .ok (.ireturn, 1) := by decide +kernel
set_option maxRecDepth 20000 in
theorem ggX0_holds_X0_check : GoodIn wsX0_holds wsX0_check := goodIn_r _ [6, 7, 1, 8, 9, 10, 5, 11, 12, 13, 14, 15, 16, 17, 18, 19, 20, 21, 22, 23, 24, 25, 26, 27, 28, 29, 30, 31, 32, 33, 34, 35, 36, 37, 38, 39, 40, 41, 42, 43, 44, 45, 46, 47, 48, 49, 50, 51, 52, 53, 54, 55, 56, 57, 58, 59, 60, 61, 62, 63, 64, 65, 66, 67, 68, 69, 70, 71, 72, 73, 74, 75, 76, 77, 78, 79, 80, 81, 82, 83, 84, 85, 107, 108, 109, 110, 111, 112, 113, 114, 115, 116, 117] (by decide +kernel) (by decide +kernel)
set_option maxRecDepth 20000 in
theorem gX0_holds_X0_check : GoodIn wsX0_holds (wsV RX0 124 RX0 yX0_check wsX0_check) := goodIn_app (goodIn_of _ (by decide +kernel)) ggX0_holds_X0_check
set_option maxRecDepth 20000 in
theorem ggX0_holds_X0_part : GoodIn wsX0_holds wsX0_part := goodIn_r _ [89, 1, 56, 57, 58, 5, 59, 7, 21, 12, 13, 14, 15, 16, 47, 48, 49, 50, 17, 18, 19, 20, 22, 23, 24, 51, 52, 53, 54, 55, 60, 61, 62, 63, 64, 34, 35, 36, 37, 38, 39, 40, 41, 42, 43, 44, 45, 46, 107, 108, 109, 110, 111, 112, 113, 114, 115, 116, 117] (by decide +kernel) (by decide +kernel)
set_option maxRecDepth 20000 in
theorem gX0_holds_X0_part : GoodIn wsX0_holds (wsV RX0 127 RX0 yX0_part wsX0_part) := goodIn_app (goodIn_of _ (by decide +kernel)) ggX0_holds_X0_part
set_option maxRecDepth 20000 in
theorem ggX0_holds_X0_joined : GoodIn wsX0_holds wsX0_joined := goodIn_r _ [93, 7, 94, 95, 96, 97, 5, 98, 39, 38, 16, 44, 45, 46, 12, 13, 14, 15, 99, 100, 101, 102, 29, 30, 31, 32, 33, 103, 104, 105, 106, 34, 35, 36, 37, 40, 41, 42, 43, 107, 108, 109, 110, 111, 112, 113, 114, 115, 116, 117] (by decide +kernel) (by decide +kernel)
set_option maxRecDepth 20000 in
theorem gX0_holds_X0_joined : GoodIn wsX0_holds (wsV RX0 130 RX0 yX0_joined wsX0_joined) := goodIn_app (goodIn_of _ (by decide +kernel)) ggX0_holds_X0_joined
theorem dX0_holds_0 : decode cX0_holds 0 = .ok (.aload_n 0, 1) := by decide +kernel
theorem dX0_holds_1 : decode cX0_holds 1 = .ok (.iconst 0, 1) := by decide +kernel
theorem dX0_holds_2 : decode cX0_holds 2 = .ok (.invokevirtual 124, 3) := by decide +kernel
theorem dX0_holds_5 : decode cX0_holds 5 = .ok (.lstore_n 1, 1) := by decide +kernel
theorem dX0_holds_6 : decode cX0_holds 6 = .ok (.aload_n 0, 1) := by decide +kernel
theorem dX0_holds_7 : decode cX0_holds 7 = .ok (.iconst 1, 1) := by decide +kernel
theorem dX0_holds_8 : decode cX0_holds 8 = .ok (.invokevirtual 124, 3) := by decide +kernel
theorem dX0_holds_11 : decode cX0_holds 11 = .ok (.lload_n 1, 1) := by decide +kernel
theorem dX0_holds_12 : decode cX0_holds 12 = .ok (.lcmp, 1) := by decide +kernel
theorem dX0_holds_13 : decode cX0_holds 13 = .ok (.ifCond .ne 23, 3) := by decide +kernel
theorem dX0_holds_16 : decode cX0_holds 16 = .ok (.aload_n 0, 1) := by decide +kernel
theorem dX0_holds_17 : decode cX0_holds 17 = .ok (.iconst 2, 1) := by decide +kernel
theorem dX0_holds_18 : decode cX0_holds 18 = .ok (.invokevirtual 124, 3) := by decide +kernel
theorem dX0_holds_21 : decode cX0_holds 21 = .ok (.lload_n 1, 1) := by decide +kernel
theorem dX0_holds_22 : decode cX0_holds 22 = .ok (.lcmp, 1) := by decide +kernel
theorem dX0_holds_23 : decode cX0_holds 23 = .ok (.ifCond .ne 13, 3) := by decide +kernel
theorem dX0_holds_26 : decode cX0_holds 26 = .ok (.aload_n 0, 1) := by decide +kernel
theorem dX0_holds_27 : decode cX0_holds 27 = .ok (.iconst 3, 1) := by decide +kernel
theorem dX0_holds_28 : decode cX0_holds 28 = .ok (.invokevirtual 124, 3) := by decide +kernel
theorem dX0_holds_31 : decode cX0_holds 31 = .ok (.lload_n 1, 1) := by decide +kernel
theorem dX0_holds_32 : decode cX0_holds 32 = .ok (.lcmp, 1) := by decide +kernel
theorem dX0_holds_33 : decode cX0_holds 33 = .ok (.ifCond .eq 5, 3) := by decide +kernel
theorem dX0_holds_36 : decode cX0_holds 36 = .ok (.iconst 0, 1) := by decide +kernel
theorem dX0_holds_37 : decode cX0_holds 37 = .ok (.ireturn, 1) := by decide +kernel
theorem dX0_holds_38 : decode cX0_holds 38 = .ok (.iconst 0, 1) := by decide +kernel
theorem dX0_holds_39 : decode cX0_holds 39 = .ok (.istore_n 3, 1) := by decide +kernel
theorem dX0_holds_40 : decode cX0_holds 40 = .ok (.iload_n 3, 1) := by decide +kernel
theorem dX0_holds_41 : decode cX0_holds 41 = .ok (.bipush 70, 2) := by decide +kernel
theorem dX0_holds_43 : decode cX0_holds 43 = .ok (.if_icmp .gt 49, 3) := by decide +kernel
theorem dX0_holds_46 : decode cX0_holds 46 = .ok (.iload_n 3, 1) := by decide +kernel
theorem dX0_holds_47 : decode cX0_holds 47 = .ok (.aload_n 0, 1) := by decide +kernel
theorem dX0_holds_48 : decode cX0_holds 48 = .ok (.getfield 68, 3) := by decide +kernel
theorem dX0_holds_51 : decode cX0_holds 51 = .ok (.if_icmp .gt 41, 3) := by decide +kernel
theorem dX0_holds_54 : decode cX0_holds 54 = .ok (.aload_n 0, 1) := by decide +kernel
theorem dX0_holds_55 : decode cX0_holds 55 = .ok (.aload_n 0, 1) := by decide +kernel
theorem dX0_holds_56 : decode cX0_holds 56 = .ok (.iconst 0, 1) := by decide +kernel
theorem dX0_holds_57 : decode cX0_holds 57 = .ok (.iload_n 3, 1) := by decide +kernel
theorem dX0_holds_58 : decode cX0_holds 58 = .ok (.invokevirtual 127, 3) := by decide +kernel
theorem dX0_holds_61 : decode cX0_holds 61 = .ok (.aload_n 0, 1) := by decide +kernel
theorem dX0_holds_62 : decode cX0_holds 62 = .ok (.iload_n 3, 1) := by decide +kernel
theorem dX0_holds_63 : decode cX0_holds 63 = .ok (.aload_n 0, 1) := by decide +kernel
theorem dX0_holds_64 : decode cX0_holds 64 = .ok (.getfield 68, 3) := by decide +kernel
theorem dX0_holds_67 : decode cX0_holds 67 = .ok (.invokevirtual 127, 3) := by decide +kernel
theorem dX0_holds_70 : decode cX0_holds 70 = .ok (.aload_n 0, 1) := by decide +kernel
theorem dX0_holds_71 : decode cX0_holds 71 = .ok (.getfield 68, 3) := by decide +kernel
theorem dX0_holds_74 : decode cX0_holds 74 = .ok (.iload_n 3, 1) := by decide +kernel
theorem dX0_holds_75 : decode cX0_holds 75 = .ok (.isub, 1) := by decide +kernel
theorem dX0_holds_76 : decode cX0_holds 76 = .ok (.invokevirtual 130, 3) := by decide +kernel
theorem dX0_holds_79 : decode cX0_holds 79 = .ok (.lload_n 1, 1) := by decide +kernel
theorem dX0_holds_80 : decode cX0_holds 80 = .ok (.lcmp, 1) := by decide +kernel
theorem dX0_holds_81 : decode cX0_holds 81 = .ok (.ifCond .eq 5, 3) := by decide +kernel
theorem dX0_holds_84 : decode cX0_holds 84 = .ok (.iconst 0, 1) := by decide +kernel
theorem dX0_holds_85 : decode cX0_holds 85 = .ok (.ireturn, 1) := by decide +kernel
theorem dX0_holds_86 : decode cX0_holds 86 = .ok (.iinc 3 7, 3) := by decide +kernel
theorem dX0_holds_89 : decode cX0_holds 89 = .ok (.goto (-49), 3) := by decide +kernel
theorem dX0_holds_92 : decode cX0_holds 92 = .ok (.iconst 1, 1) := by decide +kernel
theorem dX0_holds_93 : decode cX0_holds 93 = .ok (.ireturn, 1) := by decide +kernel
theorem dX0_count_0 : decode cX0_count 0 = .ok (.iload_n 1, 1) := by decide +kernel
theorem dX0_count_1 : decode cX0_count 1 = .ok (.tableswitch 67 0 3 #[31, 36, 41, 54], 31) := by decide +kernel
theorem dX0_count_32 : decode cX0_count 32 = .ok (.aload_n 0, 1) := by decide +kernel
theorem dX0_count_33 : decode cX0_count 33 = .ok (.getfield 68, 3) := by decide +kernel
theorem dX0_count_36 : decode cX0_count 36 = .ok (.ireturn, 1) := by decide +kernel
theorem dX0_count_37 : decode cX0_count 37 = .ok (.aload_n 0, 1) := by decide +kernel
theorem dX0_count_38 : decode cX0_count 38 = .ok (.getfield 34, 3) := by decide +kernel
theorem dX0_count_41 : decode cX0_count 41 = .ok (.ireturn, 1) := by decide +kernel
theorem dX0_count_42 : decode cX0_count 42 = .ok (.aload_n 0, 1) := by decide +kernel
theorem dX0_count_43 : decode cX0_count 43 = .ok (.getfield 27, 3) := by decide +kernel
theorem dX0_count_46 : decode cX0_count 46 = .ok (.ifCond .eq 7, 3) := by decide +kernel
theorem dX0_count_49 : decode cX0_count 49 = .ok (.iconst 1, 1) := by decide +kernel
theorem dX0_count_50 : decode cX0_count 50 = .ok (.goto 4, 3) := by decide +kernel
theorem dX0_count_53 : decode cX0_count 53 = .ok (.iconst 0, 1) := by decide +kernel
theorem dX0_count_54 : decode cX0_count 54 = .ok (.ireturn, 1) := by decide +kernel
theorem dX0_count_55 : decode cX0_count 55 = .ok (.aload_n 0, 1) := by decide +kernel
theorem dX0_count_56 : decode cX0_count 56 = .ok (.getfield 55, 3) := by decide +kernel
theorem dX0_count_59 : decode cX0_count 59 = .ok (.ifCond .eq 7, 3) := by decide +kernel
theorem dX0_count_62 : decode cX0_count 62 = .ok (.iconst 1, 1) := by decide +kernel
theorem dX0_count_63 : decode cX0_count 63 = .ok (.goto 4, 3) := by decide +kernel
theorem dX0_count_66 : decode cX0_count 66 = .ok (.iconst 0, 1) := by decide +kernel
theorem dX0_count_67 : decode cX0_count 67 = .ok (.ireturn, 1) := by decide +kernel
theorem dX0_count_68 : decode cX0_count 68 = .ok (.iconst (-1), 1) := by decide +kernel
theorem dX0_count_69 : decode cX0_count 69 = .ok (.ireturn, 1) := by decide +kernel
theorem dX0_told_0 : decode cX0_told 0 = .ok (.iload_n 1, 1) := by decide +kernel
theorem dX0_told_1 : decode cX0_told 1 = .ok (.tableswitch 42 0 2 #[27, 32, 37], 27) := by decide +kernel
theorem dX0_told_28 : decode cX0_told 28 = .ok (.aload_n 0, 1) := by decide +kernel
theorem dX0_told_29 : decode cX0_told 29 = .ok (.getfield 42, 3) := by decide +kernel
theorem dX0_told_32 : decode cX0_told 32 = .ok (.lreturn, 1) := by decide +kernel
theorem dX0_told_33 : decode cX0_told 33 = .ok (.aload_n 0, 1) := by decide +kernel
theorem dX0_told_34 : decode cX0_told 34 = .ok (.getfield 52, 3) := by decide +kernel
theorem dX0_told_37 : decode cX0_told 37 = .ok (.lreturn, 1) := by decide +kernel
theorem dX0_told_38 : decode cX0_told 38 = .ok (.aload_n 0, 1) := by decide +kernel
theorem dX0_told_39 : decode cX0_told 39 = .ok (.getfield 58, 3) := by decide +kernel
theorem dX0_told_42 : decode cX0_told 42 = .ok (.lreturn, 1) := by decide +kernel
theorem dX0_told_43 : decode cX0_told 43 = .ok (.lconst 0, 1) := by decide +kernel
theorem dX0_told_44 : decode cX0_told 44 = .ok (.lreturn, 1) := by decide +kernel
theorem dX0_atTop_0 : decode cX0_atTop 0 = .ok (.lload_n 1, 1) := by decide +kernel
theorem dX0_atTop_1 : decode cX0_atTop 1 = .ok (.bipush 64, 2) := by decide +kernel
theorem dX0_atTop_3 : decode cX0_atTop 3 = .ok (.aload_n 0, 1) := by decide +kernel
theorem dX0_atTop_4 : decode cX0_atTop 4 = .ok (.getfield 34, 3) := by decide +kernel
theorem dX0_atTop_7 : decode cX0_atTop 7 = .ok (.isub, 1) := by decide +kernel
theorem dX0_atTop_8 : decode cX0_atTop 8 = .ok (.lshl, 1) := by decide +kernel
theorem dX0_atTop_9 : decode cX0_atTop 9 = .ok (.lreturn, 1) := by decide +kernel
theorem dX0_fromTop_0 : decode cX0_fromTop 0 = .ok (.lload_n 1, 1) := by decide +kernel
theorem dX0_fromTop_1 : decode cX0_fromTop 1 = .ok (.bipush 64, 2) := by decide +kernel
theorem dX0_fromTop_3 : decode cX0_fromTop 3 = .ok (.aload_n 0, 1) := by decide +kernel
theorem dX0_fromTop_4 : decode cX0_fromTop 4 = .ok (.getfield 34, 3) := by decide +kernel
theorem dX0_fromTop_7 : decode cX0_fromTop 7 = .ok (.isub, 1) := by decide +kernel
theorem dX0_fromTop_8 : decode cX0_fromTop 8 = .ok (.lushr, 1) := by decide +kernel
theorem dX0_fromTop_9 : decode cX0_fromTop 9 = .ok (.lreturn, 1) := by decide +kernel
set_option maxRecDepth 20000 in
theorem ggX0_lowerBits_X0_atTop : GoodIn wsX0_lowerBits wsX0_atTop := goodIn_r _ [5, 6, 11, 12, 13, 14, 15, 16, 17, 18, 19, 20, 21] (by decide +kernel) (by decide +kernel)
set_option maxRecDepth 20000 in
theorem gX0_lowerBits_X0_atTop : GoodIn wsX0_lowerBits (wsV RX0 46 RX0 yX0_atTop wsX0_atTop) := goodIn_app (goodIn_of _ (by decide +kernel)) ggX0_lowerBits_X0_atTop
set_option maxRecDepth 20000 in
theorem ggX0_lowerBits_X0_fromTop : GoodIn wsX0_lowerBits wsX0_fromTop := goodIn_r _ [10, 6, 11, 12, 13, 14, 15, 16, 17, 18, 19, 20, 21] (by decide +kernel) (by decide +kernel)
set_option maxRecDepth 20000 in
theorem gX0_lowerBits_X0_fromTop : GoodIn wsX0_lowerBits (wsV RX0 116 RX0 yX0_fromTop wsX0_fromTop) := goodIn_app (goodIn_of _ (by decide +kernel)) ggX0_lowerBits_X0_fromTop
theorem dX0_lowerBits_0 : decode cX0_lowerBits 0 = .ok (.aload_n 0, 1) := by decide +kernel
theorem dX0_lowerBits_1 : decode cX0_lowerBits 1 = .ok (.aload_n 0, 1) := by decide +kernel
theorem dX0_lowerBits_2 : decode cX0_lowerBits 2 = .ok (.lload_n 1, 1) := by decide +kernel
theorem dX0_lowerBits_3 : decode cX0_lowerBits 3 = .ok (.invokevirtual 46, 3) := by decide +kernel
theorem dX0_lowerBits_6 : decode cX0_lowerBits 6 = .ok (.invokevirtual 116, 3) := by decide +kernel
theorem dX0_lowerBits_9 : decode cX0_lowerBits 9 = .ok (.lreturn, 1) := by decide +kernel
set_option maxRecDepth 20000 in
theorem ggX0_checkOf_X0_fromTop : GoodIn wsX0_checkOf wsX0_fromTop := goodIn_r _ [8, 2, 12, 13, 14, 15, 16, 17, 18, 19, 20, 21, 22] (by decide +kernel) (by decide +kernel)
set_option maxRecDepth 20000 in
theorem gX0_checkOf_X0_fromTop : GoodIn wsX0_checkOf (wsV RX0 116 RX0 yX0_fromTop wsX0_fromTop) := goodIn_app (goodIn_of _ (by decide +kernel)) ggX0_checkOf_X0_fromTop
set_option maxRecDepth 20000 in
theorem ggX0_checkOf_X0_turned : GoodIn wsX0_checkOf wsX0_turned := goodIn_r _ [11] (by decide +kernel) (by decide +kernel)
set_option maxRecDepth 20000 in
theorem gX0_checkOf_X0_turned : GoodIn wsX0_checkOf (va_wsS RX0 134 yX0_turned wsX0_turned) := goodIn_app (goodIn_of _ (by decide +kernel)) ggX0_checkOf_X0_turned
theorem dX0_checkOf_0 : decode cX0_checkOf 0 = .ok (.aload_n 0, 1) := by decide +kernel
theorem dX0_checkOf_1 : decode cX0_checkOf 1 = .ok (.lload_n 1, 1) := by decide +kernel
theorem dX0_checkOf_2 : decode cX0_checkOf 2 = .ok (.invokevirtual 116, 3) := by decide +kernel
theorem dX0_checkOf_5 : decode cX0_checkOf 5 = .ok (.lstore_n 3, 1) := by decide +kernel
theorem dX0_checkOf_6 : decode cX0_checkOf 6 = .ok (.aload_n 0, 1) := by decide +kernel
theorem dX0_checkOf_7 : decode cX0_checkOf 7 = .ok (.getfield 55, 3) := by decide +kernel
theorem dX0_checkOf_10 : decode cX0_checkOf 10 = .ok (.ifCond .eq 14, 3) := by decide +kernel
theorem dX0_checkOf_13 : decode cX0_checkOf 13 = .ok (.lload_n 3, 1) := by decide +kernel
theorem dX0_checkOf_14 : decode cX0_checkOf 14 = .ok (.aload_n 0, 1) := by decide +kernel
theorem dX0_checkOf_15 : decode cX0_checkOf 15 = .ok (.getfield 34, 3) := by decide +kernel
theorem dX0_checkOf_18 : decode cX0_checkOf 18 = .ok (.invokestatic 134, 3) := by decide +kernel
theorem dX0_checkOf_21 : decode cX0_checkOf 21 = .ok (.goto 4, 3) := by decide +kernel
theorem dX0_checkOf_24 : decode cX0_checkOf 24 = .ok (.lload_n 3, 1) := by decide +kernel
theorem dX0_checkOf_25 : decode cX0_checkOf 25 = .ok (.aload_n 0, 1) := by decide +kernel
theorem dX0_checkOf_26 : decode cX0_checkOf 26 = .ok (.getfield 58, 3) := by decide +kernel
theorem dX0_checkOf_29 : decode cX0_checkOf 29 = .ok (.lxor, 1) := by decide +kernel
theorem dX0_checkOf_30 : decode cX0_checkOf 30 = .ok (.lreturn, 1) := by decide +kernel
set_option maxRecDepth 20000 in
theorem ggX0_registerOf_X0_turned : GoodIn wsX0_registerOf wsX0_turned := goodIn_r _ [7] (by decide +kernel) (by decide +kernel)
set_option maxRecDepth 20000 in
theorem gX0_registerOf_X0_turned : GoodIn wsX0_registerOf (va_wsS RX0 134 yX0_turned wsX0_turned) := goodIn_app (goodIn_of _ (by decide +kernel)) ggX0_registerOf_X0_turned
set_option maxRecDepth 20000 in
theorem ggX0_registerOf_X0_atTop : GoodIn wsX0_registerOf wsX0_atTop := goodIn_r _ [11, 3, 12, 13, 14, 15, 16, 17, 18, 19, 20, 21, 22] (by decide +kernel) (by decide +kernel)
set_option maxRecDepth 20000 in
theorem gX0_registerOf_X0_atTop : GoodIn wsX0_registerOf (wsV RX0 46 RX0 yX0_atTop wsX0_atTop) := goodIn_app (goodIn_of _ (by decide +kernel)) ggX0_registerOf_X0_atTop
theorem dX0_registerOf_0 : decode cX0_registerOf 0 = .ok (.lload_n 1, 1) := by decide +kernel
theorem dX0_registerOf_1 : decode cX0_registerOf 1 = .ok (.aload_n 0, 1) := by decide +kernel
theorem dX0_registerOf_2 : decode cX0_registerOf 2 = .ok (.getfield 58, 3) := by decide +kernel
theorem dX0_registerOf_5 : decode cX0_registerOf 5 = .ok (.lxor, 1) := by decide +kernel
theorem dX0_registerOf_6 : decode cX0_registerOf 6 = .ok (.lstore_n 3, 1) := by decide +kernel
theorem dX0_registerOf_7 : decode cX0_registerOf 7 = .ok (.aload_n 0, 1) := by decide +kernel
theorem dX0_registerOf_8 : decode cX0_registerOf 8 = .ok (.aload_n 0, 1) := by decide +kernel
theorem dX0_registerOf_9 : decode cX0_registerOf 9 = .ok (.getfield 55, 3) := by decide +kernel
theorem dX0_registerOf_12 : decode cX0_registerOf 12 = .ok (.ifCond .eq 14, 3) := by decide +kernel
theorem dX0_registerOf_15 : decode cX0_registerOf 15 = .ok (.lload_n 3, 1) := by decide +kernel
theorem dX0_registerOf_16 : decode cX0_registerOf 16 = .ok (.aload_n 0, 1) := by decide +kernel
theorem dX0_registerOf_17 : decode cX0_registerOf 17 = .ok (.getfield 34, 3) := by decide +kernel
theorem dX0_registerOf_20 : decode cX0_registerOf 20 = .ok (.invokestatic 134, 3) := by decide +kernel
theorem dX0_registerOf_23 : decode cX0_registerOf 23 = .ok (.goto 4, 3) := by decide +kernel
theorem dX0_registerOf_26 : decode cX0_registerOf 26 = .ok (.lload_n 3, 1) := by decide +kernel
theorem dX0_registerOf_27 : decode cX0_registerOf 27 = .ok (.invokevirtual 46, 3) := by decide +kernel
theorem dX0_registerOf_30 : decode cX0_registerOf 30 = .ok (.lreturn, 1) := by decide +kernel
theorem dX0_turned_0 : decode cX0_turned 0 = .ok (.lconst 0, 1) := by decide +kernel
theorem dX0_turned_1 : decode cX0_turned 1 = .ok (.lstore_n 3, 1) := by decide +kernel
theorem dX0_turned_2 : decode cX0_turned 2 = .ok (.iconst 0, 1) := by decide +kernel
theorem dX0_turned_3 : decode cX0_turned 3 = .ok (.istore 5, 2) := by decide +kernel
theorem dX0_turned_5 : decode cX0_turned 5 = .ok (.iload 5, 2) := by decide +kernel
theorem dX0_turned_7 : decode cX0_turned 7 = .ok (.iload_n 2, 1) := by decide +kernel
theorem dX0_turned_8 : decode cX0_turned 8 = .ok (.if_icmp .ge 20, 3) := by decide +kernel
theorem dX0_turned_11 : decode cX0_turned 11 = .ok (.lload_n 3, 1) := by decide +kernel
theorem dX0_turned_12 : decode cX0_turned 12 = .ok (.iconst 1, 1) := by decide +kernel
theorem dX0_turned_13 : decode cX0_turned 13 = .ok (.lshl, 1) := by decide +kernel
theorem dX0_turned_14 : decode cX0_turned 14 = .ok (.lload_n 0, 1) := by decide +kernel
theorem dX0_turned_15 : decode cX0_turned 15 = .ok (.iload 5, 2) := by decide +kernel
theorem dX0_turned_17 : decode cX0_turned 17 = .ok (.lushr, 1) := by decide +kernel
theorem dX0_turned_18 : decode cX0_turned 18 = .ok (.lconst 1, 1) := by decide +kernel
theorem dX0_turned_19 : decode cX0_turned 19 = .ok (.land, 1) := by decide +kernel
theorem dX0_turned_20 : decode cX0_turned 20 = .ok (.lor, 1) := by decide +kernel
theorem dX0_turned_21 : decode cX0_turned 21 = .ok (.lstore_n 3, 1) := by decide +kernel
theorem dX0_turned_22 : decode cX0_turned 22 = .ok (.iinc 5 1, 3) := by decide +kernel
theorem dX0_turned_25 : decode cX0_turned 25 = .ok (.goto (-20), 3) := by decide +kernel
theorem dX0_turned_28 : decode cX0_turned 28 = .ok (.lload_n 3, 1) := by decide +kernel
theorem dX0_turned_29 : decode cX0_turned 29 = .ok (.lreturn, 1) := by decide +kernel
theorem dX0_behindBit_0 : decode cX0_behindBit 0 = .ok (.lload_n 1, 1) := by decide +kernel
theorem dX0_behindBit_1 : decode cX0_behindBit 1 = .ok (.iconst 1, 1) := by decide +kernel
theorem dX0_behindBit_2 : decode cX0_behindBit 2 = .ok (.lshl, 1) := by decide +kernel
theorem dX0_behindBit_3 : decode cX0_behindBit 3 = .ok (.lstore 4, 2) := by decide +kernel
theorem dX0_behindBit_5 : decode cX0_behindBit 5 = .ok (.lload_n 1, 1) := by decide +kernel
theorem dX0_behindBit_6 : decode cX0_behindBit 6 = .ok (.bipush 63, 2) := by decide +kernel
theorem dX0_behindBit_8 : decode cX0_behindBit 8 = .ok (.lushr, 1) := by decide +kernel
theorem dX0_behindBit_9 : decode cX0_behindBit 9 = .ok (.iload_n 3, 1) := by decide +kernel
theorem dX0_behindBit_10 : decode cX0_behindBit 10 = .ok (.i2l, 1) := by decide +kernel
theorem dX0_behindBit_11 : decode cX0_behindBit 11 = .ok (.lcmp, 1) := by decide +kernel
theorem dX0_behindBit_12 : decode cX0_behindBit 12 = .ok (.ifCond .eq 13, 3) := by decide +kernel
theorem dX0_behindBit_15 : decode cX0_behindBit 15 = .ok (.lload 4, 2) := by decide +kernel
theorem dX0_behindBit_17 : decode cX0_behindBit 17 = .ok (.aload_n 0, 1) := by decide +kernel
theorem dX0_behindBit_18 : decode cX0_behindBit 18 = .ok (.getfield 49, 3) := by decide +kernel
theorem dX0_behindBit_21 : decode cX0_behindBit 21 = .ok (.lxor, 1) := by decide +kernel
theorem dX0_behindBit_22 : decode cX0_behindBit 22 = .ok (.goto 5, 3) := by decide +kernel
theorem dX0_behindBit_25 : decode cX0_behindBit 25 = .ok (.lload 4, 2) := by decide +kernel
theorem dX0_behindBit_27 : decode cX0_behindBit 27 = .ok (.lreturn, 1) := by decide +kernel
set_option maxRecDepth 20000 in
theorem ggX0_behindByte_X0_behindBit : GoodIn wsX0_behindByte wsX0_behindBit := goodIn_r _ [5, 6, 7, 8, 9, 10, 11, 12, 13, 14, 15, 16, 17] (by decide +kernel) (by decide +kernel)
set_option maxRecDepth 20000 in
theorem gX0_behindByte_X0_behindBit : GoodIn wsX0_behindByte (wsV RX0 120 RX0 yX0_behindBit wsX0_behindBit) := goodIn_app (goodIn_of _ (by decide +kernel)) ggX0_behindByte_X0_behindBit
theorem dX0_behindByte_0 : decode cX0_behindByte 0 = .ok (.lload_n 1, 1) := by decide +kernel
theorem dX0_behindByte_1 : decode cX0_behindByte 1 = .ok (.lstore 4, 2) := by decide +kernel
theorem dX0_behindByte_3 : decode cX0_behindByte 3 = .ok (.bipush 7, 2) := by decide +kernel
theorem dX0_behindByte_5 : decode cX0_behindByte 5 = .ok (.istore 6, 2) := by decide +kernel
theorem dX0_behindByte_7 : decode cX0_behindByte 7 = .ok (.iload 6, 2) := by decide +kernel
theorem dX0_behindByte_9 : decode cX0_behindByte 9 = .ok (.ifCond .lt 23, 3) := by decide +kernel
theorem dX0_behindByte_12 : decode cX0_behindByte 12 = .ok (.aload_n 0, 1) := by decide +kernel
theorem dX0_behindByte_13 : decode cX0_behindByte 13 = .ok (.lload 4, 2) := by decide +kernel
theorem dX0_behindByte_15 : decode cX0_behindByte 15 = .ok (.iload_n 3, 1) := by decide +kernel
theorem dX0_behindByte_16 : decode cX0_behindByte 16 = .ok (.iload 6, 2) := by decide +kernel
theorem dX0_behindByte_18 : decode cX0_behindByte 18 = .ok (.iushr, 1) := by decide +kernel
theorem dX0_behindByte_19 : decode cX0_behindByte 19 = .ok (.iconst 1, 1) := by decide +kernel
theorem dX0_behindByte_20 : decode cX0_behindByte 20 = .ok (.iand, 1) := by decide +kernel
theorem dX0_behindByte_21 : decode cX0_behindByte 21 = .ok (.invokevirtual 120, 3) := by decide +kernel
theorem dX0_behindByte_24 : decode cX0_behindByte 24 = .ok (.lstore 4, 2) := by decide +kernel
theorem dX0_behindByte_26 : decode cX0_behindByte 26 = .ok (.iinc 6 (-1), 3) := by decide +kernel
theorem dX0_behindByte_29 : decode cX0_behindByte 29 = .ok (.goto (-22), 3) := by decide +kernel
theorem dX0_behindByte_32 : decode cX0_behindByte 32 = .ok (.lload 4, 2) := by decide +kernel
theorem dX0_behindByte_34 : decode cX0_behindByte 34 = .ok (.lreturn, 1) := by decide +kernel
theorem dX0_behindByteByTable_0 : decode cX0_behindByteByTable 0 = .ok (.lload_n 1, 1) := by decide +kernel
theorem dX0_behindByteByTable_1 : decode cX0_behindByteByTable 1 = .ok (.bipush 8, 2) := by decide +kernel
theorem dX0_behindByteByTable_3 : decode cX0_behindByteByTable 3 = .ok (.lshl, 1) := by decide +kernel
theorem dX0_behindByteByTable_4 : decode cX0_behindByteByTable 4 = .ok (.aload_n 0, 1) := by decide +kernel
theorem dX0_behindByteByTable_5 : decode cX0_behindByteByTable 5 = .ok (.getfield 16, 3) := by decide +kernel
theorem dX0_behindByteByTable_8 : decode cX0_behindByteByTable 8 = .ok (.lload_n 1, 1) := by decide +kernel
theorem dX0_behindByteByTable_9 : decode cX0_behindByteByTable 9 = .ok (.bipush 56, 2) := by decide +kernel
theorem dX0_behindByteByTable_11 : decode cX0_behindByteByTable 11 = .ok (.lushr, 1) := by decide +kernel
theorem dX0_behindByteByTable_12 : decode cX0_behindByteByTable 12 = .ok (.l2i, 1) := by decide +kernel
theorem dX0_behindByteByTable_13 : decode cX0_behindByteByTable 13 = .ok (.iload_n 3, 1) := by decide +kernel
theorem dX0_behindByteByTable_14 : decode cX0_behindByteByTable 14 = .ok (.ixor, 1) := by decide +kernel
theorem dX0_behindByteByTable_15 : decode cX0_behindByteByTable 15 = .ok (.laload, 1) := by decide +kernel
theorem dX0_behindByteByTable_16 : decode cX0_behindByteByTable 16 = .ok (.lxor, 1) := by decide +kernel
theorem dX0_behindByteByTable_17 : decode cX0_behindByteByTable 17 = .ok (.lreturn, 1) := by decide +kernel
theorem dX0_behindWordByTables_0 : decode cX0_behindWordByTables 0 = .ok (.lload_n 1, 1) := by decide +kernel
theorem dX0_behindWordByTables_1 : decode cX0_behindWordByTables 1 = .ok (.lload_n 3, 1) := by decide +kernel
theorem dX0_behindWordByTables_2 : decode cX0_behindWordByTables 2 = .ok (.lxor, 1) := by decide +kernel
theorem dX0_behindWordByTables_3 : decode cX0_behindWordByTables 3 = .ok (.lstore 5, 2) := by decide +kernel
theorem dX0_behindWordByTables_5 : decode cX0_behindWordByTables 5 = .ok (.lconst 0, 1) := by decide +kernel
theorem dX0_behindWordByTables_6 : decode cX0_behindWordByTables 6 = .ok (.lstore 7, 2) := by decide +kernel
theorem dX0_behindWordByTables_8 : decode cX0_behindWordByTables 8 = .ok (.iconst 0, 1) := by decide +kernel
theorem dX0_behindWordByTables_9 : decode cX0_behindWordByTables 9 = .ok (.istore 9, 2) := by decide +kernel
theorem dX0_behindWordByTables_11 : decode cX0_behindWordByTables 11 = .ok (.iload 9, 2) := by decide +kernel
theorem dX0_behindWordByTables_13 : decode cX0_behindWordByTables 13 = .ok (.bipush 8, 2) := by decide +kernel
theorem dX0_behindWordByTables_15 : decode cX0_behindWordByTables 15 = .ok (.if_icmp .ge 40, 3) := by decide +kernel
theorem dX0_behindWordByTables_18 : decode cX0_behindWordByTables 18 = .ok (.lload 7, 2) := by decide +kernel
theorem dX0_behindWordByTables_20 : decode cX0_behindWordByTables 20 = .ok (.aload_n 0, 1) := by decide +kernel
theorem dX0_behindWordByTables_21 : decode cX0_behindWordByTables 21 = .ok (.getfield 16, 3) := by decide +kernel
theorem dX0_behindWordByTables_24 : decode cX0_behindWordByTables 24 = .ok (.iload 9, 2) := by decide +kernel
theorem dX0_behindWordByTables_26 : decode cX0_behindWordByTables 26 = .ok (.sipush 256, 3) := by decide +kernel
theorem dX0_behindWordByTables_29 : decode cX0_behindWordByTables 29 = .ok (.imul, 1) := by decide +kernel
theorem dX0_behindWordByTables_30 : decode cX0_behindWordByTables 30 = .ok (.lload 5, 2) := by decide +kernel
theorem dX0_behindWordByTables_32 : decode cX0_behindWordByTables 32 = .ok (.ldc2_w 137, 3) := by decide +kernel
theorem dX0_behindWordByTables_35 : decode cX0_behindWordByTables 35 = .ok (.land, 1) := by decide +kernel
theorem dX0_behindWordByTables_36 : decode cX0_behindWordByTables 36 = .ok (.l2i, 1) := by decide +kernel
theorem dX0_behindWordByTables_37 : decode cX0_behindWordByTables 37 = .ok (.iadd, 1) := by decide +kernel
theorem dX0_behindWordByTables_38 : decode cX0_behindWordByTables 38 = .ok (.laload, 1) := by decide +kernel
theorem dX0_behindWordByTables_39 : decode cX0_behindWordByTables 39 = .ok (.lxor, 1) := by decide +kernel
theorem dX0_behindWordByTables_40 : decode cX0_behindWordByTables 40 = .ok (.lstore 7, 2) := by decide +kernel
theorem dX0_behindWordByTables_42 : decode cX0_behindWordByTables 42 = .ok (.lload 5, 2) := by decide +kernel
theorem dX0_behindWordByTables_44 : decode cX0_behindWordByTables 44 = .ok (.bipush 8, 2) := by decide +kernel
theorem dX0_behindWordByTables_46 : decode cX0_behindWordByTables 46 = .ok (.lushr, 1) := by decide +kernel
theorem dX0_behindWordByTables_47 : decode cX0_behindWordByTables 47 = .ok (.lstore 5, 2) := by decide +kernel
theorem dX0_behindWordByTables_49 : decode cX0_behindWordByTables 49 = .ok (.iinc 9 1, 3) := by decide +kernel
theorem dX0_behindWordByTables_52 : decode cX0_behindWordByTables 52 = .ok (.goto (-41), 3) := by decide +kernel
theorem dX0_behindWordByTables_55 : decode cX0_behindWordByTables 55 = .ok (.lload 7, 2) := by decide +kernel
theorem dX0_behindWordByTables_57 : decode cX0_behindWordByTables 57 = .ok (.lreturn, 1) := by decide +kernel
set_option maxRecDepth 20000 in
theorem ggX0_fillSlices_X0_behindByte : GoodIn wsX0_fillSlices wsX0_behindByte := goodIn_r _ [6, 7, 8, 9, 5, 10, 11, 16, 17, 18, 19, 20, 21, 22, 23, 24, 25, 26] (by decide +kernel) (by decide +kernel)
set_option maxRecDepth 20000 in
theorem gX0_fillSlices_X0_behindByte : GoodIn wsX0_fillSlices (wsV RX0 139 RX0 yX0_behindByte wsX0_behindByte) := goodIn_app (goodIn_of _ (by decide +kernel)) ggX0_fillSlices_X0_behindByte
set_option maxRecDepth 20000 in
theorem ggX0_fillSlices_X0_behindByteByTable : GoodIn wsX0_fillSlices wsX0_behindByteByTable := goodIn_r _ [15, 1, 16, 17, 18, 19, 20, 21, 22, 23, 24, 25, 26] (by decide +kernel) (by decide +kernel)
set_option maxRecDepth 20000 in
theorem gX0_fillSlices_X0_behindByteByTable : GoodIn wsX0_fillSlices (wsV RX0 142 RX0 yX0_behindByteByTable wsX0_behindByteByTable) := goodIn_app (goodIn_of _ (by decide +kernel)) ggX0_fillSlices_X0_behindByteByTable
theorem dX0_fillSlices_0 : decode cX0_fillSlices 0 = .ok (.iconst 0, 1) := by decide +kernel
theorem dX0_fillSlices_1 : decode cX0_fillSlices 1 = .ok (.istore_n 1, 1) := by decide +kernel
theorem dX0_fillSlices_2 : decode cX0_fillSlices 2 = .ok (.iload_n 1, 1) := by decide +kernel
theorem dX0_fillSlices_3 : decode cX0_fillSlices 3 = .ok (.sipush 256, 3) := by decide +kernel
theorem dX0_fillSlices_6 : decode cX0_fillSlices 6 = .ok (.if_icmp .ge 21, 3) := by decide +kernel
theorem dX0_fillSlices_9 : decode cX0_fillSlices 9 = .ok (.aload_n 0, 1) := by decide +kernel
theorem dX0_fillSlices_10 : decode cX0_fillSlices 10 = .ok (.getfield 16, 3) := by decide +kernel
theorem dX0_fillSlices_13 : decode cX0_fillSlices 13 = .ok (.iload_n 1, 1) := by decide +kernel
theorem dX0_fillSlices_14 : decode cX0_fillSlices 14 = .ok (.aload_n 0, 1) := by decide +kernel
theorem dX0_fillSlices_15 : decode cX0_fillSlices 15 = .ok (.lconst 0, 1) := by decide +kernel
theorem dX0_fillSlices_16 : decode cX0_fillSlices 16 = .ok (.iload_n 1, 1) := by decide +kernel
theorem dX0_fillSlices_17 : decode cX0_fillSlices 17 = .ok (.invokevirtual 139, 3) := by decide +kernel
theorem dX0_fillSlices_20 : decode cX0_fillSlices 20 = .ok (.lastore, 1) := by decide +kernel
theorem dX0_fillSlices_21 : decode cX0_fillSlices 21 = .ok (.iinc 1 1, 3) := by decide +kernel
theorem dX0_fillSlices_24 : decode cX0_fillSlices 24 = .ok (.goto (-22), 3) := by decide +kernel
theorem dX0_fillSlices_27 : decode cX0_fillSlices 27 = .ok (.sipush 256, 3) := by decide +kernel
theorem dX0_fillSlices_30 : decode cX0_fillSlices 30 = .ok (.istore_n 1, 1) := by decide +kernel
theorem dX0_fillSlices_31 : decode cX0_fillSlices 31 = .ok (.iload_n 1, 1) := by decide +kernel
theorem dX0_fillSlices_32 : decode cX0_fillSlices 32 = .ok (.aload_n 0, 1) := by decide +kernel
theorem dX0_fillSlices_33 : decode cX0_fillSlices 33 = .ok (.getfield 16, 3) := by decide +kernel
theorem dX0_fillSlices_36 : decode cX0_fillSlices 36 = .ok (.arraylength, 1) := by decide +kernel
theorem dX0_fillSlices_37 : decode cX0_fillSlices 37 = .ok (.if_icmp .ge 30, 3) := by decide +kernel
theorem dX0_fillSlices_40 : decode cX0_fillSlices 40 = .ok (.aload_n 0, 1) := by decide +kernel
theorem dX0_fillSlices_41 : decode cX0_fillSlices 41 = .ok (.getfield 16, 3) := by decide +kernel
theorem dX0_fillSlices_44 : decode cX0_fillSlices 44 = .ok (.iload_n 1, 1) := by decide +kernel
theorem dX0_fillSlices_45 : decode cX0_fillSlices 45 = .ok (.aload_n 0, 1) := by decide +kernel
theorem dX0_fillSlices_46 : decode cX0_fillSlices 46 = .ok (.aload_n 0, 1) := by decide +kernel
theorem dX0_fillSlices_47 : decode cX0_fillSlices 47 = .ok (.getfield 16, 3) := by decide +kernel
theorem dX0_fillSlices_50 : decode cX0_fillSlices 50 = .ok (.iload_n 1, 1) := by decide +kernel
theorem dX0_fillSlices_51 : decode cX0_fillSlices 51 = .ok (.sipush 256, 3) := by decide +kernel
theorem dX0_fillSlices_54 : decode cX0_fillSlices 54 = .ok (.isub, 1) := by decide +kernel
theorem dX0_fillSlices_55 : decode cX0_fillSlices 55 = .ok (.laload, 1) := by decide +kernel
theorem dX0_fillSlices_56 : decode cX0_fillSlices 56 = .ok (.iconst 0, 1) := by decide +kernel
theorem dX0_fillSlices_57 : decode cX0_fillSlices 57 = .ok (.invokevirtual 142, 3) := by decide +kernel
theorem dX0_fillSlices_60 : decode cX0_fillSlices 60 = .ok (.lastore, 1) := by decide +kernel
theorem dX0_fillSlices_61 : decode cX0_fillSlices 61 = .ok (.iinc 1 1, 3) := by decide +kernel
theorem dX0_fillSlices_64 : decode cX0_fillSlices 64 = .ok (.goto (-33), 3) := by decide +kernel
theorem dX0_fillSlices_67 : decode cX0_fillSlices 67 = .ok (.return_, 1) := by decide +kernel
set_option maxRecDepth 20000 in
theorem ggX0_behindZeros_X0_atTop : GoodIn wsX0_behindZeros wsX0_atTop := goodIn_r _ [5, 6, 16, 17, 18, 19, 20, 21, 22, 23, 24, 25, 26] (by decide +kernel) (by decide +kernel)
set_option maxRecDepth 20000 in
theorem gX0_behindZeros_X0_atTop : GoodIn wsX0_behindZeros (wsV RX0 46 RX0 yX0_atTop wsX0_atTop) := goodIn_app (goodIn_of _ (by decide +kernel)) ggX0_behindZeros_X0_atTop
set_option maxRecDepth 20000 in
theorem ggX0_behindZeros_X0_behindBit : GoodIn wsX0_behindZeros wsX0_behindBit := goodIn_r _ [10, 11, 16, 17, 18, 19, 20, 21, 22, 23, 24, 25, 26] (by decide +kernel) (by decide +kernel)
set_option maxRecDepth 20000 in
theorem gX0_behindZeros_X0_behindBit : GoodIn wsX0_behindZeros (wsV RX0 120 RX0 yX0_behindBit wsX0_behindBit) := goodIn_app (goodIn_of _ (by decide +kernel)) ggX0_behindZeros_X0_behindBit
set_option maxRecDepth 20000 in
theorem ggX0_behindZeros_X0_product : GoodIn wsX0_behindZeros wsX0_product := goodIn_r _ [15, 6, 7, 8, 9, 4, 10, 11, 16, 17, 18, 19, 20, 21, 22, 23, 24, 25, 26] (by decide +kernel) (by decide +kernel)
set_option maxRecDepth 20000 in
theorem gX0_behindZeros_X0_product : GoodIn wsX0_behindZeros (wsV RX0 145 RX0 yX0_product wsX0_product) := goodIn_app (goodIn_of _ (by decide +kernel)) ggX0_behindZeros_X0_product
theorem dX0_behindZeros_0 : decode cX0_behindZeros 0 = .ok (.lload_n 1, 1) := by decide +kernel
theorem dX0_behindZeros_1 : decode cX0_behindZeros 1 = .ok (.lstore 5, 2) := by decide +kernel
theorem dX0_behindZeros_3 : decode cX0_behindZeros 3 = .ok (.aload_n 0, 1) := by decide +kernel
theorem dX0_behindZeros_4 : decode cX0_behindZeros 4 = .ok (.aload_n 0, 1) := by decide +kernel
theorem dX0_behindZeros_5 : decode cX0_behindZeros 5 = .ok (.lconst 1, 1) := by decide +kernel
theorem dX0_behindZeros_6 : decode cX0_behindZeros 6 = .ok (.invokevirtual 46, 3) := by decide +kernel
theorem dX0_behindZeros_9 : decode cX0_behindZeros 9 = .ok (.iconst 0, 1) := by decide +kernel
theorem dX0_behindZeros_10 : decode cX0_behindZeros 10 = .ok (.invokevirtual 120, 3) := by decide +kernel
theorem dX0_behindZeros_13 : decode cX0_behindZeros 13 = .ok (.lstore 7, 2) := by decide +kernel
theorem dX0_behindZeros_15 : decode cX0_behindZeros 15 = .ok (.iconst 0, 1) := by decide +kernel
theorem dX0_behindZeros_16 : decode cX0_behindZeros 16 = .ok (.istore 9, 2) := by decide +kernel
theorem dX0_behindZeros_18 : decode cX0_behindZeros 18 = .ok (.iload 9, 2) := by decide +kernel
theorem dX0_behindZeros_20 : decode cX0_behindZeros 20 = .ok (.bipush 34, 2) := by decide +kernel
theorem dX0_behindZeros_22 : decode cX0_behindZeros 22 = .ok (.if_icmp .ge 49, 3) := by decide +kernel
theorem dX0_behindZeros_25 : decode cX0_behindZeros 25 = .ok (.lload_n 3, 1) := by decide +kernel
theorem dX0_behindZeros_26 : decode cX0_behindZeros 26 = .ok (.iload 9, 2) := by decide +kernel
theorem dX0_behindZeros_28 : decode cX0_behindZeros 28 = .ok (.lushr, 1) := by decide +kernel
theorem dX0_behindZeros_29 : decode cX0_behindZeros 29 = .ok (.lconst 0, 1) := by decide +kernel
theorem dX0_behindZeros_30 : decode cX0_behindZeros 30 = .ok (.lcmp, 1) := by decide +kernel
theorem dX0_behindZeros_31 : decode cX0_behindZeros 31 = .ok (.ifCond .eq 40, 3) := by decide +kernel
theorem dX0_behindZeros_34 : decode cX0_behindZeros 34 = .ok (.lload_n 3, 1) := by decide +kernel
theorem dX0_behindZeros_35 : decode cX0_behindZeros 35 = .ok (.iload 9, 2) := by decide +kernel
theorem dX0_behindZeros_37 : decode cX0_behindZeros 37 = .ok (.lushr, 1) := by decide +kernel
theorem dX0_behindZeros_38 : decode cX0_behindZeros 38 = .ok (.lconst 1, 1) := by decide +kernel
theorem dX0_behindZeros_39 : decode cX0_behindZeros 39 = .ok (.land, 1) := by decide +kernel
theorem dX0_behindZeros_40 : decode cX0_behindZeros 40 = .ok (.lconst 1, 1) := by decide +kernel
theorem dX0_behindZeros_41 : decode cX0_behindZeros 41 = .ok (.lcmp, 1) := by decide +kernel
theorem dX0_behindZeros_42 : decode cX0_behindZeros 42 = .ok (.ifCond .ne 13, 3) := by decide +kernel
theorem dX0_behindZeros_45 : decode cX0_behindZeros 45 = .ok (.aload_n 0, 1) := by decide +kernel
theorem dX0_behindZeros_46 : decode cX0_behindZeros 46 = .ok (.lload 5, 2) := by decide +kernel
theorem dX0_behindZeros_48 : decode cX0_behindZeros 48 = .ok (.lload 7, 2) := by decide +kernel
theorem dX0_behindZeros_50 : decode cX0_behindZeros 50 = .ok (.invokevirtual 145, 3) := by decide +kernel
theorem dX0_behindZeros_53 : decode cX0_behindZeros 53 = .ok (.lstore 5, 2) := by decide +kernel
theorem dX0_behindZeros_55 : decode cX0_behindZeros 55 = .ok (.aload_n 0, 1) := by decide +kernel
theorem dX0_behindZeros_56 : decode cX0_behindZeros 56 = .ok (.lload 7, 2) := by decide +kernel
theorem dX0_behindZeros_58 : decode cX0_behindZeros 58 = .ok (.lload 7, 2) := by decide +kernel
theorem dX0_behindZeros_60 : decode cX0_behindZeros 60 = .ok (.invokevirtual 145, 3) := by decide +kernel
theorem dX0_behindZeros_63 : decode cX0_behindZeros 63 = .ok (.lstore 7, 2) := by decide +kernel
theorem dX0_behindZeros_65 : decode cX0_behindZeros 65 = .ok (.iinc 9 1, 3) := by decide +kernel
theorem dX0_behindZeros_68 : decode cX0_behindZeros 68 = .ok (.goto (-50), 3) := by decide +kernel
theorem dX0_behindZeros_71 : decode cX0_behindZeros 71 = .ok (.lload 5, 2) := by decide +kernel
theorem dX0_behindZeros_73 : decode cX0_behindZeros 73 = .ok (.lreturn, 1) := by decide +kernel
set_option maxRecDepth 20000 in
theorem ggX0_product_X0_behindBit : GoodIn wsX0_product wsX0_behindBit := goodIn_r _ [6, 7, 8, 9, 10, 11, 12, 13, 14, 15, 16, 17, 18] (by decide +kernel) (by decide +kernel)
set_option maxRecDepth 20000 in
theorem gX0_product_X0_behindBit : GoodIn wsX0_product (wsV RX0 120 RX0 yX0_behindBit wsX0_behindBit) := goodIn_app (goodIn_of _ (by decide +kernel)) ggX0_product_X0_behindBit
theorem dX0_product_0 : decode cX0_product 0 = .ok (.lconst 0, 1) := by decide +kernel
theorem dX0_product_1 : decode cX0_product 1 = .ok (.lstore 5, 2) := by decide +kernel
theorem dX0_product_3 : decode cX0_product 3 = .ok (.iconst 0, 1) := by decide +kernel
theorem dX0_product_4 : decode cX0_product 4 = .ok (.istore 7, 2) := by decide +kernel
theorem dX0_product_6 : decode cX0_product 6 = .ok (.iload 7, 2) := by decide +kernel
theorem dX0_product_8 : decode cX0_product 8 = .ok (.aload_n 0, 1) := by decide +kernel
theorem dX0_product_9 : decode cX0_product 9 = .ok (.getfield 34, 3) := by decide +kernel
theorem dX0_product_12 : decode cX0_product 12 = .ok (.if_icmp .ge 33, 3) := by decide +kernel
theorem dX0_product_15 : decode cX0_product 15 = .ok (.aload_n 0, 1) := by decide +kernel
theorem dX0_product_16 : decode cX0_product 16 = .ok (.lload 5, 2) := by decide +kernel
theorem dX0_product_18 : decode cX0_product 18 = .ok (.iconst 0, 1) := by decide +kernel
theorem dX0_product_19 : decode cX0_product 19 = .ok (.invokevirtual 120, 3) := by decide +kernel
theorem dX0_product_22 : decode cX0_product 22 = .ok (.lstore 5, 2) := by decide +kernel
theorem dX0_product_24 : decode cX0_product 24 = .ok (.lload_n 1, 1) := by decide +kernel
theorem dX0_product_25 : decode cX0_product 25 = .ok (.iload 7, 2) := by decide +kernel
theorem dX0_product_27 : decode cX0_product 27 = .ok (.lshl, 1) := by decide +kernel
theorem dX0_product_28 : decode cX0_product 28 = .ok (.lconst 0, 1) := by decide +kernel
theorem dX0_product_29 : decode cX0_product 29 = .ok (.lcmp, 1) := by decide +kernel
theorem dX0_product_30 : decode cX0_product 30 = .ok (.ifCond .ge 9, 3) := by decide +kernel
theorem dX0_product_33 : decode cX0_product 33 = .ok (.lload 5, 2) := by decide +kernel
theorem dX0_product_35 : decode cX0_product 35 = .ok (.lload_n 3, 1) := by decide +kernel
theorem dX0_product_36 : decode cX0_product 36 = .ok (.lxor, 1) := by decide +kernel
theorem dX0_product_37 : decode cX0_product 37 = .ok (.lstore 5, 2) := by decide +kernel
theorem dX0_product_39 : decode cX0_product 39 = .ok (.iinc 7 1, 3) := by decide +kernel
theorem dX0_product_42 : decode cX0_product 42 = .ok (.goto (-36), 3) := by decide +kernel
theorem dX0_product_45 : decode cX0_product 45 = .ok (.lload 5, 2) := by decide +kernel
theorem dX0_product_47 : decode cX0_product 47 = .ok (.lreturn, 1) := by decide +kernel
theorem dX0_isByte_0 : decode cX0_isByte 0 = .ok (.iload_n 0, 1) := by decide +kernel
theorem dX0_isByte_1 : decode cX0_isByte 1 = .ok (.ifCond .lt 14, 3) := by decide +kernel
theorem dX0_isByte_4 : decode cX0_isByte 4 = .ok (.iload_n 0, 1) := by decide +kernel
theorem dX0_isByte_5 : decode cX0_isByte 5 = .ok (.sipush 256, 3) := by decide +kernel
theorem dX0_isByte_8 : decode cX0_isByte 8 = .ok (.if_icmp .ge 7, 3) := by decide +kernel
theorem dX0_isByte_11 : decode cX0_isByte 11 = .ok (.iconst 1, 1) := by decide +kernel
theorem dX0_isByte_12 : decode cX0_isByte 12 = .ok (.goto 4, 3) := by decide +kernel
theorem dX0_isByte_15 : decode cX0_isByte 15 = .ok (.iconst 0, 1) := by decide +kernel
theorem dX0_isByte_16 : decode cX0_isByte 16 = .ok (.ireturn, 1) := by decide +kernel
set_option maxRecDepth 20000 in
theorem ggX0_asItComes_X0_turned : GoodIn wsX0_asItComes wsX0_turned := goodIn_r _ [5] (by decide +kernel) (by decide +kernel)
set_option maxRecDepth 20000 in
theorem gX0_asItComes_X0_turned : GoodIn wsX0_asItComes (va_wsS RX0 134 yX0_turned wsX0_turned) := goodIn_app (goodIn_of _ (by decide +kernel)) ggX0_asItComes_X0_turned
theorem dX0_asItComes_0 : decode cX0_asItComes 0 = .ok (.aload_n 0, 1) := by decide +kernel
theorem dX0_asItComes_1 : decode cX0_asItComes 1 = .ok (.getfield 27, 3) := by decide +kernel
theorem dX0_asItComes_4 : decode cX0_asItComes 4 = .ok (.ifCond .eq 13, 3) := by decide +kernel
theorem dX0_asItComes_7 : decode cX0_asItComes 7 = .ok (.iload_n 1, 1) := by decide +kernel
theorem dX0_asItComes_8 : decode cX0_asItComes 8 = .ok (.i2l, 1) := by decide +kernel
theorem dX0_asItComes_9 : decode cX0_asItComes 9 = .ok (.bipush 8, 2) := by decide +kernel
theorem dX0_asItComes_11 : decode cX0_asItComes 11 = .ok (.invokestatic 134, 3) := by decide +kernel
theorem dX0_asItComes_14 : decode cX0_asItComes 14 = .ok (.goto 5, 3) := by decide +kernel
theorem dX0_asItComes_17 : decode cX0_asItComes 17 = .ok (.iload_n 1, 1) := by decide +kernel
theorem dX0_asItComes_18 : decode cX0_asItComes 18 = .ok (.i2l, 1) := by decide +kernel
theorem dX0_asItComes_19 : decode cX0_asItComes 19 = .ok (.lreturn, 1) := by decide +kernel
theorem dX0_bitsOfRow_0 : decode cX0_bitsOfRow 0 = .ok (.aload_n 0, 1) := by decide +kernel
theorem dX0_bitsOfRow_1 : decode cX0_bitsOfRow 1 = .ok (.getfield 68, 3) := by decide +kernel
theorem dX0_bitsOfRow_4 : decode cX0_bitsOfRow 4 = .ok (.bipush 8, 2) := by decide +kernel
theorem dX0_bitsOfRow_6 : decode cX0_bitsOfRow 6 = .ok (.imul, 1) := by decide +kernel
theorem dX0_bitsOfRow_7 : decode cX0_bitsOfRow 7 = .ok (.ireturn, 1) := by decide +kernel
theorem dX0_shiftOfByte_0 : decode cX0_shiftOfByte 0 = .ok (.bipush 56, 2) := by decide +kernel
theorem dX0_shiftOfByte_2 : decode cX0_shiftOfByte 2 = .ok (.iload_n 0, 1) := by decide +kernel
theorem dX0_shiftOfByte_3 : decode cX0_shiftOfByte 3 = .ok (.bipush 8, 2) := by decide +kernel
theorem dX0_shiftOfByte_5 : decode cX0_shiftOfByte 5 = .ok (.irem, 1) := by decide +kernel
theorem dX0_shiftOfByte_6 : decode cX0_shiftOfByte 6 = .ok (.bipush 8, 2) := by decide +kernel
theorem dX0_shiftOfByte_8 : decode cX0_shiftOfByte 8 = .ok (.imul, 1) := by decide +kernel
theorem dX0_shiftOfByte_9 : decode cX0_shiftOfByte 9 = .ok (.isub, 1) := by decide +kernel
theorem dX0_shiftOfByte_10 : decode cX0_shiftOfByte 10 = .ok (.ireturn, 1) := by decide +kernel
set_option maxRecDepth 20000 in
theorem ggX0_byteAt_X0_shiftOfByte : GoodIn wsX0_byteAt wsX0_shiftOfByte := goodIn_r _ [5] (by decide +kernel) (by decide +kernel)
set_option maxRecDepth 20000 in
theorem gX0_byteAt_X0_shiftOfByte : GoodIn wsX0_byteAt (va_wsS RX0 75 yX0_shiftOfByte wsX0_shiftOfByte) := goodIn_app (goodIn_of _ (by decide +kernel)) ggX0_byteAt_X0_shiftOfByte
theorem dX0_byteAt_0 : decode cX0_byteAt 0 = .ok (.aload_n 0, 1) := by decide +kernel
theorem dX0_byteAt_1 : decode cX0_byteAt 1 = .ok (.getfield 9, 3) := by decide +kernel
theorem dX0_byteAt_4 : decode cX0_byteAt 4 = .ok (.iload_n 1, 1) := by decide +kernel
theorem dX0_byteAt_5 : decode cX0_byteAt 5 = .ok (.bipush 8, 2) := by decide +kernel
theorem dX0_byteAt_7 : decode cX0_byteAt 7 = .ok (.idiv, 1) := by decide +kernel
theorem dX0_byteAt_8 : decode cX0_byteAt 8 = .ok (.laload, 1) := by decide +kernel
theorem dX0_byteAt_9 : decode cX0_byteAt 9 = .ok (.iload_n 1, 1) := by decide +kernel
theorem dX0_byteAt_10 : decode cX0_byteAt 10 = .ok (.invokestatic 75, 3) := by decide +kernel
theorem dX0_byteAt_13 : decode cX0_byteAt 13 = .ok (.lushr, 1) := by decide +kernel
theorem dX0_byteAt_14 : decode cX0_byteAt 14 = .ok (.l2i, 1) := by decide +kernel
theorem dX0_byteAt_15 : decode cX0_byteAt 15 = .ok (.sipush 255, 3) := by decide +kernel
theorem dX0_byteAt_18 : decode cX0_byteAt 18 = .ok (.iand, 1) := by decide +kernel
theorem dX0_byteAt_19 : decode cX0_byteAt 19 = .ok (.ireturn, 1) := by decide +kernel
set_option maxRecDepth 20000 in
theorem ggX0_turnBytesOfRow_X0_bytesTurned : GoodIn wsX0_turnBytesOfRow wsX0_bytesTurned := goodIn_r _ [6, 7, 8, 9] (by decide +kernel) (by decide +kernel)
set_option maxRecDepth 20000 in
theorem gX0_turnBytesOfRow_X0_bytesTurned : GoodIn wsX0_turnBytesOfRow (va_wsS RX0 148 yX0_bytesTurned wsX0_bytesTurned) := goodIn_app (goodIn_of _ (by decide +kernel)) ggX0_turnBytesOfRow_X0_bytesTurned
theorem dX0_turnBytesOfRow_0 : decode cX0_turnBytesOfRow 0 = .ok (.aload_n 0, 1) := by decide +kernel
theorem dX0_turnBytesOfRow_1 : decode cX0_turnBytesOfRow 1 = .ok (.getfield 68, 3) := by decide +kernel
theorem dX0_turnBytesOfRow_4 : decode cX0_turnBytesOfRow 4 = .ok (.bipush 8, 2) := by decide +kernel
theorem dX0_turnBytesOfRow_6 : decode cX0_turnBytesOfRow 6 = .ok (.iadd, 1) := by decide +kernel
theorem dX0_turnBytesOfRow_7 : decode cX0_turnBytesOfRow 7 = .ok (.iconst 1, 1) := by decide +kernel
theorem dX0_turnBytesOfRow_8 : decode cX0_turnBytesOfRow 8 = .ok (.isub, 1) := by decide +kernel
theorem dX0_turnBytesOfRow_9 : decode cX0_turnBytesOfRow 9 = .ok (.bipush 8, 2) := by decide +kernel
theorem dX0_turnBytesOfRow_11 : decode cX0_turnBytesOfRow 11 = .ok (.idiv, 1) := by decide +kernel
theorem dX0_turnBytesOfRow_12 : decode cX0_turnBytesOfRow 12 = .ok (.istore_n 1, 1) := by decide +kernel
theorem dX0_turnBytesOfRow_13 : decode cX0_turnBytesOfRow 13 = .ok (.iconst 0, 1) := by decide +kernel
theorem dX0_turnBytesOfRow_14 : decode cX0_turnBytesOfRow 14 = .ok (.istore_n 2, 1) := by decide +kernel
theorem dX0_turnBytesOfRow_15 : decode cX0_turnBytesOfRow 15 = .ok (.iload_n 2, 1) := by decide +kernel
theorem dX0_turnBytesOfRow_16 : decode cX0_turnBytesOfRow 16 = .ok (.iload_n 1, 1) := by decide +kernel
theorem dX0_turnBytesOfRow_17 : decode cX0_turnBytesOfRow 17 = .ok (.if_icmp .ge 24, 3) := by decide +kernel
theorem dX0_turnBytesOfRow_20 : decode cX0_turnBytesOfRow 20 = .ok (.aload_n 0, 1) := by decide +kernel
theorem dX0_turnBytesOfRow_21 : decode cX0_turnBytesOfRow 21 = .ok (.getfield 9, 3) := by decide +kernel
theorem dX0_turnBytesOfRow_24 : decode cX0_turnBytesOfRow 24 = .ok (.iload_n 2, 1) := by decide +kernel
theorem dX0_turnBytesOfRow_25 : decode cX0_turnBytesOfRow 25 = .ok (.aload_n 0, 1) := by decide +kernel
theorem dX0_turnBytesOfRow_26 : decode cX0_turnBytesOfRow 26 = .ok (.getfield 9, 3) := by decide +kernel
theorem dX0_turnBytesOfRow_29 : decode cX0_turnBytesOfRow 29 = .ok (.iload_n 2, 1) := by decide +kernel
theorem dX0_turnBytesOfRow_30 : decode cX0_turnBytesOfRow 30 = .ok (.laload, 1) := by decide +kernel
theorem dX0_turnBytesOfRow_31 : decode cX0_turnBytesOfRow 31 = .ok (.invokestatic 148, 3) := by decide +kernel
theorem dX0_turnBytesOfRow_34 : decode cX0_turnBytesOfRow 34 = .ok (.lastore, 1) := by decide +kernel
theorem dX0_turnBytesOfRow_35 : decode cX0_turnBytesOfRow 35 = .ok (.iinc 2 1, 3) := by decide +kernel
theorem dX0_turnBytesOfRow_38 : decode cX0_turnBytesOfRow 38 = .ok (.goto (-23), 3) := by decide +kernel
theorem dX0_turnBytesOfRow_41 : decode cX0_turnBytesOfRow 41 = .ok (.return_, 1) := by decide +kernel
theorem dX0_bytesTurned_0 : decode cX0_bytesTurned 0 = .ok (.lload_n 0, 1) := by decide +kernel
theorem dX0_bytesTurned_1 : decode cX0_bytesTurned 1 = .ok (.ldc2_w 151, 3) := by decide +kernel
theorem dX0_bytesTurned_4 : decode cX0_bytesTurned 4 = .ok (.land, 1) := by decide +kernel
theorem dX0_bytesTurned_5 : decode cX0_bytesTurned 5 = .ok (.iconst 4, 1) := by decide +kernel
theorem dX0_bytesTurned_6 : decode cX0_bytesTurned 6 = .ok (.lshl, 1) := by decide +kernel
theorem dX0_bytesTurned_7 : decode cX0_bytesTurned 7 = .ok (.lload_n 0, 1) := by decide +kernel
theorem dX0_bytesTurned_8 : decode cX0_bytesTurned 8 = .ok (.iconst 4, 1) := by decide +kernel
theorem dX0_bytesTurned_9 : decode cX0_bytesTurned 9 = .ok (.lushr, 1) := by decide +kernel
theorem dX0_bytesTurned_10 : decode cX0_bytesTurned 10 = .ok (.ldc2_w 151, 3) := by decide +kernel
theorem dX0_bytesTurned_13 : decode cX0_bytesTurned 13 = .ok (.land, 1) := by decide +kernel
theorem dX0_bytesTurned_14 : decode cX0_bytesTurned 14 = .ok (.lor, 1) := by decide +kernel
theorem dX0_bytesTurned_15 : decode cX0_bytesTurned 15 = .ok (.lstore_n 2, 1) := by decide +kernel
theorem dX0_bytesTurned_16 : decode cX0_bytesTurned 16 = .ok (.lload_n 2, 1) := by decide +kernel
theorem dX0_bytesTurned_17 : decode cX0_bytesTurned 17 = .ok (.ldc2_w 153, 3) := by decide +kernel
theorem dX0_bytesTurned_20 : decode cX0_bytesTurned 20 = .ok (.land, 1) := by decide +kernel
theorem dX0_bytesTurned_21 : decode cX0_bytesTurned 21 = .ok (.iconst 2, 1) := by decide +kernel
theorem dX0_bytesTurned_22 : decode cX0_bytesTurned 22 = .ok (.lshl, 1) := by decide +kernel
theorem dX0_bytesTurned_23 : decode cX0_bytesTurned 23 = .ok (.lload_n 2, 1) := by decide +kernel
theorem dX0_bytesTurned_24 : decode cX0_bytesTurned 24 = .ok (.iconst 2, 1) := by decide +kernel
theorem dX0_bytesTurned_25 : decode cX0_bytesTurned 25 = .ok (.lushr, 1) := by decide +kernel
theorem dX0_bytesTurned_26 : decode cX0_bytesTurned 26 = .ok (.ldc2_w 153, 3) := by decide +kernel
theorem dX0_bytesTurned_29 : decode cX0_bytesTurned 29 = .ok (.land, 1) := by decide +kernel
theorem dX0_bytesTurned_30 : decode cX0_bytesTurned 30 = .ok (.lor, 1) := by decide +kernel
theorem dX0_bytesTurned_31 : decode cX0_bytesTurned 31 = .ok (.lstore 4, 2) := by decide +kernel
theorem dX0_bytesTurned_33 : decode cX0_bytesTurned 33 = .ok (.lload 4, 2) := by decide +kernel
theorem dX0_bytesTurned_35 : decode cX0_bytesTurned 35 = .ok (.ldc2_w 155, 3) := by decide +kernel
theorem dX0_bytesTurned_38 : decode cX0_bytesTurned 38 = .ok (.land, 1) := by decide +kernel
theorem dX0_bytesTurned_39 : decode cX0_bytesTurned 39 = .ok (.iconst 1, 1) := by decide +kernel
theorem dX0_bytesTurned_40 : decode cX0_bytesTurned 40 = .ok (.lshl, 1) := by decide +kernel
theorem dX0_bytesTurned_41 : decode cX0_bytesTurned 41 = .ok (.lload 4, 2) := by decide +kernel
theorem dX0_bytesTurned_43 : decode cX0_bytesTurned 43 = .ok (.iconst 1, 1) := by decide +kernel
theorem dX0_bytesTurned_44 : decode cX0_bytesTurned 44 = .ok (.lushr, 1) := by decide +kernel
theorem dX0_bytesTurned_45 : decode cX0_bytesTurned 45 = .ok (.ldc2_w 155, 3) := by decide +kernel
theorem dX0_bytesTurned_48 : decode cX0_bytesTurned 48 = .ok (.land, 1) := by decide +kernel
theorem dX0_bytesTurned_49 : decode cX0_bytesTurned 49 = .ok (.lor, 1) := by decide +kernel
theorem dX0_bytesTurned_50 : decode cX0_bytesTurned 50 = .ok (.lreturn, 1) := by decide +kernel
set_option maxRecDepth 20000 in
theorem ggX0_bitByBit_X0_atTop : GoodIn wsX0_bitByBit wsX0_atTop := goodIn_r _ [7, 8, 26, 27, 28, 29, 30, 31, 32, 33, 34, 35, 36] (by decide +kernel) (by decide +kernel)
set_option maxRecDepth 20000 in
theorem gX0_bitByBit_X0_atTop : GoodIn wsX0_bitByBit (wsV RX0 46 RX0 yX0_atTop wsX0_atTop) := goodIn_app (goodIn_of _ (by decide +kernel)) ggX0_bitByBit_X0_atTop
set_option maxRecDepth 20000 in
theorem ggX0_bitByBit_X0_byteAt : GoodIn wsX0_bitByBit wsX0_byteAt := goodIn_r _ [12, 13, 14, 15, 6, 16, 26, 27, 28, 29, 30, 31, 32, 33, 34, 35, 36] (by decide +kernel) (by decide +kernel)
set_option maxRecDepth 20000 in
theorem gX0_bitByBit_X0_byteAt : GoodIn wsX0_bitByBit (wsV RX0 157 RX0 yX0_byteAt wsX0_byteAt) := goodIn_app (goodIn_of _ (by decide +kernel)) ggX0_bitByBit_X0_byteAt
set_option maxRecDepth 20000 in
theorem ggX0_bitByBit_X0_behindByte : GoodIn wsX0_bitByBit wsX0_behindByte := goodIn_r _ [20, 21, 22, 23, 6, 24, 25, 26, 27, 28, 29, 30, 31, 32, 33, 34, 35, 36] (by decide +kernel) (by decide +kernel)
set_option maxRecDepth 20000 in
theorem gX0_bitByBit_X0_behindByte : GoodIn wsX0_bitByBit (wsV RX0 139 RX0 yX0_behindByte wsX0_behindByte) := goodIn_app (goodIn_of _ (by decide +kernel)) ggX0_bitByBit_X0_behindByte
theorem dX0_bitByBit_0 : decode cX0_bitByBit 0 = .ok (.aload_n 0, 1) := by decide +kernel
theorem dX0_bitByBit_1 : decode cX0_bitByBit 1 = .ok (.aload_n 0, 1) := by decide +kernel
theorem dX0_bitByBit_2 : decode cX0_bitByBit 2 = .ok (.getfield 52, 3) := by decide +kernel
theorem dX0_bitByBit_5 : decode cX0_bitByBit 5 = .ok (.invokevirtual 46, 3) := by decide +kernel
theorem dX0_bitByBit_8 : decode cX0_bitByBit 8 = .ok (.lstore_n 1, 1) := by decide +kernel
theorem dX0_bitByBit_9 : decode cX0_bitByBit 9 = .ok (.iconst 0, 1) := by decide +kernel
theorem dX0_bitByBit_10 : decode cX0_bitByBit 10 = .ok (.istore_n 3, 1) := by decide +kernel
theorem dX0_bitByBit_11 : decode cX0_bitByBit 11 = .ok (.iload_n 3, 1) := by decide +kernel
theorem dX0_bitByBit_12 : decode cX0_bitByBit 12 = .ok (.aload_n 0, 1) := by decide +kernel
theorem dX0_bitByBit_13 : decode cX0_bitByBit 13 = .ok (.getfield 68, 3) := by decide +kernel
theorem dX0_bitByBit_16 : decode cX0_bitByBit 16 = .ok (.if_icmp .ge 20, 3) := by decide +kernel
theorem dX0_bitByBit_19 : decode cX0_bitByBit 19 = .ok (.aload_n 0, 1) := by decide +kernel
theorem dX0_bitByBit_20 : decode cX0_bitByBit 20 = .ok (.lload_n 1, 1) := by decide +kernel
theorem dX0_bitByBit_21 : decode cX0_bitByBit 21 = .ok (.aload_n 0, 1) := by decide +kernel
theorem dX0_bitByBit_22 : decode cX0_bitByBit 22 = .ok (.iload_n 3, 1) := by decide +kernel
theorem dX0_bitByBit_23 : decode cX0_bitByBit 23 = .ok (.invokevirtual 157, 3) := by decide +kernel
theorem dX0_bitByBit_26 : decode cX0_bitByBit 26 = .ok (.invokevirtual 139, 3) := by decide +kernel
theorem dX0_bitByBit_29 : decode cX0_bitByBit 29 = .ok (.lstore_n 1, 1) := by decide +kernel
theorem dX0_bitByBit_30 : decode cX0_bitByBit 30 = .ok (.iinc 3 1, 3) := by decide +kernel
theorem dX0_bitByBit_33 : decode cX0_bitByBit 33 = .ok (.goto (-22), 3) := by decide +kernel
theorem dX0_bitByBit_36 : decode cX0_bitByBit 36 = .ok (.lload_n 1, 1) := by decide +kernel
theorem dX0_bitByBit_37 : decode cX0_bitByBit 37 = .ok (.lreturn, 1) := by decide +kernel
set_option maxRecDepth 20000 in
theorem ggX0_byteByByte_X0_byteAt : GoodIn wsX0_byteByByte wsX0_byteAt := goodIn_r _ [5, 6, 7, 8, 4, 9, 15, 16, 17, 18, 19, 20, 21, 22, 23, 24, 25] (by decide +kernel) (by decide +kernel)
set_option maxRecDepth 20000 in
theorem gX0_byteByByte_X0_byteAt : GoodIn wsX0_byteByByte (wsV RX0 157 RX0 yX0_byteAt wsX0_byteAt) := goodIn_app (goodIn_of _ (by decide +kernel)) ggX0_byteByByte_X0_byteAt
set_option maxRecDepth 20000 in
theorem ggX0_byteByByte_X0_behindByteByTable : GoodIn wsX0_byteByByte wsX0_behindByteByTable := goodIn_r _ [13, 14, 15, 16, 17, 18, 19, 20, 21, 22, 23, 24, 25] (by decide +kernel) (by decide +kernel)
set_option maxRecDepth 20000 in
theorem gX0_byteByByte_X0_behindByteByTable : GoodIn wsX0_byteByByte (wsV RX0 142 RX0 yX0_behindByteByTable wsX0_behindByteByTable) := goodIn_app (goodIn_of _ (by decide +kernel)) ggX0_byteByByte_X0_behindByteByTable
theorem dX0_byteByByte_0 : decode cX0_byteByByte 0 = .ok (.lload_n 1, 1) := by decide +kernel
theorem dX0_byteByByte_1 : decode cX0_byteByByte 1 = .ok (.lstore 5, 2) := by decide +kernel
theorem dX0_byteByByte_3 : decode cX0_byteByByte 3 = .ok (.iload_n 3, 1) := by decide +kernel
theorem dX0_byteByByte_4 : decode cX0_byteByByte 4 = .ok (.istore 7, 2) := by decide +kernel
theorem dX0_byteByByte_6 : decode cX0_byteByByte 6 = .ok (.iload 7, 2) := by decide +kernel
theorem dX0_byteByByte_8 : decode cX0_byteByByte 8 = .ok (.iload 4, 2) := by decide +kernel
theorem dX0_byteByByte_10 : decode cX0_byteByByte 10 = .ok (.if_icmp .ge 23, 3) := by decide +kernel
theorem dX0_byteByByte_13 : decode cX0_byteByByte 13 = .ok (.aload_n 0, 1) := by decide +kernel
theorem dX0_byteByByte_14 : decode cX0_byteByByte 14 = .ok (.lload 5, 2) := by decide +kernel
theorem dX0_byteByByte_16 : decode cX0_byteByByte 16 = .ok (.aload_n 0, 1) := by decide +kernel
theorem dX0_byteByByte_17 : decode cX0_byteByByte 17 = .ok (.iload 7, 2) := by decide +kernel
theorem dX0_byteByByte_19 : decode cX0_byteByByte 19 = .ok (.invokevirtual 157, 3) := by decide +kernel
theorem dX0_byteByByte_22 : decode cX0_byteByByte 22 = .ok (.invokevirtual 142, 3) := by decide +kernel
theorem dX0_byteByByte_25 : decode cX0_byteByByte 25 = .ok (.lstore 5, 2) := by decide +kernel
theorem dX0_byteByByte_27 : decode cX0_byteByByte 27 = .ok (.iinc 7 1, 3) := by decide +kernel
theorem dX0_byteByByte_30 : decode cX0_byteByByte 30 = .ok (.goto (-24), 3) := by decide +kernel
theorem dX0_byteByByte_33 : decode cX0_byteByByte 33 = .ok (.lload 5, 2) := by decide +kernel
theorem dX0_byteByByte_35 : decode cX0_byteByByte 35 = .ok (.lreturn, 1) := by decide +kernel
set_option maxRecDepth 20000 in
theorem ggX0_eightAtOnce_X0_atTop : GoodIn wsX0_eightAtOnce wsX0_atTop := goodIn_r _ [7, 8, 30, 31, 32, 33, 34, 35, 36, 37, 38, 39, 40] (by decide +kernel) (by decide +kernel)
set_option maxRecDepth 20000 in
theorem gX0_eightAtOnce_X0_atTop : GoodIn wsX0_eightAtOnce (wsV RX0 46 RX0 yX0_atTop wsX0_atTop) := goodIn_app (goodIn_of _ (by decide +kernel)) ggX0_eightAtOnce_X0_atTop
set_option maxRecDepth 20000 in
theorem ggX0_eightAtOnce_X0_byteByByte : GoodIn wsX0_eightAtOnce wsX0_byteByByte := goodIn_r _ [12, 13, 14, 15, 6, 16, 2, 17, 18, 19, 20, 21, 22, 23, 24, 30, 31, 32, 33, 34, 35, 36, 37, 38, 39, 40] (by decide +kernel) (by decide +kernel)
set_option maxRecDepth 20000 in
theorem gX0_eightAtOnce_X0_byteByByte : GoodIn wsX0_eightAtOnce (wsV RX0 96 RX0 yX0_byteByByte wsX0_byteByByte) := goodIn_app (goodIn_of _ (by decide +kernel)) ggX0_eightAtOnce_X0_byteByByte
set_option maxRecDepth 20000 in
theorem ggX0_eightAtOnce_X0_behindWordByTables : GoodIn wsX0_eightAtOnce wsX0_behindWordByTables := goodIn_r _ [28, 24, 29, 30, 31, 32, 33, 34, 35, 36, 37, 38, 39, 40] (by decide +kernel) (by decide +kernel)
set_option maxRecDepth 20000 in
theorem gX0_eightAtOnce_X0_behindWordByTables : GoodIn wsX0_eightAtOnce (wsV RX0 160 RX0 yX0_behindWordByTables wsX0_behindWordByTables) := goodIn_app (goodIn_of _ (by decide +kernel)) ggX0_eightAtOnce_X0_behindWordByTables
theorem dX0_eightAtOnce_0 : decode cX0_eightAtOnce 0 = .ok (.iload_n 1, 1) := by decide +kernel
theorem dX0_eightAtOnce_1 : decode cX0_eightAtOnce 1 = .ok (.bipush 8, 2) := by decide +kernel
theorem dX0_eightAtOnce_3 : decode cX0_eightAtOnce 3 = .ok (.iadd, 1) := by decide +kernel
theorem dX0_eightAtOnce_4 : decode cX0_eightAtOnce 4 = .ok (.iconst 1, 1) := by decide +kernel
theorem dX0_eightAtOnce_5 : decode cX0_eightAtOnce 5 = .ok (.isub, 1) := by decide +kernel
theorem dX0_eightAtOnce_6 : decode cX0_eightAtOnce 6 = .ok (.bipush 8, 2) := by decide +kernel
theorem dX0_eightAtOnce_8 : decode cX0_eightAtOnce 8 = .ok (.idiv, 1) := by decide +kernel
theorem dX0_eightAtOnce_9 : decode cX0_eightAtOnce 9 = .ok (.istore_n 3, 1) := by decide +kernel
theorem dX0_eightAtOnce_10 : decode cX0_eightAtOnce 10 = .ok (.iload_n 2, 1) := by decide +kernel
theorem dX0_eightAtOnce_11 : decode cX0_eightAtOnce 11 = .ok (.bipush 8, 2) := by decide +kernel
theorem dX0_eightAtOnce_13 : decode cX0_eightAtOnce 13 = .ok (.idiv, 1) := by decide +kernel
theorem dX0_eightAtOnce_14 : decode cX0_eightAtOnce 14 = .ok (.istore 4, 2) := by decide +kernel
theorem dX0_eightAtOnce_16 : decode cX0_eightAtOnce 16 = .ok (.iload_n 3, 1) := by decide +kernel
theorem dX0_eightAtOnce_17 : decode cX0_eightAtOnce 17 = .ok (.iload 4, 2) := by decide +kernel
theorem dX0_eightAtOnce_19 : decode cX0_eightAtOnce 19 = .ok (.if_icmp .lt 18, 3) := by decide +kernel
theorem dX0_eightAtOnce_22 : decode cX0_eightAtOnce 22 = .ok (.aload_n 0, 1) := by decide +kernel
theorem dX0_eightAtOnce_23 : decode cX0_eightAtOnce 23 = .ok (.aload_n 0, 1) := by decide +kernel
theorem dX0_eightAtOnce_24 : decode cX0_eightAtOnce 24 = .ok (.aload_n 0, 1) := by decide +kernel
theorem dX0_eightAtOnce_25 : decode cX0_eightAtOnce 25 = .ok (.getfield 52, 3) := by decide +kernel
theorem dX0_eightAtOnce_28 : decode cX0_eightAtOnce 28 = .ok (.invokevirtual 46, 3) := by decide +kernel
theorem dX0_eightAtOnce_31 : decode cX0_eightAtOnce 31 = .ok (.iload_n 1, 1) := by decide +kernel
theorem dX0_eightAtOnce_32 : decode cX0_eightAtOnce 32 = .ok (.iload_n 2, 1) := by decide +kernel
theorem dX0_eightAtOnce_33 : decode cX0_eightAtOnce 33 = .ok (.invokevirtual 96, 3) := by decide +kernel
theorem dX0_eightAtOnce_36 : decode cX0_eightAtOnce 36 = .ok (.lreturn, 1) := by decide +kernel
theorem dX0_eightAtOnce_37 : decode cX0_eightAtOnce 37 = .ok (.aload_n 0, 1) := by decide +kernel
theorem dX0_eightAtOnce_38 : decode cX0_eightAtOnce 38 = .ok (.aload_n 0, 1) := by decide +kernel
theorem dX0_eightAtOnce_39 : decode cX0_eightAtOnce 39 = .ok (.aload_n 0, 1) := by decide +kernel
theorem dX0_eightAtOnce_40 : decode cX0_eightAtOnce 40 = .ok (.getfield 52, 3) := by decide +kernel
theorem dX0_eightAtOnce_43 : decode cX0_eightAtOnce 43 = .ok (.invokevirtual 46, 3) := by decide +kernel
theorem dX0_eightAtOnce_46 : decode cX0_eightAtOnce 46 = .ok (.iload_n 1, 1) := by decide +kernel
theorem dX0_eightAtOnce_47 : decode cX0_eightAtOnce 47 = .ok (.iload_n 3, 1) := by decide +kernel
theorem dX0_eightAtOnce_48 : decode cX0_eightAtOnce 48 = .ok (.bipush 8, 2) := by decide +kernel
theorem dX0_eightAtOnce_50 : decode cX0_eightAtOnce 50 = .ok (.imul, 1) := by decide +kernel
theorem dX0_eightAtOnce_51 : decode cX0_eightAtOnce 51 = .ok (.invokevirtual 96, 3) := by decide +kernel
theorem dX0_eightAtOnce_54 : decode cX0_eightAtOnce 54 = .ok (.lstore 5, 2) := by decide +kernel
theorem dX0_eightAtOnce_56 : decode cX0_eightAtOnce 56 = .ok (.iload_n 3, 1) := by decide +kernel
theorem dX0_eightAtOnce_57 : decode cX0_eightAtOnce 57 = .ok (.istore 7, 2) := by decide +kernel
theorem dX0_eightAtOnce_59 : decode cX0_eightAtOnce 59 = .ok (.iload 7, 2) := by decide +kernel
theorem dX0_eightAtOnce_61 : decode cX0_eightAtOnce 61 = .ok (.iload 4, 2) := by decide +kernel
theorem dX0_eightAtOnce_63 : decode cX0_eightAtOnce 63 = .ok (.if_icmp .ge 24, 3) := by decide +kernel
theorem dX0_eightAtOnce_66 : decode cX0_eightAtOnce 66 = .ok (.aload_n 0, 1) := by decide +kernel
theorem dX0_eightAtOnce_67 : decode cX0_eightAtOnce 67 = .ok (.lload 5, 2) := by decide +kernel
theorem dX0_eightAtOnce_69 : decode cX0_eightAtOnce 69 = .ok (.aload_n 0, 1) := by decide +kernel
theorem dX0_eightAtOnce_70 : decode cX0_eightAtOnce 70 = .ok (.getfield 9, 3) := by decide +kernel
theorem dX0_eightAtOnce_73 : decode cX0_eightAtOnce 73 = .ok (.iload 7, 2) := by decide +kernel
theorem dX0_eightAtOnce_75 : decode cX0_eightAtOnce 75 = .ok (.laload, 1) := by decide +kernel
theorem dX0_eightAtOnce_76 : decode cX0_eightAtOnce 76 = .ok (.invokevirtual 160, 3) := by decide +kernel
theorem dX0_eightAtOnce_79 : decode cX0_eightAtOnce 79 = .ok (.lstore 5, 2) := by decide +kernel
theorem dX0_eightAtOnce_81 : decode cX0_eightAtOnce 81 = .ok (.iinc 7 1, 3) := by decide +kernel
theorem dX0_eightAtOnce_84 : decode cX0_eightAtOnce 84 = .ok (.goto (-25), 3) := by decide +kernel
theorem dX0_eightAtOnce_87 : decode cX0_eightAtOnce 87 = .ok (.aload_n 0, 1) := by decide +kernel
theorem dX0_eightAtOnce_88 : decode cX0_eightAtOnce 88 = .ok (.lload 5, 2) := by decide +kernel
theorem dX0_eightAtOnce_90 : decode cX0_eightAtOnce 90 = .ok (.iload 4, 2) := by decide +kernel
theorem dX0_eightAtOnce_92 : decode cX0_eightAtOnce 92 = .ok (.bipush 8, 2) := by decide +kernel
theorem dX0_eightAtOnce_94 : decode cX0_eightAtOnce 94 = .ok (.imul, 1) := by decide +kernel
theorem dX0_eightAtOnce_95 : decode cX0_eightAtOnce 95 = .ok (.iload_n 2, 1) := by decide +kernel
theorem dX0_eightAtOnce_96 : decode cX0_eightAtOnce 96 = .ok (.invokevirtual 96, 3) := by decide +kernel
theorem dX0_eightAtOnce_99 : decode cX0_eightAtOnce 99 = .ok (.lreturn, 1) := by decide +kernel
set_option maxRecDepth 20000 in
theorem ggX0_byDividing_X0_atTop : GoodIn wsX0_byDividing wsX0_atTop := goodIn_r _ [12, 13, 28, 29, 30, 31, 32, 33, 34, 35, 36, 37, 38] (by decide +kernel) (by decide +kernel)
set_option maxRecDepth 20000 in
theorem gX0_byDividing_X0_atTop : GoodIn wsX0_byDividing (wsV RX0 46 RX0 yX0_atTop wsX0_atTop) := goodIn_app (goodIn_of _ (by decide +kernel)) ggX0_byDividing_X0_atTop
set_option maxRecDepth 20000 in
theorem ggX0_byDividing_X0_bitsOfRow : GoodIn wsX0_byDividing wsX0_bitsOfRow := goodIn_r _ [17, 18, 28, 29, 30, 31, 32, 33, 34, 35, 36, 37, 38] (by decide +kernel) (by decide +kernel)
set_option maxRecDepth 20000 in
theorem gX0_byDividing_X0_bitsOfRow : GoodIn wsX0_byDividing (wsV RX0 85 RX0 yX0_bitsOfRow wsX0_bitsOfRow) := goodIn_app (goodIn_of _ (by decide +kernel)) ggX0_byDividing_X0_bitsOfRow
set_option maxRecDepth 20000 in
theorem ggX0_byDividing_X0_addPolynomialAt : GoodIn wsX0_byDividing wsX0_addPolynomialAt := goodIn_r _ [22, 2, 23, 28, 29, 30, 31, 32, 33, 34, 35, 36, 37, 38] (by decide +kernel) (by decide +kernel)
set_option maxRecDepth 20000 in
theorem gX0_byDividing_X0_addPolynomialAt : GoodIn wsX0_byDividing (wsV RX0 169 RX0 yX0_addPolynomialAt wsX0_addPolynomialAt) := goodIn_app (goodIn_of _ (by decide +kernel)) ggX0_byDividing_X0_addPolynomialAt
set_option maxRecDepth 20000 in
theorem ggX0_byDividing_X0_dividendFrom : GoodIn wsX0_byDividing wsX0_dividendFrom := goodIn_r _ [27, 2, 28, 29, 30, 31, 32, 33, 34, 35, 36, 37, 38] (by decide +kernel) (by decide +kernel)
set_option maxRecDepth 20000 in
theorem gX0_byDividing_X0_dividendFrom : GoodIn wsX0_byDividing (wsV RX0 173 RX0 yX0_dividendFrom wsX0_dividendFrom) := goodIn_app (goodIn_of _ (by decide +kernel)) ggX0_byDividing_X0_dividendFrom
theorem dX0_byDividing_0 : decode cX0_byDividing 0 = .ok (.aload_n 0, 1) := by decide +kernel
theorem dX0_byDividing_1 : decode cX0_byDividing 1 = .ok (.getfield 9, 3) := by decide +kernel
theorem dX0_byDividing_4 : decode cX0_byDividing 4 = .ok (.iconst 0, 1) := by decide +kernel
theorem dX0_byDividing_5 : decode cX0_byDividing 5 = .ok (.aload_n 0, 1) := by decide +kernel
theorem dX0_byDividing_6 : decode cX0_byDividing 6 = .ok (.getfield 13, 3) := by decide +kernel
theorem dX0_byDividing_9 : decode cX0_byDividing 9 = .ok (.iconst 0, 1) := by decide +kernel
theorem dX0_byDividing_10 : decode cX0_byDividing 10 = .ok (.sipush 625, 3) := by decide +kernel
theorem dX0_byDividing_13 : decode cX0_byDividing 13 = .ok (.invokestatic 163, 3) := by decide +kernel
theorem dX0_byDividing_16 : decode cX0_byDividing 16 = .ok (.aload_n 0, 1) := by decide +kernel
theorem dX0_byDividing_17 : decode cX0_byDividing 17 = .ok (.getfield 13, 3) := by decide +kernel
theorem dX0_byDividing_20 : decode cX0_byDividing 20 = .ok (.sipush 625, 3) := by decide +kernel
theorem dX0_byDividing_23 : decode cX0_byDividing 23 = .ok (.lconst 0, 1) := by decide +kernel
theorem dX0_byDividing_24 : decode cX0_byDividing 24 = .ok (.lastore, 1) := by decide +kernel
theorem dX0_byDividing_25 : decode cX0_byDividing 25 = .ok (.aload_n 0, 1) := by decide +kernel
theorem dX0_byDividing_26 : decode cX0_byDividing 26 = .ok (.getfield 13, 3) := by decide +kernel
theorem dX0_byDividing_29 : decode cX0_byDividing 29 = .ok (.iconst 0, 1) := by decide +kernel
theorem dX0_byDividing_30 : decode cX0_byDividing 30 = .ok (.dup2, 1) := by decide +kernel
theorem dX0_byDividing_31 : decode cX0_byDividing 31 = .ok (.laload, 1) := by decide +kernel
theorem dX0_byDividing_32 : decode cX0_byDividing 32 = .ok (.aload_n 0, 1) := by decide +kernel
theorem dX0_byDividing_33 : decode cX0_byDividing 33 = .ok (.aload_n 0, 1) := by decide +kernel
theorem dX0_byDividing_34 : decode cX0_byDividing 34 = .ok (.getfield 52, 3) := by decide +kernel
theorem dX0_byDividing_37 : decode cX0_byDividing 37 = .ok (.invokevirtual 46, 3) := by decide +kernel
theorem dX0_byDividing_40 : decode cX0_byDividing 40 = .ok (.lxor, 1) := by decide +kernel
theorem dX0_byDividing_41 : decode cX0_byDividing 41 = .ok (.lastore, 1) := by decide +kernel
theorem dX0_byDividing_42 : decode cX0_byDividing 42 = .ok (.aload_n 0, 1) := by decide +kernel
theorem dX0_byDividing_43 : decode cX0_byDividing 43 = .ok (.invokevirtual 85, 3) := by decide +kernel
theorem dX0_byDividing_46 : decode cX0_byDividing 46 = .ok (.istore_n 1, 1) := by decide +kernel
theorem dX0_byDividing_47 : decode cX0_byDividing 47 = .ok (.iconst 0, 1) := by decide +kernel
theorem dX0_byDividing_48 : decode cX0_byDividing 48 = .ok (.istore_n 2, 1) := by decide +kernel
theorem dX0_byDividing_49 : decode cX0_byDividing 49 = .ok (.iload_n 2, 1) := by decide +kernel
theorem dX0_byDividing_50 : decode cX0_byDividing 50 = .ok (.iload_n 1, 1) := by decide +kernel
theorem dX0_byDividing_51 : decode cX0_byDividing 51 = .ok (.if_icmp .ge 33, 3) := by decide +kernel
theorem dX0_byDividing_54 : decode cX0_byDividing 54 = .ok (.aload_n 0, 1) := by decide +kernel
theorem dX0_byDividing_55 : decode cX0_byDividing 55 = .ok (.getfield 13, 3) := by decide +kernel
theorem dX0_byDividing_58 : decode cX0_byDividing 58 = .ok (.iload_n 2, 1) := by decide +kernel
theorem dX0_byDividing_59 : decode cX0_byDividing 59 = .ok (.bipush 64, 2) := by decide +kernel
theorem dX0_byDividing_61 : decode cX0_byDividing 61 = .ok (.idiv, 1) := by decide +kernel
theorem dX0_byDividing_62 : decode cX0_byDividing 62 = .ok (.laload, 1) := by decide +kernel
theorem dX0_byDividing_63 : decode cX0_byDividing 63 = .ok (.iload_n 2, 1) := by decide +kernel
theorem dX0_byDividing_64 : decode cX0_byDividing 64 = .ok (.bipush 64, 2) := by decide +kernel
theorem dX0_byDividing_66 : decode cX0_byDividing 66 = .ok (.irem, 1) := by decide +kernel
theorem dX0_byDividing_67 : decode cX0_byDividing 67 = .ok (.lshl, 1) := by decide +kernel
theorem dX0_byDividing_68 : decode cX0_byDividing 68 = .ok (.lconst 0, 1) := by decide +kernel
theorem dX0_byDividing_69 : decode cX0_byDividing 69 = .ok (.lcmp, 1) := by decide +kernel
theorem dX0_byDividing_70 : decode cX0_byDividing 70 = .ok (.ifCond .ge 8, 3) := by decide +kernel
theorem dX0_byDividing_73 : decode cX0_byDividing 73 = .ok (.aload_n 0, 1) := by decide +kernel
theorem dX0_byDividing_74 : decode cX0_byDividing 74 = .ok (.iload_n 2, 1) := by decide +kernel
theorem dX0_byDividing_75 : decode cX0_byDividing 75 = .ok (.invokevirtual 169, 3) := by decide +kernel
theorem dX0_byDividing_78 : decode cX0_byDividing 78 = .ok (.iinc 2 1, 3) := by decide +kernel
theorem dX0_byDividing_81 : decode cX0_byDividing 81 = .ok (.goto (-32), 3) := by decide +kernel
theorem dX0_byDividing_84 : decode cX0_byDividing 84 = .ok (.aload_n 0, 1) := by decide +kernel
theorem dX0_byDividing_85 : decode cX0_byDividing 85 = .ok (.iload_n 1, 1) := by decide +kernel
theorem dX0_byDividing_86 : decode cX0_byDividing 86 = .ok (.invokevirtual 173, 3) := by decide +kernel
theorem dX0_byDividing_89 : decode cX0_byDividing 89 = .ok (.lreturn, 1) := by decide +kernel
theorem dX0_addPolynomialAt_0 : decode cX0_addPolynomialAt 0 = .ok (.aload_n 0, 1) := by decide +kernel
theorem dX0_addPolynomialAt_1 : decode cX0_addPolynomialAt 1 = .ok (.getfield 13, 3) := by decide +kernel
theorem dX0_addPolynomialAt_4 : decode cX0_addPolynomialAt 4 = .ok (.iload_n 1, 1) := by decide +kernel
theorem dX0_addPolynomialAt_5 : decode cX0_addPolynomialAt 5 = .ok (.bipush 64, 2) := by decide +kernel
theorem dX0_addPolynomialAt_7 : decode cX0_addPolynomialAt 7 = .ok (.idiv, 1) := by decide +kernel
theorem dX0_addPolynomialAt_8 : decode cX0_addPolynomialAt 8 = .ok (.dup2, 1) := by decide +kernel
theorem dX0_addPolynomialAt_9 : decode cX0_addPolynomialAt 9 = .ok (.laload, 1) := by decide +kernel
theorem dX0_addPolynomialAt_10 : decode cX0_addPolynomialAt 10 = .ok (.lconst 1, 1) := by decide +kernel
theorem dX0_addPolynomialAt_11 : decode cX0_addPolynomialAt 11 = .ok (.bipush 63, 2) := by decide +kernel
theorem dX0_addPolynomialAt_13 : decode cX0_addPolynomialAt 13 = .ok (.iload_n 1, 1) := by decide +kernel
theorem dX0_addPolynomialAt_14 : decode cX0_addPolynomialAt 14 = .ok (.bipush 64, 2) := by decide +kernel
theorem dX0_addPolynomialAt_16 : decode cX0_addPolynomialAt 16 = .ok (.irem, 1) := by decide +kernel
theorem dX0_addPolynomialAt_17 : decode cX0_addPolynomialAt 17 = .ok (.isub, 1) := by decide +kernel
theorem dX0_addPolynomialAt_18 : decode cX0_addPolynomialAt 18 = .ok (.lshl, 1) := by decide +kernel
theorem dX0_addPolynomialAt_19 : decode cX0_addPolynomialAt 19 = .ok (.lxor, 1) := by decide +kernel
theorem dX0_addPolynomialAt_20 : decode cX0_addPolynomialAt 20 = .ok (.lastore, 1) := by decide +kernel
theorem dX0_addPolynomialAt_21 : decode cX0_addPolynomialAt 21 = .ok (.iload_n 1, 1) := by decide +kernel
theorem dX0_addPolynomialAt_22 : decode cX0_addPolynomialAt 22 = .ok (.iconst 1, 1) := by decide +kernel
theorem dX0_addPolynomialAt_23 : decode cX0_addPolynomialAt 23 = .ok (.iadd, 1) := by decide +kernel
theorem dX0_addPolynomialAt_24 : decode cX0_addPolynomialAt 24 = .ok (.bipush 64, 2) := by decide +kernel
theorem dX0_addPolynomialAt_26 : decode cX0_addPolynomialAt 26 = .ok (.idiv, 1) := by decide +kernel
theorem dX0_addPolynomialAt_27 : decode cX0_addPolynomialAt 27 = .ok (.istore_n 2, 1) := by decide +kernel
theorem dX0_addPolynomialAt_28 : decode cX0_addPolynomialAt 28 = .ok (.iload_n 1, 1) := by decide +kernel
theorem dX0_addPolynomialAt_29 : decode cX0_addPolynomialAt 29 = .ok (.iconst 1, 1) := by decide +kernel
theorem dX0_addPolynomialAt_30 : decode cX0_addPolynomialAt 30 = .ok (.iadd, 1) := by decide +kernel
theorem dX0_addPolynomialAt_31 : decode cX0_addPolynomialAt 31 = .ok (.bipush 64, 2) := by decide +kernel
theorem dX0_addPolynomialAt_33 : decode cX0_addPolynomialAt 33 = .ok (.irem, 1) := by decide +kernel
theorem dX0_addPolynomialAt_34 : decode cX0_addPolynomialAt 34 = .ok (.istore_n 3, 1) := by decide +kernel
theorem dX0_addPolynomialAt_35 : decode cX0_addPolynomialAt 35 = .ok (.aload_n 0, 1) := by decide +kernel
theorem dX0_addPolynomialAt_36 : decode cX0_addPolynomialAt 36 = .ok (.getfield 13, 3) := by decide +kernel
theorem dX0_addPolynomialAt_39 : decode cX0_addPolynomialAt 39 = .ok (.iload_n 2, 1) := by decide +kernel
theorem dX0_addPolynomialAt_40 : decode cX0_addPolynomialAt 40 = .ok (.dup2, 1) := by decide +kernel
theorem dX0_addPolynomialAt_41 : decode cX0_addPolynomialAt 41 = .ok (.laload, 1) := by decide +kernel
theorem dX0_addPolynomialAt_42 : decode cX0_addPolynomialAt 42 = .ok (.aload_n 0, 1) := by decide +kernel
theorem dX0_addPolynomialAt_43 : decode cX0_addPolynomialAt 43 = .ok (.getfield 49, 3) := by decide +kernel
theorem dX0_addPolynomialAt_46 : decode cX0_addPolynomialAt 46 = .ok (.iload_n 3, 1) := by decide +kernel
theorem dX0_addPolynomialAt_47 : decode cX0_addPolynomialAt 47 = .ok (.lushr, 1) := by decide +kernel
theorem dX0_addPolynomialAt_48 : decode cX0_addPolynomialAt 48 = .ok (.lxor, 1) := by decide +kernel
theorem dX0_addPolynomialAt_49 : decode cX0_addPolynomialAt 49 = .ok (.lastore, 1) := by decide +kernel
theorem dX0_addPolynomialAt_50 : decode cX0_addPolynomialAt 50 = .ok (.iload_n 3, 1) := by decide +kernel
theorem dX0_addPolynomialAt_51 : decode cX0_addPolynomialAt 51 = .ok (.ifCond .eq 23, 3) := by decide +kernel
theorem dX0_addPolynomialAt_54 : decode cX0_addPolynomialAt 54 = .ok (.aload_n 0, 1) := by decide +kernel
theorem dX0_addPolynomialAt_55 : decode cX0_addPolynomialAt 55 = .ok (.getfield 13, 3) := by decide +kernel
theorem dX0_addPolynomialAt_58 : decode cX0_addPolynomialAt 58 = .ok (.iload_n 2, 1) := by decide +kernel
theorem dX0_addPolynomialAt_59 : decode cX0_addPolynomialAt 59 = .ok (.iconst 1, 1) := by decide +kernel
theorem dX0_addPolynomialAt_60 : decode cX0_addPolynomialAt 60 = .ok (.iadd, 1) := by decide +kernel
theorem dX0_addPolynomialAt_61 : decode cX0_addPolynomialAt 61 = .ok (.dup2, 1) := by decide +kernel
theorem dX0_addPolynomialAt_62 : decode cX0_addPolynomialAt 62 = .ok (.laload, 1) := by decide +kernel
theorem dX0_addPolynomialAt_63 : decode cX0_addPolynomialAt 63 = .ok (.aload_n 0, 1) := by decide +kernel
theorem dX0_addPolynomialAt_64 : decode cX0_addPolynomialAt 64 = .ok (.getfield 49, 3) := by decide +kernel
theorem dX0_addPolynomialAt_67 : decode cX0_addPolynomialAt 67 = .ok (.bipush 64, 2) := by decide +kernel
theorem dX0_addPolynomialAt_69 : decode cX0_addPolynomialAt 69 = .ok (.iload_n 3, 1) := by decide +kernel
theorem dX0_addPolynomialAt_70 : decode cX0_addPolynomialAt 70 = .ok (.isub, 1) := by decide +kernel
theorem dX0_addPolynomialAt_71 : decode cX0_addPolynomialAt 71 = .ok (.lshl, 1) := by decide +kernel
theorem dX0_addPolynomialAt_72 : decode cX0_addPolynomialAt 72 = .ok (.lxor, 1) := by decide +kernel
theorem dX0_addPolynomialAt_73 : decode cX0_addPolynomialAt 73 = .ok (.lastore, 1) := by decide +kernel
theorem dX0_addPolynomialAt_74 : decode cX0_addPolynomialAt 74 = .ok (.return_, 1) := by decide +kernel
theorem dX0_dividendFrom_0 : decode cX0_dividendFrom 0 = .ok (.iload_n 1, 1) := by decide +kernel
theorem dX0_dividendFrom_1 : decode cX0_dividendFrom 1 = .ok (.bipush 64, 2) := by decide +kernel
theorem dX0_dividendFrom_3 : decode cX0_dividendFrom 3 = .ok (.idiv, 1) := by decide +kernel
theorem dX0_dividendFrom_4 : decode cX0_dividendFrom 4 = .ok (.istore_n 2, 1) := by decide +kernel
theorem dX0_dividendFrom_5 : decode cX0_dividendFrom 5 = .ok (.iload_n 1, 1) := by decide +kernel
theorem dX0_dividendFrom_6 : decode cX0_dividendFrom 6 = .ok (.bipush 64, 2) := by decide +kernel
theorem dX0_dividendFrom_8 : decode cX0_dividendFrom 8 = .ok (.irem, 1) := by decide +kernel
theorem dX0_dividendFrom_9 : decode cX0_dividendFrom 9 = .ok (.istore_n 3, 1) := by decide +kernel
theorem dX0_dividendFrom_10 : decode cX0_dividendFrom 10 = .ok (.iload_n 3, 1) := by decide +kernel
theorem dX0_dividendFrom_11 : decode cX0_dividendFrom 11 = .ok (.ifCond .ne 12, 3) := by decide +kernel
theorem dX0_dividendFrom_14 : decode cX0_dividendFrom 14 = .ok (.aload_n 0, 1) := by decide +kernel
theorem dX0_dividendFrom_15 : decode cX0_dividendFrom 15 = .ok (.getfield 13, 3) := by decide +kernel
theorem dX0_dividendFrom_18 : decode cX0_dividendFrom 18 = .ok (.iload_n 2, 1) := by decide +kernel
theorem dX0_dividendFrom_19 : decode cX0_dividendFrom 19 = .ok (.laload, 1) := by decide +kernel
theorem dX0_dividendFrom_20 : decode cX0_dividendFrom 20 = .ok (.goto 25, 3) := by decide +kernel
theorem dX0_dividendFrom_23 : decode cX0_dividendFrom 23 = .ok (.aload_n 0, 1) := by decide +kernel
theorem dX0_dividendFrom_24 : decode cX0_dividendFrom 24 = .ok (.getfield 13, 3) := by decide +kernel
theorem dX0_dividendFrom_27 : decode cX0_dividendFrom 27 = .ok (.iload_n 2, 1) := by decide +kernel
theorem dX0_dividendFrom_28 : decode cX0_dividendFrom 28 = .ok (.laload, 1) := by decide +kernel
theorem dX0_dividendFrom_29 : decode cX0_dividendFrom 29 = .ok (.iload_n 3, 1) := by decide +kernel
theorem dX0_dividendFrom_30 : decode cX0_dividendFrom 30 = .ok (.lshl, 1) := by decide +kernel
theorem dX0_dividendFrom_31 : decode cX0_dividendFrom 31 = .ok (.aload_n 0, 1) := by decide +kernel
theorem dX0_dividendFrom_32 : decode cX0_dividendFrom 32 = .ok (.getfield 13, 3) := by decide +kernel
theorem dX0_dividendFrom_35 : decode cX0_dividendFrom 35 = .ok (.iload_n 2, 1) := by decide +kernel
theorem dX0_dividendFrom_36 : decode cX0_dividendFrom 36 = .ok (.iconst 1, 1) := by decide +kernel
theorem dX0_dividendFrom_37 : decode cX0_dividendFrom 37 = .ok (.iadd, 1) := by decide +kernel
theorem dX0_dividendFrom_38 : decode cX0_dividendFrom 38 = .ok (.laload, 1) := by decide +kernel
theorem dX0_dividendFrom_39 : decode cX0_dividendFrom 39 = .ok (.bipush 64, 2) := by decide +kernel
theorem dX0_dividendFrom_41 : decode cX0_dividendFrom 41 = .ok (.iload_n 3, 1) := by decide +kernel
theorem dX0_dividendFrom_42 : decode cX0_dividendFrom 42 = .ok (.isub, 1) := by decide +kernel
theorem dX0_dividendFrom_43 : decode cX0_dividendFrom 43 = .ok (.lushr, 1) := by decide +kernel
theorem dX0_dividendFrom_44 : decode cX0_dividendFrom 44 = .ok (.lor, 1) := by decide +kernel
theorem dX0_dividendFrom_45 : decode cX0_dividendFrom 45 = .ok (.lreturn, 1) := by decide +kernel
