theorem dX1_init_0 : decode cX1_init 0 = .ok (.aload_n 0, 1) := by decide +kernel
theorem dX1_init_1 : decode cX1_init 1 = .ok (.invokespecial 1, 3) := by decide +kernel
theorem dX1_init_4 : decode cX1_init 4 = .ok (.aload_n 0, 1) := by decide +kernel
theorem dX1_init_5 : decode cX1_init 5 = .ok (.bipush 32, 2) := by decide +kernel
theorem dX1_init_7 : decode cX1_init 7 = .ok (.putfield 7, 3) := by decide +kernel
theorem dX1_init_10 : decode cX1_init 10 = .ok (.aload_n 0, 1) := by decide +kernel
theorem dX1_init_11 : decode cX1_init 11 = .ok (.ldc2_w 13, 3) := by decide +kernel
theorem dX1_init_14 : decode cX1_init 14 = .ok (.putfield 15, 3) := by decide +kernel
theorem dX1_init_17 : decode cX1_init 17 = .ok (.aload_n 0, 1) := by decide +kernel
theorem dX1_init_18 : decode cX1_init 18 = .ok (.ldc2_w 19, 3) := by decide +kernel
theorem dX1_init_21 : decode cX1_init 21 = .ok (.putfield 21, 3) := by decide +kernel
theorem dX1_init_24 : decode cX1_init 24 = .ok (.aload_n 0, 1) := by decide +kernel
theorem dX1_init_25 : decode cX1_init 25 = .ok (.ldc2_w 19, 3) := by decide +kernel
theorem dX1_init_28 : decode cX1_init 28 = .ok (.putfield 24, 3) := by decide +kernel
theorem dX1_init_31 : decode cX1_init 31 = .ok (.aload_n 0, 1) := by decide +kernel
theorem dX1_init_32 : decode cX1_init 32 = .ok (.iconst 1, 1) := by decide +kernel
theorem dX1_init_33 : decode cX1_init 33 = .ok (.putfield 27, 3) := by decide +kernel
theorem dX1_init_36 : decode cX1_init 36 = .ok (.aload_n 0, 1) := by decide +kernel
theorem dX1_init_37 : decode cX1_init 37 = .ok (.iconst 1, 1) := by decide +kernel
theorem dX1_init_38 : decode cX1_init 38 = .ok (.putfield 31, 3) := by decide +kernel
theorem dX1_init_41 : decode cX1_init 41 = .ok (.aload_n 0, 1) := by decide +kernel
theorem dX1_init_42 : decode cX1_init 42 = .ok (.sipush 5000, 3) := by decide +kernel
theorem dX1_init_45 : decode cX1_init 45 = .ok (.newarray .int, 2) := by decide +kernel
theorem dX1_init_47 : decode cX1_init 47 = .ok (.putfield 34, 3) := by decide +kernel
theorem dX1_init_50 : decode cX1_init 50 = .ok (.return_, 1) := by decide +kernel
theorem dX1_low_0 : decode cX1_low 0 = .ok (.iload_n 2, 1) := by decide +kernel
theorem dX1_low_1 : decode cX1_low 1 = .ok (.bipush 64, 2) := by decide +kernel
theorem dX1_low_3 : decode cX1_low 3 = .ok (.if_icmp .ne 7, 3) := by decide +kernel
theorem dX1_low_6 : decode cX1_low 6 = .ok (.lload_n 0, 1) := by decide +kernel
theorem dX1_low_7 : decode cX1_low 7 = .ok (.goto 10, 3) := by decide +kernel
theorem dX1_low_10 : decode cX1_low 10 = .ok (.lload_n 0, 1) := by decide +kernel
theorem dX1_low_11 : decode cX1_low 11 = .ok (.lconst 1, 1) := by decide +kernel
theorem dX1_low_12 : decode cX1_low 12 = .ok (.iload_n 2, 1) := by decide +kernel
theorem dX1_low_13 : decode cX1_low 13 = .ok (.lshl, 1) := by decide +kernel
theorem dX1_low_14 : decode cX1_low 14 = .ok (.lconst 1, 1) := by decide +kernel
theorem dX1_low_15 : decode cX1_low 15 = .ok (.lsub, 1) := by decide +kernel
theorem dX1_low_16 : decode cX1_low 16 = .ok (.land, 1) := by decide +kernel
theorem dX1_low_17 : decode cX1_low 17 = .ok (.lreturn, 1) := by decide +kernel
set_option maxRecDepth 20000 in
theorem ggX1_cut_X1_low : GoodIn wsX1_cut wsX1_low := goodIn_r _ [5] (by decide +kernel) (by decide +kernel)
set_option maxRecDepth 20000 in
theorem gX1_cut_X1_low : GoodIn wsX1_cut (va_wsS RX1 38 yX1_low wsX1_low) := goodIn_app (goodIn_of _ (by decide +kernel)) ggX1_cut_X1_low
theorem dX1_cut_0 : decode cX1_cut 0 = .ok (.lload_n 1, 1) := by decide +kernel
theorem dX1_cut_1 : decode cX1_cut 1 = .ok (.aload_n 0, 1) := by decide +kernel
theorem dX1_cut_2 : decode cX1_cut 2 = .ok (.getfield 7, 3) := by decide +kernel
theorem dX1_cut_5 : decode cX1_cut 5 = .ok (.invokestatic 38, 3) := by decide +kernel
theorem dX1_cut_8 : decode cX1_cut 8 = .ok (.lreturn, 1) := by decide +kernel
set_option maxRecDepth 20000 in
theorem ggX1_kind_X1_cut : GoodIn wsX1_kind wsX1_cut := goodIn_r _ [11, 1, 12, 13, 10, 14, 15, 16, 17, 18, 19, 20, 21, 22] (by decide +kernel) (by decide +kernel)
set_option maxRecDepth 20000 in
theorem gX1_kind_X1_cut : GoodIn wsX1_kind (wsV RX1 42 RX1 yX1_cut wsX1_cut) := goodIn_app (goodIn_of _ (by decide +kernel)) ggX1_kind_X1_cut
theorem dX1_kind_0 : decode cX1_kind 0 = .ok (.iload_n 1, 1) := by decide +kernel
theorem dX1_kind_1 : decode cX1_kind 1 = .ok (.iconst 1, 1) := by decide +kernel
theorem dX1_kind_2 : decode cX1_kind 2 = .ok (.if_icmp .lt 9, 3) := by decide +kernel
theorem dX1_kind_5 : decode cX1_kind 5 = .ok (.iload_n 1, 1) := by decide +kernel
theorem dX1_kind_6 : decode cX1_kind 6 = .ok (.bipush 64, 2) := by decide +kernel
theorem dX1_kind_8 : decode cX1_kind 8 = .ok (.if_icmp .le 5, 3) := by decide +kernel
theorem dX1_kind_11 : decode cX1_kind 11 = .ok (.iconst 0, 1) := by decide +kernel
theorem dX1_kind_12 : decode cX1_kind 12 = .ok (.ireturn, 1) := by decide +kernel
theorem dX1_kind_13 : decode cX1_kind 13 = .ok (.aload_n 0, 1) := by decide +kernel
theorem dX1_kind_14 : decode cX1_kind 14 = .ok (.iload_n 1, 1) := by decide +kernel
theorem dX1_kind_15 : decode cX1_kind 15 = .ok (.putfield 7, 3) := by decide +kernel
theorem dX1_kind_18 : decode cX1_kind 18 = .ok (.aload_n 0, 1) := by decide +kernel
theorem dX1_kind_19 : decode cX1_kind 19 = .ok (.aload_n 0, 1) := by decide +kernel
theorem dX1_kind_20 : decode cX1_kind 20 = .ok (.lload_n 2, 1) := by decide +kernel
theorem dX1_kind_21 : decode cX1_kind 21 = .ok (.invokevirtual 42, 3) := by decide +kernel
theorem dX1_kind_24 : decode cX1_kind 24 = .ok (.putfield 15, 3) := by decide +kernel
theorem dX1_kind_27 : decode cX1_kind 27 = .ok (.aload_n 0, 1) := by decide +kernel
theorem dX1_kind_28 : decode cX1_kind 28 = .ok (.aload_n 0, 1) := by decide +kernel
theorem dX1_kind_29 : decode cX1_kind 29 = .ok (.lload 4, 2) := by decide +kernel
theorem dX1_kind_31 : decode cX1_kind 31 = .ok (.invokevirtual 42, 3) := by decide +kernel
theorem dX1_kind_34 : decode cX1_kind 34 = .ok (.putfield 21, 3) := by decide +kernel
theorem dX1_kind_37 : decode cX1_kind 37 = .ok (.aload_n 0, 1) := by decide +kernel
theorem dX1_kind_38 : decode cX1_kind 38 = .ok (.aload_n 0, 1) := by decide +kernel
theorem dX1_kind_39 : decode cX1_kind 39 = .ok (.lload 8, 2) := by decide +kernel
theorem dX1_kind_41 : decode cX1_kind 41 = .ok (.invokevirtual 42, 3) := by decide +kernel
theorem dX1_kind_44 : decode cX1_kind 44 = .ok (.putfield 24, 3) := by decide +kernel
theorem dX1_kind_47 : decode cX1_kind 47 = .ok (.aload_n 0, 1) := by decide +kernel
theorem dX1_kind_48 : decode cX1_kind 48 = .ok (.iload 6, 2) := by decide +kernel
theorem dX1_kind_50 : decode cX1_kind 50 = .ok (.putfield 27, 3) := by decide +kernel
theorem dX1_kind_53 : decode cX1_kind 53 = .ok (.aload_n 0, 1) := by decide +kernel
theorem dX1_kind_54 : decode cX1_kind 54 = .ok (.iload 7, 2) := by decide +kernel
theorem dX1_kind_56 : decode cX1_kind 56 = .ok (.putfield 31, 3) := by decide +kernel
theorem dX1_kind_59 : decode cX1_kind 59 = .ok (.iconst 1, 1) := by decide +kernel
theorem dX1_kind_60 : decode cX1_kind 60 = .ok (.ireturn, 1) := by decide +kernel
theorem dX1_feed_0 : decode cX1_feed 0 = .ok (.iload_n 1, 1) := by decide +kernel
theorem dX1_feed_1 : decode cX1_feed 1 = .ok (.ifCond .lt 27, 3) := by decide +kernel
theorem dX1_feed_4 : decode cX1_feed 4 = .ok (.iload_n 1, 1) := by decide +kernel
theorem dX1_feed_5 : decode cX1_feed 5 = .ok (.sipush 255, 3) := by decide +kernel
theorem dX1_feed_8 : decode cX1_feed 8 = .ok (.if_icmp .gt 20, 3) := by decide +kernel
theorem dX1_feed_11 : decode cX1_feed 11 = .ok (.iload_n 2, 1) := by decide +kernel
theorem dX1_feed_12 : decode cX1_feed 12 = .ok (.iconst 1, 1) := by decide +kernel
theorem dX1_feed_13 : decode cX1_feed 13 = .ok (.if_icmp .lt 15, 3) := by decide +kernel
theorem dX1_feed_16 : decode cX1_feed 16 = .ok (.iload_n 2, 1) := by decide +kernel
theorem dX1_feed_17 : decode cX1_feed 17 = .ok (.sipush 5000, 3) := by decide +kernel
theorem dX1_feed_20 : decode cX1_feed 20 = .ok (.aload_n 0, 1) := by decide +kernel
theorem dX1_feed_21 : decode cX1_feed 21 = .ok (.getfield 46, 3) := by decide +kernel
theorem dX1_feed_24 : decode cX1_feed 24 = .ok (.isub, 1) := by decide +kernel
theorem dX1_feed_25 : decode cX1_feed 25 = .ok (.if_icmp .le 5, 3) := by decide +kernel
theorem dX1_feed_28 : decode cX1_feed 28 = .ok (.iconst 0, 1) := by decide +kernel
theorem dX1_feed_29 : decode cX1_feed 29 = .ok (.ireturn, 1) := by decide +kernel
theorem dX1_feed_30 : decode cX1_feed 30 = .ok (.iconst 0, 1) := by decide +kernel
theorem dX1_feed_31 : decode cX1_feed 31 = .ok (.istore_n 3, 1) := by decide +kernel
theorem dX1_feed_32 : decode cX1_feed 32 = .ok (.iload_n 3, 1) := by decide +kernel
theorem dX1_feed_33 : decode cX1_feed 33 = .ok (.iload_n 2, 1) := by decide +kernel
theorem dX1_feed_34 : decode cX1_feed 34 = .ok (.if_icmp .ge 29, 3) := by decide +kernel
theorem dX1_feed_37 : decode cX1_feed 37 = .ok (.aload_n 0, 1) := by decide +kernel
theorem dX1_feed_38 : decode cX1_feed 38 = .ok (.getfield 34, 3) := by decide +kernel
theorem dX1_feed_41 : decode cX1_feed 41 = .ok (.aload_n 0, 1) := by decide +kernel
theorem dX1_feed_42 : decode cX1_feed 42 = .ok (.getfield 46, 3) := by decide +kernel
theorem dX1_feed_45 : decode cX1_feed 45 = .ok (.iload_n 1, 1) := by decide +kernel
theorem dX1_feed_46 : decode cX1_feed 46 = .ok (.iastore, 1) := by decide +kernel
theorem dX1_feed_47 : decode cX1_feed 47 = .ok (.aload_n 0, 1) := by decide +kernel
theorem dX1_feed_48 : decode cX1_feed 48 = .ok (.dup, 1) := by decide +kernel
theorem dX1_feed_49 : decode cX1_feed 49 = .ok (.getfield 46, 3) := by decide +kernel
theorem dX1_feed_52 : decode cX1_feed 52 = .ok (.iconst 1, 1) := by decide +kernel
theorem dX1_feed_53 : decode cX1_feed 53 = .ok (.iadd, 1) := by decide +kernel
theorem dX1_feed_54 : decode cX1_feed 54 = .ok (.putfield 46, 3) := by decide +kernel
theorem dX1_feed_57 : decode cX1_feed 57 = .ok (.iinc 3 1, 3) := by decide +kernel
theorem dX1_feed_60 : decode cX1_feed 60 = .ok (.goto (-28), 3) := by decide +kernel
theorem dX1_feed_63 : decode cX1_feed 63 = .ok (.iconst 1, 1) := by decide +kernel
theorem dX1_feed_64 : decode cX1_feed 64 = .ok (.ireturn, 1) := by decide +kernel
theorem dX1_clear_0 : decode cX1_clear 0 = .ok (.aload_n 0, 1) := by decide +kernel
theorem dX1_clear_1 : decode cX1_clear 1 = .ok (.iconst 0, 1) := by decide +kernel
theorem dX1_clear_2 : decode cX1_clear 2 = .ok (.putfield 46, 3) := by decide +kernel
theorem dX1_clear_5 : decode cX1_clear 5 = .ok (.return_, 1) := by decide +kernel
theorem dX1_flip_0 : decode cX1_flip 0 = .ok (.iload_n 1, 1) := by decide +kernel
theorem dX1_flip_1 : decode cX1_flip 1 = .ok (.ifCond .lt 14, 3) := by decide +kernel
theorem dX1_flip_4 : decode cX1_flip 4 = .ok (.iload_n 1, 1) := by decide +kernel
theorem dX1_flip_5 : decode cX1_flip 5 = .ok (.bipush 8, 2) := by decide +kernel
theorem dX1_flip_7 : decode cX1_flip 7 = .ok (.aload_n 0, 1) := by decide +kernel
theorem dX1_flip_8 : decode cX1_flip 8 = .ok (.getfield 46, 3) := by decide +kernel
theorem dX1_flip_11 : decode cX1_flip 11 = .ok (.imul, 1) := by decide +kernel
theorem dX1_flip_12 : decode cX1_flip 12 = .ok (.if_icmp .lt 5, 3) := by decide +kernel
theorem dX1_flip_15 : decode cX1_flip 15 = .ok (.iconst 0, 1) := by decide +kernel
theorem dX1_flip_16 : decode cX1_flip 16 = .ok (.ireturn, 1) := by decide +kernel
theorem dX1_flip_17 : decode cX1_flip 17 = .ok (.aload_n 0, 1) := by decide +kernel
theorem dX1_flip_18 : decode cX1_flip 18 = .ok (.getfield 34, 3) := by decide +kernel
theorem dX1_flip_21 : decode cX1_flip 21 = .ok (.iload_n 1, 1) := by decide +kernel
theorem dX1_flip_22 : decode cX1_flip 22 = .ok (.bipush 8, 2) := by decide +kernel
theorem dX1_flip_24 : decode cX1_flip 24 = .ok (.idiv, 1) := by decide +kernel
theorem dX1_flip_25 : decode cX1_flip 25 = .ok (.dup2, 1) := by decide +kernel
theorem dX1_flip_26 : decode cX1_flip 26 = .ok (.iaload, 1) := by decide +kernel
theorem dX1_flip_27 : decode cX1_flip 27 = .ok (.aload_n 0, 1) := by decide +kernel
theorem dX1_flip_28 : decode cX1_flip 28 = .ok (.getfield 27, 3) := by decide +kernel
theorem dX1_flip_31 : decode cX1_flip 31 = .ok (.ifCond .eq 12, 3) := by decide +kernel
theorem dX1_flip_34 : decode cX1_flip 34 = .ok (.iconst 1, 1) := by decide +kernel
theorem dX1_flip_35 : decode cX1_flip 35 = .ok (.iload_n 1, 1) := by decide +kernel
theorem dX1_flip_36 : decode cX1_flip 36 = .ok (.bipush 8, 2) := by decide +kernel
theorem dX1_flip_38 : decode cX1_flip 38 = .ok (.irem, 1) := by decide +kernel
theorem dX1_flip_39 : decode cX1_flip 39 = .ok (.ishl, 1) := by decide +kernel
theorem dX1_flip_40 : decode cX1_flip 40 = .ok (.goto 11, 3) := by decide +kernel
theorem dX1_flip_43 : decode cX1_flip 43 = .ok (.sipush 128, 3) := by decide +kernel
theorem dX1_flip_46 : decode cX1_flip 46 = .ok (.iload_n 1, 1) := by decide +kernel
theorem dX1_flip_47 : decode cX1_flip 47 = .ok (.bipush 8, 2) := by decide +kernel
theorem dX1_flip_49 : decode cX1_flip 49 = .ok (.irem, 1) := by decide +kernel
theorem dX1_flip_50 : decode cX1_flip 50 = .ok (.ishr, 1) := by decide +kernel
theorem dX1_flip_51 : decode cX1_flip 51 = .ok (.ixor, 1) := by decide +kernel
theorem dX1_flip_52 : decode cX1_flip 52 = .ok (.iastore, 1) := by decide +kernel
theorem dX1_flip_53 : decode cX1_flip 53 = .ok (.iconst 1, 1) := by decide +kernel
theorem dX1_flip_54 : decode cX1_flip 54 = .ok (.ireturn, 1) := by decide +kernel
set_option maxRecDepth 20000 in
theorem ggX1_bit_X1_cut : GoodIn wsX1_bit wsX1_cut := goodIn_r _ [7, 1, 8, 9, 6, 10, 11, 12, 13, 14, 15, 16, 17, 18] (by decide +kernel) (by decide +kernel)
set_option maxRecDepth 20000 in
theorem gX1_bit_X1_cut : GoodIn wsX1_bit (wsV RX1 42 RX1 yX1_cut wsX1_cut) := goodIn_app (goodIn_of _ (by decide +kernel)) ggX1_bit_X1_cut
theorem dX1_bit_0 : decode cX1_bit 0 = .ok (.lload_n 1, 1) := by decide +kernel
theorem dX1_bit_1 : decode cX1_bit 1 = .ok (.aload_n 0, 1) := by decide +kernel
theorem dX1_bit_2 : decode cX1_bit 2 = .ok (.getfield 7, 3) := by decide +kernel
theorem dX1_bit_5 : decode cX1_bit 5 = .ok (.iconst 1, 1) := by decide +kernel
theorem dX1_bit_6 : decode cX1_bit 6 = .ok (.isub, 1) := by decide +kernel
theorem dX1_bit_7 : decode cX1_bit 7 = .ok (.lushr, 1) := by decide +kernel
theorem dX1_bit_8 : decode cX1_bit 8 = .ok (.lconst 1, 1) := by decide +kernel
theorem dX1_bit_9 : decode cX1_bit 9 = .ok (.land, 1) := by decide +kernel
theorem dX1_bit_10 : decode cX1_bit 10 = .ok (.lconst 1, 1) := by decide +kernel
theorem dX1_bit_11 : decode cX1_bit 11 = .ok (.lcmp, 1) := by decide +kernel
theorem dX1_bit_12 : decode cX1_bit 12 = .ok (.ifCond .ne 7, 3) := by decide +kernel
theorem dX1_bit_15 : decode cX1_bit 15 = .ok (.iconst 1, 1) := by decide +kernel
theorem dX1_bit_16 : decode cX1_bit 16 = .ok (.goto 4, 3) := by decide +kernel
theorem dX1_bit_19 : decode cX1_bit 19 = .ok (.iconst 0, 1) := by decide +kernel
theorem dX1_bit_20 : decode cX1_bit 20 = .ok (.istore 4, 2) := by decide +kernel
theorem dX1_bit_22 : decode cX1_bit 22 = .ok (.aload_n 0, 1) := by decide +kernel
theorem dX1_bit_23 : decode cX1_bit 23 = .ok (.lload_n 1, 1) := by decide +kernel
theorem dX1_bit_24 : decode cX1_bit 24 = .ok (.iconst 1, 1) := by decide +kernel
theorem dX1_bit_25 : decode cX1_bit 25 = .ok (.lshl, 1) := by decide +kernel
theorem dX1_bit_26 : decode cX1_bit 26 = .ok (.invokevirtual 42, 3) := by decide +kernel
theorem dX1_bit_29 : decode cX1_bit 29 = .ok (.lstore 5, 2) := by decide +kernel
theorem dX1_bit_31 : decode cX1_bit 31 = .ok (.iload 4, 2) := by decide +kernel
theorem dX1_bit_33 : decode cX1_bit 33 = .ok (.iload_n 3, 1) := by decide +kernel
theorem dX1_bit_34 : decode cX1_bit 34 = .ok (.iconst 1, 1) := by decide +kernel
theorem dX1_bit_35 : decode cX1_bit 35 = .ok (.if_icmp .ne 7, 3) := by decide +kernel
theorem dX1_bit_38 : decode cX1_bit 38 = .ok (.iconst 1, 1) := by decide +kernel
theorem dX1_bit_39 : decode cX1_bit 39 = .ok (.goto 4, 3) := by decide +kernel
theorem dX1_bit_42 : decode cX1_bit 42 = .ok (.iconst 0, 1) := by decide +kernel
theorem dX1_bit_43 : decode cX1_bit 43 = .ok (.if_icmp .eq 13, 3) := by decide +kernel
theorem dX1_bit_46 : decode cX1_bit 46 = .ok (.lload 5, 2) := by decide +kernel
theorem dX1_bit_48 : decode cX1_bit 48 = .ok (.aload_n 0, 1) := by decide +kernel
theorem dX1_bit_49 : decode cX1_bit 49 = .ok (.getfield 15, 3) := by decide +kernel
theorem dX1_bit_52 : decode cX1_bit 52 = .ok (.lxor, 1) := by decide +kernel
theorem dX1_bit_53 : decode cX1_bit 53 = .ok (.goto 5, 3) := by decide +kernel
theorem dX1_bit_56 : decode cX1_bit 56 = .ok (.lload 5, 2) := by decide +kernel
theorem dX1_bit_58 : decode cX1_bit 58 = .ok (.lreturn, 1) := by decide +kernel
set_option maxRecDepth 20000 in
theorem ggX1_oneByte_X1_bit : GoodIn wsX1_oneByte wsX1_bit := goodIn_r _ [6, 7, 8, 9, 10, 11, 5, 12, 13, 14, 15, 16, 17, 18, 19, 20, 21, 22, 23] (by decide +kernel) (by decide +kernel)
set_option maxRecDepth 20000 in
theorem gX1_oneByte_X1_bit : GoodIn wsX1_oneByte (wsV RX1 49 RX1 yX1_bit wsX1_bit) := goodIn_app (goodIn_of _ (by decide +kernel)) ggX1_oneByte_X1_bit
theorem dX1_oneByte_0 : decode cX1_oneByte 0 = .ok (.lload_n 1, 1) := by decide +kernel
theorem dX1_oneByte_1 : decode cX1_oneByte 1 = .ok (.lstore 4, 2) := by decide +kernel
theorem dX1_oneByte_3 : decode cX1_oneByte 3 = .ok (.iconst 0, 1) := by decide +kernel
theorem dX1_oneByte_4 : decode cX1_oneByte 4 = .ok (.istore 6, 2) := by decide +kernel
theorem dX1_oneByte_6 : decode cX1_oneByte 6 = .ok (.iload 6, 2) := by decide +kernel
theorem dX1_oneByte_8 : decode cX1_oneByte 8 = .ok (.bipush 8, 2) := by decide +kernel
theorem dX1_oneByte_10 : decode cX1_oneByte 10 = .ok (.if_icmp .ge 42, 3) := by decide +kernel
theorem dX1_oneByte_13 : decode cX1_oneByte 13 = .ok (.aload_n 0, 1) := by decide +kernel
theorem dX1_oneByte_14 : decode cX1_oneByte 14 = .ok (.lload 4, 2) := by decide +kernel
theorem dX1_oneByte_16 : decode cX1_oneByte 16 = .ok (.aload_n 0, 1) := by decide +kernel
theorem dX1_oneByte_17 : decode cX1_oneByte 17 = .ok (.getfield 27, 3) := by decide +kernel
theorem dX1_oneByte_20 : decode cX1_oneByte 20 = .ok (.ifCond .eq 12, 3) := by decide +kernel
theorem dX1_oneByte_23 : decode cX1_oneByte 23 = .ok (.iload_n 3, 1) := by decide +kernel
theorem dX1_oneByte_24 : decode cX1_oneByte 24 = .ok (.iload 6, 2) := by decide +kernel
theorem dX1_oneByte_26 : decode cX1_oneByte 26 = .ok (.ishr, 1) := by decide +kernel
theorem dX1_oneByte_27 : decode cX1_oneByte 27 = .ok (.iconst 1, 1) := by decide +kernel
theorem dX1_oneByte_28 : decode cX1_oneByte 28 = .ok (.iand, 1) := by decide +kernel
theorem dX1_oneByte_29 : decode cX1_oneByte 29 = .ok (.goto 12, 3) := by decide +kernel
theorem dX1_oneByte_32 : decode cX1_oneByte 32 = .ok (.iload_n 3, 1) := by decide +kernel
theorem dX1_oneByte_33 : decode cX1_oneByte 33 = .ok (.bipush 7, 2) := by decide +kernel
theorem dX1_oneByte_35 : decode cX1_oneByte 35 = .ok (.iload 6, 2) := by decide +kernel
theorem dX1_oneByte_37 : decode cX1_oneByte 37 = .ok (.isub, 1) := by decide +kernel
theorem dX1_oneByte_38 : decode cX1_oneByte 38 = .ok (.ishr, 1) := by decide +kernel
theorem dX1_oneByte_39 : decode cX1_oneByte 39 = .ok (.iconst 1, 1) := by decide +kernel
theorem dX1_oneByte_40 : decode cX1_oneByte 40 = .ok (.iand, 1) := by decide +kernel
theorem dX1_oneByte_41 : decode cX1_oneByte 41 = .ok (.invokevirtual 49, 3) := by decide +kernel
theorem dX1_oneByte_44 : decode cX1_oneByte 44 = .ok (.lstore 4, 2) := by decide +kernel
theorem dX1_oneByte_46 : decode cX1_oneByte 46 = .ok (.iinc 6 1, 3) := by decide +kernel
theorem dX1_oneByte_49 : decode cX1_oneByte 49 = .ok (.goto (-43), 3) := by decide +kernel
theorem dX1_oneByte_52 : decode cX1_oneByte 52 = .ok (.lload 4, 2) := by decide +kernel
theorem dX1_oneByte_54 : decode cX1_oneByte 54 = .ok (.lreturn, 1) := by decide +kernel
theorem dX1_turned_0 : decode cX1_turned 0 = .ok (.lconst 0, 1) := by decide +kernel
theorem dX1_turned_1 : decode cX1_turned 1 = .ok (.lstore_n 3, 1) := by decide +kernel
theorem dX1_turned_2 : decode cX1_turned 2 = .ok (.iconst 0, 1) := by decide +kernel
theorem dX1_turned_3 : decode cX1_turned 3 = .ok (.istore 5, 2) := by decide +kernel
theorem dX1_turned_5 : decode cX1_turned 5 = .ok (.iload 5, 2) := by decide +kernel
theorem dX1_turned_7 : decode cX1_turned 7 = .ok (.aload_n 0, 1) := by decide +kernel
theorem dX1_turned_8 : decode cX1_turned 8 = .ok (.getfield 7, 3) := by decide +kernel
theorem dX1_turned_11 : decode cX1_turned 11 = .ok (.if_icmp .ge 20, 3) := by decide +kernel
theorem dX1_turned_14 : decode cX1_turned 14 = .ok (.lload_n 3, 1) := by decide +kernel
theorem dX1_turned_15 : decode cX1_turned 15 = .ok (.iconst 1, 1) := by decide +kernel
theorem dX1_turned_16 : decode cX1_turned 16 = .ok (.lshl, 1) := by decide +kernel
theorem dX1_turned_17 : decode cX1_turned 17 = .ok (.lload_n 1, 1) := by decide +kernel
theorem dX1_turned_18 : decode cX1_turned 18 = .ok (.iload 5, 2) := by decide +kernel
theorem dX1_turned_20 : decode cX1_turned 20 = .ok (.lushr, 1) := by decide +kernel
theorem dX1_turned_21 : decode cX1_turned 21 = .ok (.lconst 1, 1) := by decide +kernel
theorem dX1_turned_22 : decode cX1_turned 22 = .ok (.land, 1) := by decide +kernel
theorem dX1_turned_23 : decode cX1_turned 23 = .ok (.lor, 1) := by decide +kernel
theorem dX1_turned_24 : decode cX1_turned 24 = .ok (.lstore_n 3, 1) := by decide +kernel
theorem dX1_turned_25 : decode cX1_turned 25 = .ok (.iinc 5 1, 3) := by decide +kernel
theorem dX1_turned_28 : decode cX1_turned 28 = .ok (.goto (-23), 3) := by decide +kernel
theorem dX1_turned_31 : decode cX1_turned 31 = .ok (.lload_n 3, 1) := by decide +kernel
theorem dX1_turned_32 : decode cX1_turned 32 = .ok (.lreturn, 1) := by decide +kernel
set_option maxRecDepth 20000 in
theorem ggX1_told_X1_turned : GoodIn wsX1_told wsX1_turned := goodIn_r _ [7, 8, 9, 10, 11, 12, 13, 14, 15, 16] (by decide +kernel) (by decide +kernel)
set_option maxRecDepth 20000 in
theorem gX1_told_X1_turned : GoodIn wsX1_told (wsV RX1 52 RX1 yX1_turned wsX1_turned) := goodIn_app (goodIn_of _ (by decide +kernel)) ggX1_told_X1_turned
theorem dX1_told_0 : decode cX1_told 0 = .ok (.aload_n 0, 1) := by decide +kernel
theorem dX1_told_1 : decode cX1_told 1 = .ok (.getfield 31, 3) := by decide +kernel
theorem dX1_told_4 : decode cX1_told 4 = .ok (.ifCond .eq 11, 3) := by decide +kernel
theorem dX1_told_7 : decode cX1_told 7 = .ok (.aload_n 0, 1) := by decide +kernel
theorem dX1_told_8 : decode cX1_told 8 = .ok (.lload_n 1, 1) := by decide +kernel
theorem dX1_told_9 : decode cX1_told 9 = .ok (.invokevirtual 52, 3) := by decide +kernel
theorem dX1_told_12 : decode cX1_told 12 = .ok (.goto 4, 3) := by decide +kernel
theorem dX1_told_15 : decode cX1_told 15 = .ok (.lload_n 1, 1) := by decide +kernel
theorem dX1_told_16 : decode cX1_told 16 = .ok (.aload_n 0, 1) := by decide +kernel
theorem dX1_told_17 : decode cX1_told 17 = .ok (.getfield 24, 3) := by decide +kernel
theorem dX1_told_20 : decode cX1_told 20 = .ok (.lxor, 1) := by decide +kernel
theorem dX1_told_21 : decode cX1_told 21 = .ok (.lreturn, 1) := by decide +kernel
set_option maxRecDepth 20000 in
theorem ggX1_register_X1_cut : GoodIn wsX1_register wsX1_cut := goodIn_r _ [7, 8, 9, 10, 6, 11, 16, 17, 18, 19, 20, 21, 22, 23] (by decide +kernel) (by decide +kernel)
set_option maxRecDepth 20000 in
theorem gX1_register_X1_cut : GoodIn wsX1_register (wsV RX1 42 RX1 yX1_cut wsX1_cut) := goodIn_app (goodIn_of _ (by decide +kernel)) ggX1_register_X1_cut
set_option maxRecDepth 20000 in
theorem ggX1_register_X1_turned : GoodIn wsX1_register wsX1_turned := goodIn_r _ [15, 8, 16, 17, 18, 19, 20, 21, 22, 23] (by decide +kernel) (by decide +kernel)
set_option maxRecDepth 20000 in
theorem gX1_register_X1_turned : GoodIn wsX1_register (wsV RX1 52 RX1 yX1_turned wsX1_turned) := goodIn_app (goodIn_of _ (by decide +kernel)) ggX1_register_X1_turned
theorem dX1_register_0 : decode cX1_register 0 = .ok (.aload_n 0, 1) := by decide +kernel
theorem dX1_register_1 : decode cX1_register 1 = .ok (.lload_n 1, 1) := by decide +kernel
theorem dX1_register_2 : decode cX1_register 2 = .ok (.invokevirtual 42, 3) := by decide +kernel
theorem dX1_register_5 : decode cX1_register 5 = .ok (.aload_n 0, 1) := by decide +kernel
theorem dX1_register_6 : decode cX1_register 6 = .ok (.getfield 24, 3) := by decide +kernel
theorem dX1_register_9 : decode cX1_register 9 = .ok (.lxor, 1) := by decide +kernel
theorem dX1_register_10 : decode cX1_register 10 = .ok (.lstore_n 3, 1) := by decide +kernel
theorem dX1_register_11 : decode cX1_register 11 = .ok (.aload_n 0, 1) := by decide +kernel
theorem dX1_register_12 : decode cX1_register 12 = .ok (.getfield 31, 3) := by decide +kernel
theorem dX1_register_15 : decode cX1_register 15 = .ok (.ifCond .eq 11, 3) := by decide +kernel
theorem dX1_register_18 : decode cX1_register 18 = .ok (.aload_n 0, 1) := by decide +kernel
theorem dX1_register_19 : decode cX1_register 19 = .ok (.lload_n 3, 1) := by decide +kernel
theorem dX1_register_20 : decode cX1_register 20 = .ok (.invokevirtual 52, 3) := by decide +kernel
theorem dX1_register_23 : decode cX1_register 23 = .ok (.goto 4, 3) := by decide +kernel
theorem dX1_register_26 : decode cX1_register 26 = .ok (.lload_n 3, 1) := by decide +kernel
theorem dX1_register_27 : decode cX1_register 27 = .ok (.lreturn, 1) := by decide +kernel
set_option maxRecDepth 20000 in
theorem ggX1_over_X1_oneByte : GoodIn wsX1_over wsX1_oneByte := goodIn_r _ [7, 8, 9, 10, 11, 6, 12, 13, 14, 15, 16, 17, 18, 19, 20, 21, 32, 33, 34, 35, 36, 37, 38, 39] (by decide +kernel) (by decide +kernel)
set_option maxRecDepth 20000 in
theorem gX1_over_X1_oneByte : GoodIn wsX1_over (wsV RX1 55 RX1 yX1_oneByte wsX1_oneByte) := goodIn_app (goodIn_of _ (by decide +kernel)) ggX1_over_X1_oneByte
set_option maxRecDepth 20000 in
theorem ggX1_over_X1_told : GoodIn wsX1_over wsX1_told := goodIn_r _ [25, 26, 27, 28, 29, 30, 6, 31, 13, 32, 33, 34, 35, 36, 37, 38, 39] (by decide +kernel) (by decide +kernel)
set_option maxRecDepth 20000 in
theorem gX1_over_X1_told : GoodIn wsX1_over (wsV RX1 58 RX1 yX1_told wsX1_told) := goodIn_app (goodIn_of _ (by decide +kernel)) ggX1_over_X1_told
theorem dX1_over_0 : decode cX1_over 0 = .ok (.aload_n 0, 1) := by decide +kernel
theorem dX1_over_1 : decode cX1_over 1 = .ok (.getfield 21, 3) := by decide +kernel
theorem dX1_over_4 : decode cX1_over 4 = .ok (.lstore_n 3, 1) := by decide +kernel
theorem dX1_over_5 : decode cX1_over 5 = .ok (.iload_n 1, 1) := by decide +kernel
theorem dX1_over_6 : decode cX1_over 6 = .ok (.istore 5, 2) := by decide +kernel
theorem dX1_over_8 : decode cX1_over 8 = .ok (.iload 5, 2) := by decide +kernel
theorem dX1_over_10 : decode cX1_over 10 = .ok (.iload_n 2, 1) := by decide +kernel
theorem dX1_over_11 : decode cX1_over 11 = .ok (.if_icmp .ge 22, 3) := by decide +kernel
theorem dX1_over_14 : decode cX1_over 14 = .ok (.aload_n 0, 1) := by decide +kernel
theorem dX1_over_15 : decode cX1_over 15 = .ok (.lload_n 3, 1) := by decide +kernel
theorem dX1_over_16 : decode cX1_over 16 = .ok (.aload_n 0, 1) := by decide +kernel
theorem dX1_over_17 : decode cX1_over 17 = .ok (.getfield 34, 3) := by decide +kernel
theorem dX1_over_20 : decode cX1_over 20 = .ok (.iload 5, 2) := by decide +kernel
theorem dX1_over_22 : decode cX1_over 22 = .ok (.iaload, 1) := by decide +kernel
theorem dX1_over_23 : decode cX1_over 23 = .ok (.invokevirtual 55, 3) := by decide +kernel
theorem dX1_over_26 : decode cX1_over 26 = .ok (.lstore_n 3, 1) := by decide +kernel
theorem dX1_over_27 : decode cX1_over 27 = .ok (.iinc 5 1, 3) := by decide +kernel
theorem dX1_over_30 : decode cX1_over 30 = .ok (.goto (-22), 3) := by decide +kernel
theorem dX1_over_33 : decode cX1_over 33 = .ok (.aload_n 0, 1) := by decide +kernel
theorem dX1_over_34 : decode cX1_over 34 = .ok (.lload_n 3, 1) := by decide +kernel
theorem dX1_over_35 : decode cX1_over 35 = .ok (.invokevirtual 58, 3) := by decide +kernel
theorem dX1_over_38 : decode cX1_over 38 = .ok (.lreturn, 1) := by decide +kernel
set_option maxRecDepth 20000 in
theorem ggX1_check_X1_over : GoodIn wsX1_check wsX1_over := goodIn_r _ [6, 7, 8, 9, 10, 11, 5, 12, 13, 14, 15, 16, 17, 18, 19, 20, 21, 22, 23, 24, 25, 26, 27, 28, 29, 30, 31, 32, 33, 34, 35, 36, 37, 38, 39, 40, 41, 42, 43, 44] (by decide +kernel) (by decide +kernel)
set_option maxRecDepth 20000 in
theorem gX1_check_X1_over : GoodIn wsX1_check (wsV RX1 61 RX1 yX1_over wsX1_over) := goodIn_app (goodIn_of _ (by decide +kernel)) ggX1_check_X1_over
theorem dX1_check_0 : decode cX1_check 0 = .ok (.iload_n 1, 1) := by decide +kernel
theorem dX1_check_1 : decode cX1_check 1 = .ok (.ifCond .lt 8, 3) := by decide +kernel
theorem dX1_check_4 : decode cX1_check 4 = .ok (.iload_n 1, 1) := by decide +kernel
theorem dX1_check_5 : decode cX1_check 5 = .ok (.iconst 3, 1) := by decide +kernel
theorem dX1_check_6 : decode cX1_check 6 = .ok (.if_icmp .le 7, 3) := by decide +kernel
theorem dX1_check_9 : decode cX1_check 9 = .ok (.lconst 0, 1) := by decide +kernel
theorem dX1_check_10 : decode cX1_check 10 = .ok (.goto 12, 3) := by decide +kernel
theorem dX1_check_13 : decode cX1_check 13 = .ok (.aload_n 0, 1) := by decide +kernel
theorem dX1_check_14 : decode cX1_check 14 = .ok (.iconst 0, 1) := by decide +kernel
theorem dX1_check_15 : decode cX1_check 15 = .ok (.aload_n 0, 1) := by decide +kernel
theorem dX1_check_16 : decode cX1_check 16 = .ok (.getfield 46, 3) := by decide +kernel
theorem dX1_check_19 : decode cX1_check 19 = .ok (.invokevirtual 61, 3) := by decide +kernel
theorem dX1_check_22 : decode cX1_check 22 = .ok (.lreturn, 1) := by decide +kernel
set_option maxRecDepth 20000 in
theorem ggX1_part_X1_over : GoodIn wsX1_part wsX1_over := goodIn_r _ [6, 7, 8, 9, 10, 11, 5, 12, 13, 14, 15, 16, 17, 18, 19, 20, 21, 22, 23, 24, 25, 26, 27, 28, 29, 30, 31, 32, 33, 34, 35, 36, 37, 38, 39, 40, 41, 42, 43, 44] (by decide +kernel) (by decide +kernel)
set_option maxRecDepth 20000 in
theorem gX1_part_X1_over : GoodIn wsX1_part (wsV RX1 61 RX1 yX1_over wsX1_over) := goodIn_app (goodIn_of _ (by decide +kernel)) ggX1_part_X1_over
theorem dX1_part_0 : decode cX1_part 0 = .ok (.iload_n 1, 1) := by decide +kernel
theorem dX1_part_1 : decode cX1_part 1 = .ok (.ifCond .lt 16, 3) := by decide +kernel
theorem dX1_part_4 : decode cX1_part 4 = .ok (.iload_n 2, 1) := by decide +kernel
theorem dX1_part_5 : decode cX1_part 5 = .ok (.iload_n 1, 1) := by decide +kernel
theorem dX1_part_6 : decode cX1_part 6 = .ok (.if_icmp .lt 11, 3) := by decide +kernel
theorem dX1_part_9 : decode cX1_part 9 = .ok (.iload_n 2, 1) := by decide +kernel
theorem dX1_part_10 : decode cX1_part 10 = .ok (.aload_n 0, 1) := by decide +kernel
theorem dX1_part_11 : decode cX1_part 11 = .ok (.getfield 46, 3) := by decide +kernel
theorem dX1_part_14 : decode cX1_part 14 = .ok (.if_icmp .le 7, 3) := by decide +kernel
theorem dX1_part_17 : decode cX1_part 17 = .ok (.lconst 0, 1) := by decide +kernel
theorem dX1_part_18 : decode cX1_part 18 = .ok (.goto 9, 3) := by decide +kernel
theorem dX1_part_21 : decode cX1_part 21 = .ok (.aload_n 0, 1) := by decide +kernel
theorem dX1_part_22 : decode cX1_part 22 = .ok (.iload_n 1, 1) := by decide +kernel
theorem dX1_part_23 : decode cX1_part 23 = .ok (.iload_n 2, 1) := by decide +kernel
theorem dX1_part_24 : decode cX1_part 24 = .ok (.invokevirtual 61, 3) := by decide +kernel
theorem dX1_part_27 : decode cX1_part 27 = .ok (.lreturn, 1) := by decide +kernel
set_option maxRecDepth 20000 in
theorem ggX1_times_X1_bit : GoodIn wsX1_times wsX1_bit := goodIn_r _ [6, 1, 7, 8, 9, 10, 5, 11, 12, 13, 14, 15, 16, 17, 18, 19, 20, 21, 22] (by decide +kernel) (by decide +kernel)
set_option maxRecDepth 20000 in
theorem gX1_times_X1_bit : GoodIn wsX1_times (wsV RX1 49 RX1 yX1_bit wsX1_bit) := goodIn_app (goodIn_of _ (by decide +kernel)) ggX1_times_X1_bit
theorem dX1_times_0 : decode cX1_times 0 = .ok (.lconst 0, 1) := by decide +kernel
theorem dX1_times_1 : decode cX1_times 1 = .ok (.lstore 5, 2) := by decide +kernel
theorem dX1_times_3 : decode cX1_times 3 = .ok (.aload_n 0, 1) := by decide +kernel
theorem dX1_times_4 : decode cX1_times 4 = .ok (.getfield 7, 3) := by decide +kernel
theorem dX1_times_7 : decode cX1_times 7 = .ok (.iconst 1, 1) := by decide +kernel
theorem dX1_times_8 : decode cX1_times 8 = .ok (.isub, 1) := by decide +kernel
theorem dX1_times_9 : decode cX1_times 9 = .ok (.istore 7, 2) := by decide +kernel
theorem dX1_times_11 : decode cX1_times 11 = .ok (.iload 7, 2) := by decide +kernel
theorem dX1_times_13 : decode cX1_times 13 = .ok (.ifCond .lt 39, 3) := by decide +kernel
theorem dX1_times_16 : decode cX1_times 16 = .ok (.aload_n 0, 1) := by decide +kernel
theorem dX1_times_17 : decode cX1_times 17 = .ok (.lload 5, 2) := by decide +kernel
theorem dX1_times_19 : decode cX1_times 19 = .ok (.iconst 0, 1) := by decide +kernel
theorem dX1_times_20 : decode cX1_times 20 = .ok (.invokevirtual 49, 3) := by decide +kernel
theorem dX1_times_23 : decode cX1_times 23 = .ok (.lstore 5, 2) := by decide +kernel
theorem dX1_times_25 : decode cX1_times 25 = .ok (.lload 5, 2) := by decide +kernel
theorem dX1_times_27 : decode cX1_times 27 = .ok (.lload_n 3, 1) := by decide +kernel
theorem dX1_times_28 : decode cX1_times 28 = .ok (.iload 7, 2) := by decide +kernel
theorem dX1_times_30 : decode cX1_times 30 = .ok (.lushr, 1) := by decide +kernel
theorem dX1_times_31 : decode cX1_times 31 = .ok (.lconst 1, 1) := by decide +kernel
theorem dX1_times_32 : decode cX1_times 32 = .ok (.land, 1) := by decide +kernel
theorem dX1_times_33 : decode cX1_times 33 = .ok (.lconst 1, 1) := by decide +kernel
theorem dX1_times_34 : decode cX1_times 34 = .ok (.lcmp, 1) := by decide +kernel
theorem dX1_times_35 : decode cX1_times 35 = .ok (.ifCond .ne 7, 3) := by decide +kernel
theorem dX1_times_38 : decode cX1_times 38 = .ok (.lload_n 1, 1) := by decide +kernel
theorem dX1_times_39 : decode cX1_times 39 = .ok (.goto 4, 3) := by decide +kernel
theorem dX1_times_42 : decode cX1_times 42 = .ok (.lconst 0, 1) := by decide +kernel
theorem dX1_times_43 : decode cX1_times 43 = .ok (.lxor, 1) := by decide +kernel
theorem dX1_times_44 : decode cX1_times 44 = .ok (.lstore 5, 2) := by decide +kernel
theorem dX1_times_46 : decode cX1_times 46 = .ok (.iinc 7 (-1), 3) := by decide +kernel
theorem dX1_times_49 : decode cX1_times 49 = .ok (.goto (-38), 3) := by decide +kernel
theorem dX1_times_52 : decode cX1_times 52 = .ok (.lload 5, 2) := by decide +kernel
theorem dX1_times_54 : decode cX1_times 54 = .ok (.lreturn, 1) := by decide +kernel
set_option maxRecDepth 20000 in
theorem ggX1_behind_X1_bit : GoodIn wsX1_behind wsX1_bit := goodIn_r _ [6, 7, 8, 9, 10, 11, 5, 12, 13, 14, 15, 20, 21, 22, 23, 24, 25, 26, 27] (by decide +kernel) (by decide +kernel)
set_option maxRecDepth 20000 in
theorem gX1_behind_X1_bit : GoodIn wsX1_behind (wsV RX1 49 RX1 yX1_bit wsX1_bit) := goodIn_app (goodIn_of _ (by decide +kernel)) ggX1_behind_X1_bit
set_option maxRecDepth 20000 in
theorem ggX1_behind_X1_times : GoodIn wsX1_behind wsX1_times := goodIn_r _ [19, 7, 2, 3, 4, 5, 6, 8, 9, 10, 11, 12, 13, 14, 15, 20, 21, 22, 23, 24, 25, 26, 27] (by decide +kernel) (by decide +kernel)
set_option maxRecDepth 20000 in
theorem gX1_behind_X1_times : GoodIn wsX1_behind (wsV RX1 67 RX1 yX1_times wsX1_times) := goodIn_app (goodIn_of _ (by decide +kernel)) ggX1_behind_X1_times
theorem dX1_behind_0 : decode cX1_behind 0 = .ok (.lload_n 1, 1) := by decide +kernel
theorem dX1_behind_1 : decode cX1_behind 1 = .ok (.lstore 5, 2) := by decide +kernel
theorem dX1_behind_3 : decode cX1_behind 3 = .ok (.aload_n 0, 1) := by decide +kernel
theorem dX1_behind_4 : decode cX1_behind 4 = .ok (.lconst 1, 1) := by decide +kernel
theorem dX1_behind_5 : decode cX1_behind 5 = .ok (.iconst 0, 1) := by decide +kernel
theorem dX1_behind_6 : decode cX1_behind 6 = .ok (.invokevirtual 49, 3) := by decide +kernel
theorem dX1_behind_9 : decode cX1_behind 9 = .ok (.lstore 7, 2) := by decide +kernel
theorem dX1_behind_11 : decode cX1_behind 11 = .ok (.lload_n 3, 1) := by decide +kernel
theorem dX1_behind_12 : decode cX1_behind 12 = .ok (.lstore 9, 2) := by decide +kernel
theorem dX1_behind_14 : decode cX1_behind 14 = .ok (.lload 9, 2) := by decide +kernel
theorem dX1_behind_16 : decode cX1_behind 16 = .ok (.lconst 0, 1) := by decide +kernel
theorem dX1_behind_17 : decode cX1_behind 17 = .ok (.lcmp, 1) := by decide +kernel
theorem dX1_behind_18 : decode cX1_behind 18 = .ok (.ifCond .le 50, 3) := by decide +kernel
theorem dX1_behind_21 : decode cX1_behind 21 = .ok (.lload 9, 2) := by decide +kernel
theorem dX1_behind_23 : decode cX1_behind 23 = .ok (.ldc2_w 65, 3) := by decide +kernel
theorem dX1_behind_26 : decode cX1_behind 26 = .ok (.lrem, 1) := by decide +kernel
theorem dX1_behind_27 : decode cX1_behind 27 = .ok (.lconst 1, 1) := by decide +kernel
theorem dX1_behind_28 : decode cX1_behind 28 = .ok (.lcmp, 1) := by decide +kernel
theorem dX1_behind_29 : decode cX1_behind 29 = .ok (.ifCond .ne 14, 3) := by decide +kernel
theorem dX1_behind_32 : decode cX1_behind 32 = .ok (.aload_n 0, 1) := by decide +kernel
theorem dX1_behind_33 : decode cX1_behind 33 = .ok (.lload 5, 2) := by decide +kernel
theorem dX1_behind_35 : decode cX1_behind 35 = .ok (.lload 7, 2) := by decide +kernel
theorem dX1_behind_37 : decode cX1_behind 37 = .ok (.invokevirtual 67, 3) := by decide +kernel
theorem dX1_behind_40 : decode cX1_behind 40 = .ok (.goto 5, 3) := by decide +kernel
theorem dX1_behind_43 : decode cX1_behind 43 = .ok (.lload 5, 2) := by decide +kernel
theorem dX1_behind_45 : decode cX1_behind 45 = .ok (.lstore 5, 2) := by decide +kernel
theorem dX1_behind_47 : decode cX1_behind 47 = .ok (.aload_n 0, 1) := by decide +kernel
theorem dX1_behind_48 : decode cX1_behind 48 = .ok (.lload 7, 2) := by decide +kernel
theorem dX1_behind_50 : decode cX1_behind 50 = .ok (.lload 7, 2) := by decide +kernel
theorem dX1_behind_52 : decode cX1_behind 52 = .ok (.invokevirtual 67, 3) := by decide +kernel
theorem dX1_behind_55 : decode cX1_behind 55 = .ok (.lstore 7, 2) := by decide +kernel
theorem dX1_behind_57 : decode cX1_behind 57 = .ok (.lload 9, 2) := by decide +kernel
theorem dX1_behind_59 : decode cX1_behind 59 = .ok (.ldc2_w 65, 3) := by decide +kernel
theorem dX1_behind_62 : decode cX1_behind 62 = .ok (.ldiv, 1) := by decide +kernel
theorem dX1_behind_63 : decode cX1_behind 63 = .ok (.lstore 9, 2) := by decide +kernel
theorem dX1_behind_65 : decode cX1_behind 65 = .ok (.goto (-51), 3) := by decide +kernel
theorem dX1_behind_68 : decode cX1_behind 68 = .ok (.lload 5, 2) := by decide +kernel
theorem dX1_behind_70 : decode cX1_behind 70 = .ok (.lreturn, 1) := by decide +kernel
set_option maxRecDepth 20000 in
theorem ggX1_joined_X1_register : GoodIn wsX1_joined wsX1_register := goodIn_r _ [7, 8, 9, 10, 11, 12, 6, 13, 14, 15, 16, 17, 18, 19, 20, 21, 40, 41, 42, 43, 44, 45, 46, 47] (by decide +kernel) (by decide +kernel)
set_option maxRecDepth 20000 in
theorem gX1_joined_X1_register : GoodIn wsX1_joined (wsV RX1 71 RX1 yX1_register wsX1_register) := goodIn_app (goodIn_of _ (by decide +kernel)) ggX1_joined_X1_register
set_option maxRecDepth 20000 in
theorem ggX1_joined_X1_behind : GoodIn wsX1_joined wsX1_behind := goodIn_r _ [25, 26, 27, 28, 29, 6, 30, 14, 31, 10, 11, 12, 13, 15, 16, 17, 32, 33, 34, 35, 40, 41, 42, 43, 44, 45, 46, 47] (by decide +kernel) (by decide +kernel)
set_option maxRecDepth 20000 in
theorem gX1_joined_X1_behind : GoodIn wsX1_joined (wsV RX1 76 RX1 yX1_behind wsX1_behind) := goodIn_app (goodIn_of _ (by decide +kernel)) ggX1_joined_X1_behind
set_option maxRecDepth 20000 in
theorem ggX1_joined_X1_told : GoodIn wsX1_joined wsX1_told := goodIn_r _ [39, 9, 8, 18, 19, 20, 6, 21, 14, 40, 41, 42, 43, 44, 45, 46, 47] (by decide +kernel) (by decide +kernel)
set_option maxRecDepth 20000 in
theorem gX1_joined_X1_told : GoodIn wsX1_joined (wsV RX1 58 RX1 yX1_told wsX1_told) := goodIn_app (goodIn_of _ (by decide +kernel)) ggX1_joined_X1_told
theorem dX1_joined_0 : decode cX1_joined 0 = .ok (.iload 5, 2) := by decide +kernel
theorem dX1_joined_2 : decode cX1_joined 2 = .ok (.ifCond .ge 5, 3) := by decide +kernel
theorem dX1_joined_5 : decode cX1_joined 5 = .ok (.lconst 0, 1) := by decide +kernel
theorem dX1_joined_6 : decode cX1_joined 6 = .ok (.lreturn, 1) := by decide +kernel
theorem dX1_joined_7 : decode cX1_joined 7 = .ok (.aload_n 0, 1) := by decide +kernel
theorem dX1_joined_8 : decode cX1_joined 8 = .ok (.aload_n 0, 1) := by decide +kernel
theorem dX1_joined_9 : decode cX1_joined 9 = .ok (.aload_n 0, 1) := by decide +kernel
theorem dX1_joined_10 : decode cX1_joined 10 = .ok (.lload_n 1, 1) := by decide +kernel
theorem dX1_joined_11 : decode cX1_joined 11 = .ok (.invokevirtual 71, 3) := by decide +kernel
theorem dX1_joined_14 : decode cX1_joined 14 = .ok (.aload_n 0, 1) := by decide +kernel
theorem dX1_joined_15 : decode cX1_joined 15 = .ok (.getfield 21, 3) := by decide +kernel
theorem dX1_joined_18 : decode cX1_joined 18 = .ok (.lxor, 1) := by decide +kernel
theorem dX1_joined_19 : decode cX1_joined 19 = .ok (.ldc2_w 74, 3) := by decide +kernel
theorem dX1_joined_22 : decode cX1_joined 22 = .ok (.iload 5, 2) := by decide +kernel
theorem dX1_joined_24 : decode cX1_joined 24 = .ok (.i2l, 1) := by decide +kernel
theorem dX1_joined_25 : decode cX1_joined 25 = .ok (.lmul, 1) := by decide +kernel
theorem dX1_joined_26 : decode cX1_joined 26 = .ok (.invokevirtual 76, 3) := by decide +kernel
theorem dX1_joined_29 : decode cX1_joined 29 = .ok (.aload_n 0, 1) := by decide +kernel
theorem dX1_joined_30 : decode cX1_joined 30 = .ok (.lload_n 3, 1) := by decide +kernel
theorem dX1_joined_31 : decode cX1_joined 31 = .ok (.invokevirtual 71, 3) := by decide +kernel
theorem dX1_joined_34 : decode cX1_joined 34 = .ok (.lxor, 1) := by decide +kernel
theorem dX1_joined_35 : decode cX1_joined 35 = .ok (.invokevirtual 58, 3) := by decide +kernel
theorem dX1_joined_38 : decode cX1_joined 38 = .ok (.lreturn, 1) := by decide +kernel
set_option maxRecDepth 20000 in
theorem ggX1_entry_X1_oneByte : GoodIn wsX1_entry wsX1_oneByte := goodIn_r _ [6, 7, 8, 9, 10, 5, 11, 12, 13, 14, 15, 16, 17, 18, 19, 20, 30, 31, 32, 33, 34, 35, 36, 37] (by decide +kernel) (by decide +kernel)
set_option maxRecDepth 20000 in
theorem gX1_entry_X1_oneByte : GoodIn wsX1_entry (wsV RX1 55 RX1 yX1_oneByte wsX1_oneByte) := goodIn_app (goodIn_of _ (by decide +kernel)) ggX1_entry_X1_oneByte
set_option maxRecDepth 20000 in
theorem ggX1_entry_X1_behind : GoodIn wsX1_entry wsX1_behind := goodIn_r _ [24, 25, 8, 9, 10, 5, 11, 12, 13, 14, 15, 16, 17, 18, 19, 20, 26, 27, 28, 29, 30, 31, 32, 33, 34, 35, 36, 37] (by decide +kernel) (by decide +kernel)
set_option maxRecDepth 20000 in
theorem gX1_entry_X1_behind : GoodIn wsX1_entry (wsV RX1 76 RX1 yX1_behind wsX1_behind) := goodIn_app (goodIn_of _ (by decide +kernel)) ggX1_entry_X1_behind
theorem dX1_entry_0 : decode cX1_entry 0 = .ok (.iload_n 1, 1) := by decide +kernel
theorem dX1_entry_1 : decode cX1_entry 1 = .ok (.ifCond .lt 20, 3) := by decide +kernel
theorem dX1_entry_4 : decode cX1_entry 4 = .ok (.iload_n 1, 1) := by decide +kernel
theorem dX1_entry_5 : decode cX1_entry 5 = .ok (.bipush 7, 2) := by decide +kernel
theorem dX1_entry_7 : decode cX1_entry 7 = .ok (.if_icmp .gt 14, 3) := by decide +kernel
theorem dX1_entry_10 : decode cX1_entry 10 = .ok (.iload_n 2, 1) := by decide +kernel
theorem dX1_entry_11 : decode cX1_entry 11 = .ok (.ifCond .lt 10, 3) := by decide +kernel
theorem dX1_entry_14 : decode cX1_entry 14 = .ok (.iload_n 2, 1) := by decide +kernel
theorem dX1_entry_15 : decode cX1_entry 15 = .ok (.sipush 255, 3) := by decide +kernel
theorem dX1_entry_18 : decode cX1_entry 18 = .ok (.if_icmp .le 5, 3) := by decide +kernel
theorem dX1_entry_21 : decode cX1_entry 21 = .ok (.lconst 0, 1) := by decide +kernel
theorem dX1_entry_22 : decode cX1_entry 22 = .ok (.lreturn, 1) := by decide +kernel
theorem dX1_entry_23 : decode cX1_entry 23 = .ok (.aload_n 0, 1) := by decide +kernel
theorem dX1_entry_24 : decode cX1_entry 24 = .ok (.aload_n 0, 1) := by decide +kernel
theorem dX1_entry_25 : decode cX1_entry 25 = .ok (.lconst 0, 1) := by decide +kernel
theorem dX1_entry_26 : decode cX1_entry 26 = .ok (.iload_n 2, 1) := by decide +kernel
theorem dX1_entry_27 : decode cX1_entry 27 = .ok (.invokevirtual 55, 3) := by decide +kernel
theorem dX1_entry_30 : decode cX1_entry 30 = .ok (.ldc2_w 74, 3) := by decide +kernel
theorem dX1_entry_33 : decode cX1_entry 33 = .ok (.iload_n 1, 1) := by decide +kernel
theorem dX1_entry_34 : decode cX1_entry 34 = .ok (.i2l, 1) := by decide +kernel
theorem dX1_entry_35 : decode cX1_entry 35 = .ok (.lmul, 1) := by decide +kernel
theorem dX1_entry_36 : decode cX1_entry 36 = .ok (.invokevirtual 76, 3) := by decide +kernel
theorem dX1_entry_39 : decode cX1_entry 39 = .ok (.lreturn, 1) := by decide +kernel
set_option maxRecDepth 20000 in
theorem ggX1_zeros_X1_cut : GoodIn wsX1_zeros wsX1_cut := goodIn_r _ [6, 7, 8, 9, 5, 10, 25, 26, 27, 28, 29, 30, 31, 32] (by decide +kernel) (by decide +kernel)
set_option maxRecDepth 20000 in
theorem gX1_zeros_X1_cut : GoodIn wsX1_zeros (wsV RX1 42 RX1 yX1_cut wsX1_cut) := goodIn_app (goodIn_of _ (by decide +kernel)) ggX1_zeros_X1_cut
set_option maxRecDepth 20000 in
theorem ggX1_zeros_X1_behind : GoodIn wsX1_zeros wsX1_behind := goodIn_r _ [14, 15, 16, 17, 18, 5, 19, 7, 20, 2, 3, 4, 6, 8, 9, 10, 21, 22, 23, 24, 25, 26, 27, 28, 29, 30, 31, 32] (by decide +kernel) (by decide +kernel)
set_option maxRecDepth 20000 in
theorem gX1_zeros_X1_behind : GoodIn wsX1_zeros (wsV RX1 76 RX1 yX1_behind wsX1_behind) := goodIn_app (goodIn_of _ (by decide +kernel)) ggX1_zeros_X1_behind
theorem dX1_zeros_0 : decode cX1_zeros 0 = .ok (.iload_n 3, 1) := by decide +kernel
theorem dX1_zeros_1 : decode cX1_zeros 1 = .ok (.ifCond .lt 9, 3) := by decide +kernel
theorem dX1_zeros_4 : decode cX1_zeros 4 = .ok (.iload_n 3, 1) := by decide +kernel
theorem dX1_zeros_5 : decode cX1_zeros 5 = .ok (.ldc 79, 2) := by decide +kernel
theorem dX1_zeros_7 : decode cX1_zeros 7 = .ok (.if_icmp .le 7, 3) := by decide +kernel
theorem dX1_zeros_10 : decode cX1_zeros 10 = .ok (.lconst 0, 1) := by decide +kernel
theorem dX1_zeros_11 : decode cX1_zeros 11 = .ok (.goto 14, 3) := by decide +kernel
theorem dX1_zeros_14 : decode cX1_zeros 14 = .ok (.aload_n 0, 1) := by decide +kernel
theorem dX1_zeros_15 : decode cX1_zeros 15 = .ok (.aload_n 0, 1) := by decide +kernel
theorem dX1_zeros_16 : decode cX1_zeros 16 = .ok (.lload_n 1, 1) := by decide +kernel
theorem dX1_zeros_17 : decode cX1_zeros 17 = .ok (.invokevirtual 42, 3) := by decide +kernel
theorem dX1_zeros_20 : decode cX1_zeros 20 = .ok (.iload_n 3, 1) := by decide +kernel
theorem dX1_zeros_21 : decode cX1_zeros 21 = .ok (.i2l, 1) := by decide +kernel
theorem dX1_zeros_22 : decode cX1_zeros 22 = .ok (.invokevirtual 76, 3) := by decide +kernel
theorem dX1_zeros_25 : decode cX1_zeros 25 = .ok (.lreturn, 1) := by decide +kernel
set_option maxRecDepth 20000 in
theorem ggX1_round_X1_bit : GoodIn wsX1_round wsX1_bit := goodIn_r _ [5, 6, 7, 8, 9, 10, 4, 11, 12, 13, 14, 15, 16, 17, 18, 19, 20, 21, 22] (by decide +kernel) (by decide +kernel)
set_option maxRecDepth 20000 in
theorem gX1_round_X1_bit : GoodIn wsX1_round (wsV RX1 49 RX1 yX1_bit wsX1_bit) := goodIn_app (goodIn_of _ (by decide +kernel)) ggX1_round_X1_bit
theorem dX1_round_0 : decode cX1_round 0 = .ok (.lconst 1, 1) := by decide +kernel
theorem dX1_round_1 : decode cX1_round 1 = .ok (.lstore_n 1, 1) := by decide +kernel
theorem dX1_round_2 : decode cX1_round 2 = .ok (.iconst 1, 1) := by decide +kernel
theorem dX1_round_3 : decode cX1_round 3 = .ok (.istore_n 3, 1) := by decide +kernel
theorem dX1_round_4 : decode cX1_round 4 = .ok (.iload_n 3, 1) := by decide +kernel
theorem dX1_round_5 : decode cX1_round 5 = .ok (.sipush 4096, 3) := by decide +kernel
theorem dX1_round_8 : decode cX1_round 8 = .ok (.if_icmp .gt 24, 3) := by decide +kernel
theorem dX1_round_11 : decode cX1_round 11 = .ok (.aload_n 0, 1) := by decide +kernel
theorem dX1_round_12 : decode cX1_round 12 = .ok (.lload_n 1, 1) := by decide +kernel
theorem dX1_round_13 : decode cX1_round 13 = .ok (.iconst 0, 1) := by decide +kernel
theorem dX1_round_14 : decode cX1_round 14 = .ok (.invokevirtual 49, 3) := by decide +kernel
theorem dX1_round_17 : decode cX1_round 17 = .ok (.lstore_n 1, 1) := by decide +kernel
theorem dX1_round_18 : decode cX1_round 18 = .ok (.lload_n 1, 1) := by decide +kernel
theorem dX1_round_19 : decode cX1_round 19 = .ok (.lconst 1, 1) := by decide +kernel
theorem dX1_round_20 : decode cX1_round 20 = .ok (.lcmp, 1) := by decide +kernel
theorem dX1_round_21 : decode cX1_round 21 = .ok (.ifCond .ne 5, 3) := by decide +kernel
theorem dX1_round_24 : decode cX1_round 24 = .ok (.iload_n 3, 1) := by decide +kernel
theorem dX1_round_25 : decode cX1_round 25 = .ok (.ireturn, 1) := by decide +kernel
theorem dX1_round_26 : decode cX1_round 26 = .ok (.iinc 3 1, 3) := by decide +kernel
theorem dX1_round_29 : decode cX1_round 29 = .ok (.goto (-25), 3) := by decide +kernel
theorem dX1_round_32 : decode cX1_round 32 = .ok (.iconst (-1), 1) := by decide +kernel
theorem dX1_round_33 : decode cX1_round 33 = .ok (.ireturn, 1) := by decide +kernel
theorem dX1_holds_0 : decode cX1_holds 0 = .ok (.iconst 1, 1) := by decide +kernel
theorem dX1_holds_1 : decode cX1_holds 1 = .ok (.ireturn, 1) := by decide +kernel
theorem dX1_count_0 : decode cX1_count 0 = .ok (.iload_n 1, 1) := by decide +kernel
theorem dX1_count_1 : decode cX1_count 1 = .ok (.tableswitch 67 0 3 #[31, 36, 41, 54], 31) := by decide +kernel
theorem dX1_count_32 : decode cX1_count 32 = .ok (.aload_n 0, 1) := by decide +kernel
theorem dX1_count_33 : decode cX1_count 33 = .ok (.getfield 46, 3) := by decide +kernel
theorem dX1_count_36 : decode cX1_count 36 = .ok (.ireturn, 1) := by decide +kernel
theorem dX1_count_37 : decode cX1_count 37 = .ok (.aload_n 0, 1) := by decide +kernel
theorem dX1_count_38 : decode cX1_count 38 = .ok (.getfield 7, 3) := by decide +kernel
theorem dX1_count_41 : decode cX1_count 41 = .ok (.ireturn, 1) := by decide +kernel
theorem dX1_count_42 : decode cX1_count 42 = .ok (.aload_n 0, 1) := by decide +kernel
theorem dX1_count_43 : decode cX1_count 43 = .ok (.getfield 27, 3) := by decide +kernel
theorem dX1_count_46 : decode cX1_count 46 = .ok (.ifCond .eq 7, 3) := by decide +kernel
theorem dX1_count_49 : decode cX1_count 49 = .ok (.iconst 1, 1) := by decide +kernel
theorem dX1_count_50 : decode cX1_count 50 = .ok (.goto 4, 3) := by decide +kernel
theorem dX1_count_53 : decode cX1_count 53 = .ok (.iconst 0, 1) := by decide +kernel
theorem dX1_count_54 : decode cX1_count 54 = .ok (.ireturn, 1) := by decide +kernel
theorem dX1_count_55 : decode cX1_count 55 = .ok (.aload_n 0, 1) := by decide +kernel
theorem dX1_count_56 : decode cX1_count 56 = .ok (.getfield 31, 3) := by decide +kernel
theorem dX1_count_59 : decode cX1_count 59 = .ok (.ifCond .eq 7, 3) := by decide +kernel
theorem dX1_count_62 : decode cX1_count 62 = .ok (.iconst 1, 1) := by decide +kernel
theorem dX1_count_63 : decode cX1_count 63 = .ok (.goto 4, 3) := by decide +kernel
theorem dX1_count_66 : decode cX1_count 66 = .ok (.iconst 0, 1) := by decide +kernel
theorem dX1_count_67 : decode cX1_count 67 = .ok (.ireturn, 1) := by decide +kernel
theorem dX1_count_68 : decode cX1_count 68 = .ok (.iconst (-1), 1) := by decide +kernel
theorem dX1_count_69 : decode cX1_count 69 = .ok (.ireturn, 1) := by decide +kernel
theorem dX1_told__0 : decode cX1_told_ 0 = .ok (.iload_n 1, 1) := by decide +kernel
theorem dX1_told__1 : decode cX1_told_ 1 = .ok (.ifCond .ne 10, 3) := by decide +kernel
theorem dX1_told__4 : decode cX1_told_ 4 = .ok (.aload_n 0, 1) := by decide +kernel
theorem dX1_told__5 : decode cX1_told_ 5 = .ok (.getfield 15, 3) := by decide +kernel
theorem dX1_told__8 : decode cX1_told_ 8 = .ok (.goto 28, 3) := by decide +kernel
theorem dX1_told__11 : decode cX1_told_ 11 = .ok (.iload_n 1, 1) := by decide +kernel
theorem dX1_told__12 : decode cX1_told_ 12 = .ok (.iconst 1, 1) := by decide +kernel
theorem dX1_told__13 : decode cX1_told_ 13 = .ok (.if_icmp .ne 10, 3) := by decide +kernel
theorem dX1_told__16 : decode cX1_told_ 16 = .ok (.aload_n 0, 1) := by decide +kernel
theorem dX1_told__17 : decode cX1_told_ 17 = .ok (.getfield 21, 3) := by decide +kernel
theorem dX1_told__20 : decode cX1_told_ 20 = .ok (.goto 16, 3) := by decide +kernel
theorem dX1_told__23 : decode cX1_told_ 23 = .ok (.iload_n 1, 1) := by decide +kernel
theorem dX1_told__24 : decode cX1_told_ 24 = .ok (.iconst 2, 1) := by decide +kernel
theorem dX1_told__25 : decode cX1_told_ 25 = .ok (.if_icmp .ne 10, 3) := by decide +kernel
theorem dX1_told__28 : decode cX1_told_ 28 = .ok (.aload_n 0, 1) := by decide +kernel
theorem dX1_told__29 : decode cX1_told_ 29 = .ok (.getfield 24, 3) := by decide +kernel
theorem dX1_told__32 : decode cX1_told_ 32 = .ok (.goto 4, 3) := by decide +kernel
theorem dX1_told__35 : decode cX1_told_ 35 = .ok (.lconst 0, 1) := by decide +kernel
theorem dX1_told__36 : decode cX1_told_ 36 = .ok (.lreturn, 1) := by decide +kernel
theorem dJ7_fill_d0a16_0 : decode cJ7_fill_d0a16 0 = .ok (.iconst 0, 1) := by decide +kernel
theorem dJ7_fill_d0a16_1 : decode cJ7_fill_d0a16 1 = .ok (.istore_n 3, 1) := by decide +kernel
theorem dJ7_fill_d0a16_2 : decode cJ7_fill_d0a16 2 = .ok (.aload_n 0, 1) := by decide +kernel
theorem dJ7_fill_d0a16_3 : decode cJ7_fill_d0a16 3 = .ok (.arraylength, 1) := by decide +kernel
theorem dJ7_fill_d0a16_4 : decode cJ7_fill_d0a16 4 = .ok (.istore 4, 2) := by decide +kernel
theorem dJ7_fill_d0a16_6 : decode cJ7_fill_d0a16 6 = .ok (.iload_n 3, 1) := by decide +kernel
theorem dJ7_fill_d0a16_7 : decode cJ7_fill_d0a16 7 = .ok (.iload 4, 2) := by decide +kernel
theorem dJ7_fill_d0a16_9 : decode cJ7_fill_d0a16 9 = .ok (.if_icmp .ge 13, 3) := by decide +kernel
theorem dJ7_fill_d0a16_12 : decode cJ7_fill_d0a16 12 = .ok (.aload_n 0, 1) := by decide +kernel
theorem dJ7_fill_d0a16_13 : decode cJ7_fill_d0a16 13 = .ok (.iload_n 3, 1) := by decide +kernel
theorem dJ7_fill_d0a16_14 : decode cJ7_fill_d0a16 14 = .ok (.lload_n 1, 1) := by decide +kernel
theorem dJ7_fill_d0a16_15 : decode cJ7_fill_d0a16 15 = .ok (.lastore, 1) := by decide +kernel
theorem dJ7_fill_d0a16_16 : decode cJ7_fill_d0a16 16 = .ok (.iinc 3 1, 3) := by decide +kernel
theorem dJ7_fill_d0a16_19 : decode cJ7_fill_d0a16 19 = .ok (.goto (-13), 3) := by decide +kernel
theorem dJ7_fill_d0a16_22 : decode cJ7_fill_d0a16 22 = .ok (.return_, 1) := by decide +kernel
set_option maxRecDepth 20000 in
theorem ggL_law_X0_init : GoodIn wsL_law wsX0_init := goodIn_r _ [9, 10, 11, 12, 13, 14, 15, 16, 17, 18, 19, 20, 21, 2, 22, 23, 24, 25, 26, 27, 28, 29, 30, 31, 32, 33, 34, 35, 36, 37, 38, 39, 40, 41, 42, 43, 44, 45, 46, 47, 48, 49, 50, 51, 52, 53, 54, 55, 56, 57, 58, 59, 60, 61, 62, 63, 64, 65, 66, 67, 68, 306, 307, 308, 309, 310, 311, 312, 313, 314, 315, 316] (by decide +kernel) (by decide +kernel)
set_option maxRecDepth 20000 in
theorem gL_law_X0_init : GoodIn wsL_law (wsX0_init) := ggL_law_X0_init
set_option maxRecDepth 20000 in
theorem ggL_law_X1_init : GoodIn wsL_law wsX1_init := goodIn_r _ [71, 72, 11, 12, 73, 74, 75, 76, 77, 78, 79, 80, 81, 82, 317, 318, 319, 320, 321, 322, 323, 324] (by decide +kernel) (by decide +kernel)
set_option maxRecDepth 20000 in
theorem gL_law_X1_init : GoodIn wsL_law (wsX1_init) := ggL_law_X1_init
set_option maxRecDepth 20000 in
theorem ggL_law_X0_kind : GoodIn wsL_law wsX0_kind := goodIn_r _ [22, 23, 24, 25, 26, 27, 28, 29, 30, 31, 32, 2, 33, 34, 14, 35, 36, 37, 38, 39, 40, 41, 42, 43, 44, 45, 46, 47, 48, 49, 50, 51, 52, 53, 54, 55, 56, 16, 57, 58, 59, 60, 61, 62, 63, 64, 65, 66, 67, 68, 306, 307, 308, 309, 310, 311, 312, 313, 314, 315, 316] (by decide +kernel) (by decide +kernel)
set_option maxRecDepth 20000 in
theorem gL_law_X0_kind : GoodIn wsL_law (wsV RL 15 RX0 yX0_kind wsX0_kind) := goodIn_app (goodIn_of _ (by decide +kernel)) ggL_law_X0_kind
set_option maxRecDepth 20000 in
theorem ggL_law_X1_kind : GoodIn wsL_law wsX1_kind := goodIn_r _ [87, 73, 75, 77, 78, 79, 80, 88, 89, 90, 5, 91, 92, 93, 94, 317, 318, 319, 320, 321, 322, 323, 324] (by decide +kernel) (by decide +kernel)
set_option maxRecDepth 20000 in
theorem gL_law_X1_kind : GoodIn wsL_law (wsV RL 19 RX1 yX1_kind wsX1_kind) := goodIn_app (goodIn_of _ (by decide +kernel)) ggL_law_X1_kind
set_option maxRecDepth 20000 in
theorem ggL_law_X0_feed : GoodIn wsL_law wsX0_feed := goodIn_r _ [98, 34, 14, 99, 100, 2, 101, 102, 103, 104, 105, 23, 106, 107, 108, 109, 110, 111, 306, 307, 308, 309, 310, 311, 312, 313, 314, 315, 316] (by decide +kernel) (by decide +kernel)
set_option maxRecDepth 20000 in
theorem gL_law_X0_feed : GoodIn wsL_law (wsV RL 20 RX0 yX0_feed wsX0_feed) := goodIn_app (goodIn_of _ (by decide +kernel)) ggL_law_X0_feed
set_option maxRecDepth 20000 in
theorem ggL_law_X1_feed : GoodIn wsL_law wsX1_feed := goodIn_r _ [115, 116, 82, 317, 318, 319, 320, 321, 322, 323, 324] (by decide +kernel) (by decide +kernel)
set_option maxRecDepth 20000 in
theorem gL_law_X1_feed : GoodIn wsL_law (wsV RL 24 RX1 yX1_feed wsX1_feed) := goodIn_app (goodIn_of _ (by decide +kernel)) ggL_law_X1_feed
set_option maxRecDepth 20000 in
theorem ggL_law_X0_clear : GoodIn wsL_law wsX0_clear := goodIn_r _ [120, 14, 34, 121, 122, 123, 124, 306, 307, 308, 309, 310, 311, 312, 313, 314, 315, 316] (by decide +kernel) (by decide +kernel)
set_option maxRecDepth 20000 in
theorem gL_law_X0_clear : GoodIn wsL_law (wsV RL 25 RX0 yX0_clear wsX0_clear) := goodIn_app (goodIn_of _ (by decide +kernel)) ggL_law_X0_clear
set_option maxRecDepth 20000 in
theorem ggL_law_X1_clear : GoodIn wsL_law wsX1_clear := goodIn_r _ [128, 116, 317, 318, 319, 320, 321, 322, 323, 324] (by decide +kernel) (by decide +kernel)
set_option maxRecDepth 20000 in
theorem gL_law_X1_clear : GoodIn wsL_law (wsV RL 28 RX1 yX1_clear wsX1_clear) := goodIn_app (goodIn_of _ (by decide +kernel)) ggL_law_X1_clear
set_option maxRecDepth 20000 in
theorem ggL_law_X0_flip : GoodIn wsL_law wsX0_flip := goodIn_r _ [132, 14, 133, 134, 135, 2, 136, 34, 306, 307, 308, 309, 310, 311, 312, 313, 314, 315, 316] (by decide +kernel) (by decide +kernel)
set_option maxRecDepth 20000 in
theorem gL_law_X0_flip : GoodIn wsL_law (wsV RL 29 RX0 yX0_flip wsX0_flip) := goodIn_app (goodIn_of _ (by decide +kernel)) ggL_law_X0_flip
set_option maxRecDepth 20000 in
theorem ggL_law_X1_flip : GoodIn wsL_law wsX1_flip := goodIn_r _ [140, 116, 82, 79, 317, 318, 319, 320, 321, 322, 323, 324] (by decide +kernel) (by decide +kernel)
set_option maxRecDepth 20000 in
theorem gL_law_X1_flip : GoodIn wsL_law (wsV RL 33 RX1 yX1_flip wsX1_flip) := goodIn_app (goodIn_of _ (by decide +kernel)) ggL_law_X1_flip
set_option maxRecDepth 20000 in
theorem ggL_law_X0_check : GoodIn wsL_law wsX0_check := goodIn_r _ [144, 27, 34, 145, 146, 147, 2, 148, 45, 46, 47, 48, 24, 149, 150, 151, 152, 14, 109, 110, 111, 57, 58, 59, 60, 61, 62, 63, 64, 26, 153, 154, 155, 156, 28, 29, 49, 50, 51, 52, 106, 107, 108, 157, 158, 159, 160, 65, 66, 67, 68, 16, 161, 162, 163, 164, 165, 166, 167, 168, 169, 170, 171, 172, 173, 15, 174, 175, 176, 177, 133, 134, 135, 136, 178, 179, 180, 181, 182, 183, 184, 185, 306, 307, 308, 309, 310, 311, 312, 313, 314, 315, 316] (by decide +kernel) (by decide +kernel)
set_option maxRecDepth 20000 in
theorem gL_law_X0_check : GoodIn wsL_law (wsV RL 34 RX0 yX0_check wsX0_check) := goodIn_app (goodIn_of _ (by decide +kernel)) ggL_law_X0_check
set_option maxRecDepth 20000 in
theorem ggL_law_X1_check : GoodIn wsL_law wsX1_check := goodIn_r _ [189, 116, 190, 191, 192, 5, 193, 77, 82, 194, 195, 196, 197, 79, 198, 199, 200, 201, 73, 75, 88, 89, 90, 91, 92, 93, 94, 202, 203, 204, 205, 80, 78, 206, 207, 208, 209, 317, 318, 319, 320, 321, 322, 323, 324] (by decide +kernel) (by decide +kernel)
set_option maxRecDepth 20000 in
theorem gL_law_X1_check : GoodIn wsL_law (wsV RL 38 RX1 yX1_check wsX1_check) := goodIn_app (goodIn_of _ (by decide +kernel)) ggL_law_X1_check
set_option maxRecDepth 20000 in
theorem ggL_law_X0_part : GoodIn wsL_law wsX0_part := goodIn_r _ [213, 34, 161, 162, 163, 2, 164, 27, 14, 45, 46, 47, 48, 24, 157, 158, 159, 160, 149, 150, 151, 152, 109, 110, 111, 65, 66, 67, 68, 16, 165, 166, 167, 168, 169, 153, 154, 155, 156, 28, 29, 49, 50, 51, 52, 106, 107, 108, 306, 307, 308, 309, 310, 311, 312, 313, 314, 315, 316] (by decide +kernel) (by decide +kernel)
set_option maxRecDepth 20000 in
theorem gL_law_X0_part : GoodIn wsL_law (wsV RL 39 RX0 yX0_part wsX0_part) := goodIn_app (goodIn_of _ (by decide +kernel)) ggL_law_X0_part
set_option maxRecDepth 20000 in
theorem ggL_law_X1_part : GoodIn wsL_law wsX1_part := goodIn_r _ [217, 116, 190, 191, 192, 5, 193, 77, 82, 194, 195, 196, 197, 79, 198, 199, 200, 201, 73, 75, 88, 89, 90, 91, 92, 93, 94, 202, 203, 204, 205, 80, 78, 206, 207, 208, 209, 317, 318, 319, 320, 321, 322, 323, 324] (by decide +kernel) (by decide +kernel)
set_option maxRecDepth 20000 in
theorem gL_law_X1_part : GoodIn wsL_law (wsV RL 43 RX1 yX1_part wsX1_part) := goodIn_app (goodIn_of _ (by decide +kernel)) ggL_law_X1_part
set_option maxRecDepth 20000 in
theorem ggL_law_X0_joined : GoodIn wsL_law wsX0_joined := goodIn_r _ [221, 27, 222, 223, 224, 225, 2, 226, 29, 28, 24, 106, 107, 108, 45, 46, 47, 48, 227, 228, 229, 230, 61, 62, 63, 64, 26, 231, 232, 233, 234, 153, 154, 155, 156, 49, 50, 51, 52, 306, 307, 308, 309, 310, 311, 312, 313, 314, 315, 316] (by decide +kernel) (by decide +kernel)
set_option maxRecDepth 20000 in
theorem gL_law_X0_joined : GoodIn wsL_law (wsV RL 44 RX0 yX0_joined wsX0_joined) := goodIn_app (goodIn_of _ (by decide +kernel)) ggL_law_X0_joined
set_option maxRecDepth 20000 in
theorem ggL_law_X1_joined : GoodIn wsL_law wsX1_joined := goodIn_r _ [238, 77, 239, 240, 241, 242, 5, 243, 78, 80, 88, 89, 90, 91, 73, 92, 93, 94, 206, 207, 208, 209, 244, 245, 246, 247, 248, 198, 199, 200, 201, 75, 249, 250, 251, 252, 202, 203, 204, 205, 317, 318, 319, 320, 321, 322, 323, 324] (by decide +kernel) (by decide +kernel)
set_option maxRecDepth 20000 in
theorem gL_law_X1_joined : GoodIn wsL_law (wsV RL 48 RX1 yX1_joined wsX1_joined) := goodIn_app (goodIn_of _ (by decide +kernel)) ggL_law_X1_joined
set_option maxRecDepth 20000 in
theorem ggL_law_X0_entry : GoodIn wsL_law wsX0_entry := goodIn_r _ [256, 16, 99, 100, 2, 101, 102, 103, 104, 105, 23, 106, 107, 108, 49, 50, 51, 52, 24, 306, 307, 308, 309, 310, 311, 312, 313, 314, 315, 316] (by decide +kernel) (by decide +kernel)
set_option maxRecDepth 20000 in
theorem gL_law_X0_entry : GoodIn wsL_law (wsV RL 49 RX0 yX0_entry wsX0_entry) := goodIn_app (goodIn_of _ (by decide +kernel)) ggL_law_X0_entry
set_option maxRecDepth 20000 in
theorem ggL_law_X1_entry : GoodIn wsL_law wsX1_entry := goodIn_r _ [260, 239, 194, 195, 196, 5, 197, 79, 198, 199, 200, 201, 73, 75, 88, 89, 90, 91, 92, 93, 94, 244, 245, 246, 247, 248, 249, 250, 251, 252, 317, 318, 319, 320, 321, 322, 323, 324] (by decide +kernel) (by decide +kernel)
set_option maxRecDepth 20000 in
theorem gL_law_X1_entry : GoodIn wsL_law (wsV RL 52 RX1 yX1_entry wsX1_entry) := goodIn_app (goodIn_of _ (by decide +kernel)) ggL_law_X1_entry
set_option maxRecDepth 20000 in
theorem ggL_law_X0_zeros : GoodIn wsL_law wsX0_zeros := goodIn_r _ [264, 265, 45, 46, 47, 2, 48, 24, 227, 228, 229, 230, 61, 62, 63, 64, 26, 231, 232, 233, 234, 49, 50, 51, 52, 306, 307, 308, 309, 310, 311, 312, 313, 314, 315, 316] (by decide +kernel) (by decide +kernel)
set_option maxRecDepth 20000 in
theorem gL_law_X0_zeros : GoodIn wsL_law (wsV RL 53 RX0 yX0_zeros wsX0_zeros) := goodIn_app (goodIn_of _ (by decide +kernel)) ggL_law_X0_zeros
set_option maxRecDepth 20000 in
theorem ggL_law_X1_zeros : GoodIn wsL_law wsX1_zeros := goodIn_r _ [269, 270, 88, 89, 90, 5, 91, 73, 92, 93, 94, 244, 245, 246, 247, 248, 198, 199, 200, 201, 75, 249, 250, 251, 252, 317, 318, 319, 320, 321, 322, 323, 324] (by decide +kernel) (by decide +kernel)
set_option maxRecDepth 20000 in
theorem gL_law_X1_zeros : GoodIn wsL_law (wsV RL 57 RX1 yX1_zeros wsX1_zeros) := goodIn_app (goodIn_of _ (by decide +kernel)) ggL_law_X1_zeros
set_option maxRecDepth 20000 in
theorem ggL_law_X0_round : GoodIn wsL_law wsX0_round := goodIn_r _ [274, 45, 46, 47, 2, 48, 24, 61, 62, 63, 64, 26, 306, 307, 308, 309, 310, 311, 312, 313, 314, 315, 316] (by decide +kernel) (by decide +kernel)
set_option maxRecDepth 20000 in
theorem gL_law_X0_round : GoodIn wsL_law (wsV RL 58 RX0 yX0_round wsX0_round) := goodIn_app (goodIn_of _ (by decide +kernel)) ggL_law_X0_round
set_option maxRecDepth 20000 in
theorem ggL_law_X1_round : GoodIn wsL_law wsX1_round := goodIn_r _ [278, 198, 199, 200, 5, 201, 73, 75, 88, 89, 90, 91, 92, 93, 94, 317, 318, 319, 320, 321, 322, 323, 324] (by decide +kernel) (by decide +kernel)
set_option maxRecDepth 20000 in
theorem gL_law_X1_round : GoodIn wsL_law (wsV RL 62 RX1 yX1_round wsX1_round) := goodIn_app (goodIn_of _ (by decide +kernel)) ggL_law_X1_round
set_option maxRecDepth 20000 in
theorem ggL_law_X0_holds : GoodIn wsL_law wsX0_holds := goodIn_r _ [282, 34, 283, 142, 143, 2, 144, 27, 145, 146, 147, 148, 45, 46, 47, 48, 24, 149, 150, 151, 152, 14, 109, 110, 111, 57, 58, 59, 60, 61, 62, 63, 64, 26, 153, 154, 155, 156, 28, 29, 49, 50, 51, 52, 106, 107, 108, 157, 158, 159, 160, 65, 66, 67, 68, 16, 161, 162, 163, 164, 165, 166, 167, 168, 169, 170, 171, 172, 173, 15, 174, 175, 176, 177, 133, 134, 135, 136, 178, 179, 180, 181, 182, 183, 184, 185, 284, 211, 212, 213, 285, 219, 220, 221, 222, 223, 224, 225, 226, 227, 228, 229, 230, 231, 232, 233, 234, 306, 307, 308, 309, 310, 311, 312, 313, 314, 315, 316] (by decide +kernel) (by decide +kernel)
set_option maxRecDepth 20000 in
theorem gL_law_X0_holds : GoodIn wsL_law (wsV RL 63 RX0 yX0_holds wsX0_holds) := goodIn_app (goodIn_of _ (by decide +kernel)) ggL_law_X0_holds
set_option maxRecDepth 20000 in
theorem ggL_law_X1_holds : GoodIn wsL_law wsX1_holds := goodIn_r _ [289] (by decide +kernel) (by decide +kernel)
set_option maxRecDepth 20000 in
theorem gL_law_X1_holds : GoodIn wsL_law (wsV RL 67 RX1 yX1_holds wsX1_holds) := goodIn_app (goodIn_of _ (by decide +kernel)) ggL_law_X1_holds
set_option maxRecDepth 20000 in
theorem ggL_law_X0_count : GoodIn wsL_law wsX0_count := goodIn_r _ [293, 34, 24, 23, 28, 306, 307, 308, 309, 310, 311, 312, 313, 314, 315, 316] (by decide +kernel) (by decide +kernel)
set_option maxRecDepth 20000 in
theorem gL_law_X0_count : GoodIn wsL_law (wsV RL 68 RX0 yX0_count wsX0_count) := goodIn_app (goodIn_of _ (by decide +kernel)) ggL_law_X0_count
set_option maxRecDepth 20000 in
theorem ggL_law_X1_count : GoodIn wsL_law wsX1_count := goodIn_r _ [297, 116, 73, 79, 80, 317, 318, 319, 320, 321, 322, 323, 324] (by decide +kernel) (by decide +kernel)
set_option maxRecDepth 20000 in
theorem gL_law_X1_count : GoodIn wsL_law (wsV RL 72 RX1 yX1_count wsX1_count) := goodIn_app (goodIn_of _ (by decide +kernel)) ggL_law_X1_count
set_option maxRecDepth 20000 in
theorem ggL_law_X0_told : GoodIn wsL_law wsX0_told := goodIn_r _ [301, 25, 27, 29, 306, 307, 308, 309, 310, 311, 312, 313, 314, 315, 316] (by decide +kernel) (by decide +kernel)
set_option maxRecDepth 20000 in
theorem gL_law_X0_told : GoodIn wsL_law (wsV RL 73 RX0 yX0_told wsX0_told) := goodIn_app (goodIn_of _ (by decide +kernel)) ggL_law_X0_told
set_option maxRecDepth 20000 in
theorem ggL_law_X1_told_ : GoodIn wsL_law wsX1_told_ := goodIn_r _ [305, 75, 77, 78, 317, 318, 319, 320, 321, 322, 323, 324] (by decide +kernel) (by decide +kernel)
set_option maxRecDepth 20000 in
theorem gL_law_X1_told_ : GoodIn wsL_law (wsV RL 76 RX1 yX1_told_ wsX1_told_) := goodIn_app (goodIn_of _ (by decide +kernel)) ggL_law_X1_told_
theorem dL_law_0 : decode cL_law 0 = .ok (.new 7, 3) := by decide +kernel
theorem dL_law_3 : decode cL_law 3 = .ok (.dup, 1) := by decide +kernel
theorem dL_law_4 : decode cL_law 4 = .ok (.invokespecial 9, 3) := by decide +kernel
theorem dL_law_7 : decode cL_law 7 = .ok (.astore_n 1, 1) := by decide +kernel
theorem dL_law_8 : decode cL_law 8 = .ok (.new 10, 3) := by decide +kernel
theorem dL_law_11 : decode cL_law 11 = .ok (.dup, 1) := by decide +kernel
theorem dL_law_12 : decode cL_law 12 = .ok (.invokespecial 12, 3) := by decide +kernel
theorem dL_law_15 : decode cL_law 15 = .ok (.astore_n 2, 1) := by decide +kernel
theorem dL_law_16 : decode cL_law 16 = .ok (.iconst 0, 1) := by decide +kernel
theorem dL_law_17 : decode cL_law 17 = .ok (.istore_n 3, 1) := by decide +kernel
theorem dL_law_18 : decode cL_law 18 = .ok (.iload_n 3, 1) := by decide +kernel
theorem dL_law_19 : decode cL_law 19 = .ok (.aload_n 0, 1) := by decide +kernel
theorem dL_law_20 : decode cL_law 20 = .ok (.arraylength, 1) := by decide +kernel
theorem dL_law_21 : decode cL_law 21 = .ok (.bipush 10, 2) := by decide +kernel
theorem dL_law_23 : decode cL_law 23 = .ok (.isub, 1) := by decide +kernel
theorem dL_law_24 : decode cL_law 24 = .ok (.if_icmp .gt 685, 3) := by decide +kernel
theorem dL_law_27 : decode cL_law 27 = .ok (.aload_n 0, 1) := by decide +kernel
theorem dL_law_28 : decode cL_law 28 = .ok (.iload_n 3, 1) := by decide +kernel
theorem dL_law_29 : decode cL_law 29 = .ok (.iaload, 1) := by decide +kernel
theorem dL_law_30 : decode cL_law 30 = .ok (.bipush 15, 2) := by decide +kernel
theorem dL_law_32 : decode cL_law 32 = .ok (.iand, 1) := by decide +kernel
theorem dL_law_33 : decode cL_law 33 = .ok (.tableswitch 670 0 12 #[67, 270, 303, 314, 337, 361, 395, 499, 533, 597, 610, 623, 646], 67) := by decide +kernel
theorem dL_law_100 : decode cL_law 100 = .ok (.aload_n 1, 1) := by decide +kernel
theorem dL_law_101 : decode cL_law 101 = .ok (.aload_n 0, 1) := by decide +kernel
theorem dL_law_102 : decode cL_law 102 = .ok (.iload_n 3, 1) := by decide +kernel
theorem dL_law_103 : decode cL_law 103 = .ok (.iconst 1, 1) := by decide +kernel
theorem dL_law_104 : decode cL_law 104 = .ok (.iadd, 1) := by decide +kernel
theorem dL_law_105 : decode cL_law 105 = .ok (.iaload, 1) := by decide +kernel
theorem dL_law_106 : decode cL_law 106 = .ok (.aload_n 0, 1) := by decide +kernel
theorem dL_law_107 : decode cL_law 107 = .ok (.iload_n 3, 1) := by decide +kernel
theorem dL_law_108 : decode cL_law 108 = .ok (.iconst 2, 1) := by decide +kernel
theorem dL_law_109 : decode cL_law 109 = .ok (.iadd, 1) := by decide +kernel
theorem dL_law_110 : decode cL_law 110 = .ok (.iaload, 1) := by decide +kernel
theorem dL_law_111 : decode cL_law 111 = .ok (.i2l, 1) := by decide +kernel
theorem dL_law_112 : decode cL_law 112 = .ok (.bipush 32, 2) := by decide +kernel
theorem dL_law_114 : decode cL_law 114 = .ok (.lshl, 1) := by decide +kernel
theorem dL_law_115 : decode cL_law 115 = .ok (.aload_n 0, 1) := by decide +kernel
theorem dL_law_116 : decode cL_law 116 = .ok (.iload_n 3, 1) := by decide +kernel
theorem dL_law_117 : decode cL_law 117 = .ok (.iconst 3, 1) := by decide +kernel
theorem dL_law_118 : decode cL_law 118 = .ok (.iadd, 1) := by decide +kernel
theorem dL_law_119 : decode cL_law 119 = .ok (.iaload, 1) := by decide +kernel
theorem dL_law_120 : decode cL_law 120 = .ok (.i2l, 1) := by decide +kernel
theorem dL_law_121 : decode cL_law 121 = .ok (.ldc2_w 13, 3) := by decide +kernel
theorem dL_law_124 : decode cL_law 124 = .ok (.land, 1) := by decide +kernel
theorem dL_law_125 : decode cL_law 125 = .ok (.lor, 1) := by decide +kernel
theorem dL_law_126 : decode cL_law 126 = .ok (.aload_n 0, 1) := by decide +kernel
theorem dL_law_127 : decode cL_law 127 = .ok (.iload_n 3, 1) := by decide +kernel
theorem dL_law_128 : decode cL_law 128 = .ok (.iconst 4, 1) := by decide +kernel
theorem dL_law_129 : decode cL_law 129 = .ok (.iadd, 1) := by decide +kernel
theorem dL_law_130 : decode cL_law 130 = .ok (.iaload, 1) := by decide +kernel
theorem dL_law_131 : decode cL_law 131 = .ok (.i2l, 1) := by decide +kernel
theorem dL_law_132 : decode cL_law 132 = .ok (.bipush 32, 2) := by decide +kernel
theorem dL_law_134 : decode cL_law 134 = .ok (.lshl, 1) := by decide +kernel
theorem dL_law_135 : decode cL_law 135 = .ok (.aload_n 0, 1) := by decide +kernel
theorem dL_law_136 : decode cL_law 136 = .ok (.iload_n 3, 1) := by decide +kernel
theorem dL_law_137 : decode cL_law 137 = .ok (.iconst 5, 1) := by decide +kernel
theorem dL_law_138 : decode cL_law 138 = .ok (.iadd, 1) := by decide +kernel
theorem dL_law_139 : decode cL_law 139 = .ok (.iaload, 1) := by decide +kernel
theorem dL_law_140 : decode cL_law 140 = .ok (.i2l, 1) := by decide +kernel
theorem dL_law_141 : decode cL_law 141 = .ok (.ldc2_w 13, 3) := by decide +kernel
theorem dL_law_144 : decode cL_law 144 = .ok (.land, 1) := by decide +kernel
theorem dL_law_145 : decode cL_law 145 = .ok (.lor, 1) := by decide +kernel
theorem dL_law_146 : decode cL_law 146 = .ok (.aload_n 0, 1) := by decide +kernel
theorem dL_law_147 : decode cL_law 147 = .ok (.iload_n 3, 1) := by decide +kernel
theorem dL_law_148 : decode cL_law 148 = .ok (.bipush 6, 2) := by decide +kernel
theorem dL_law_150 : decode cL_law 150 = .ok (.iadd, 1) := by decide +kernel
theorem dL_law_151 : decode cL_law 151 = .ok (.iaload, 1) := by decide +kernel
theorem dL_law_152 : decode cL_law 152 = .ok (.ifCond .eq 7, 3) := by decide +kernel
theorem dL_law_155 : decode cL_law 155 = .ok (.iconst 1, 1) := by decide +kernel
theorem dL_law_156 : decode cL_law 156 = .ok (.goto 4, 3) := by decide +kernel
theorem dL_law_159 : decode cL_law 159 = .ok (.iconst 0, 1) := by decide +kernel
theorem dL_law_160 : decode cL_law 160 = .ok (.aload_n 0, 1) := by decide +kernel
theorem dL_law_161 : decode cL_law 161 = .ok (.iload_n 3, 1) := by decide +kernel
theorem dL_law_162 : decode cL_law 162 = .ok (.bipush 7, 2) := by decide +kernel
theorem dL_law_164 : decode cL_law 164 = .ok (.iadd, 1) := by decide +kernel
theorem dL_law_165 : decode cL_law 165 = .ok (.iaload, 1) := by decide +kernel
theorem dL_law_166 : decode cL_law 166 = .ok (.ifCond .eq 7, 3) := by decide +kernel
theorem dL_law_169 : decode cL_law 169 = .ok (.iconst 1, 1) := by decide +kernel
theorem dL_law_170 : decode cL_law 170 = .ok (.goto 4, 3) := by decide +kernel
theorem dL_law_173 : decode cL_law 173 = .ok (.iconst 0, 1) := by decide +kernel
theorem dL_law_174 : decode cL_law 174 = .ok (.aload_n 0, 1) := by decide +kernel
theorem dL_law_175 : decode cL_law 175 = .ok (.iload_n 3, 1) := by decide +kernel
theorem dL_law_176 : decode cL_law 176 = .ok (.bipush 8, 2) := by decide +kernel
theorem dL_law_178 : decode cL_law 178 = .ok (.iadd, 1) := by decide +kernel
theorem dL_law_179 : decode cL_law 179 = .ok (.iaload, 1) := by decide +kernel
theorem dL_law_180 : decode cL_law 180 = .ok (.i2l, 1) := by decide +kernel
theorem dL_law_181 : decode cL_law 181 = .ok (.bipush 32, 2) := by decide +kernel
theorem dL_law_183 : decode cL_law 183 = .ok (.lshl, 1) := by decide +kernel
theorem dL_law_184 : decode cL_law 184 = .ok (.aload_n 0, 1) := by decide +kernel
theorem dL_law_185 : decode cL_law 185 = .ok (.iload_n 3, 1) := by decide +kernel
theorem dL_law_186 : decode cL_law 186 = .ok (.bipush 9, 2) := by decide +kernel
theorem dL_law_188 : decode cL_law 188 = .ok (.iadd, 1) := by decide +kernel
theorem dL_law_189 : decode cL_law 189 = .ok (.iaload, 1) := by decide +kernel
theorem dL_law_190 : decode cL_law 190 = .ok (.i2l, 1) := by decide +kernel
theorem dL_law_191 : decode cL_law 191 = .ok (.ldc2_w 13, 3) := by decide +kernel
theorem dL_law_194 : decode cL_law 194 = .ok (.land, 1) := by decide +kernel
theorem dL_law_195 : decode cL_law 195 = .ok (.lor, 1) := by decide +kernel
theorem dL_law_196 : decode cL_law 196 = .ok (.invokevirtual 15, 3) := by decide +kernel
theorem dL_law_199 : decode cL_law 199 = .ok (.aload_n 2, 1) := by decide +kernel
theorem dL_law_200 : decode cL_law 200 = .ok (.aload_n 0, 1) := by decide +kernel
theorem dL_law_201 : decode cL_law 201 = .ok (.iload_n 3, 1) := by decide +kernel
theorem dL_law_202 : decode cL_law 202 = .ok (.iconst 1, 1) := by decide +kernel
theorem dL_law_203 : decode cL_law 203 = .ok (.iadd, 1) := by decide +kernel
theorem dL_law_204 : decode cL_law 204 = .ok (.iaload, 1) := by decide +kernel
theorem dL_law_205 : decode cL_law 205 = .ok (.aload_n 0, 1) := by decide +kernel
theorem dL_law_206 : decode cL_law 206 = .ok (.iload_n 3, 1) := by decide +kernel
theorem dL_law_207 : decode cL_law 207 = .ok (.iconst 2, 1) := by decide +kernel
theorem dL_law_208 : decode cL_law 208 = .ok (.iadd, 1) := by decide +kernel
theorem dL_law_209 : decode cL_law 209 = .ok (.iaload, 1) := by decide +kernel
theorem dL_law_210 : decode cL_law 210 = .ok (.i2l, 1) := by decide +kernel
theorem dL_law_211 : decode cL_law 211 = .ok (.bipush 32, 2) := by decide +kernel
theorem dL_law_213 : decode cL_law 213 = .ok (.lshl, 1) := by decide +kernel
theorem dL_law_214 : decode cL_law 214 = .ok (.aload_n 0, 1) := by decide +kernel
theorem dL_law_215 : decode cL_law 215 = .ok (.iload_n 3, 1) := by decide +kernel
theorem dL_law_216 : decode cL_law 216 = .ok (.iconst 3, 1) := by decide +kernel
theorem dL_law_217 : decode cL_law 217 = .ok (.iadd, 1) := by decide +kernel
theorem dL_law_218 : decode cL_law 218 = .ok (.iaload, 1) := by decide +kernel
theorem dL_law_219 : decode cL_law 219 = .ok (.i2l, 1) := by decide +kernel
theorem dL_law_220 : decode cL_law 220 = .ok (.ldc2_w 13, 3) := by decide +kernel
theorem dL_law_223 : decode cL_law 223 = .ok (.land, 1) := by decide +kernel
theorem dL_law_224 : decode cL_law 224 = .ok (.lor, 1) := by decide +kernel
theorem dL_law_225 : decode cL_law 225 = .ok (.aload_n 0, 1) := by decide +kernel
theorem dL_law_226 : decode cL_law 226 = .ok (.iload_n 3, 1) := by decide +kernel
theorem dL_law_227 : decode cL_law 227 = .ok (.iconst 4, 1) := by decide +kernel
theorem dL_law_228 : decode cL_law 228 = .ok (.iadd, 1) := by decide +kernel
theorem dL_law_229 : decode cL_law 229 = .ok (.iaload, 1) := by decide +kernel
theorem dL_law_230 : decode cL_law 230 = .ok (.i2l, 1) := by decide +kernel
theorem dL_law_231 : decode cL_law 231 = .ok (.bipush 32, 2) := by decide +kernel
theorem dL_law_233 : decode cL_law 233 = .ok (.lshl, 1) := by decide +kernel
theorem dL_law_234 : decode cL_law 234 = .ok (.aload_n 0, 1) := by decide +kernel
theorem dL_law_235 : decode cL_law 235 = .ok (.iload_n 3, 1) := by decide +kernel
theorem dL_law_236 : decode cL_law 236 = .ok (.iconst 5, 1) := by decide +kernel
theorem dL_law_237 : decode cL_law 237 = .ok (.iadd, 1) := by decide +kernel
theorem dL_law_238 : decode cL_law 238 = .ok (.iaload, 1) := by decide +kernel
theorem dL_law_239 : decode cL_law 239 = .ok (.i2l, 1) := by decide +kernel
theorem dL_law_240 : decode cL_law 240 = .ok (.ldc2_w 13, 3) := by decide +kernel
theorem dL_law_243 : decode cL_law 243 = .ok (.land, 1) := by decide +kernel
theorem dL_law_244 : decode cL_law 244 = .ok (.lor, 1) := by decide +kernel
theorem dL_law_245 : decode cL_law 245 = .ok (.aload_n 0, 1) := by decide +kernel
theorem dL_law_246 : decode cL_law 246 = .ok (.iload_n 3, 1) := by decide +kernel
theorem dL_law_247 : decode cL_law 247 = .ok (.bipush 6, 2) := by decide +kernel
theorem dL_law_249 : decode cL_law 249 = .ok (.iadd, 1) := by decide +kernel
theorem dL_law_250 : decode cL_law 250 = .ok (.iaload, 1) := by decide +kernel
theorem dL_law_251 : decode cL_law 251 = .ok (.ifCond .eq 7, 3) := by decide +kernel
theorem dL_law_254 : decode cL_law 254 = .ok (.iconst 1, 1) := by decide +kernel
theorem dL_law_255 : decode cL_law 255 = .ok (.goto 4, 3) := by decide +kernel
theorem dL_law_258 : decode cL_law 258 = .ok (.iconst 0, 1) := by decide +kernel
theorem dL_law_259 : decode cL_law 259 = .ok (.aload_n 0, 1) := by decide +kernel
theorem dL_law_260 : decode cL_law 260 = .ok (.iload_n 3, 1) := by decide +kernel
theorem dL_law_261 : decode cL_law 261 = .ok (.bipush 7, 2) := by decide +kernel
theorem dL_law_263 : decode cL_law 263 = .ok (.iadd, 1) := by decide +kernel
theorem dL_law_264 : decode cL_law 264 = .ok (.iaload, 1) := by decide +kernel
theorem dL_law_265 : decode cL_law 265 = .ok (.ifCond .eq 7, 3) := by decide +kernel
theorem dL_law_268 : decode cL_law 268 = .ok (.iconst 1, 1) := by decide +kernel
theorem dL_law_269 : decode cL_law 269 = .ok (.goto 4, 3) := by decide +kernel
theorem dL_law_272 : decode cL_law 272 = .ok (.iconst 0, 1) := by decide +kernel
theorem dL_law_273 : decode cL_law 273 = .ok (.aload_n 0, 1) := by decide +kernel
theorem dL_law_274 : decode cL_law 274 = .ok (.iload_n 3, 1) := by decide +kernel
theorem dL_law_275 : decode cL_law 275 = .ok (.bipush 8, 2) := by decide +kernel
theorem dL_law_277 : decode cL_law 277 = .ok (.iadd, 1) := by decide +kernel
theorem dL_law_278 : decode cL_law 278 = .ok (.iaload, 1) := by decide +kernel
theorem dL_law_279 : decode cL_law 279 = .ok (.i2l, 1) := by decide +kernel
theorem dL_law_280 : decode cL_law 280 = .ok (.bipush 32, 2) := by decide +kernel
theorem dL_law_282 : decode cL_law 282 = .ok (.lshl, 1) := by decide +kernel
theorem dL_law_283 : decode cL_law 283 = .ok (.aload_n 0, 1) := by decide +kernel
theorem dL_law_284 : decode cL_law 284 = .ok (.iload_n 3, 1) := by decide +kernel
theorem dL_law_285 : decode cL_law 285 = .ok (.bipush 9, 2) := by decide +kernel
theorem dL_law_287 : decode cL_law 287 = .ok (.iadd, 1) := by decide +kernel
theorem dL_law_288 : decode cL_law 288 = .ok (.iaload, 1) := by decide +kernel
theorem dL_law_289 : decode cL_law 289 = .ok (.i2l, 1) := by decide +kernel
theorem dL_law_290 : decode cL_law 290 = .ok (.ldc2_w 13, 3) := by decide +kernel
theorem dL_law_293 : decode cL_law 293 = .ok (.land, 1) := by decide +kernel
theorem dL_law_294 : decode cL_law 294 = .ok (.lor, 1) := by decide +kernel
theorem dL_law_295 : decode cL_law 295 = .ok (.invokevirtual 19, 3) := by decide +kernel
theorem dL_law_298 : decode cL_law 298 = .ok (.if_icmp .eq 405, 3) := by decide +kernel
theorem dL_law_301 : decode cL_law 301 = .ok (.iconst 0, 1) := by decide +kernel
theorem dL_law_302 : decode cL_law 302 = .ok (.ireturn, 1) := by decide +kernel
theorem dL_law_303 : decode cL_law 303 = .ok (.aload_n 1, 1) := by decide +kernel
theorem dL_law_304 : decode cL_law 304 = .ok (.aload_n 0, 1) := by decide +kernel
theorem dL_law_305 : decode cL_law 305 = .ok (.iload_n 3, 1) := by decide +kernel
theorem dL_law_306 : decode cL_law 306 = .ok (.iconst 1, 1) := by decide +kernel
theorem dL_law_307 : decode cL_law 307 = .ok (.iadd, 1) := by decide +kernel
theorem dL_law_308 : decode cL_law 308 = .ok (.iaload, 1) := by decide +kernel
theorem dL_law_309 : decode cL_law 309 = .ok (.aload_n 0, 1) := by decide +kernel
theorem dL_law_310 : decode cL_law 310 = .ok (.iload_n 3, 1) := by decide +kernel
theorem dL_law_311 : decode cL_law 311 = .ok (.iconst 2, 1) := by decide +kernel
theorem dL_law_312 : decode cL_law 312 = .ok (.iadd, 1) := by decide +kernel
theorem dL_law_313 : decode cL_law 313 = .ok (.iaload, 1) := by decide +kernel
theorem dL_law_314 : decode cL_law 314 = .ok (.invokevirtual 20, 3) := by decide +kernel
theorem dL_law_317 : decode cL_law 317 = .ok (.aload_n 2, 1) := by decide +kernel
theorem dL_law_318 : decode cL_law 318 = .ok (.aload_n 0, 1) := by decide +kernel
theorem dL_law_319 : decode cL_law 319 = .ok (.iload_n 3, 1) := by decide +kernel
theorem dL_law_320 : decode cL_law 320 = .ok (.iconst 1, 1) := by decide +kernel
theorem dL_law_321 : decode cL_law 321 = .ok (.iadd, 1) := by decide +kernel
theorem dL_law_322 : decode cL_law 322 = .ok (.iaload, 1) := by decide +kernel
theorem dL_law_323 : decode cL_law 323 = .ok (.aload_n 0, 1) := by decide +kernel
theorem dL_law_324 : decode cL_law 324 = .ok (.iload_n 3, 1) := by decide +kernel
theorem dL_law_325 : decode cL_law 325 = .ok (.iconst 2, 1) := by decide +kernel
theorem dL_law_326 : decode cL_law 326 = .ok (.iadd, 1) := by decide +kernel
theorem dL_law_327 : decode cL_law 327 = .ok (.iaload, 1) := by decide +kernel
theorem dL_law_328 : decode cL_law 328 = .ok (.invokevirtual 24, 3) := by decide +kernel
theorem dL_law_331 : decode cL_law 331 = .ok (.if_icmp .eq 372, 3) := by decide +kernel
theorem dL_law_334 : decode cL_law 334 = .ok (.iconst 0, 1) := by decide +kernel
theorem dL_law_335 : decode cL_law 335 = .ok (.ireturn, 1) := by decide +kernel
theorem dL_law_336 : decode cL_law 336 = .ok (.aload_n 1, 1) := by decide +kernel
theorem dL_law_337 : decode cL_law 337 = .ok (.invokevirtual 25, 3) := by decide +kernel
theorem dL_law_340 : decode cL_law 340 = .ok (.aload_n 2, 1) := by decide +kernel
theorem dL_law_341 : decode cL_law 341 = .ok (.invokevirtual 28, 3) := by decide +kernel
theorem dL_law_344 : decode cL_law 344 = .ok (.goto 359, 3) := by decide +kernel
theorem dL_law_347 : decode cL_law 347 = .ok (.aload_n 1, 1) := by decide +kernel
theorem dL_law_348 : decode cL_law 348 = .ok (.aload_n 0, 1) := by decide +kernel
theorem dL_law_349 : decode cL_law 349 = .ok (.iload_n 3, 1) := by decide +kernel
theorem dL_law_350 : decode cL_law 350 = .ok (.iconst 1, 1) := by decide +kernel
theorem dL_law_351 : decode cL_law 351 = .ok (.iadd, 1) := by decide +kernel
theorem dL_law_352 : decode cL_law 352 = .ok (.iaload, 1) := by decide +kernel
theorem dL_law_353 : decode cL_law 353 = .ok (.invokevirtual 29, 3) := by decide +kernel
theorem dL_law_356 : decode cL_law 356 = .ok (.aload_n 2, 1) := by decide +kernel
theorem dL_law_357 : decode cL_law 357 = .ok (.aload_n 0, 1) := by decide +kernel
theorem dL_law_358 : decode cL_law 358 = .ok (.iload_n 3, 1) := by decide +kernel
theorem dL_law_359 : decode cL_law 359 = .ok (.iconst 1, 1) := by decide +kernel
theorem dL_law_360 : decode cL_law 360 = .ok (.iadd, 1) := by decide +kernel
theorem dL_law_361 : decode cL_law 361 = .ok (.iaload, 1) := by decide +kernel
theorem dL_law_362 : decode cL_law 362 = .ok (.invokevirtual 33, 3) := by decide +kernel
theorem dL_law_365 : decode cL_law 365 = .ok (.if_icmp .eq 338, 3) := by decide +kernel
theorem dL_law_368 : decode cL_law 368 = .ok (.iconst 0, 1) := by decide +kernel
theorem dL_law_369 : decode cL_law 369 = .ok (.ireturn, 1) := by decide +kernel
theorem dL_law_370 : decode cL_law 370 = .ok (.aload_n 1, 1) := by decide +kernel
theorem dL_law_371 : decode cL_law 371 = .ok (.aload_n 0, 1) := by decide +kernel
theorem dL_law_372 : decode cL_law 372 = .ok (.iload_n 3, 1) := by decide +kernel
theorem dL_law_373 : decode cL_law 373 = .ok (.iconst 1, 1) := by decide +kernel
theorem dL_law_374 : decode cL_law 374 = .ok (.iadd, 1) := by decide +kernel
theorem dL_law_375 : decode cL_law 375 = .ok (.iaload, 1) := by decide +kernel
theorem dL_law_376 : decode cL_law 376 = .ok (.invokevirtual 34, 3) := by decide +kernel
theorem dL_law_379 : decode cL_law 379 = .ok (.aload_n 2, 1) := by decide +kernel
theorem dL_law_380 : decode cL_law 380 = .ok (.aload_n 0, 1) := by decide +kernel
theorem dL_law_381 : decode cL_law 381 = .ok (.iload_n 3, 1) := by decide +kernel
theorem dL_law_382 : decode cL_law 382 = .ok (.iconst 1, 1) := by decide +kernel
theorem dL_law_383 : decode cL_law 383 = .ok (.iadd, 1) := by decide +kernel
theorem dL_law_384 : decode cL_law 384 = .ok (.iaload, 1) := by decide +kernel
theorem dL_law_385 : decode cL_law 385 = .ok (.invokevirtual 38, 3) := by decide +kernel
theorem dL_law_388 : decode cL_law 388 = .ok (.lcmp, 1) := by decide +kernel
theorem dL_law_389 : decode cL_law 389 = .ok (.ifCond .eq 314, 3) := by decide +kernel
theorem dL_law_392 : decode cL_law 392 = .ok (.iconst 0, 1) := by decide +kernel
theorem dL_law_393 : decode cL_law 393 = .ok (.ireturn, 1) := by decide +kernel
theorem dL_law_394 : decode cL_law 394 = .ok (.aload_n 1, 1) := by decide +kernel
theorem dL_law_395 : decode cL_law 395 = .ok (.aload_n 0, 1) := by decide +kernel
theorem dL_law_396 : decode cL_law 396 = .ok (.iload_n 3, 1) := by decide +kernel
theorem dL_law_397 : decode cL_law 397 = .ok (.iconst 1, 1) := by decide +kernel
theorem dL_law_398 : decode cL_law 398 = .ok (.iadd, 1) := by decide +kernel
theorem dL_law_399 : decode cL_law 399 = .ok (.iaload, 1) := by decide +kernel
theorem dL_law_400 : decode cL_law 400 = .ok (.aload_n 0, 1) := by decide +kernel
theorem dL_law_401 : decode cL_law 401 = .ok (.iload_n 3, 1) := by decide +kernel
theorem dL_law_402 : decode cL_law 402 = .ok (.iconst 2, 1) := by decide +kernel
theorem dL_law_403 : decode cL_law 403 = .ok (.iadd, 1) := by decide +kernel
theorem dL_law_404 : decode cL_law 404 = .ok (.iaload, 1) := by decide +kernel
theorem dL_law_405 : decode cL_law 405 = .ok (.invokevirtual 39, 3) := by decide +kernel
theorem dL_law_408 : decode cL_law 408 = .ok (.aload_n 2, 1) := by decide +kernel
theorem dL_law_409 : decode cL_law 409 = .ok (.aload_n 0, 1) := by decide +kernel
theorem dL_law_410 : decode cL_law 410 = .ok (.iload_n 3, 1) := by decide +kernel
theorem dL_law_411 : decode cL_law 411 = .ok (.iconst 1, 1) := by decide +kernel
theorem dL_law_412 : decode cL_law 412 = .ok (.iadd, 1) := by decide +kernel
theorem dL_law_413 : decode cL_law 413 = .ok (.iaload, 1) := by decide +kernel
theorem dL_law_414 : decode cL_law 414 = .ok (.aload_n 0, 1) := by decide +kernel
theorem dL_law_415 : decode cL_law 415 = .ok (.iload_n 3, 1) := by decide +kernel
theorem dL_law_416 : decode cL_law 416 = .ok (.iconst 2, 1) := by decide +kernel
theorem dL_law_417 : decode cL_law 417 = .ok (.iadd, 1) := by decide +kernel
theorem dL_law_418 : decode cL_law 418 = .ok (.iaload, 1) := by decide +kernel
theorem dL_law_419 : decode cL_law 419 = .ok (.invokevirtual 43, 3) := by decide +kernel
theorem dL_law_422 : decode cL_law 422 = .ok (.lcmp, 1) := by decide +kernel
theorem dL_law_423 : decode cL_law 423 = .ok (.ifCond .eq 280, 3) := by decide +kernel
theorem dL_law_426 : decode cL_law 426 = .ok (.iconst 0, 1) := by decide +kernel
theorem dL_law_427 : decode cL_law 427 = .ok (.ireturn, 1) := by decide +kernel
theorem dL_law_428 : decode cL_law 428 = .ok (.aload_n 1, 1) := by decide +kernel
theorem dL_law_429 : decode cL_law 429 = .ok (.aload_n 0, 1) := by decide +kernel
theorem dL_law_430 : decode cL_law 430 = .ok (.iload_n 3, 1) := by decide +kernel
theorem dL_law_431 : decode cL_law 431 = .ok (.iconst 1, 1) := by decide +kernel
theorem dL_law_432 : decode cL_law 432 = .ok (.iadd, 1) := by decide +kernel
theorem dL_law_433 : decode cL_law 433 = .ok (.iaload, 1) := by decide +kernel
theorem dL_law_434 : decode cL_law 434 = .ok (.i2l, 1) := by decide +kernel
theorem dL_law_435 : decode cL_law 435 = .ok (.bipush 32, 2) := by decide +kernel
theorem dL_law_437 : decode cL_law 437 = .ok (.lshl, 1) := by decide +kernel
theorem dL_law_438 : decode cL_law 438 = .ok (.aload_n 0, 1) := by decide +kernel
theorem dL_law_439 : decode cL_law 439 = .ok (.iload_n 3, 1) := by decide +kernel
theorem dL_law_440 : decode cL_law 440 = .ok (.iconst 2, 1) := by decide +kernel
theorem dL_law_441 : decode cL_law 441 = .ok (.iadd, 1) := by decide +kernel
theorem dL_law_442 : decode cL_law 442 = .ok (.iaload, 1) := by decide +kernel
theorem dL_law_443 : decode cL_law 443 = .ok (.i2l, 1) := by decide +kernel
theorem dL_law_444 : decode cL_law 444 = .ok (.ldc2_w 13, 3) := by decide +kernel
theorem dL_law_447 : decode cL_law 447 = .ok (.land, 1) := by decide +kernel
theorem dL_law_448 : decode cL_law 448 = .ok (.lor, 1) := by decide +kernel
theorem dL_law_449 : decode cL_law 449 = .ok (.aload_n 0, 1) := by decide +kernel
theorem dL_law_450 : decode cL_law 450 = .ok (.iload_n 3, 1) := by decide +kernel
theorem dL_law_451 : decode cL_law 451 = .ok (.iconst 3, 1) := by decide +kernel
theorem dL_law_452 : decode cL_law 452 = .ok (.iadd, 1) := by decide +kernel
theorem dL_law_453 : decode cL_law 453 = .ok (.iaload, 1) := by decide +kernel
theorem dL_law_454 : decode cL_law 454 = .ok (.i2l, 1) := by decide +kernel
theorem dL_law_455 : decode cL_law 455 = .ok (.bipush 32, 2) := by decide +kernel
theorem dL_law_457 : decode cL_law 457 = .ok (.lshl, 1) := by decide +kernel
theorem dL_law_458 : decode cL_law 458 = .ok (.aload_n 0, 1) := by decide +kernel
theorem dL_law_459 : decode cL_law 459 = .ok (.iload_n 3, 1) := by decide +kernel
theorem dL_law_460 : decode cL_law 460 = .ok (.iconst 4, 1) := by decide +kernel
theorem dL_law_461 : decode cL_law 461 = .ok (.iadd, 1) := by decide +kernel
theorem dL_law_462 : decode cL_law 462 = .ok (.iaload, 1) := by decide +kernel
theorem dL_law_463 : decode cL_law 463 = .ok (.i2l, 1) := by decide +kernel
theorem dL_law_464 : decode cL_law 464 = .ok (.ldc2_w 13, 3) := by decide +kernel
theorem dL_law_467 : decode cL_law 467 = .ok (.land, 1) := by decide +kernel
theorem dL_law_468 : decode cL_law 468 = .ok (.lor, 1) := by decide +kernel
theorem dL_law_469 : decode cL_law 469 = .ok (.aload_n 0, 1) := by decide +kernel
theorem dL_law_470 : decode cL_law 470 = .ok (.iload_n 3, 1) := by decide +kernel
theorem dL_law_471 : decode cL_law 471 = .ok (.iconst 5, 1) := by decide +kernel
theorem dL_law_472 : decode cL_law 472 = .ok (.iadd, 1) := by decide +kernel
theorem dL_law_473 : decode cL_law 473 = .ok (.iaload, 1) := by decide +kernel
theorem dL_law_474 : decode cL_law 474 = .ok (.invokevirtual 44, 3) := by decide +kernel
theorem dL_law_477 : decode cL_law 477 = .ok (.aload_n 2, 1) := by decide +kernel
theorem dL_law_478 : decode cL_law 478 = .ok (.aload_n 0, 1) := by decide +kernel
theorem dL_law_479 : decode cL_law 479 = .ok (.iload_n 3, 1) := by decide +kernel
theorem dL_law_480 : decode cL_law 480 = .ok (.iconst 1, 1) := by decide +kernel
theorem dL_law_481 : decode cL_law 481 = .ok (.iadd, 1) := by decide +kernel
theorem dL_law_482 : decode cL_law 482 = .ok (.iaload, 1) := by decide +kernel
theorem dL_law_483 : decode cL_law 483 = .ok (.i2l, 1) := by decide +kernel
theorem dL_law_484 : decode cL_law 484 = .ok (.bipush 32, 2) := by decide +kernel
theorem dL_law_486 : decode cL_law 486 = .ok (.lshl, 1) := by decide +kernel
theorem dL_law_487 : decode cL_law 487 = .ok (.aload_n 0, 1) := by decide +kernel
theorem dL_law_488 : decode cL_law 488 = .ok (.iload_n 3, 1) := by decide +kernel
theorem dL_law_489 : decode cL_law 489 = .ok (.iconst 2, 1) := by decide +kernel
theorem dL_law_490 : decode cL_law 490 = .ok (.iadd, 1) := by decide +kernel
theorem dL_law_491 : decode cL_law 491 = .ok (.iaload, 1) := by decide +kernel
theorem dL_law_492 : decode cL_law 492 = .ok (.i2l, 1) := by decide +kernel
theorem dL_law_493 : decode cL_law 493 = .ok (.ldc2_w 13, 3) := by decide +kernel
theorem dL_law_496 : decode cL_law 496 = .ok (.land, 1) := by decide +kernel
theorem dL_law_497 : decode cL_law 497 = .ok (.lor, 1) := by decide +kernel
theorem dL_law_498 : decode cL_law 498 = .ok (.aload_n 0, 1) := by decide +kernel
theorem dL_law_499 : decode cL_law 499 = .ok (.iload_n 3, 1) := by decide +kernel
theorem dL_law_500 : decode cL_law 500 = .ok (.iconst 3, 1) := by decide +kernel
theorem dL_law_501 : decode cL_law 501 = .ok (.iadd, 1) := by decide +kernel
theorem dL_law_502 : decode cL_law 502 = .ok (.iaload, 1) := by decide +kernel
theorem dL_law_503 : decode cL_law 503 = .ok (.i2l, 1) := by decide +kernel
theorem dL_law_504 : decode cL_law 504 = .ok (.bipush 32, 2) := by decide +kernel
theorem dL_law_506 : decode cL_law 506 = .ok (.lshl, 1) := by decide +kernel
theorem dL_law_507 : decode cL_law 507 = .ok (.aload_n 0, 1) := by decide +kernel
theorem dL_law_508 : decode cL_law 508 = .ok (.iload_n 3, 1) := by decide +kernel
theorem dL_law_509 : decode cL_law 509 = .ok (.iconst 4, 1) := by decide +kernel
theorem dL_law_510 : decode cL_law 510 = .ok (.iadd, 1) := by decide +kernel
theorem dL_law_511 : decode cL_law 511 = .ok (.iaload, 1) := by decide +kernel
theorem dL_law_512 : decode cL_law 512 = .ok (.i2l, 1) := by decide +kernel
theorem dL_law_513 : decode cL_law 513 = .ok (.ldc2_w 13, 3) := by decide +kernel
theorem dL_law_516 : decode cL_law 516 = .ok (.land, 1) := by decide +kernel
theorem dL_law_517 : decode cL_law 517 = .ok (.lor, 1) := by decide +kernel
theorem dL_law_518 : decode cL_law 518 = .ok (.aload_n 0, 1) := by decide +kernel
theorem dL_law_519 : decode cL_law 519 = .ok (.iload_n 3, 1) := by decide +kernel
theorem dL_law_520 : decode cL_law 520 = .ok (.iconst 5, 1) := by decide +kernel
theorem dL_law_521 : decode cL_law 521 = .ok (.iadd, 1) := by decide +kernel
theorem dL_law_522 : decode cL_law 522 = .ok (.iaload, 1) := by decide +kernel
theorem dL_law_523 : decode cL_law 523 = .ok (.invokevirtual 48, 3) := by decide +kernel
theorem dL_law_526 : decode cL_law 526 = .ok (.lcmp, 1) := by decide +kernel
theorem dL_law_527 : decode cL_law 527 = .ok (.ifCond .eq 176, 3) := by decide +kernel
theorem dL_law_530 : decode cL_law 530 = .ok (.iconst 0, 1) := by decide +kernel
theorem dL_law_531 : decode cL_law 531 = .ok (.ireturn, 1) := by decide +kernel
theorem dL_law_532 : decode cL_law 532 = .ok (.aload_n 1, 1) := by decide +kernel
theorem dL_law_533 : decode cL_law 533 = .ok (.aload_n 0, 1) := by decide +kernel
theorem dL_law_534 : decode cL_law 534 = .ok (.iload_n 3, 1) := by decide +kernel
theorem dL_law_535 : decode cL_law 535 = .ok (.iconst 1, 1) := by decide +kernel
theorem dL_law_536 : decode cL_law 536 = .ok (.iadd, 1) := by decide +kernel
theorem dL_law_537 : decode cL_law 537 = .ok (.iaload, 1) := by decide +kernel
theorem dL_law_538 : decode cL_law 538 = .ok (.aload_n 0, 1) := by decide +kernel
theorem dL_law_539 : decode cL_law 539 = .ok (.iload_n 3, 1) := by decide +kernel
theorem dL_law_540 : decode cL_law 540 = .ok (.iconst 2, 1) := by decide +kernel
theorem dL_law_541 : decode cL_law 541 = .ok (.iadd, 1) := by decide +kernel
theorem dL_law_542 : decode cL_law 542 = .ok (.iaload, 1) := by decide +kernel
theorem dL_law_543 : decode cL_law 543 = .ok (.invokevirtual 49, 3) := by decide +kernel
theorem dL_law_546 : decode cL_law 546 = .ok (.aload_n 2, 1) := by decide +kernel
theorem dL_law_547 : decode cL_law 547 = .ok (.aload_n 0, 1) := by decide +kernel
theorem dL_law_548 : decode cL_law 548 = .ok (.iload_n 3, 1) := by decide +kernel
theorem dL_law_549 : decode cL_law 549 = .ok (.iconst 1, 1) := by decide +kernel
theorem dL_law_550 : decode cL_law 550 = .ok (.iadd, 1) := by decide +kernel
theorem dL_law_551 : decode cL_law 551 = .ok (.iaload, 1) := by decide +kernel
theorem dL_law_552 : decode cL_law 552 = .ok (.aload_n 0, 1) := by decide +kernel
theorem dL_law_553 : decode cL_law 553 = .ok (.iload_n 3, 1) := by decide +kernel
theorem dL_law_554 : decode cL_law 554 = .ok (.iconst 2, 1) := by decide +kernel
theorem dL_law_555 : decode cL_law 555 = .ok (.iadd, 1) := by decide +kernel
theorem dL_law_556 : decode cL_law 556 = .ok (.iaload, 1) := by decide +kernel
theorem dL_law_557 : decode cL_law 557 = .ok (.invokevirtual 52, 3) := by decide +kernel
theorem dL_law_560 : decode cL_law 560 = .ok (.lcmp, 1) := by decide +kernel
theorem dL_law_561 : decode cL_law 561 = .ok (.ifCond .eq 142, 3) := by decide +kernel
theorem dL_law_564 : decode cL_law 564 = .ok (.iconst 0, 1) := by decide +kernel
theorem dL_law_565 : decode cL_law 565 = .ok (.ireturn, 1) := by decide +kernel
theorem dL_law_566 : decode cL_law 566 = .ok (.aload_n 1, 1) := by decide +kernel
theorem dL_law_567 : decode cL_law 567 = .ok (.aload_n 0, 1) := by decide +kernel
theorem dL_law_568 : decode cL_law 568 = .ok (.iload_n 3, 1) := by decide +kernel
theorem dL_law_569 : decode cL_law 569 = .ok (.iconst 1, 1) := by decide +kernel
theorem dL_law_570 : decode cL_law 570 = .ok (.iadd, 1) := by decide +kernel
theorem dL_law_571 : decode cL_law 571 = .ok (.iaload, 1) := by decide +kernel
theorem dL_law_572 : decode cL_law 572 = .ok (.i2l, 1) := by decide +kernel
theorem dL_law_573 : decode cL_law 573 = .ok (.bipush 32, 2) := by decide +kernel
theorem dL_law_575 : decode cL_law 575 = .ok (.lshl, 1) := by decide +kernel
theorem dL_law_576 : decode cL_law 576 = .ok (.aload_n 0, 1) := by decide +kernel
theorem dL_law_577 : decode cL_law 577 = .ok (.iload_n 3, 1) := by decide +kernel
theorem dL_law_578 : decode cL_law 578 = .ok (.iconst 2, 1) := by decide +kernel
theorem dL_law_579 : decode cL_law 579 = .ok (.iadd, 1) := by decide +kernel
theorem dL_law_580 : decode cL_law 580 = .ok (.iaload, 1) := by decide +kernel
theorem dL_law_581 : decode cL_law 581 = .ok (.i2l, 1) := by decide +kernel
theorem dL_law_582 : decode cL_law 582 = .ok (.ldc2_w 13, 3) := by decide +kernel
theorem dL_law_585 : decode cL_law 585 = .ok (.land, 1) := by decide +kernel
theorem dL_law_586 : decode cL_law 586 = .ok (.lor, 1) := by decide +kernel
theorem dL_law_587 : decode cL_law 587 = .ok (.aload_n 0, 1) := by decide +kernel
theorem dL_law_588 : decode cL_law 588 = .ok (.iload_n 3, 1) := by decide +kernel
theorem dL_law_589 : decode cL_law 589 = .ok (.iconst 3, 1) := by decide +kernel
theorem dL_law_590 : decode cL_law 590 = .ok (.iadd, 1) := by decide +kernel
theorem dL_law_591 : decode cL_law 591 = .ok (.iaload, 1) := by decide +kernel
theorem dL_law_592 : decode cL_law 592 = .ok (.invokevirtual 53, 3) := by decide +kernel
theorem dL_law_595 : decode cL_law 595 = .ok (.aload_n 2, 1) := by decide +kernel
theorem dL_law_596 : decode cL_law 596 = .ok (.aload_n 0, 1) := by decide +kernel
theorem dL_law_597 : decode cL_law 597 = .ok (.iload_n 3, 1) := by decide +kernel
theorem dL_law_598 : decode cL_law 598 = .ok (.iconst 1, 1) := by decide +kernel
theorem dL_law_599 : decode cL_law 599 = .ok (.iadd, 1) := by decide +kernel
theorem dL_law_600 : decode cL_law 600 = .ok (.iaload, 1) := by decide +kernel
theorem dL_law_601 : decode cL_law 601 = .ok (.i2l, 1) := by decide +kernel
theorem dL_law_602 : decode cL_law 602 = .ok (.bipush 32, 2) := by decide +kernel
theorem dL_law_604 : decode cL_law 604 = .ok (.lshl, 1) := by decide +kernel
theorem dL_law_605 : decode cL_law 605 = .ok (.aload_n 0, 1) := by decide +kernel
theorem dL_law_606 : decode cL_law 606 = .ok (.iload_n 3, 1) := by decide +kernel
theorem dL_law_607 : decode cL_law 607 = .ok (.iconst 2, 1) := by decide +kernel
theorem dL_law_608 : decode cL_law 608 = .ok (.iadd, 1) := by decide +kernel
theorem dL_law_609 : decode cL_law 609 = .ok (.iaload, 1) := by decide +kernel
theorem dL_law_610 : decode cL_law 610 = .ok (.i2l, 1) := by decide +kernel
theorem dL_law_611 : decode cL_law 611 = .ok (.ldc2_w 13, 3) := by decide +kernel
theorem dL_law_614 : decode cL_law 614 = .ok (.land, 1) := by decide +kernel
theorem dL_law_615 : decode cL_law 615 = .ok (.lor, 1) := by decide +kernel
theorem dL_law_616 : decode cL_law 616 = .ok (.aload_n 0, 1) := by decide +kernel
theorem dL_law_617 : decode cL_law 617 = .ok (.iload_n 3, 1) := by decide +kernel
theorem dL_law_618 : decode cL_law 618 = .ok (.iconst 3, 1) := by decide +kernel
theorem dL_law_619 : decode cL_law 619 = .ok (.iadd, 1) := by decide +kernel
theorem dL_law_620 : decode cL_law 620 = .ok (.iaload, 1) := by decide +kernel
theorem dL_law_621 : decode cL_law 621 = .ok (.invokevirtual 57, 3) := by decide +kernel
theorem dL_law_624 : decode cL_law 624 = .ok (.lcmp, 1) := by decide +kernel
theorem dL_law_625 : decode cL_law 625 = .ok (.ifCond .eq 78, 3) := by decide +kernel
theorem dL_law_628 : decode cL_law 628 = .ok (.iconst 0, 1) := by decide +kernel
theorem dL_law_629 : decode cL_law 629 = .ok (.ireturn, 1) := by decide +kernel
theorem dL_law_630 : decode cL_law 630 = .ok (.aload_n 1, 1) := by decide +kernel
theorem dL_law_631 : decode cL_law 631 = .ok (.invokevirtual 58, 3) := by decide +kernel
theorem dL_law_634 : decode cL_law 634 = .ok (.aload_n 2, 1) := by decide +kernel
theorem dL_law_635 : decode cL_law 635 = .ok (.invokevirtual 62, 3) := by decide +kernel
theorem dL_law_638 : decode cL_law 638 = .ok (.if_icmp .eq 65, 3) := by decide +kernel
theorem dL_law_641 : decode cL_law 641 = .ok (.iconst 0, 1) := by decide +kernel
theorem dL_law_642 : decode cL_law 642 = .ok (.ireturn, 1) := by decide +kernel
theorem dL_law_643 : decode cL_law 643 = .ok (.aload_n 1, 1) := by decide +kernel
theorem dL_law_644 : decode cL_law 644 = .ok (.invokevirtual 63, 3) := by decide +kernel
theorem dL_law_647 : decode cL_law 647 = .ok (.aload_n 2, 1) := by decide +kernel
theorem dL_law_648 : decode cL_law 648 = .ok (.invokevirtual 67, 3) := by decide +kernel
theorem dL_law_651 : decode cL_law 651 = .ok (.if_icmp .eq 52, 3) := by decide +kernel
theorem dL_law_654 : decode cL_law 654 = .ok (.iconst 0, 1) := by decide +kernel
theorem dL_law_655 : decode cL_law 655 = .ok (.ireturn, 1) := by decide +kernel
theorem dL_law_656 : decode cL_law 656 = .ok (.aload_n 1, 1) := by decide +kernel
theorem dL_law_657 : decode cL_law 657 = .ok (.aload_n 0, 1) := by decide +kernel
theorem dL_law_658 : decode cL_law 658 = .ok (.iload_n 3, 1) := by decide +kernel
theorem dL_law_659 : decode cL_law 659 = .ok (.iconst 1, 1) := by decide +kernel
theorem dL_law_660 : decode cL_law 660 = .ok (.iadd, 1) := by decide +kernel
theorem dL_law_661 : decode cL_law 661 = .ok (.iaload, 1) := by decide +kernel
theorem dL_law_662 : decode cL_law 662 = .ok (.invokevirtual 68, 3) := by decide +kernel
theorem dL_law_665 : decode cL_law 665 = .ok (.aload_n 2, 1) := by decide +kernel
theorem dL_law_666 : decode cL_law 666 = .ok (.aload_n 0, 1) := by decide +kernel
theorem dL_law_667 : decode cL_law 667 = .ok (.iload_n 3, 1) := by decide +kernel
theorem dL_law_668 : decode cL_law 668 = .ok (.iconst 1, 1) := by decide +kernel
theorem dL_law_669 : decode cL_law 669 = .ok (.iadd, 1) := by decide +kernel
theorem dL_law_670 : decode cL_law 670 = .ok (.iaload, 1) := by decide +kernel
theorem dL_law_671 : decode cL_law 671 = .ok (.invokevirtual 72, 3) := by decide +kernel
theorem dL_law_674 : decode cL_law 674 = .ok (.if_icmp .eq 29, 3) := by decide +kernel
theorem dL_law_677 : decode cL_law 677 = .ok (.iconst 0, 1) := by decide +kernel
theorem dL_law_678 : decode cL_law 678 = .ok (.ireturn, 1) := by decide +kernel
theorem dL_law_679 : decode cL_law 679 = .ok (.aload_n 1, 1) := by decide +kernel
theorem dL_law_680 : decode cL_law 680 = .ok (.aload_n 0, 1) := by decide +kernel
theorem dL_law_681 : decode cL_law 681 = .ok (.iload_n 3, 1) := by decide +kernel
theorem dL_law_682 : decode cL_law 682 = .ok (.iconst 1, 1) := by decide +kernel
theorem dL_law_683 : decode cL_law 683 = .ok (.iadd, 1) := by decide +kernel
theorem dL_law_684 : decode cL_law 684 = .ok (.iaload, 1) := by decide +kernel
theorem dL_law_685 : decode cL_law 685 = .ok (.invokevirtual 73, 3) := by decide +kernel
theorem dL_law_688 : decode cL_law 688 = .ok (.aload_n 2, 1) := by decide +kernel
theorem dL_law_689 : decode cL_law 689 = .ok (.aload_n 0, 1) := by decide +kernel
theorem dL_law_690 : decode cL_law 690 = .ok (.iload_n 3, 1) := by decide +kernel
theorem dL_law_691 : decode cL_law 691 = .ok (.iconst 1, 1) := by decide +kernel
theorem dL_law_692 : decode cL_law 692 = .ok (.iadd, 1) := by decide +kernel
theorem dL_law_693 : decode cL_law 693 = .ok (.iaload, 1) := by decide +kernel
theorem dL_law_694 : decode cL_law 694 = .ok (.invokevirtual 76, 3) := by decide +kernel
theorem dL_law_697 : decode cL_law 697 = .ok (.lcmp, 1) := by decide +kernel
theorem dL_law_698 : decode cL_law 698 = .ok (.ifCond .eq 5, 3) := by decide +kernel
theorem dL_law_701 : decode cL_law 701 = .ok (.iconst 0, 1) := by decide +kernel
theorem dL_law_702 : decode cL_law 702 = .ok (.ireturn, 1) := by decide +kernel
theorem dL_law_703 : decode cL_law 703 = .ok (.iinc 3 10, 3) := by decide +kernel
theorem dL_law_706 : decode cL_law 706 = .ok (.goto (-688), 3) := by decide +kernel
theorem dL_law_709 : decode cL_law 709 = .ok (.iconst 1, 1) := by decide +kernel
theorem dL_law_710 : decode cL_law 710 = .ok (.ireturn, 1) := by decide +kernel
abbrev vwCl : List vw_C := [(RX0, TX0, 11), (RX1, TX1, 8)]
