theorem dX8_init_0 : decode cX8_init 0 = .ok (.aload_n 0, 1) := by decide +kernel
theorem dX8_init_1 : decode cX8_init 1 = .ok (.invokespecial 1, 3) := by decide +kernel
theorem dX8_init_4 : decode cX8_init 4 = .ok (.aload_n 0, 1) := by decide +kernel
theorem dX8_init_5 : decode cX8_init 5 = .ok (.sipush 11616, 3) := by decide +kernel
theorem dX8_init_8 : decode cX8_init 8 = .ok (.newarray .int, 2) := by decide +kernel
theorem dX8_init_10 : decode cX8_init 10 = .ok (.putfield 7, 3) := by decide +kernel
theorem dX8_init_13 : decode cX8_init 13 = .ok (.aload_n 0, 1) := by decide +kernel
theorem dX8_init_14 : decode cX8_init 14 = .ok (.bipush 44, 2) := by decide +kernel
theorem dX8_init_16 : decode cX8_init 16 = .ok (.newarray .int, 2) := by decide +kernel
theorem dX8_init_18 : decode cX8_init 18 = .ok (.putfield 13, 3) := by decide +kernel
theorem dX8_init_21 : decode cX8_init 21 = .ok (.aload_n 0, 1) := by decide +kernel
theorem dX8_init_22 : decode cX8_init 22 = .ok (.bipush 16, 2) := by decide +kernel
theorem dX8_init_24 : decode cX8_init 24 = .ok (.newarray .boolean, 2) := by decide +kernel
theorem dX8_init_26 : decode cX8_init 26 = .ok (.putfield 16, 3) := by decide +kernel
theorem dX8_init_29 : decode cX8_init 29 = .ok (.aload_n 0, 1) := by decide +kernel
theorem dX8_init_30 : decode cX8_init 30 = .ok (.sipush 1400, 3) := by decide +kernel
theorem dX8_init_33 : decode cX8_init 33 = .ok (.newarray .int, 2) := by decide +kernel
theorem dX8_init_35 : decode cX8_init 35 = .ok (.putfield 20, 3) := by decide +kernel
theorem dX8_init_38 : decode cX8_init 38 = .ok (.aload_n 0, 1) := by decide +kernel
theorem dX8_init_39 : decode cX8_init 39 = .ok (.sipush 4200, 3) := by decide +kernel
theorem dX8_init_42 : decode cX8_init 42 = .ok (.newarray .int, 2) := by decide +kernel
theorem dX8_init_44 : decode cX8_init 44 = .ok (.putfield 23, 3) := by decide +kernel
theorem dX8_init_47 : decode cX8_init 47 = .ok (.iconst 0, 1) := by decide +kernel
theorem dX8_init_48 : decode cX8_init 48 = .ok (.istore_n 1, 1) := by decide +kernel
theorem dX8_init_49 : decode cX8_init 49 = .ok (.iload_n 1, 1) := by decide +kernel
theorem dX8_init_50 : decode cX8_init 50 = .ok (.bipush 16, 2) := by decide +kernel
theorem dX8_init_52 : decode cX8_init 52 = .ok (.if_icmp .ge 27, 3) := by decide +kernel
theorem dX8_init_55 : decode cX8_init 55 = .ok (.aload_n 0, 1) := by decide +kernel
theorem dX8_init_56 : decode cX8_init 56 = .ok (.iconst 2, 1) := by decide +kernel
theorem dX8_init_57 : decode cX8_init 57 = .ok (.iload_n 1, 1) := by decide +kernel
theorem dX8_init_58 : decode cX8_init 58 = .ok (.imul, 1) := by decide +kernel
theorem dX8_init_59 : decode cX8_init 59 = .ok (.iconst 0, 1) := by decide +kernel
theorem dX8_init_60 : decode cX8_init 60 = .ok (.invokevirtual 26, 3) := by decide +kernel
theorem dX8_init_63 : decode cX8_init 63 = .ok (.aload_n 0, 1) := by decide +kernel
theorem dX8_init_64 : decode cX8_init 64 = .ok (.iconst 2, 1) := by decide +kernel
theorem dX8_init_65 : decode cX8_init 65 = .ok (.iload_n 1, 1) := by decide +kernel
theorem dX8_init_66 : decode cX8_init 66 = .ok (.imul, 1) := by decide +kernel
theorem dX8_init_67 : decode cX8_init 67 = .ok (.iconst 1, 1) := by decide +kernel
theorem dX8_init_68 : decode cX8_init 68 = .ok (.iadd, 1) := by decide +kernel
theorem dX8_init_69 : decode cX8_init 69 = .ok (.iconst 1, 1) := by decide +kernel
theorem dX8_init_70 : decode cX8_init 70 = .ok (.invokevirtual 26, 3) := by decide +kernel
theorem dX8_init_73 : decode cX8_init 73 = .ok (.iinc 1 1, 3) := by decide +kernel
theorem dX8_init_76 : decode cX8_init 76 = .ok (.goto (-27), 3) := by decide +kernel
theorem dX8_init_79 : decode cX8_init 79 = .ok (.aload_n 0, 1) := by decide +kernel
theorem dX8_init_80 : decode cX8_init 80 = .ok (.bipush 42, 2) := by decide +kernel
theorem dX8_init_82 : decode cX8_init 82 = .ok (.iconst 1, 1) := by decide +kernel
theorem dX8_init_83 : decode cX8_init 83 = .ok (.invokevirtual 26, 3) := by decide +kernel
theorem dX8_init_86 : decode cX8_init 86 = .ok (.return_, 1) := by decide +kernel
theorem dX8_thrown_0 : decode cX8_thrown 0 = .ok (.aload_n 0, 1) := by decide +kernel
theorem dX8_thrown_1 : decode cX8_thrown 1 = .ok (.getfield 30, 3) := by decide +kernel
theorem dX8_thrown_4 : decode cX8_thrown 4 = .ok (.ireturn, 1) := by decide +kernel
theorem dX8_at_0 : decode cX8_at 0 = .ok (.iload_n 2, 1) := by decide +kernel
theorem dX8_at_1 : decode cX8_at 1 = .ok (.aload_n 0, 1) := by decide +kernel
theorem dX8_at_2 : decode cX8_at 2 = .ok (.getfield 13, 3) := by decide +kernel
theorem dX8_at_5 : decode cX8_at 5 = .ok (.iload_n 1, 1) := by decide +kernel
theorem dX8_at_6 : decode cX8_at 6 = .ok (.iaload, 1) := by decide +kernel
theorem dX8_at_7 : decode cX8_at 7 = .ok (.if_icmp .ge 18, 3) := by decide +kernel
theorem dX8_at_10 : decode cX8_at 10 = .ok (.aload_n 0, 1) := by decide +kernel
theorem dX8_at_11 : decode cX8_at 11 = .ok (.getfield 7, 3) := by decide +kernel
theorem dX8_at_14 : decode cX8_at 14 = .ok (.sipush 264, 3) := by decide +kernel
theorem dX8_at_17 : decode cX8_at 17 = .ok (.iload_n 1, 1) := by decide +kernel
theorem dX8_at_18 : decode cX8_at 18 = .ok (.imul, 1) := by decide +kernel
theorem dX8_at_19 : decode cX8_at 19 = .ok (.iload_n 2, 1) := by decide +kernel
theorem dX8_at_20 : decode cX8_at 20 = .ok (.iadd, 1) := by decide +kernel
theorem dX8_at_21 : decode cX8_at 21 = .ok (.iaload, 1) := by decide +kernel
theorem dX8_at_22 : decode cX8_at 22 = .ok (.goto 4, 3) := by decide +kernel
theorem dX8_at_25 : decode cX8_at 25 = .ok (.iconst 0, 1) := by decide +kernel
theorem dX8_at_26 : decode cX8_at 26 = .ok (.ireturn, 1) := by decide +kernel
theorem dX8_puts_0 : decode cX8_puts 0 = .ok (.aload_n 0, 1) := by decide +kernel
theorem dX8_puts_1 : decode cX8_puts 1 = .ok (.getfield 7, 3) := by decide +kernel
theorem dX8_puts_4 : decode cX8_puts 4 = .ok (.sipush 264, 3) := by decide +kernel
theorem dX8_puts_7 : decode cX8_puts 7 = .ok (.iload_n 1, 1) := by decide +kernel
theorem dX8_puts_8 : decode cX8_puts 8 = .ok (.imul, 1) := by decide +kernel
theorem dX8_puts_9 : decode cX8_puts 9 = .ok (.iload_n 2, 1) := by decide +kernel
theorem dX8_puts_10 : decode cX8_puts 10 = .ok (.iadd, 1) := by decide +kernel
theorem dX8_puts_11 : decode cX8_puts 11 = .ok (.iload_n 3, 1) := by decide +kernel
theorem dX8_puts_12 : decode cX8_puts 12 = .ok (.iastore, 1) := by decide +kernel
theorem dX8_puts_13 : decode cX8_puts 13 = .ok (.return_, 1) := by decide +kernel
theorem dX8_trim_0 : decode cX8_trim 0 = .ok (.iload_n 2, 1) := by decide +kernel
theorem dX8_trim_1 : decode cX8_trim 1 = .ok (.istore_n 3, 1) := by decide +kernel
theorem dX8_trim_2 : decode cX8_trim 2 = .ok (.iload_n 3, 1) := by decide +kernel
theorem dX8_trim_3 : decode cX8_trim 3 = .ok (.ifCond .le 26, 3) := by decide +kernel
theorem dX8_trim_6 : decode cX8_trim 6 = .ok (.aload_n 0, 1) := by decide +kernel
theorem dX8_trim_7 : decode cX8_trim 7 = .ok (.getfield 7, 3) := by decide +kernel
theorem dX8_trim_10 : decode cX8_trim 10 = .ok (.sipush 264, 3) := by decide +kernel
theorem dX8_trim_13 : decode cX8_trim 13 = .ok (.iload_n 1, 1) := by decide +kernel
theorem dX8_trim_14 : decode cX8_trim 14 = .ok (.imul, 1) := by decide +kernel
theorem dX8_trim_15 : decode cX8_trim 15 = .ok (.iload_n 3, 1) := by decide +kernel
theorem dX8_trim_16 : decode cX8_trim 16 = .ok (.iadd, 1) := by decide +kernel
theorem dX8_trim_17 : decode cX8_trim 17 = .ok (.iconst 1, 1) := by decide +kernel
theorem dX8_trim_18 : decode cX8_trim 18 = .ok (.isub, 1) := by decide +kernel
theorem dX8_trim_19 : decode cX8_trim 19 = .ok (.iaload, 1) := by decide +kernel
theorem dX8_trim_20 : decode cX8_trim 20 = .ok (.ifCond .ne 9, 3) := by decide +kernel
theorem dX8_trim_23 : decode cX8_trim 23 = .ok (.iinc 3 (-1), 3) := by decide +kernel
theorem dX8_trim_26 : decode cX8_trim 26 = .ok (.goto (-24), 3) := by decide +kernel
theorem dX8_trim_29 : decode cX8_trim 29 = .ok (.aload_n 0, 1) := by decide +kernel
theorem dX8_trim_30 : decode cX8_trim 30 = .ok (.getfield 13, 3) := by decide +kernel
theorem dX8_trim_33 : decode cX8_trim 33 = .ok (.iload_n 1, 1) := by decide +kernel
theorem dX8_trim_34 : decode cX8_trim 34 = .ok (.iload_n 3, 1) := by decide +kernel
theorem dX8_trim_35 : decode cX8_trim 35 = .ok (.iastore, 1) := by decide +kernel
theorem dX8_trim_36 : decode cX8_trim 36 = .ok (.return_, 1) := by decide +kernel
theorem dX8_small_0 : decode cX8_small 0 = .ok (.aload_n 0, 1) := by decide +kernel
theorem dX8_small_1 : decode cX8_small 1 = .ok (.iload_n 1, 1) := by decide +kernel
theorem dX8_small_2 : decode cX8_small 2 = .ok (.iconst 0, 1) := by decide +kernel
theorem dX8_small_3 : decode cX8_small 3 = .ok (.iload_n 2, 1) := by decide +kernel
theorem dX8_small_4 : decode cX8_small 4 = .ok (.invokevirtual 34, 3) := by decide +kernel
theorem dX8_small_7 : decode cX8_small 7 = .ok (.aload_n 0, 1) := by decide +kernel
theorem dX8_small_8 : decode cX8_small 8 = .ok (.iload_n 1, 1) := by decide +kernel
theorem dX8_small_9 : decode cX8_small 9 = .ok (.iconst 1, 1) := by decide +kernel
theorem dX8_small_10 : decode cX8_small 10 = .ok (.invokevirtual 38, 3) := by decide +kernel
theorem dX8_small_13 : decode cX8_small 13 = .ok (.return_, 1) := by decide +kernel
theorem dX8_isZero_0 : decode cX8_isZero 0 = .ok (.aload_n 0, 1) := by decide +kernel
theorem dX8_isZero_1 : decode cX8_isZero 1 = .ok (.getfield 13, 3) := by decide +kernel
theorem dX8_isZero_4 : decode cX8_isZero 4 = .ok (.iload_n 1, 1) := by decide +kernel
theorem dX8_isZero_5 : decode cX8_isZero 5 = .ok (.iaload, 1) := by decide +kernel
theorem dX8_isZero_6 : decode cX8_isZero 6 = .ok (.ifCond .ne 7, 3) := by decide +kernel
theorem dX8_isZero_9 : decode cX8_isZero 9 = .ok (.iconst 1, 1) := by decide +kernel
theorem dX8_isZero_10 : decode cX8_isZero 10 = .ok (.goto 4, 3) := by decide +kernel
theorem dX8_isZero_13 : decode cX8_isZero 13 = .ok (.iconst 0, 1) := by decide +kernel
theorem dX8_isZero_14 : decode cX8_isZero 14 = .ok (.ireturn, 1) := by decide +kernel
theorem dX8_isOne_0 : decode cX8_isOne 0 = .ok (.aload_n 0, 1) := by decide +kernel
theorem dX8_isOne_1 : decode cX8_isOne 1 = .ok (.getfield 13, 3) := by decide +kernel
theorem dX8_isOne_4 : decode cX8_isOne 4 = .ok (.iload_n 1, 1) := by decide +kernel
theorem dX8_isOne_5 : decode cX8_isOne 5 = .ok (.iaload, 1) := by decide +kernel
theorem dX8_isOne_6 : decode cX8_isOne 6 = .ok (.iconst 1, 1) := by decide +kernel
theorem dX8_isOne_7 : decode cX8_isOne 7 = .ok (.if_icmp .ne 21, 3) := by decide +kernel
theorem dX8_isOne_10 : decode cX8_isOne 10 = .ok (.aload_n 0, 1) := by decide +kernel
theorem dX8_isOne_11 : decode cX8_isOne 11 = .ok (.getfield 7, 3) := by decide +kernel
theorem dX8_isOne_14 : decode cX8_isOne 14 = .ok (.sipush 264, 3) := by decide +kernel
theorem dX8_isOne_17 : decode cX8_isOne 17 = .ok (.iload_n 1, 1) := by decide +kernel
theorem dX8_isOne_18 : decode cX8_isOne 18 = .ok (.imul, 1) := by decide +kernel
theorem dX8_isOne_19 : decode cX8_isOne 19 = .ok (.iaload, 1) := by decide +kernel
theorem dX8_isOne_20 : decode cX8_isOne 20 = .ok (.iconst 1, 1) := by decide +kernel
theorem dX8_isOne_21 : decode cX8_isOne 21 = .ok (.if_icmp .ne 7, 3) := by decide +kernel
theorem dX8_isOne_24 : decode cX8_isOne 24 = .ok (.iconst 1, 1) := by decide +kernel
theorem dX8_isOne_25 : decode cX8_isOne 25 = .ok (.goto 4, 3) := by decide +kernel
theorem dX8_isOne_28 : decode cX8_isOne 28 = .ok (.iconst 0, 1) := by decide +kernel
theorem dX8_isOne_29 : decode cX8_isOne 29 = .ok (.ireturn, 1) := by decide +kernel
theorem dX8_copy_0 : decode cX8_copy 0 = .ok (.iconst 0, 1) := by decide +kernel
theorem dX8_copy_1 : decode cX8_copy 1 = .ok (.istore_n 3, 1) := by decide +kernel
theorem dX8_copy_2 : decode cX8_copy 2 = .ok (.iload_n 3, 1) := by decide +kernel
theorem dX8_copy_3 : decode cX8_copy 3 = .ok (.aload_n 0, 1) := by decide +kernel
theorem dX8_copy_4 : decode cX8_copy 4 = .ok (.getfield 13, 3) := by decide +kernel
theorem dX8_copy_7 : decode cX8_copy 7 = .ok (.iload_n 1, 1) := by decide +kernel
theorem dX8_copy_8 : decode cX8_copy 8 = .ok (.iaload, 1) := by decide +kernel
theorem dX8_copy_9 : decode cX8_copy 9 = .ok (.if_icmp .ge 21, 3) := by decide +kernel
theorem dX8_copy_12 : decode cX8_copy 12 = .ok (.aload_n 0, 1) := by decide +kernel
theorem dX8_copy_13 : decode cX8_copy 13 = .ok (.iload_n 2, 1) := by decide +kernel
theorem dX8_copy_14 : decode cX8_copy 14 = .ok (.iload_n 3, 1) := by decide +kernel
theorem dX8_copy_15 : decode cX8_copy 15 = .ok (.aload_n 0, 1) := by decide +kernel
theorem dX8_copy_16 : decode cX8_copy 16 = .ok (.iload_n 1, 1) := by decide +kernel
theorem dX8_copy_17 : decode cX8_copy 17 = .ok (.iload_n 3, 1) := by decide +kernel
theorem dX8_copy_18 : decode cX8_copy 18 = .ok (.invokevirtual 41, 3) := by decide +kernel
theorem dX8_copy_21 : decode cX8_copy 21 = .ok (.invokevirtual 34, 3) := by decide +kernel
theorem dX8_copy_24 : decode cX8_copy 24 = .ok (.iinc 3 1, 3) := by decide +kernel
theorem dX8_copy_27 : decode cX8_copy 27 = .ok (.goto (-25), 3) := by decide +kernel
theorem dX8_copy_30 : decode cX8_copy 30 = .ok (.aload_n 0, 1) := by decide +kernel
theorem dX8_copy_31 : decode cX8_copy 31 = .ok (.getfield 13, 3) := by decide +kernel
theorem dX8_copy_34 : decode cX8_copy 34 = .ok (.iload_n 2, 1) := by decide +kernel
theorem dX8_copy_35 : decode cX8_copy 35 = .ok (.aload_n 0, 1) := by decide +kernel
theorem dX8_copy_36 : decode cX8_copy 36 = .ok (.getfield 13, 3) := by decide +kernel
theorem dX8_copy_39 : decode cX8_copy 39 = .ok (.iload_n 1, 1) := by decide +kernel
theorem dX8_copy_40 : decode cX8_copy 40 = .ok (.iaload, 1) := by decide +kernel
theorem dX8_copy_41 : decode cX8_copy 41 = .ok (.iastore, 1) := by decide +kernel
theorem dX8_copy_42 : decode cX8_copy 42 = .ok (.return_, 1) := by decide +kernel
theorem dX8_order_0 : decode cX8_order 0 = .ok (.aload_n 0, 1) := by decide +kernel
theorem dX8_order_1 : decode cX8_order 1 = .ok (.getfield 13, 3) := by decide +kernel
theorem dX8_order_4 : decode cX8_order 4 = .ok (.iload_n 1, 1) := by decide +kernel
theorem dX8_order_5 : decode cX8_order 5 = .ok (.iaload, 1) := by decide +kernel
theorem dX8_order_6 : decode cX8_order 6 = .ok (.aload_n 0, 1) := by decide +kernel
theorem dX8_order_7 : decode cX8_order 7 = .ok (.getfield 13, 3) := by decide +kernel
theorem dX8_order_10 : decode cX8_order 10 = .ok (.iload_n 2, 1) := by decide +kernel
theorem dX8_order_11 : decode cX8_order 11 = .ok (.iaload, 1) := by decide +kernel
theorem dX8_order_12 : decode cX8_order 12 = .ok (.if_icmp .eq 24, 3) := by decide +kernel
theorem dX8_order_15 : decode cX8_order 15 = .ok (.aload_n 0, 1) := by decide +kernel
theorem dX8_order_16 : decode cX8_order 16 = .ok (.getfield 13, 3) := by decide +kernel
theorem dX8_order_19 : decode cX8_order 19 = .ok (.iload_n 1, 1) := by decide +kernel
theorem dX8_order_20 : decode cX8_order 20 = .ok (.iaload, 1) := by decide +kernel
theorem dX8_order_21 : decode cX8_order 21 = .ok (.aload_n 0, 1) := by decide +kernel
theorem dX8_order_22 : decode cX8_order 22 = .ok (.getfield 13, 3) := by decide +kernel
theorem dX8_order_25 : decode cX8_order 25 = .ok (.iload_n 2, 1) := by decide +kernel
theorem dX8_order_26 : decode cX8_order 26 = .ok (.iaload, 1) := by decide +kernel
theorem dX8_order_27 : decode cX8_order 27 = .ok (.if_icmp .ge 7, 3) := by decide +kernel
theorem dX8_order_30 : decode cX8_order 30 = .ok (.iconst (-1), 1) := by decide +kernel
theorem dX8_order_31 : decode cX8_order 31 = .ok (.goto 4, 3) := by decide +kernel
theorem dX8_order_34 : decode cX8_order 34 = .ok (.iconst 1, 1) := by decide +kernel
theorem dX8_order_35 : decode cX8_order 35 = .ok (.ireturn, 1) := by decide +kernel
theorem dX8_order_36 : decode cX8_order 36 = .ok (.aload_n 0, 1) := by decide +kernel
theorem dX8_order_37 : decode cX8_order 37 = .ok (.getfield 13, 3) := by decide +kernel
theorem dX8_order_40 : decode cX8_order 40 = .ok (.iload_n 1, 1) := by decide +kernel
theorem dX8_order_41 : decode cX8_order 41 = .ok (.iaload, 1) := by decide +kernel
theorem dX8_order_42 : decode cX8_order 42 = .ok (.iconst 1, 1) := by decide +kernel
theorem dX8_order_43 : decode cX8_order 43 = .ok (.isub, 1) := by decide +kernel
theorem dX8_order_44 : decode cX8_order 44 = .ok (.istore_n 3, 1) := by decide +kernel
theorem dX8_order_45 : decode cX8_order 45 = .ok (.iload_n 3, 1) := by decide +kernel
theorem dX8_order_46 : decode cX8_order 46 = .ok (.ifCond .lt 45, 3) := by decide +kernel
theorem dX8_order_49 : decode cX8_order 49 = .ok (.aload_n 0, 1) := by decide +kernel
theorem dX8_order_50 : decode cX8_order 50 = .ok (.iload_n 1, 1) := by decide +kernel
theorem dX8_order_51 : decode cX8_order 51 = .ok (.iload_n 3, 1) := by decide +kernel
theorem dX8_order_52 : decode cX8_order 52 = .ok (.invokevirtual 41, 3) := by decide +kernel
theorem dX8_order_55 : decode cX8_order 55 = .ok (.aload_n 0, 1) := by decide +kernel
theorem dX8_order_56 : decode cX8_order 56 = .ok (.iload_n 2, 1) := by decide +kernel
theorem dX8_order_57 : decode cX8_order 57 = .ok (.iload_n 3, 1) := by decide +kernel
theorem dX8_order_58 : decode cX8_order 58 = .ok (.invokevirtual 41, 3) := by decide +kernel
theorem dX8_order_61 : decode cX8_order 61 = .ok (.if_icmp .eq 24, 3) := by decide +kernel
theorem dX8_order_64 : decode cX8_order 64 = .ok (.aload_n 0, 1) := by decide +kernel
theorem dX8_order_65 : decode cX8_order 65 = .ok (.iload_n 1, 1) := by decide +kernel
theorem dX8_order_66 : decode cX8_order 66 = .ok (.iload_n 3, 1) := by decide +kernel
theorem dX8_order_67 : decode cX8_order 67 = .ok (.invokevirtual 41, 3) := by decide +kernel
theorem dX8_order_70 : decode cX8_order 70 = .ok (.aload_n 0, 1) := by decide +kernel
theorem dX8_order_71 : decode cX8_order 71 = .ok (.iload_n 2, 1) := by decide +kernel
theorem dX8_order_72 : decode cX8_order 72 = .ok (.iload_n 3, 1) := by decide +kernel
theorem dX8_order_73 : decode cX8_order 73 = .ok (.invokevirtual 41, 3) := by decide +kernel
theorem dX8_order_76 : decode cX8_order 76 = .ok (.if_icmp .ge 7, 3) := by decide +kernel
theorem dX8_order_79 : decode cX8_order 79 = .ok (.iconst (-1), 1) := by decide +kernel
theorem dX8_order_80 : decode cX8_order 80 = .ok (.goto 4, 3) := by decide +kernel
theorem dX8_order_83 : decode cX8_order 83 = .ok (.iconst 1, 1) := by decide +kernel
theorem dX8_order_84 : decode cX8_order 84 = .ok (.ireturn, 1) := by decide +kernel
theorem dX8_order_85 : decode cX8_order 85 = .ok (.iinc 3 (-1), 3) := by decide +kernel
theorem dX8_order_88 : decode cX8_order 88 = .ok (.goto (-43), 3) := by decide +kernel
theorem dX8_order_91 : decode cX8_order 91 = .ok (.iconst 0, 1) := by decide +kernel
theorem dX8_order_92 : decode cX8_order 92 = .ok (.ireturn, 1) := by decide +kernel
theorem dX8_add_0 : decode cX8_add 0 = .ok (.aload_n 0, 1) := by decide +kernel
theorem dX8_add_1 : decode cX8_add 1 = .ok (.getfield 13, 3) := by decide +kernel
theorem dX8_add_4 : decode cX8_add 4 = .ok (.iload_n 1, 1) := by decide +kernel
theorem dX8_add_5 : decode cX8_add 5 = .ok (.iaload, 1) := by decide +kernel
theorem dX8_add_6 : decode cX8_add 6 = .ok (.aload_n 0, 1) := by decide +kernel
theorem dX8_add_7 : decode cX8_add 7 = .ok (.getfield 13, 3) := by decide +kernel
theorem dX8_add_10 : decode cX8_add 10 = .ok (.iload_n 2, 1) := by decide +kernel
theorem dX8_add_11 : decode cX8_add 11 = .ok (.iaload, 1) := by decide +kernel
theorem dX8_add_12 : decode cX8_add 12 = .ok (.if_icmp .le 12, 3) := by decide +kernel
theorem dX8_add_15 : decode cX8_add 15 = .ok (.aload_n 0, 1) := by decide +kernel
theorem dX8_add_16 : decode cX8_add 16 = .ok (.getfield 13, 3) := by decide +kernel
theorem dX8_add_19 : decode cX8_add 19 = .ok (.iload_n 1, 1) := by decide +kernel
theorem dX8_add_20 : decode cX8_add 20 = .ok (.iaload, 1) := by decide +kernel
theorem dX8_add_21 : decode cX8_add 21 = .ok (.goto 9, 3) := by decide +kernel
theorem dX8_add_24 : decode cX8_add 24 = .ok (.aload_n 0, 1) := by decide +kernel
theorem dX8_add_25 : decode cX8_add 25 = .ok (.getfield 13, 3) := by decide +kernel
theorem dX8_add_28 : decode cX8_add 28 = .ok (.iload_n 2, 1) := by decide +kernel
theorem dX8_add_29 : decode cX8_add 29 = .ok (.iaload, 1) := by decide +kernel
theorem dX8_add_30 : decode cX8_add 30 = .ok (.iconst 1, 1) := by decide +kernel
theorem dX8_add_31 : decode cX8_add 31 = .ok (.iadd, 1) := by decide +kernel
theorem dX8_add_32 : decode cX8_add 32 = .ok (.istore 4, 2) := by decide +kernel
theorem dX8_add_34 : decode cX8_add 34 = .ok (.iconst 0, 1) := by decide +kernel
theorem dX8_add_35 : decode cX8_add 35 = .ok (.istore 5, 2) := by decide +kernel
theorem dX8_add_37 : decode cX8_add 37 = .ok (.iconst 0, 1) := by decide +kernel
theorem dX8_add_38 : decode cX8_add 38 = .ok (.istore 6, 2) := by decide +kernel
theorem dX8_add_40 : decode cX8_add 40 = .ok (.iload 6, 2) := by decide +kernel
theorem dX8_add_42 : decode cX8_add 42 = .ok (.iload 4, 2) := by decide +kernel
theorem dX8_add_44 : decode cX8_add 44 = .ok (.if_icmp .ge 48, 3) := by decide +kernel
theorem dX8_add_47 : decode cX8_add 47 = .ok (.aload_n 0, 1) := by decide +kernel
theorem dX8_add_48 : decode cX8_add 48 = .ok (.iload_n 1, 1) := by decide +kernel
theorem dX8_add_49 : decode cX8_add 49 = .ok (.iload 6, 2) := by decide +kernel
theorem dX8_add_51 : decode cX8_add 51 = .ok (.invokevirtual 41, 3) := by decide +kernel
theorem dX8_add_54 : decode cX8_add 54 = .ok (.aload_n 0, 1) := by decide +kernel
theorem dX8_add_55 : decode cX8_add 55 = .ok (.iload_n 2, 1) := by decide +kernel
theorem dX8_add_56 : decode cX8_add 56 = .ok (.iload 6, 2) := by decide +kernel
theorem dX8_add_58 : decode cX8_add 58 = .ok (.invokevirtual 41, 3) := by decide +kernel
theorem dX8_add_61 : decode cX8_add 61 = .ok (.iadd, 1) := by decide +kernel
theorem dX8_add_62 : decode cX8_add 62 = .ok (.iload 5, 2) := by decide +kernel
theorem dX8_add_64 : decode cX8_add 64 = .ok (.iadd, 1) := by decide +kernel
theorem dX8_add_65 : decode cX8_add 65 = .ok (.istore 7, 2) := by decide +kernel
theorem dX8_add_67 : decode cX8_add 67 = .ok (.aload_n 0, 1) := by decide +kernel
theorem dX8_add_68 : decode cX8_add 68 = .ok (.iload_n 3, 1) := by decide +kernel
theorem dX8_add_69 : decode cX8_add 69 = .ok (.iload 6, 2) := by decide +kernel
theorem dX8_add_71 : decode cX8_add 71 = .ok (.iload 7, 2) := by decide +kernel
theorem dX8_add_73 : decode cX8_add 73 = .ok (.ldc 45, 2) := by decide +kernel
theorem dX8_add_75 : decode cX8_add 75 = .ok (.irem, 1) := by decide +kernel
theorem dX8_add_76 : decode cX8_add 76 = .ok (.invokevirtual 34, 3) := by decide +kernel
theorem dX8_add_79 : decode cX8_add 79 = .ok (.iload 7, 2) := by decide +kernel
theorem dX8_add_81 : decode cX8_add 81 = .ok (.ldc 45, 2) := by decide +kernel
theorem dX8_add_83 : decode cX8_add 83 = .ok (.idiv, 1) := by decide +kernel
theorem dX8_add_84 : decode cX8_add 84 = .ok (.istore 5, 2) := by decide +kernel
theorem dX8_add_86 : decode cX8_add 86 = .ok (.iinc 6 1, 3) := by decide +kernel
theorem dX8_add_89 : decode cX8_add 89 = .ok (.goto (-49), 3) := by decide +kernel
theorem dX8_add_92 : decode cX8_add 92 = .ok (.aload_n 0, 1) := by decide +kernel
theorem dX8_add_93 : decode cX8_add 93 = .ok (.iload_n 3, 1) := by decide +kernel
theorem dX8_add_94 : decode cX8_add 94 = .ok (.iload 4, 2) := by decide +kernel
theorem dX8_add_96 : decode cX8_add 96 = .ok (.invokevirtual 38, 3) := by decide +kernel
theorem dX8_add_99 : decode cX8_add 99 = .ok (.return_, 1) := by decide +kernel
theorem dX8_subtract_0 : decode cX8_subtract 0 = .ok (.aload_n 0, 1) := by decide +kernel
theorem dX8_subtract_1 : decode cX8_subtract 1 = .ok (.getfield 13, 3) := by decide +kernel
theorem dX8_subtract_4 : decode cX8_subtract 4 = .ok (.iload_n 1, 1) := by decide +kernel
theorem dX8_subtract_5 : decode cX8_subtract 5 = .ok (.iaload, 1) := by decide +kernel
theorem dX8_subtract_6 : decode cX8_subtract 6 = .ok (.istore 4, 2) := by decide +kernel
theorem dX8_subtract_8 : decode cX8_subtract 8 = .ok (.iconst 0, 1) := by decide +kernel
theorem dX8_subtract_9 : decode cX8_subtract 9 = .ok (.istore 5, 2) := by decide +kernel
theorem dX8_subtract_11 : decode cX8_subtract 11 = .ok (.iconst 0, 1) := by decide +kernel
theorem dX8_subtract_12 : decode cX8_subtract 12 = .ok (.istore 6, 2) := by decide +kernel
theorem dX8_subtract_14 : decode cX8_subtract 14 = .ok (.iload 6, 2) := by decide +kernel
theorem dX8_subtract_16 : decode cX8_subtract 16 = .ok (.iload 4, 2) := by decide +kernel
theorem dX8_subtract_18 : decode cX8_subtract 18 = .ok (.if_icmp .ge 56, 3) := by decide +kernel
theorem dX8_subtract_21 : decode cX8_subtract 21 = .ok (.aload_n 0, 1) := by decide +kernel
theorem dX8_subtract_22 : decode cX8_subtract 22 = .ok (.iload_n 1, 1) := by decide +kernel
theorem dX8_subtract_23 : decode cX8_subtract 23 = .ok (.iload 6, 2) := by decide +kernel
theorem dX8_subtract_25 : decode cX8_subtract 25 = .ok (.invokevirtual 41, 3) := by decide +kernel
theorem dX8_subtract_28 : decode cX8_subtract 28 = .ok (.aload_n 0, 1) := by decide +kernel
theorem dX8_subtract_29 : decode cX8_subtract 29 = .ok (.iload_n 2, 1) := by decide +kernel
theorem dX8_subtract_30 : decode cX8_subtract 30 = .ok (.iload 6, 2) := by decide +kernel
theorem dX8_subtract_32 : decode cX8_subtract 32 = .ok (.invokevirtual 41, 3) := by decide +kernel
theorem dX8_subtract_35 : decode cX8_subtract 35 = .ok (.isub, 1) := by decide +kernel
theorem dX8_subtract_36 : decode cX8_subtract 36 = .ok (.iload 5, 2) := by decide +kernel
theorem dX8_subtract_38 : decode cX8_subtract 38 = .ok (.isub, 1) := by decide +kernel
theorem dX8_subtract_39 : decode cX8_subtract 39 = .ok (.istore 7, 2) := by decide +kernel
theorem dX8_subtract_41 : decode cX8_subtract 41 = .ok (.iload 7, 2) := by decide +kernel
theorem dX8_subtract_43 : decode cX8_subtract 43 = .ok (.ifCond .ge 7, 3) := by decide +kernel
theorem dX8_subtract_46 : decode cX8_subtract 46 = .ok (.iconst 1, 1) := by decide +kernel
theorem dX8_subtract_47 : decode cX8_subtract 47 = .ok (.goto 4, 3) := by decide +kernel
theorem dX8_subtract_50 : decode cX8_subtract 50 = .ok (.iconst 0, 1) := by decide +kernel
theorem dX8_subtract_51 : decode cX8_subtract 51 = .ok (.istore 5, 2) := by decide +kernel
theorem dX8_subtract_53 : decode cX8_subtract 53 = .ok (.aload_n 0, 1) := by decide +kernel
theorem dX8_subtract_54 : decode cX8_subtract 54 = .ok (.iload_n 3, 1) := by decide +kernel
theorem dX8_subtract_55 : decode cX8_subtract 55 = .ok (.iload 6, 2) := by decide +kernel
theorem dX8_subtract_57 : decode cX8_subtract 57 = .ok (.iload 7, 2) := by decide +kernel
theorem dX8_subtract_59 : decode cX8_subtract 59 = .ok (.ldc 45, 2) := by decide +kernel
theorem dX8_subtract_61 : decode cX8_subtract 61 = .ok (.iload 5, 2) := by decide +kernel
theorem dX8_subtract_63 : decode cX8_subtract 63 = .ok (.imul, 1) := by decide +kernel
theorem dX8_subtract_64 : decode cX8_subtract 64 = .ok (.iadd, 1) := by decide +kernel
theorem dX8_subtract_65 : decode cX8_subtract 65 = .ok (.invokevirtual 34, 3) := by decide +kernel
theorem dX8_subtract_68 : decode cX8_subtract 68 = .ok (.iinc 6 1, 3) := by decide +kernel
theorem dX8_subtract_71 : decode cX8_subtract 71 = .ok (.goto (-57), 3) := by decide +kernel
theorem dX8_subtract_74 : decode cX8_subtract 74 = .ok (.aload_n 0, 1) := by decide +kernel
theorem dX8_subtract_75 : decode cX8_subtract 75 = .ok (.iload_n 3, 1) := by decide +kernel
theorem dX8_subtract_76 : decode cX8_subtract 76 = .ok (.iload 4, 2) := by decide +kernel
theorem dX8_subtract_78 : decode cX8_subtract 78 = .ok (.invokevirtual 38, 3) := by decide +kernel
theorem dX8_subtract_81 : decode cX8_subtract 81 = .ok (.return_, 1) := by decide +kernel
theorem dX8_times_0 : decode cX8_times 0 = .ok (.aload_n 0, 1) := by decide +kernel
theorem dX8_times_1 : decode cX8_times 1 = .ok (.getfield 13, 3) := by decide +kernel
theorem dX8_times_4 : decode cX8_times 4 = .ok (.iload_n 1, 1) := by decide +kernel
theorem dX8_times_5 : decode cX8_times 5 = .ok (.iaload, 1) := by decide +kernel
theorem dX8_times_6 : decode cX8_times 6 = .ok (.aload_n 0, 1) := by decide +kernel
theorem dX8_times_7 : decode cX8_times 7 = .ok (.getfield 13, 3) := by decide +kernel
theorem dX8_times_10 : decode cX8_times 10 = .ok (.iload_n 2, 1) := by decide +kernel
theorem dX8_times_11 : decode cX8_times 11 = .ok (.iaload, 1) := by decide +kernel
theorem dX8_times_12 : decode cX8_times 12 = .ok (.iadd, 1) := by decide +kernel
theorem dX8_times_13 : decode cX8_times 13 = .ok (.istore 4, 2) := by decide +kernel
theorem dX8_times_15 : decode cX8_times 15 = .ok (.iconst 0, 1) := by decide +kernel
theorem dX8_times_16 : decode cX8_times 16 = .ok (.istore 5, 2) := by decide +kernel
theorem dX8_times_18 : decode cX8_times 18 = .ok (.iload 5, 2) := by decide +kernel
theorem dX8_times_20 : decode cX8_times 20 = .ok (.iload 4, 2) := by decide +kernel
theorem dX8_times_22 : decode cX8_times 22 = .ok (.if_icmp .ge 17, 3) := by decide +kernel
theorem dX8_times_25 : decode cX8_times 25 = .ok (.aload_n 0, 1) := by decide +kernel
theorem dX8_times_26 : decode cX8_times 26 = .ok (.iload_n 3, 1) := by decide +kernel
theorem dX8_times_27 : decode cX8_times 27 = .ok (.iload 5, 2) := by decide +kernel
theorem dX8_times_29 : decode cX8_times 29 = .ok (.iconst 0, 1) := by decide +kernel
theorem dX8_times_30 : decode cX8_times 30 = .ok (.invokevirtual 34, 3) := by decide +kernel
theorem dX8_times_33 : decode cX8_times 33 = .ok (.iinc 5 1, 3) := by decide +kernel
theorem dX8_times_36 : decode cX8_times 36 = .ok (.goto (-18), 3) := by decide +kernel
theorem dX8_times_39 : decode cX8_times 39 = .ok (.iconst 0, 1) := by decide +kernel
theorem dX8_times_40 : decode cX8_times 40 = .ok (.istore 5, 2) := by decide +kernel
theorem dX8_times_42 : decode cX8_times 42 = .ok (.iload 5, 2) := by decide +kernel
theorem dX8_times_44 : decode cX8_times 44 = .ok (.aload_n 0, 1) := by decide +kernel
theorem dX8_times_45 : decode cX8_times 45 = .ok (.getfield 13, 3) := by decide +kernel
theorem dX8_times_48 : decode cX8_times 48 = .ok (.iload_n 1, 1) := by decide +kernel
theorem dX8_times_49 : decode cX8_times 49 = .ok (.iaload, 1) := by decide +kernel
theorem dX8_times_50 : decode cX8_times 50 = .ok (.if_icmp .ge 111, 3) := by decide +kernel
theorem dX8_times_53 : decode cX8_times 53 = .ok (.lconst 0, 1) := by decide +kernel
theorem dX8_times_54 : decode cX8_times 54 = .ok (.lstore 6, 2) := by decide +kernel
theorem dX8_times_56 : decode cX8_times 56 = .ok (.aload_n 0, 1) := by decide +kernel
theorem dX8_times_57 : decode cX8_times 57 = .ok (.iload_n 1, 1) := by decide +kernel
theorem dX8_times_58 : decode cX8_times 58 = .ok (.iload 5, 2) := by decide +kernel
theorem dX8_times_60 : decode cX8_times 60 = .ok (.invokevirtual 41, 3) := by decide +kernel
theorem dX8_times_63 : decode cX8_times 63 = .ok (.i2l, 1) := by decide +kernel
theorem dX8_times_64 : decode cX8_times 64 = .ok (.lstore 8, 2) := by decide +kernel
theorem dX8_times_66 : decode cX8_times 66 = .ok (.iconst 0, 1) := by decide +kernel
theorem dX8_times_67 : decode cX8_times 67 = .ok (.istore 10, 2) := by decide +kernel
theorem dX8_times_69 : decode cX8_times 69 = .ok (.iload 10, 2) := by decide +kernel
theorem dX8_times_71 : decode cX8_times 71 = .ok (.aload_n 0, 1) := by decide +kernel
theorem dX8_times_72 : decode cX8_times 72 = .ok (.getfield 13, 3) := by decide +kernel
theorem dX8_times_75 : decode cX8_times 75 = .ok (.iload_n 2, 1) := by decide +kernel
theorem dX8_times_76 : decode cX8_times 76 = .ok (.iaload, 1) := by decide +kernel
theorem dX8_times_77 : decode cX8_times 77 = .ok (.if_icmp .gt 78, 3) := by decide +kernel
theorem dX8_times_80 : decode cX8_times 80 = .ok (.iload 5, 2) := by decide +kernel
theorem dX8_times_82 : decode cX8_times 82 = .ok (.iload 10, 2) := by decide +kernel
theorem dX8_times_84 : decode cX8_times 84 = .ok (.iadd, 1) := by decide +kernel
theorem dX8_times_85 : decode cX8_times 85 = .ok (.iload 4, 2) := by decide +kernel
theorem dX8_times_87 : decode cX8_times 87 = .ok (.if_icmp .ge 62, 3) := by decide +kernel
theorem dX8_times_90 : decode cX8_times 90 = .ok (.aload_n 0, 1) := by decide +kernel
theorem dX8_times_91 : decode cX8_times 91 = .ok (.getfield 7, 3) := by decide +kernel
theorem dX8_times_94 : decode cX8_times 94 = .ok (.sipush 264, 3) := by decide +kernel
theorem dX8_times_97 : decode cX8_times 97 = .ok (.iload_n 3, 1) := by decide +kernel
theorem dX8_times_98 : decode cX8_times 98 = .ok (.imul, 1) := by decide +kernel
theorem dX8_times_99 : decode cX8_times 99 = .ok (.iload 5, 2) := by decide +kernel
theorem dX8_times_101 : decode cX8_times 101 = .ok (.iadd, 1) := by decide +kernel
theorem dX8_times_102 : decode cX8_times 102 = .ok (.iload 10, 2) := by decide +kernel
theorem dX8_times_104 : decode cX8_times 104 = .ok (.iadd, 1) := by decide +kernel
theorem dX8_times_105 : decode cX8_times 105 = .ok (.iaload, 1) := by decide +kernel
theorem dX8_times_106 : decode cX8_times 106 = .ok (.i2l, 1) := by decide +kernel
theorem dX8_times_107 : decode cX8_times 107 = .ok (.lload 8, 2) := by decide +kernel
theorem dX8_times_109 : decode cX8_times 109 = .ok (.aload_n 0, 1) := by decide +kernel
theorem dX8_times_110 : decode cX8_times 110 = .ok (.iload_n 2, 1) := by decide +kernel
theorem dX8_times_111 : decode cX8_times 111 = .ok (.iload 10, 2) := by decide +kernel
theorem dX8_times_113 : decode cX8_times 113 = .ok (.invokevirtual 41, 3) := by decide +kernel
theorem dX8_times_116 : decode cX8_times 116 = .ok (.i2l, 1) := by decide +kernel
theorem dX8_times_117 : decode cX8_times 117 = .ok (.lmul, 1) := by decide +kernel
theorem dX8_times_118 : decode cX8_times 118 = .ok (.ladd, 1) := by decide +kernel
theorem dX8_times_119 : decode cX8_times 119 = .ok (.lload 6, 2) := by decide +kernel
theorem dX8_times_121 : decode cX8_times 121 = .ok (.ladd, 1) := by decide +kernel
theorem dX8_times_122 : decode cX8_times 122 = .ok (.lstore 11, 2) := by decide +kernel
theorem dX8_times_124 : decode cX8_times 124 = .ok (.aload_n 0, 1) := by decide +kernel
theorem dX8_times_125 : decode cX8_times 125 = .ok (.iload_n 3, 1) := by decide +kernel
theorem dX8_times_126 : decode cX8_times 126 = .ok (.iload 5, 2) := by decide +kernel
theorem dX8_times_128 : decode cX8_times 128 = .ok (.iload 10, 2) := by decide +kernel
theorem dX8_times_130 : decode cX8_times 130 = .ok (.iadd, 1) := by decide +kernel
theorem dX8_times_131 : decode cX8_times 131 = .ok (.lload 11, 2) := by decide +kernel
theorem dX8_times_133 : decode cX8_times 133 = .ok (.ldc2_w 46, 3) := by decide +kernel
theorem dX8_times_136 : decode cX8_times 136 = .ok (.lrem, 1) := by decide +kernel
theorem dX8_times_137 : decode cX8_times 137 = .ok (.l2i, 1) := by decide +kernel
theorem dX8_times_138 : decode cX8_times 138 = .ok (.invokevirtual 34, 3) := by decide +kernel
theorem dX8_times_141 : decode cX8_times 141 = .ok (.lload 11, 2) := by decide +kernel
theorem dX8_times_143 : decode cX8_times 143 = .ok (.ldc2_w 46, 3) := by decide +kernel
theorem dX8_times_146 : decode cX8_times 146 = .ok (.ldiv, 1) := by decide +kernel
theorem dX8_times_147 : decode cX8_times 147 = .ok (.lstore 6, 2) := by decide +kernel
theorem dX8_times_149 : decode cX8_times 149 = .ok (.iinc 10 1, 3) := by decide +kernel
theorem dX8_times_152 : decode cX8_times 152 = .ok (.goto (-83), 3) := by decide +kernel
theorem dX8_times_155 : decode cX8_times 155 = .ok (.iinc 5 1, 3) := by decide +kernel
theorem dX8_times_158 : decode cX8_times 158 = .ok (.goto (-116), 3) := by decide +kernel
theorem dX8_times_161 : decode cX8_times 161 = .ok (.aload_n 0, 1) := by decide +kernel
theorem dX8_times_162 : decode cX8_times 162 = .ok (.iload_n 3, 1) := by decide +kernel
theorem dX8_times_163 : decode cX8_times 163 = .ok (.iload 4, 2) := by decide +kernel
theorem dX8_times_165 : decode cX8_times 165 = .ok (.invokevirtual 38, 3) := by decide +kernel
theorem dX8_times_168 : decode cX8_times 168 = .ok (.return_, 1) := by decide +kernel
theorem dX8_divide_0 : decode cX8_divide 0 = .ok (.lconst 0, 1) := by decide +kernel
theorem dX8_divide_1 : decode cX8_divide 1 = .ok (.lstore_n 3, 1) := by decide +kernel
theorem dX8_divide_2 : decode cX8_divide 2 = .ok (.aload_n 0, 1) := by decide +kernel
theorem dX8_divide_3 : decode cX8_divide 3 = .ok (.getfield 13, 3) := by decide +kernel
theorem dX8_divide_6 : decode cX8_divide 6 = .ok (.iload_n 1, 1) := by decide +kernel
theorem dX8_divide_7 : decode cX8_divide 7 = .ok (.iaload, 1) := by decide +kernel
theorem dX8_divide_8 : decode cX8_divide 8 = .ok (.iconst 1, 1) := by decide +kernel
theorem dX8_divide_9 : decode cX8_divide 9 = .ok (.isub, 1) := by decide +kernel
theorem dX8_divide_10 : decode cX8_divide 10 = .ok (.istore 5, 2) := by decide +kernel
theorem dX8_divide_12 : decode cX8_divide 12 = .ok (.iload 5, 2) := by decide +kernel
theorem dX8_divide_14 : decode cX8_divide 14 = .ok (.ifCond .lt 44, 3) := by decide +kernel
theorem dX8_divide_17 : decode cX8_divide 17 = .ok (.lload_n 3, 1) := by decide +kernel
theorem dX8_divide_18 : decode cX8_divide 18 = .ok (.ldc2_w 46, 3) := by decide +kernel
theorem dX8_divide_21 : decode cX8_divide 21 = .ok (.lmul, 1) := by decide +kernel
theorem dX8_divide_22 : decode cX8_divide 22 = .ok (.aload_n 0, 1) := by decide +kernel
theorem dX8_divide_23 : decode cX8_divide 23 = .ok (.iload_n 1, 1) := by decide +kernel
theorem dX8_divide_24 : decode cX8_divide 24 = .ok (.iload 5, 2) := by decide +kernel
theorem dX8_divide_26 : decode cX8_divide 26 = .ok (.invokevirtual 41, 3) := by decide +kernel
theorem dX8_divide_29 : decode cX8_divide 29 = .ok (.i2l, 1) := by decide +kernel
theorem dX8_divide_30 : decode cX8_divide 30 = .ok (.ladd, 1) := by decide +kernel
theorem dX8_divide_31 : decode cX8_divide 31 = .ok (.lstore 6, 2) := by decide +kernel
theorem dX8_divide_33 : decode cX8_divide 33 = .ok (.aload_n 0, 1) := by decide +kernel
theorem dX8_divide_34 : decode cX8_divide 34 = .ok (.iload_n 1, 1) := by decide +kernel
theorem dX8_divide_35 : decode cX8_divide 35 = .ok (.iload 5, 2) := by decide +kernel
theorem dX8_divide_37 : decode cX8_divide 37 = .ok (.lload 6, 2) := by decide +kernel
theorem dX8_divide_39 : decode cX8_divide 39 = .ok (.iload_n 2, 1) := by decide +kernel
theorem dX8_divide_40 : decode cX8_divide 40 = .ok (.i2l, 1) := by decide +kernel
theorem dX8_divide_41 : decode cX8_divide 41 = .ok (.ldiv, 1) := by decide +kernel
theorem dX8_divide_42 : decode cX8_divide 42 = .ok (.l2i, 1) := by decide +kernel
theorem dX8_divide_43 : decode cX8_divide 43 = .ok (.invokevirtual 34, 3) := by decide +kernel
theorem dX8_divide_46 : decode cX8_divide 46 = .ok (.lload 6, 2) := by decide +kernel
theorem dX8_divide_48 : decode cX8_divide 48 = .ok (.iload_n 2, 1) := by decide +kernel
theorem dX8_divide_49 : decode cX8_divide 49 = .ok (.i2l, 1) := by decide +kernel
theorem dX8_divide_50 : decode cX8_divide 50 = .ok (.lrem, 1) := by decide +kernel
theorem dX8_divide_51 : decode cX8_divide 51 = .ok (.lstore_n 3, 1) := by decide +kernel
theorem dX8_divide_52 : decode cX8_divide 52 = .ok (.iinc 5 (-1), 3) := by decide +kernel
theorem dX8_divide_55 : decode cX8_divide 55 = .ok (.goto (-43), 3) := by decide +kernel
theorem dX8_divide_58 : decode cX8_divide 58 = .ok (.aload_n 0, 1) := by decide +kernel
theorem dX8_divide_59 : decode cX8_divide 59 = .ok (.iload_n 1, 1) := by decide +kernel
theorem dX8_divide_60 : decode cX8_divide 60 = .ok (.aload_n 0, 1) := by decide +kernel
theorem dX8_divide_61 : decode cX8_divide 61 = .ok (.getfield 13, 3) := by decide +kernel
theorem dX8_divide_64 : decode cX8_divide 64 = .ok (.iload_n 1, 1) := by decide +kernel
theorem dX8_divide_65 : decode cX8_divide 65 = .ok (.iaload, 1) := by decide +kernel
theorem dX8_divide_66 : decode cX8_divide 66 = .ok (.invokevirtual 38, 3) := by decide +kernel
theorem dX8_divide_69 : decode cX8_divide 69 = .ok (.lload_n 3, 1) := by decide +kernel
theorem dX8_divide_70 : decode cX8_divide 70 = .ok (.l2i, 1) := by decide +kernel
theorem dX8_divide_71 : decode cX8_divide 71 = .ok (.ireturn, 1) := by decide +kernel
theorem dX8_lifted_0 : decode cX8_lifted 0 = .ok (.aload_n 0, 1) := by decide +kernel
theorem dX8_lifted_1 : decode cX8_lifted 1 = .ok (.getfield 13, 3) := by decide +kernel
theorem dX8_lifted_4 : decode cX8_lifted 4 = .ok (.iload_n 1, 1) := by decide +kernel
theorem dX8_lifted_5 : decode cX8_lifted 5 = .ok (.iaload, 1) := by decide +kernel
theorem dX8_lifted_6 : decode cX8_lifted 6 = .ok (.iconst 1, 1) := by decide +kernel
theorem dX8_lifted_7 : decode cX8_lifted 7 = .ok (.iadd, 1) := by decide +kernel
theorem dX8_lifted_8 : decode cX8_lifted 8 = .ok (.istore 4, 2) := by decide +kernel
theorem dX8_lifted_10 : decode cX8_lifted 10 = .ok (.iconst 0, 1) := by decide +kernel
theorem dX8_lifted_11 : decode cX8_lifted 11 = .ok (.istore 5, 2) := by decide +kernel
theorem dX8_lifted_13 : decode cX8_lifted 13 = .ok (.iconst 0, 1) := by decide +kernel
theorem dX8_lifted_14 : decode cX8_lifted 14 = .ok (.istore 6, 2) := by decide +kernel
theorem dX8_lifted_16 : decode cX8_lifted 16 = .ok (.iload 6, 2) := by decide +kernel
theorem dX8_lifted_18 : decode cX8_lifted 18 = .ok (.iload 4, 2) := by decide +kernel
theorem dX8_lifted_20 : decode cX8_lifted 20 = .ok (.if_icmp .ge 42, 3) := by decide +kernel
theorem dX8_lifted_23 : decode cX8_lifted 23 = .ok (.aload_n 0, 1) := by decide +kernel
theorem dX8_lifted_24 : decode cX8_lifted 24 = .ok (.iload_n 1, 1) := by decide +kernel
theorem dX8_lifted_25 : decode cX8_lifted 25 = .ok (.iload 6, 2) := by decide +kernel
theorem dX8_lifted_27 : decode cX8_lifted 27 = .ok (.invokevirtual 41, 3) := by decide +kernel
theorem dX8_lifted_30 : decode cX8_lifted 30 = .ok (.iload_n 2, 1) := by decide +kernel
theorem dX8_lifted_31 : decode cX8_lifted 31 = .ok (.ishl, 1) := by decide +kernel
theorem dX8_lifted_32 : decode cX8_lifted 32 = .ok (.iload 5, 2) := by decide +kernel
theorem dX8_lifted_34 : decode cX8_lifted 34 = .ok (.iadd, 1) := by decide +kernel
theorem dX8_lifted_35 : decode cX8_lifted 35 = .ok (.istore 7, 2) := by decide +kernel
theorem dX8_lifted_37 : decode cX8_lifted 37 = .ok (.aload_n 0, 1) := by decide +kernel
theorem dX8_lifted_38 : decode cX8_lifted 38 = .ok (.iload_n 3, 1) := by decide +kernel
theorem dX8_lifted_39 : decode cX8_lifted 39 = .ok (.iload 6, 2) := by decide +kernel
theorem dX8_lifted_41 : decode cX8_lifted 41 = .ok (.iload 7, 2) := by decide +kernel
theorem dX8_lifted_43 : decode cX8_lifted 43 = .ok (.ldc 45, 2) := by decide +kernel
theorem dX8_lifted_45 : decode cX8_lifted 45 = .ok (.irem, 1) := by decide +kernel
theorem dX8_lifted_46 : decode cX8_lifted 46 = .ok (.invokevirtual 34, 3) := by decide +kernel
theorem dX8_lifted_49 : decode cX8_lifted 49 = .ok (.iload 7, 2) := by decide +kernel
theorem dX8_lifted_51 : decode cX8_lifted 51 = .ok (.ldc 45, 2) := by decide +kernel
theorem dX8_lifted_53 : decode cX8_lifted 53 = .ok (.idiv, 1) := by decide +kernel
theorem dX8_lifted_54 : decode cX8_lifted 54 = .ok (.istore 5, 2) := by decide +kernel
theorem dX8_lifted_56 : decode cX8_lifted 56 = .ok (.iinc 6 1, 3) := by decide +kernel
theorem dX8_lifted_59 : decode cX8_lifted 59 = .ok (.goto (-43), 3) := by decide +kernel
theorem dX8_lifted_62 : decode cX8_lifted 62 = .ok (.aload_n 0, 1) := by decide +kernel
theorem dX8_lifted_63 : decode cX8_lifted 63 = .ok (.getfield 13, 3) := by decide +kernel
theorem dX8_lifted_66 : decode cX8_lifted 66 = .ok (.iload_n 3, 1) := by decide +kernel
theorem dX8_lifted_67 : decode cX8_lifted 67 = .ok (.iload 4, 2) := by decide +kernel
theorem dX8_lifted_69 : decode cX8_lifted 69 = .ok (.iastore, 1) := by decide +kernel
theorem dX8_lifted_70 : decode cX8_lifted 70 = .ok (.return_, 1) := by decide +kernel
theorem dX8_takes_0 : decode cX8_takes 0 = .ok (.lconst 0, 1) := by decide +kernel
theorem dX8_takes_1 : decode cX8_takes 1 = .ok (.lstore 5, 2) := by decide +kernel
theorem dX8_takes_3 : decode cX8_takes 3 = .ok (.iconst 0, 1) := by decide +kernel
theorem dX8_takes_4 : decode cX8_takes 4 = .ok (.istore 7, 2) := by decide +kernel
theorem dX8_takes_6 : decode cX8_takes 6 = .ok (.iload 7, 2) := by decide +kernel
theorem dX8_takes_8 : decode cX8_takes 8 = .ok (.iload_n 2, 1) := by decide +kernel
theorem dX8_takes_9 : decode cX8_takes 9 = .ok (.if_icmp .gt 104, 3) := by decide +kernel
theorem dX8_takes_12 : decode cX8_takes 12 = .ok (.aload_n 0, 1) := by decide +kernel
theorem dX8_takes_13 : decode cX8_takes 13 = .ok (.getfield 7, 3) := by decide +kernel
theorem dX8_takes_16 : decode cX8_takes 16 = .ok (.sipush 10560, 3) := by decide +kernel
theorem dX8_takes_19 : decode cX8_takes 19 = .ok (.iload_n 1, 1) := by decide +kernel
theorem dX8_takes_20 : decode cX8_takes 20 = .ok (.iadd, 1) := by decide +kernel
theorem dX8_takes_21 : decode cX8_takes 21 = .ok (.iload 7, 2) := by decide +kernel
theorem dX8_takes_23 : decode cX8_takes 23 = .ok (.iadd, 1) := by decide +kernel
theorem dX8_takes_24 : decode cX8_takes 24 = .ok (.iaload, 1) := by decide +kernel
theorem dX8_takes_25 : decode cX8_takes 25 = .ok (.i2l, 1) := by decide +kernel
theorem dX8_takes_26 : decode cX8_takes 26 = .ok (.lload 5, 2) := by decide +kernel
theorem dX8_takes_28 : decode cX8_takes 28 = .ok (.lsub, 1) := by decide +kernel
theorem dX8_takes_29 : decode cX8_takes 29 = .ok (.lload_n 3, 1) := by decide +kernel
theorem dX8_takes_30 : decode cX8_takes 30 = .ok (.iload 7, 2) := by decide +kernel
theorem dX8_takes_32 : decode cX8_takes 32 = .ok (.iload_n 2, 1) := by decide +kernel
theorem dX8_takes_33 : decode cX8_takes 33 = .ok (.if_icmp .ge 17, 3) := by decide +kernel
theorem dX8_takes_36 : decode cX8_takes 36 = .ok (.aload_n 0, 1) := by decide +kernel
theorem dX8_takes_37 : decode cX8_takes 37 = .ok (.getfield 7, 3) := by decide +kernel
theorem dX8_takes_40 : decode cX8_takes 40 = .ok (.sipush 10824, 3) := by decide +kernel
theorem dX8_takes_43 : decode cX8_takes 43 = .ok (.iload 7, 2) := by decide +kernel
theorem dX8_takes_45 : decode cX8_takes 45 = .ok (.iadd, 1) := by decide +kernel
theorem dX8_takes_46 : decode cX8_takes 46 = .ok (.iaload, 1) := by decide +kernel
theorem dX8_takes_47 : decode cX8_takes 47 = .ok (.goto 4, 3) := by decide +kernel
theorem dX8_takes_50 : decode cX8_takes 50 = .ok (.iconst 0, 1) := by decide +kernel
theorem dX8_takes_51 : decode cX8_takes 51 = .ok (.i2l, 1) := by decide +kernel
theorem dX8_takes_52 : decode cX8_takes 52 = .ok (.lmul, 1) := by decide +kernel
theorem dX8_takes_53 : decode cX8_takes 53 = .ok (.lsub, 1) := by decide +kernel
theorem dX8_takes_54 : decode cX8_takes 54 = .ok (.lstore 8, 2) := by decide +kernel
theorem dX8_takes_56 : decode cX8_takes 56 = .ok (.lload 8, 2) := by decide +kernel
theorem dX8_takes_58 : decode cX8_takes 58 = .ok (.ldc2_w 46, 3) := by decide +kernel
theorem dX8_takes_61 : decode cX8_takes 61 = .ok (.lrem, 1) := by decide +kernel
theorem dX8_takes_62 : decode cX8_takes 62 = .ok (.lstore 10, 2) := by decide +kernel
theorem dX8_takes_64 : decode cX8_takes 64 = .ok (.lload 10, 2) := by decide +kernel
theorem dX8_takes_66 : decode cX8_takes 66 = .ok (.lload 10, 2) := by decide +kernel
theorem dX8_takes_68 : decode cX8_takes 68 = .ok (.lconst 0, 1) := by decide +kernel
theorem dX8_takes_69 : decode cX8_takes 69 = .ok (.lcmp, 1) := by decide +kernel
theorem dX8_takes_70 : decode cX8_takes 70 = .ok (.ifCond .ge 9, 3) := by decide +kernel
theorem dX8_takes_73 : decode cX8_takes 73 = .ok (.ldc2_w 46, 3) := by decide +kernel
theorem dX8_takes_76 : decode cX8_takes 76 = .ok (.goto 4, 3) := by decide +kernel
theorem dX8_takes_79 : decode cX8_takes 79 = .ok (.lconst 0, 1) := by decide +kernel
theorem dX8_takes_80 : decode cX8_takes 80 = .ok (.ladd, 1) := by decide +kernel
theorem dX8_takes_81 : decode cX8_takes 81 = .ok (.lstore 10, 2) := by decide +kernel
theorem dX8_takes_83 : decode cX8_takes 83 = .ok (.aload_n 0, 1) := by decide +kernel
theorem dX8_takes_84 : decode cX8_takes 84 = .ok (.bipush 40, 2) := by decide +kernel
theorem dX8_takes_86 : decode cX8_takes 86 = .ok (.iload_n 1, 1) := by decide +kernel
theorem dX8_takes_87 : decode cX8_takes 87 = .ok (.iload 7, 2) := by decide +kernel
theorem dX8_takes_89 : decode cX8_takes 89 = .ok (.iadd, 1) := by decide +kernel
theorem dX8_takes_90 : decode cX8_takes 90 = .ok (.lload 10, 2) := by decide +kernel
theorem dX8_takes_92 : decode cX8_takes 92 = .ok (.l2i, 1) := by decide +kernel
theorem dX8_takes_93 : decode cX8_takes 93 = .ok (.invokevirtual 34, 3) := by decide +kernel
theorem dX8_takes_96 : decode cX8_takes 96 = .ok (.lload 10, 2) := by decide +kernel
theorem dX8_takes_98 : decode cX8_takes 98 = .ok (.lload 8, 2) := by decide +kernel
theorem dX8_takes_100 : decode cX8_takes 100 = .ok (.lsub, 1) := by decide +kernel
theorem dX8_takes_101 : decode cX8_takes 101 = .ok (.ldc2_w 46, 3) := by decide +kernel
theorem dX8_takes_104 : decode cX8_takes 104 = .ok (.ldiv, 1) := by decide +kernel
theorem dX8_takes_105 : decode cX8_takes 105 = .ok (.lstore 5, 2) := by decide +kernel
theorem dX8_takes_107 : decode cX8_takes 107 = .ok (.iinc 7 1, 3) := by decide +kernel
theorem dX8_takes_110 : decode cX8_takes 110 = .ok (.goto (-104), 3) := by decide +kernel
theorem dX8_takes_113 : decode cX8_takes 113 = .ok (.lload 5, 2) := by decide +kernel
theorem dX8_takes_115 : decode cX8_takes 115 = .ok (.lconst 0, 1) := by decide +kernel
theorem dX8_takes_116 : decode cX8_takes 116 = .ok (.lcmp, 1) := by decide +kernel
theorem dX8_takes_117 : decode cX8_takes 117 = .ok (.ifCond .le 7, 3) := by decide +kernel
theorem dX8_takes_120 : decode cX8_takes 120 = .ok (.iconst 1, 1) := by decide +kernel
theorem dX8_takes_121 : decode cX8_takes 121 = .ok (.goto 4, 3) := by decide +kernel
theorem dX8_takes_124 : decode cX8_takes 124 = .ok (.iconst 0, 1) := by decide +kernel
theorem dX8_takes_125 : decode cX8_takes 125 = .ok (.ireturn, 1) := by decide +kernel
theorem dX8_givesBack_0 : decode cX8_givesBack 0 = .ok (.iconst 0, 1) := by decide +kernel
theorem dX8_givesBack_1 : decode cX8_givesBack 1 = .ok (.istore_n 3, 1) := by decide +kernel
theorem dX8_givesBack_2 : decode cX8_givesBack 2 = .ok (.iconst 0, 1) := by decide +kernel
theorem dX8_givesBack_3 : decode cX8_givesBack 3 = .ok (.istore 4, 2) := by decide +kernel
theorem dX8_givesBack_5 : decode cX8_givesBack 5 = .ok (.iload 4, 2) := by decide +kernel
theorem dX8_givesBack_7 : decode cX8_givesBack 7 = .ok (.iload_n 2, 1) := by decide +kernel
theorem dX8_givesBack_8 : decode cX8_givesBack 8 = .ok (.if_icmp .gt 69, 3) := by decide +kernel
theorem dX8_givesBack_11 : decode cX8_givesBack 11 = .ok (.aload_n 0, 1) := by decide +kernel
theorem dX8_givesBack_12 : decode cX8_givesBack 12 = .ok (.getfield 7, 3) := by decide +kernel
theorem dX8_givesBack_15 : decode cX8_givesBack 15 = .ok (.sipush 10560, 3) := by decide +kernel
theorem dX8_givesBack_18 : decode cX8_givesBack 18 = .ok (.iload_n 1, 1) := by decide +kernel
theorem dX8_givesBack_19 : decode cX8_givesBack 19 = .ok (.iadd, 1) := by decide +kernel
theorem dX8_givesBack_20 : decode cX8_givesBack 20 = .ok (.iload 4, 2) := by decide +kernel
theorem dX8_givesBack_22 : decode cX8_givesBack 22 = .ok (.iadd, 1) := by decide +kernel
theorem dX8_givesBack_23 : decode cX8_givesBack 23 = .ok (.iaload, 1) := by decide +kernel
theorem dX8_givesBack_24 : decode cX8_givesBack 24 = .ok (.iload 4, 2) := by decide +kernel
theorem dX8_givesBack_26 : decode cX8_givesBack 26 = .ok (.iload_n 2, 1) := by decide +kernel
theorem dX8_givesBack_27 : decode cX8_givesBack 27 = .ok (.if_icmp .ge 17, 3) := by decide +kernel
theorem dX8_givesBack_30 : decode cX8_givesBack 30 = .ok (.aload_n 0, 1) := by decide +kernel
theorem dX8_givesBack_31 : decode cX8_givesBack 31 = .ok (.getfield 7, 3) := by decide +kernel
theorem dX8_givesBack_34 : decode cX8_givesBack 34 = .ok (.sipush 10824, 3) := by decide +kernel
theorem dX8_givesBack_37 : decode cX8_givesBack 37 = .ok (.iload 4, 2) := by decide +kernel
theorem dX8_givesBack_39 : decode cX8_givesBack 39 = .ok (.iadd, 1) := by decide +kernel
theorem dX8_givesBack_40 : decode cX8_givesBack 40 = .ok (.iaload, 1) := by decide +kernel
theorem dX8_givesBack_41 : decode cX8_givesBack 41 = .ok (.goto 4, 3) := by decide +kernel
theorem dX8_givesBack_44 : decode cX8_givesBack 44 = .ok (.iconst 0, 1) := by decide +kernel
theorem dX8_givesBack_45 : decode cX8_givesBack 45 = .ok (.iadd, 1) := by decide +kernel
theorem dX8_givesBack_46 : decode cX8_givesBack 46 = .ok (.iload_n 3, 1) := by decide +kernel
theorem dX8_givesBack_47 : decode cX8_givesBack 47 = .ok (.iadd, 1) := by decide +kernel
theorem dX8_givesBack_48 : decode cX8_givesBack 48 = .ok (.istore 5, 2) := by decide +kernel
theorem dX8_givesBack_50 : decode cX8_givesBack 50 = .ok (.aload_n 0, 1) := by decide +kernel
theorem dX8_givesBack_51 : decode cX8_givesBack 51 = .ok (.bipush 40, 2) := by decide +kernel
theorem dX8_givesBack_53 : decode cX8_givesBack 53 = .ok (.iload_n 1, 1) := by decide +kernel
theorem dX8_givesBack_54 : decode cX8_givesBack 54 = .ok (.iload 4, 2) := by decide +kernel
theorem dX8_givesBack_56 : decode cX8_givesBack 56 = .ok (.iadd, 1) := by decide +kernel
theorem dX8_givesBack_57 : decode cX8_givesBack 57 = .ok (.iload 5, 2) := by decide +kernel
theorem dX8_givesBack_59 : decode cX8_givesBack 59 = .ok (.ldc 45, 2) := by decide +kernel
theorem dX8_givesBack_61 : decode cX8_givesBack 61 = .ok (.irem, 1) := by decide +kernel
theorem dX8_givesBack_62 : decode cX8_givesBack 62 = .ok (.invokevirtual 34, 3) := by decide +kernel
theorem dX8_givesBack_65 : decode cX8_givesBack 65 = .ok (.iload 5, 2) := by decide +kernel
theorem dX8_givesBack_67 : decode cX8_givesBack 67 = .ok (.ldc 45, 2) := by decide +kernel
theorem dX8_givesBack_69 : decode cX8_givesBack 69 = .ok (.idiv, 1) := by decide +kernel
theorem dX8_givesBack_70 : decode cX8_givesBack 70 = .ok (.istore_n 3, 1) := by decide +kernel
theorem dX8_givesBack_71 : decode cX8_givesBack 71 = .ok (.iinc 4 1, 3) := by decide +kernel
theorem dX8_givesBack_74 : decode cX8_givesBack 74 = .ok (.goto (-69), 3) := by decide +kernel
theorem dX8_givesBack_77 : decode cX8_givesBack 77 = .ok (.return_, 1) := by decide +kernel
theorem dX8_guess_0 : decode cX8_guess 0 = .ok (.aload_n 0, 1) := by decide +kernel
theorem dX8_guess_1 : decode cX8_guess 1 = .ok (.getfield 7, 3) := by decide +kernel
theorem dX8_guess_4 : decode cX8_guess 4 = .ok (.sipush 10560, 3) := by decide +kernel
theorem dX8_guess_7 : decode cX8_guess 7 = .ok (.iload_n 1, 1) := by decide +kernel
theorem dX8_guess_8 : decode cX8_guess 8 = .ok (.iadd, 1) := by decide +kernel
theorem dX8_guess_9 : decode cX8_guess 9 = .ok (.iload_n 2, 1) := by decide +kernel
theorem dX8_guess_10 : decode cX8_guess 10 = .ok (.iadd, 1) := by decide +kernel
theorem dX8_guess_11 : decode cX8_guess 11 = .ok (.iaload, 1) := by decide +kernel
theorem dX8_guess_12 : decode cX8_guess 12 = .ok (.i2l, 1) := by decide +kernel
theorem dX8_guess_13 : decode cX8_guess 13 = .ok (.ldc2_w 46, 3) := by decide +kernel
theorem dX8_guess_16 : decode cX8_guess 16 = .ok (.lmul, 1) := by decide +kernel
theorem dX8_guess_17 : decode cX8_guess 17 = .ok (.aload_n 0, 1) := by decide +kernel
theorem dX8_guess_18 : decode cX8_guess 18 = .ok (.getfield 7, 3) := by decide +kernel
theorem dX8_guess_21 : decode cX8_guess 21 = .ok (.sipush 10560, 3) := by decide +kernel
theorem dX8_guess_24 : decode cX8_guess 24 = .ok (.iload_n 1, 1) := by decide +kernel
theorem dX8_guess_25 : decode cX8_guess 25 = .ok (.iadd, 1) := by decide +kernel
theorem dX8_guess_26 : decode cX8_guess 26 = .ok (.iload_n 2, 1) := by decide +kernel
theorem dX8_guess_27 : decode cX8_guess 27 = .ok (.iadd, 1) := by decide +kernel
theorem dX8_guess_28 : decode cX8_guess 28 = .ok (.iconst 1, 1) := by decide +kernel
theorem dX8_guess_29 : decode cX8_guess 29 = .ok (.isub, 1) := by decide +kernel
theorem dX8_guess_30 : decode cX8_guess 30 = .ok (.iaload, 1) := by decide +kernel
theorem dX8_guess_31 : decode cX8_guess 31 = .ok (.i2l, 1) := by decide +kernel
theorem dX8_guess_32 : decode cX8_guess 32 = .ok (.ladd, 1) := by decide +kernel
theorem dX8_guess_33 : decode cX8_guess 33 = .ok (.lstore_n 3, 1) := by decide +kernel
theorem dX8_guess_34 : decode cX8_guess 34 = .ok (.aload_n 0, 1) := by decide +kernel
theorem dX8_guess_35 : decode cX8_guess 35 = .ok (.getfield 7, 3) := by decide +kernel
theorem dX8_guess_38 : decode cX8_guess 38 = .ok (.sipush 10824, 3) := by decide +kernel
theorem dX8_guess_41 : decode cX8_guess 41 = .ok (.iload_n 2, 1) := by decide +kernel
theorem dX8_guess_42 : decode cX8_guess 42 = .ok (.iadd, 1) := by decide +kernel
theorem dX8_guess_43 : decode cX8_guess 43 = .ok (.iconst 1, 1) := by decide +kernel
theorem dX8_guess_44 : decode cX8_guess 44 = .ok (.isub, 1) := by decide +kernel
theorem dX8_guess_45 : decode cX8_guess 45 = .ok (.iaload, 1) := by decide +kernel
theorem dX8_guess_46 : decode cX8_guess 46 = .ok (.i2l, 1) := by decide +kernel
theorem dX8_guess_47 : decode cX8_guess 47 = .ok (.lstore 5, 2) := by decide +kernel
theorem dX8_guess_49 : decode cX8_guess 49 = .ok (.lload_n 3, 1) := by decide +kernel
theorem dX8_guess_50 : decode cX8_guess 50 = .ok (.lload 5, 2) := by decide +kernel
theorem dX8_guess_52 : decode cX8_guess 52 = .ok (.ldiv, 1) := by decide +kernel
theorem dX8_guess_53 : decode cX8_guess 53 = .ok (.lstore 7, 2) := by decide +kernel
theorem dX8_guess_55 : decode cX8_guess 55 = .ok (.lload_n 3, 1) := by decide +kernel
theorem dX8_guess_56 : decode cX8_guess 56 = .ok (.lload 5, 2) := by decide +kernel
theorem dX8_guess_58 : decode cX8_guess 58 = .ok (.lrem, 1) := by decide +kernel
theorem dX8_guess_59 : decode cX8_guess 59 = .ok (.lstore 9, 2) := by decide +kernel
theorem dX8_guess_61 : decode cX8_guess 61 = .ok (.lload 9, 2) := by decide +kernel
theorem dX8_guess_63 : decode cX8_guess 63 = .ok (.ldc2_w 46, 3) := by decide +kernel
theorem dX8_guess_66 : decode cX8_guess 66 = .ok (.lcmp, 1) := by decide +kernel
theorem dX8_guess_67 : decode cX8_guess 67 = .ok (.ifCond .ge 70, 3) := by decide +kernel
theorem dX8_guess_70 : decode cX8_guess 70 = .ok (.lload 7, 2) := by decide +kernel
theorem dX8_guess_72 : decode cX8_guess 72 = .ok (.ldc2_w 46, 3) := by decide +kernel
theorem dX8_guess_75 : decode cX8_guess 75 = .ok (.lcmp, 1) := by decide +kernel
theorem dX8_guess_76 : decode cX8_guess 76 = .ok (.ifCond .ge 45, 3) := by decide +kernel
theorem dX8_guess_79 : decode cX8_guess 79 = .ok (.lload 7, 2) := by decide +kernel
theorem dX8_guess_81 : decode cX8_guess 81 = .ok (.aload_n 0, 1) := by decide +kernel
theorem dX8_guess_82 : decode cX8_guess 82 = .ok (.getfield 7, 3) := by decide +kernel
theorem dX8_guess_85 : decode cX8_guess 85 = .ok (.sipush 10824, 3) := by decide +kernel
theorem dX8_guess_88 : decode cX8_guess 88 = .ok (.iload_n 2, 1) := by decide +kernel
theorem dX8_guess_89 : decode cX8_guess 89 = .ok (.iadd, 1) := by decide +kernel
theorem dX8_guess_90 : decode cX8_guess 90 = .ok (.iconst 2, 1) := by decide +kernel
theorem dX8_guess_91 : decode cX8_guess 91 = .ok (.isub, 1) := by decide +kernel
theorem dX8_guess_92 : decode cX8_guess 92 = .ok (.iaload, 1) := by decide +kernel
theorem dX8_guess_93 : decode cX8_guess 93 = .ok (.i2l, 1) := by decide +kernel
theorem dX8_guess_94 : decode cX8_guess 94 = .ok (.lmul, 1) := by decide +kernel
theorem dX8_guess_95 : decode cX8_guess 95 = .ok (.lload 9, 2) := by decide +kernel
theorem dX8_guess_97 : decode cX8_guess 97 = .ok (.ldc2_w 46, 3) := by decide +kernel
theorem dX8_guess_100 : decode cX8_guess 100 = .ok (.lmul, 1) := by decide +kernel
theorem dX8_guess_101 : decode cX8_guess 101 = .ok (.aload_n 0, 1) := by decide +kernel
theorem dX8_guess_102 : decode cX8_guess 102 = .ok (.getfield 7, 3) := by decide +kernel
theorem dX8_guess_105 : decode cX8_guess 105 = .ok (.sipush 10560, 3) := by decide +kernel
theorem dX8_guess_108 : decode cX8_guess 108 = .ok (.iload_n 1, 1) := by decide +kernel
theorem dX8_guess_109 : decode cX8_guess 109 = .ok (.iadd, 1) := by decide +kernel
theorem dX8_guess_110 : decode cX8_guess 110 = .ok (.iload_n 2, 1) := by decide +kernel
theorem dX8_guess_111 : decode cX8_guess 111 = .ok (.iadd, 1) := by decide +kernel
theorem dX8_guess_112 : decode cX8_guess 112 = .ok (.iconst 2, 1) := by decide +kernel
theorem dX8_guess_113 : decode cX8_guess 113 = .ok (.isub, 1) := by decide +kernel
theorem dX8_guess_114 : decode cX8_guess 114 = .ok (.iaload, 1) := by decide +kernel
theorem dX8_guess_115 : decode cX8_guess 115 = .ok (.i2l, 1) := by decide +kernel
theorem dX8_guess_116 : decode cX8_guess 116 = .ok (.ladd, 1) := by decide +kernel
theorem dX8_guess_117 : decode cX8_guess 117 = .ok (.lcmp, 1) := by decide +kernel
theorem dX8_guess_118 : decode cX8_guess 118 = .ok (.ifCond .le 19, 3) := by decide +kernel
theorem dX8_guess_121 : decode cX8_guess 121 = .ok (.lload 7, 2) := by decide +kernel
theorem dX8_guess_123 : decode cX8_guess 123 = .ok (.lconst 1, 1) := by decide +kernel
theorem dX8_guess_124 : decode cX8_guess 124 = .ok (.lsub, 1) := by decide +kernel
theorem dX8_guess_125 : decode cX8_guess 125 = .ok (.lstore 7, 2) := by decide +kernel
theorem dX8_guess_127 : decode cX8_guess 127 = .ok (.lload 9, 2) := by decide +kernel
theorem dX8_guess_129 : decode cX8_guess 129 = .ok (.lload 5, 2) := by decide +kernel
theorem dX8_guess_131 : decode cX8_guess 131 = .ok (.ladd, 1) := by decide +kernel
theorem dX8_guess_132 : decode cX8_guess 132 = .ok (.lstore 9, 2) := by decide +kernel
theorem dX8_guess_134 : decode cX8_guess 134 = .ok (.goto (-73), 3) := by decide +kernel
theorem dX8_guess_137 : decode cX8_guess 137 = .ok (.lload 7, 2) := by decide +kernel
theorem dX8_guess_139 : decode cX8_guess 139 = .ok (.lreturn, 1) := by decide +kernel
theorem dX8_divides_0 : decode cX8_divides 0 = .ok (.aload_n 0, 1) := by decide +kernel
theorem dX8_divides_1 : decode cX8_divides 1 = .ok (.iload_n 1, 1) := by decide +kernel
theorem dX8_divides_2 : decode cX8_divides 2 = .ok (.iload_n 2, 1) := by decide +kernel
theorem dX8_divides_3 : decode cX8_divides 3 = .ok (.invokevirtual 48, 3) := by decide +kernel
theorem dX8_divides_6 : decode cX8_divides 6 = .ok (.ifCond .ge 19, 3) := by decide +kernel
theorem dX8_divides_9 : decode cX8_divides 9 = .ok (.aload_n 0, 1) := by decide +kernel
theorem dX8_divides_10 : decode cX8_divides 10 = .ok (.iload_n 1, 1) := by decide +kernel
theorem dX8_divides_11 : decode cX8_divides 11 = .ok (.bipush 36, 2) := by decide +kernel
theorem dX8_divides_13 : decode cX8_divides 13 = .ok (.invokevirtual 51, 3) := by decide +kernel
theorem dX8_divides_16 : decode cX8_divides 16 = .ok (.aload_n 0, 1) := by decide +kernel
theorem dX8_divides_17 : decode cX8_divides 17 = .ok (.getfield 13, 3) := by decide +kernel
theorem dX8_divides_20 : decode cX8_divides 20 = .ok (.bipush 35, 2) := by decide +kernel
theorem dX8_divides_22 : decode cX8_divides 22 = .ok (.iconst 0, 1) := by decide +kernel
theorem dX8_divides_23 : decode cX8_divides 23 = .ok (.iastore, 1) := by decide +kernel
theorem dX8_divides_24 : decode cX8_divides 24 = .ok (.return_, 1) := by decide +kernel
theorem dX8_divides_25 : decode cX8_divides 25 = .ok (.aload_n 0, 1) := by decide +kernel
theorem dX8_divides_26 : decode cX8_divides 26 = .ok (.getfield 13, 3) := by decide +kernel
theorem dX8_divides_29 : decode cX8_divides 29 = .ok (.iload_n 2, 1) := by decide +kernel
theorem dX8_divides_30 : decode cX8_divides 30 = .ok (.iaload, 1) := by decide +kernel
theorem dX8_divides_31 : decode cX8_divides 31 = .ok (.istore_n 3, 1) := by decide +kernel
theorem dX8_divides_32 : decode cX8_divides 32 = .ok (.iload_n 3, 1) := by decide +kernel
theorem dX8_divides_33 : decode cX8_divides 33 = .ok (.iconst 1, 1) := by decide +kernel
theorem dX8_divides_34 : decode cX8_divides 34 = .ok (.if_icmp .ne 33, 3) := by decide +kernel
theorem dX8_divides_37 : decode cX8_divides 37 = .ok (.aload_n 0, 1) := by decide +kernel
theorem dX8_divides_38 : decode cX8_divides 38 = .ok (.iload_n 2, 1) := by decide +kernel
theorem dX8_divides_39 : decode cX8_divides 39 = .ok (.iconst 0, 1) := by decide +kernel
theorem dX8_divides_40 : decode cX8_divides 40 = .ok (.invokevirtual 41, 3) := by decide +kernel
theorem dX8_divides_43 : decode cX8_divides 43 = .ok (.istore 4, 2) := by decide +kernel
theorem dX8_divides_45 : decode cX8_divides 45 = .ok (.aload_n 0, 1) := by decide +kernel
theorem dX8_divides_46 : decode cX8_divides 46 = .ok (.iload_n 1, 1) := by decide +kernel
theorem dX8_divides_47 : decode cX8_divides 47 = .ok (.bipush 35, 2) := by decide +kernel
theorem dX8_divides_49 : decode cX8_divides 49 = .ok (.invokevirtual 51, 3) := by decide +kernel
theorem dX8_divides_52 : decode cX8_divides 52 = .ok (.aload_n 0, 1) := by decide +kernel
theorem dX8_divides_53 : decode cX8_divides 53 = .ok (.bipush 36, 2) := by decide +kernel
theorem dX8_divides_55 : decode cX8_divides 55 = .ok (.aload_n 0, 1) := by decide +kernel
theorem dX8_divides_56 : decode cX8_divides 56 = .ok (.bipush 35, 2) := by decide +kernel
theorem dX8_divides_58 : decode cX8_divides 58 = .ok (.iload 4, 2) := by decide +kernel
theorem dX8_divides_60 : decode cX8_divides 60 = .ok (.invokevirtual 54, 3) := by decide +kernel
theorem dX8_divides_63 : decode cX8_divides 63 = .ok (.invokevirtual 26, 3) := by decide +kernel
theorem dX8_divides_66 : decode cX8_divides 66 = .ok (.return_, 1) := by decide +kernel
theorem dX8_divides_67 : decode cX8_divides 67 = .ok (.iconst 0, 1) := by decide +kernel
theorem dX8_divides_68 : decode cX8_divides 68 = .ok (.istore 4, 2) := by decide +kernel
theorem dX8_divides_70 : decode cX8_divides 70 = .ok (.aload_n 0, 1) := by decide +kernel
theorem dX8_divides_71 : decode cX8_divides 71 = .ok (.iload_n 2, 1) := by decide +kernel
theorem dX8_divides_72 : decode cX8_divides 72 = .ok (.iload_n 3, 1) := by decide +kernel
theorem dX8_divides_73 : decode cX8_divides 73 = .ok (.iconst 1, 1) := by decide +kernel
theorem dX8_divides_74 : decode cX8_divides 74 = .ok (.isub, 1) := by decide +kernel
theorem dX8_divides_75 : decode cX8_divides 75 = .ok (.invokevirtual 41, 3) := by decide +kernel
theorem dX8_divides_78 : decode cX8_divides 78 = .ok (.iload 4, 2) := by decide +kernel
theorem dX8_divides_80 : decode cX8_divides 80 = .ok (.ishl, 1) := by decide +kernel
theorem dX8_divides_81 : decode cX8_divides 81 = .ok (.ldc 57, 2) := by decide +kernel
theorem dX8_divides_83 : decode cX8_divides 83 = .ok (.if_icmp .ge 9, 3) := by decide +kernel
theorem dX8_divides_86 : decode cX8_divides 86 = .ok (.iinc 4 1, 3) := by decide +kernel
theorem dX8_divides_89 : decode cX8_divides 89 = .ok (.goto (-19), 3) := by decide +kernel
theorem dX8_divides_92 : decode cX8_divides 92 = .ok (.aload_n 0, 1) := by decide +kernel
theorem dX8_divides_93 : decode cX8_divides 93 = .ok (.getfield 13, 3) := by decide +kernel
theorem dX8_divides_96 : decode cX8_divides 96 = .ok (.iload_n 1, 1) := by decide +kernel
theorem dX8_divides_97 : decode cX8_divides 97 = .ok (.iaload, 1) := by decide +kernel
theorem dX8_divides_98 : decode cX8_divides 98 = .ok (.iload_n 3, 1) := by decide +kernel
theorem dX8_divides_99 : decode cX8_divides 99 = .ok (.isub, 1) := by decide +kernel
theorem dX8_divides_100 : decode cX8_divides 100 = .ok (.istore 5, 2) := by decide +kernel
theorem dX8_divides_102 : decode cX8_divides 102 = .ok (.aload_n 0, 1) := by decide +kernel
theorem dX8_divides_103 : decode cX8_divides 103 = .ok (.iload_n 1, 1) := by decide +kernel
theorem dX8_divides_104 : decode cX8_divides 104 = .ok (.iload 4, 2) := by decide +kernel
theorem dX8_divides_106 : decode cX8_divides 106 = .ok (.bipush 40, 2) := by decide +kernel
theorem dX8_divides_108 : decode cX8_divides 108 = .ok (.invokevirtual 58, 3) := by decide +kernel
theorem dX8_divides_111 : decode cX8_divides 111 = .ok (.aload_n 0, 1) := by decide +kernel
theorem dX8_divides_112 : decode cX8_divides 112 = .ok (.iload_n 2, 1) := by decide +kernel
theorem dX8_divides_113 : decode cX8_divides 113 = .ok (.iload 4, 2) := by decide +kernel
theorem dX8_divides_115 : decode cX8_divides 115 = .ok (.bipush 41, 2) := by decide +kernel
theorem dX8_divides_117 : decode cX8_divides 117 = .ok (.invokevirtual 58, 3) := by decide +kernel
theorem dX8_divides_120 : decode cX8_divides 120 = .ok (.iload 5, 2) := by decide +kernel
theorem dX8_divides_122 : decode cX8_divides 122 = .ok (.istore 6, 2) := by decide +kernel
theorem dX8_divides_124 : decode cX8_divides 124 = .ok (.iload 6, 2) := by decide +kernel
theorem dX8_divides_126 : decode cX8_divides 126 = .ok (.ifCond .lt 54, 3) := by decide +kernel
theorem dX8_divides_129 : decode cX8_divides 129 = .ok (.aload_n 0, 1) := by decide +kernel
theorem dX8_divides_130 : decode cX8_divides 130 = .ok (.iload 6, 2) := by decide +kernel
theorem dX8_divides_132 : decode cX8_divides 132 = .ok (.iload_n 3, 1) := by decide +kernel
theorem dX8_divides_133 : decode cX8_divides 133 = .ok (.invokevirtual 61, 3) := by decide +kernel
theorem dX8_divides_136 : decode cX8_divides 136 = .ok (.lstore 7, 2) := by decide +kernel
theorem dX8_divides_138 : decode cX8_divides 138 = .ok (.aload_n 0, 1) := by decide +kernel
theorem dX8_divides_139 : decode cX8_divides 139 = .ok (.iload 6, 2) := by decide +kernel
theorem dX8_divides_141 : decode cX8_divides 141 = .ok (.iload_n 3, 1) := by decide +kernel
theorem dX8_divides_142 : decode cX8_divides 142 = .ok (.lload 7, 2) := by decide +kernel
theorem dX8_divides_144 : decode cX8_divides 144 = .ok (.invokevirtual 65, 3) := by decide +kernel
theorem dX8_divides_147 : decode cX8_divides 147 = .ok (.ifCond .eq 16, 3) := by decide +kernel
theorem dX8_divides_150 : decode cX8_divides 150 = .ok (.lload 7, 2) := by decide +kernel
theorem dX8_divides_152 : decode cX8_divides 152 = .ok (.lconst 1, 1) := by decide +kernel
theorem dX8_divides_153 : decode cX8_divides 153 = .ok (.lsub, 1) := by decide +kernel
theorem dX8_divides_154 : decode cX8_divides 154 = .ok (.lstore 7, 2) := by decide +kernel
theorem dX8_divides_156 : decode cX8_divides 156 = .ok (.aload_n 0, 1) := by decide +kernel
theorem dX8_divides_157 : decode cX8_divides 157 = .ok (.iload 6, 2) := by decide +kernel
theorem dX8_divides_159 : decode cX8_divides 159 = .ok (.iload_n 3, 1) := by decide +kernel
theorem dX8_divides_160 : decode cX8_divides 160 = .ok (.invokevirtual 69, 3) := by decide +kernel
theorem dX8_divides_163 : decode cX8_divides 163 = .ok (.aload_n 0, 1) := by decide +kernel
theorem dX8_divides_164 : decode cX8_divides 164 = .ok (.bipush 35, 2) := by decide +kernel
theorem dX8_divides_166 : decode cX8_divides 166 = .ok (.iload 6, 2) := by decide +kernel
theorem dX8_divides_168 : decode cX8_divides 168 = .ok (.lload 7, 2) := by decide +kernel
theorem dX8_divides_170 : decode cX8_divides 170 = .ok (.l2i, 1) := by decide +kernel
theorem dX8_divides_171 : decode cX8_divides 171 = .ok (.invokevirtual 34, 3) := by decide +kernel
theorem dX8_divides_174 : decode cX8_divides 174 = .ok (.iinc 6 (-1), 3) := by decide +kernel
theorem dX8_divides_177 : decode cX8_divides 177 = .ok (.goto (-53), 3) := by decide +kernel
theorem dX8_divides_180 : decode cX8_divides 180 = .ok (.aload_n 0, 1) := by decide +kernel
theorem dX8_divides_181 : decode cX8_divides 181 = .ok (.bipush 35, 2) := by decide +kernel
theorem dX8_divides_183 : decode cX8_divides 183 = .ok (.iload 5, 2) := by decide +kernel
theorem dX8_divides_185 : decode cX8_divides 185 = .ok (.iconst 1, 1) := by decide +kernel
theorem dX8_divides_186 : decode cX8_divides 186 = .ok (.iadd, 1) := by decide +kernel
theorem dX8_divides_187 : decode cX8_divides 187 = .ok (.invokevirtual 38, 3) := by decide +kernel
theorem dX8_divides_190 : decode cX8_divides 190 = .ok (.iconst 0, 1) := by decide +kernel
theorem dX8_divides_191 : decode cX8_divides 191 = .ok (.istore 6, 2) := by decide +kernel
theorem dX8_divides_193 : decode cX8_divides 193 = .ok (.iload 6, 2) := by decide +kernel
theorem dX8_divides_195 : decode cX8_divides 195 = .ok (.iload_n 3, 1) := by decide +kernel
theorem dX8_divides_196 : decode cX8_divides 196 = .ok (.if_icmp .ge 58, 3) := by decide +kernel
theorem dX8_divides_199 : decode cX8_divides 199 = .ok (.aload_n 0, 1) := by decide +kernel
theorem dX8_divides_200 : decode cX8_divides 200 = .ok (.getfield 7, 3) := by decide +kernel
theorem dX8_divides_203 : decode cX8_divides 203 = .ok (.sipush 10560, 3) := by decide +kernel
theorem dX8_divides_206 : decode cX8_divides 206 = .ok (.iload 6, 2) := by decide +kernel
theorem dX8_divides_208 : decode cX8_divides 208 = .ok (.iadd, 1) := by decide +kernel
theorem dX8_divides_209 : decode cX8_divides 209 = .ok (.iaload, 1) := by decide +kernel
theorem dX8_divides_210 : decode cX8_divides 210 = .ok (.iload 4, 2) := by decide +kernel
theorem dX8_divides_212 : decode cX8_divides 212 = .ok (.ishr, 1) := by decide +kernel
theorem dX8_divides_213 : decode cX8_divides 213 = .ok (.aload_n 0, 1) := by decide +kernel
theorem dX8_divides_214 : decode cX8_divides 214 = .ok (.getfield 7, 3) := by decide +kernel
theorem dX8_divides_217 : decode cX8_divides 217 = .ok (.sipush 10560, 3) := by decide +kernel
theorem dX8_divides_220 : decode cX8_divides 220 = .ok (.iload 6, 2) := by decide +kernel
theorem dX8_divides_222 : decode cX8_divides 222 = .ok (.iadd, 1) := by decide +kernel
theorem dX8_divides_223 : decode cX8_divides 223 = .ok (.iconst 1, 1) := by decide +kernel
theorem dX8_divides_224 : decode cX8_divides 224 = .ok (.iadd, 1) := by decide +kernel
theorem dX8_divides_225 : decode cX8_divides 225 = .ok (.iaload, 1) := by decide +kernel
theorem dX8_divides_226 : decode cX8_divides 226 = .ok (.bipush 16, 2) := by decide +kernel
theorem dX8_divides_228 : decode cX8_divides 228 = .ok (.iload 4, 2) := by decide +kernel
theorem dX8_divides_230 : decode cX8_divides 230 = .ok (.isub, 1) := by decide +kernel
theorem dX8_divides_231 : decode cX8_divides 231 = .ok (.ishl, 1) := by decide +kernel
theorem dX8_divides_232 : decode cX8_divides 232 = .ok (.ldc 72, 2) := by decide +kernel
theorem dX8_divides_234 : decode cX8_divides 234 = .ok (.iand, 1) := by decide +kernel
theorem dX8_divides_235 : decode cX8_divides 235 = .ok (.ior, 1) := by decide +kernel
theorem dX8_divides_236 : decode cX8_divides 236 = .ok (.istore 7, 2) := by decide +kernel
theorem dX8_divides_238 : decode cX8_divides 238 = .ok (.aload_n 0, 1) := by decide +kernel
theorem dX8_divides_239 : decode cX8_divides 239 = .ok (.bipush 36, 2) := by decide +kernel
theorem dX8_divides_241 : decode cX8_divides 241 = .ok (.iload 6, 2) := by decide +kernel
theorem dX8_divides_243 : decode cX8_divides 243 = .ok (.iload 7, 2) := by decide +kernel
theorem dX8_divides_245 : decode cX8_divides 245 = .ok (.invokevirtual 34, 3) := by decide +kernel
theorem dX8_divides_248 : decode cX8_divides 248 = .ok (.iinc 6 1, 3) := by decide +kernel
theorem dX8_divides_251 : decode cX8_divides 251 = .ok (.goto (-58), 3) := by decide +kernel
theorem dX8_divides_254 : decode cX8_divides 254 = .ok (.aload_n 0, 1) := by decide +kernel
theorem dX8_divides_255 : decode cX8_divides 255 = .ok (.bipush 36, 2) := by decide +kernel
theorem dX8_divides_257 : decode cX8_divides 257 = .ok (.iload_n 3, 1) := by decide +kernel
theorem dX8_divides_258 : decode cX8_divides 258 = .ok (.invokevirtual 38, 3) := by decide +kernel
theorem dX8_divides_261 : decode cX8_divides 261 = .ok (.return_, 1) := by decide +kernel
theorem dX8_common_0 : decode cX8_common 0 = .ok (.aload_n 0, 1) := by decide +kernel
theorem dX8_common_1 : decode cX8_common 1 = .ok (.iload_n 1, 1) := by decide +kernel
theorem dX8_common_2 : decode cX8_common 2 = .ok (.bipush 37, 2) := by decide +kernel
theorem dX8_common_4 : decode cX8_common 4 = .ok (.invokevirtual 51, 3) := by decide +kernel
theorem dX8_common_7 : decode cX8_common 7 = .ok (.aload_n 0, 1) := by decide +kernel
theorem dX8_common_8 : decode cX8_common 8 = .ok (.iload_n 2, 1) := by decide +kernel
theorem dX8_common_9 : decode cX8_common 9 = .ok (.bipush 38, 2) := by decide +kernel
theorem dX8_common_11 : decode cX8_common 11 = .ok (.invokevirtual 51, 3) := by decide +kernel
theorem dX8_common_14 : decode cX8_common 14 = .ok (.aload_n 0, 1) := by decide +kernel
theorem dX8_common_15 : decode cX8_common 15 = .ok (.bipush 38, 2) := by decide +kernel
theorem dX8_common_17 : decode cX8_common 17 = .ok (.invokevirtual 73, 3) := by decide +kernel
theorem dX8_common_20 : decode cX8_common 20 = .ok (.ifCond .ne 30, 3) := by decide +kernel
theorem dX8_common_23 : decode cX8_common 23 = .ok (.aload_n 0, 1) := by decide +kernel
theorem dX8_common_24 : decode cX8_common 24 = .ok (.bipush 37, 2) := by decide +kernel
theorem dX8_common_26 : decode cX8_common 26 = .ok (.bipush 38, 2) := by decide +kernel
theorem dX8_common_28 : decode cX8_common 28 = .ok (.invokevirtual 77, 3) := by decide +kernel
theorem dX8_common_31 : decode cX8_common 31 = .ok (.aload_n 0, 1) := by decide +kernel
theorem dX8_common_32 : decode cX8_common 32 = .ok (.bipush 38, 2) := by decide +kernel
theorem dX8_common_34 : decode cX8_common 34 = .ok (.bipush 37, 2) := by decide +kernel
theorem dX8_common_36 : decode cX8_common 36 = .ok (.invokevirtual 51, 3) := by decide +kernel
theorem dX8_common_39 : decode cX8_common 39 = .ok (.aload_n 0, 1) := by decide +kernel
theorem dX8_common_40 : decode cX8_common 40 = .ok (.bipush 36, 2) := by decide +kernel
theorem dX8_common_42 : decode cX8_common 42 = .ok (.bipush 38, 2) := by decide +kernel
theorem dX8_common_44 : decode cX8_common 44 = .ok (.invokevirtual 51, 3) := by decide +kernel
theorem dX8_common_47 : decode cX8_common 47 = .ok (.goto (-33), 3) := by decide +kernel
theorem dX8_common_50 : decode cX8_common 50 = .ok (.aload_n 0, 1) := by decide +kernel
theorem dX8_common_51 : decode cX8_common 51 = .ok (.bipush 37, 2) := by decide +kernel
theorem dX8_common_53 : decode cX8_common 53 = .ok (.bipush 39, 2) := by decide +kernel
theorem dX8_common_55 : decode cX8_common 55 = .ok (.invokevirtual 51, 3) := by decide +kernel
theorem dX8_common_58 : decode cX8_common 58 = .ok (.return_, 1) := by decide +kernel
theorem dX8_least_0 : decode cX8_least 0 = .ok (.aload_n 0, 1) := by decide +kernel
theorem dX8_least_1 : decode cX8_least 1 = .ok (.bipush 32, 2) := by decide +kernel
theorem dX8_least_3 : decode cX8_least 3 = .ok (.bipush 33, 2) := by decide +kernel
theorem dX8_least_5 : decode cX8_least 5 = .ok (.invokevirtual 80, 3) := by decide +kernel
theorem dX8_least_8 : decode cX8_least 8 = .ok (.aload_n 0, 1) := by decide +kernel
theorem dX8_least_9 : decode cX8_least 9 = .ok (.bipush 39, 2) := by decide +kernel
theorem dX8_least_11 : decode cX8_least 11 = .ok (.invokevirtual 83, 3) := by decide +kernel
theorem dX8_least_14 : decode cX8_least 14 = .ok (.ifCond .ne 43, 3) := by decide +kernel
theorem dX8_least_17 : decode cX8_least 17 = .ok (.aload_n 0, 1) := by decide +kernel
theorem dX8_least_18 : decode cX8_least 18 = .ok (.bipush 32, 2) := by decide +kernel
theorem dX8_least_20 : decode cX8_least 20 = .ok (.bipush 39, 2) := by decide +kernel
theorem dX8_least_22 : decode cX8_least 22 = .ok (.invokevirtual 77, 3) := by decide +kernel
theorem dX8_least_25 : decode cX8_least 25 = .ok (.aload_n 0, 1) := by decide +kernel
theorem dX8_least_26 : decode cX8_least 26 = .ok (.bipush 35, 2) := by decide +kernel
theorem dX8_least_28 : decode cX8_least 28 = .ok (.bipush 43, 2) := by decide +kernel
theorem dX8_least_30 : decode cX8_least 30 = .ok (.invokevirtual 51, 3) := by decide +kernel
theorem dX8_least_33 : decode cX8_least 33 = .ok (.aload_n 0, 1) := by decide +kernel
theorem dX8_least_34 : decode cX8_least 34 = .ok (.bipush 33, 2) := by decide +kernel
theorem dX8_least_36 : decode cX8_least 36 = .ok (.bipush 39, 2) := by decide +kernel
theorem dX8_least_38 : decode cX8_least 38 = .ok (.invokevirtual 77, 3) := by decide +kernel
theorem dX8_least_41 : decode cX8_least 41 = .ok (.aload_n 0, 1) := by decide +kernel
theorem dX8_least_42 : decode cX8_least 42 = .ok (.bipush 35, 2) := by decide +kernel
theorem dX8_least_44 : decode cX8_least 44 = .ok (.bipush 33, 2) := by decide +kernel
theorem dX8_least_46 : decode cX8_least 46 = .ok (.invokevirtual 51, 3) := by decide +kernel
theorem dX8_least_49 : decode cX8_least 49 = .ok (.aload_n 0, 1) := by decide +kernel
theorem dX8_least_50 : decode cX8_least 50 = .ok (.bipush 43, 2) := by decide +kernel
theorem dX8_least_52 : decode cX8_least 52 = .ok (.bipush 32, 2) := by decide +kernel
theorem dX8_least_54 : decode cX8_least 54 = .ok (.invokevirtual 51, 3) := by decide +kernel
theorem dX8_least_57 : decode cX8_least 57 = .ok (.return_, 1) := by decide +kernel
theorem dX8_isTooGreat_0 : decode cX8_isTooGreat 0 = .ok (.aload_n 0, 1) := by decide +kernel
theorem dX8_isTooGreat_1 : decode cX8_isTooGreat 1 = .ok (.getfield 13, 3) := by decide +kernel
theorem dX8_isTooGreat_4 : decode cX8_isTooGreat 4 = .ok (.iload_n 1, 1) := by decide +kernel
theorem dX8_isTooGreat_5 : decode cX8_isTooGreat 5 = .ok (.iaload, 1) := by decide +kernel
theorem dX8_isTooGreat_6 : decode cX8_isTooGreat 6 = .ok (.sipush 128, 3) := by decide +kernel
theorem dX8_isTooGreat_9 : decode cX8_isTooGreat 9 = .ok (.if_icmp .le 7, 3) := by decide +kernel
theorem dX8_isTooGreat_12 : decode cX8_isTooGreat 12 = .ok (.iconst 1, 1) := by decide +kernel
theorem dX8_isTooGreat_13 : decode cX8_isTooGreat 13 = .ok (.goto 4, 3) := by decide +kernel
theorem dX8_isTooGreat_16 : decode cX8_isTooGreat 16 = .ok (.iconst 0, 1) := by decide +kernel
theorem dX8_isTooGreat_17 : decode cX8_isTooGreat 17 = .ok (.ireturn, 1) := by decide +kernel
theorem dX8_holds_0 : decode cX8_holds 0 = .ok (.aload_n 0, 1) := by decide +kernel
theorem dX8_holds_1 : decode cX8_holds 1 = .ok (.bipush 32, 2) := by decide +kernel
theorem dX8_holds_3 : decode cX8_holds 3 = .ok (.invokevirtual 86, 3) := by decide +kernel
theorem dX8_holds_6 : decode cX8_holds 6 = .ok (.ifCond .ne 12, 3) := by decide +kernel
theorem dX8_holds_9 : decode cX8_holds 9 = .ok (.aload_n 0, 1) := by decide +kernel
theorem dX8_holds_10 : decode cX8_holds 10 = .ok (.bipush 33, 2) := by decide +kernel
theorem dX8_holds_12 : decode cX8_holds 12 = .ok (.invokevirtual 86, 3) := by decide +kernel
theorem dX8_holds_15 : decode cX8_holds 15 = .ok (.ifCond .eq 6, 3) := by decide +kernel
theorem dX8_holds_18 : decode cX8_holds 18 = .ok (.bipush (-3), 2) := by decide +kernel
theorem dX8_holds_20 : decode cX8_holds 20 = .ok (.ireturn, 1) := by decide +kernel
theorem dX8_holds_21 : decode cX8_holds 21 = .ok (.aload_n 0, 1) := by decide +kernel
theorem dX8_holds_22 : decode cX8_holds 22 = .ok (.bipush 32, 2) := by decide +kernel
theorem dX8_holds_24 : decode cX8_holds 24 = .ok (.iconst 2, 1) := by decide +kernel
theorem dX8_holds_25 : decode cX8_holds 25 = .ok (.iload_n 1, 1) := by decide +kernel
theorem dX8_holds_26 : decode cX8_holds 26 = .ok (.imul, 1) := by decide +kernel
theorem dX8_holds_27 : decode cX8_holds 27 = .ok (.invokevirtual 51, 3) := by decide +kernel
theorem dX8_holds_30 : decode cX8_holds 30 = .ok (.aload_n 0, 1) := by decide +kernel
theorem dX8_holds_31 : decode cX8_holds 31 = .ok (.bipush 33, 2) := by decide +kernel
theorem dX8_holds_33 : decode cX8_holds 33 = .ok (.iconst 2, 1) := by decide +kernel
theorem dX8_holds_34 : decode cX8_holds 34 = .ok (.iload_n 1, 1) := by decide +kernel
theorem dX8_holds_35 : decode cX8_holds 35 = .ok (.imul, 1) := by decide +kernel
theorem dX8_holds_36 : decode cX8_holds 36 = .ok (.iconst 1, 1) := by decide +kernel
theorem dX8_holds_37 : decode cX8_holds 37 = .ok (.iadd, 1) := by decide +kernel
theorem dX8_holds_38 : decode cX8_holds 38 = .ok (.invokevirtual 51, 3) := by decide +kernel
theorem dX8_holds_41 : decode cX8_holds 41 = .ok (.aload_n 0, 1) := by decide +kernel
theorem dX8_holds_42 : decode cX8_holds 42 = .ok (.getfield 16, 3) := by decide +kernel
theorem dX8_holds_45 : decode cX8_holds 45 = .ok (.iload_n 1, 1) := by decide +kernel
theorem dX8_holds_46 : decode cX8_holds 46 = .ok (.iload_n 2, 1) := by decide +kernel
theorem dX8_holds_47 : decode cX8_holds 47 = .ok (.ifCond .eq 16, 3) := by decide +kernel
theorem dX8_holds_50 : decode cX8_holds 50 = .ok (.aload_n 0, 1) := by decide +kernel
theorem dX8_holds_51 : decode cX8_holds 51 = .ok (.bipush 32, 2) := by decide +kernel
theorem dX8_holds_53 : decode cX8_holds 53 = .ok (.invokevirtual 73, 3) := by decide +kernel
theorem dX8_holds_56 : decode cX8_holds 56 = .ok (.ifCond .ne 7, 3) := by decide +kernel
theorem dX8_holds_59 : decode cX8_holds 59 = .ok (.iconst 1, 1) := by decide +kernel
theorem dX8_holds_60 : decode cX8_holds 60 = .ok (.goto 4, 3) := by decide +kernel
theorem dX8_holds_63 : decode cX8_holds 63 = .ok (.iconst 0, 1) := by decide +kernel
theorem dX8_holds_64 : decode cX8_holds 64 = .ok (.bastore, 1) := by decide +kernel
theorem dX8_holds_65 : decode cX8_holds 65 = .ok (.iconst 0, 1) := by decide +kernel
theorem dX8_holds_66 : decode cX8_holds 66 = .ok (.ireturn, 1) := by decide +kernel
theorem dX8_isPlace_0 : decode cX8_isPlace 0 = .ok (.iload_n 0, 1) := by decide +kernel
theorem dX8_isPlace_1 : decode cX8_isPlace 1 = .ok (.ifCond .lt 13, 3) := by decide +kernel
theorem dX8_isPlace_4 : decode cX8_isPlace 4 = .ok (.iload_n 0, 1) := by decide +kernel
theorem dX8_isPlace_5 : decode cX8_isPlace 5 = .ok (.bipush 16, 2) := by decide +kernel
theorem dX8_isPlace_7 : decode cX8_isPlace 7 = .ok (.if_icmp .ge 7, 3) := by decide +kernel
theorem dX8_isPlace_10 : decode cX8_isPlace 10 = .ok (.iconst 1, 1) := by decide +kernel
theorem dX8_isPlace_11 : decode cX8_isPlace 11 = .ok (.goto 4, 3) := by decide +kernel
theorem dX8_isPlace_14 : decode cX8_isPlace 14 = .ok (.iconst 0, 1) := by decide +kernel
theorem dX8_isPlace_15 : decode cX8_isPlace 15 = .ok (.ireturn, 1) := by decide +kernel
theorem dX8_isWhole_0 : decode cX8_isWhole 0 = .ok (.aload_n 0, 1) := by decide +kernel
theorem dX8_isWhole_1 : decode cX8_isWhole 1 = .ok (.iconst 2, 1) := by decide +kernel
theorem dX8_isWhole_2 : decode cX8_isWhole 2 = .ok (.iload_n 1, 1) := by decide +kernel
theorem dX8_isWhole_3 : decode cX8_isWhole 3 = .ok (.imul, 1) := by decide +kernel
theorem dX8_isWhole_4 : decode cX8_isWhole 4 = .ok (.iconst 1, 1) := by decide +kernel
theorem dX8_isWhole_5 : decode cX8_isWhole 5 = .ok (.iadd, 1) := by decide +kernel
theorem dX8_isWhole_6 : decode cX8_isWhole 6 = .ok (.invokevirtual 83, 3) := by decide +kernel
theorem dX8_isWhole_9 : decode cX8_isWhole 9 = .ok (.ireturn, 1) := by decide +kernel
theorem dX8_feed_0 : decode cX8_feed 0 = .ok (.aload_n 0, 1) := by decide +kernel
theorem dX8_feed_1 : decode cX8_feed 1 = .ok (.iconst 0, 1) := by decide +kernel
theorem dX8_feed_2 : decode cX8_feed 2 = .ok (.putfield 30, 3) := by decide +kernel
theorem dX8_feed_5 : decode cX8_feed 5 = .ok (.aload_n 0, 1) := by decide +kernel
theorem dX8_feed_6 : decode cX8_feed 6 = .ok (.getfield 89, 3) := by decide +kernel
theorem dX8_feed_9 : decode cX8_feed 9 = .ok (.bipush 20, 2) := by decide +kernel
theorem dX8_feed_11 : decode cX8_feed 11 = .ok (.iadd, 1) := by decide +kernel
theorem dX8_feed_12 : decode cX8_feed 12 = .ok (.sipush 1400, 3) := by decide +kernel
theorem dX8_feed_15 : decode cX8_feed 15 = .ok (.if_icmp .le 5, 3) := by decide +kernel
theorem dX8_feed_18 : decode cX8_feed 18 = .ok (.iconst 0, 1) := by decide +kernel
theorem dX8_feed_19 : decode cX8_feed 19 = .ok (.ireturn, 1) := by decide +kernel
theorem dX8_feed_20 : decode cX8_feed 20 = .ok (.iconst 0, 1) := by decide +kernel
theorem dX8_feed_21 : decode cX8_feed 21 = .ok (.istore 6, 2) := by decide +kernel
theorem dX8_feed_23 : decode cX8_feed 23 = .ok (.iload 6, 2) := by decide +kernel
theorem dX8_feed_25 : decode cX8_feed 25 = .ok (.bipush 20, 2) := by decide +kernel
theorem dX8_feed_27 : decode cX8_feed 27 = .ok (.if_icmp .ge 93, 3) := by decide +kernel
theorem dX8_feed_30 : decode cX8_feed 30 = .ok (.iload 6, 2) := by decide +kernel
theorem dX8_feed_32 : decode cX8_feed 32 = .ok (.iconst 4, 1) := by decide +kernel
theorem dX8_feed_33 : decode cX8_feed 33 = .ok (.if_icmp .ge 7, 3) := by decide +kernel
theorem dX8_feed_36 : decode cX8_feed 36 = .ok (.iload_n 1, 1) := by decide +kernel
theorem dX8_feed_37 : decode cX8_feed 37 = .ok (.goto 39, 3) := by decide +kernel
theorem dX8_feed_40 : decode cX8_feed 40 = .ok (.iload 6, 2) := by decide +kernel
theorem dX8_feed_42 : decode cX8_feed 42 = .ok (.bipush 8, 2) := by decide +kernel
theorem dX8_feed_44 : decode cX8_feed 44 = .ok (.if_icmp .ge 7, 3) := by decide +kernel
theorem dX8_feed_47 : decode cX8_feed 47 = .ok (.iload_n 2, 1) := by decide +kernel
theorem dX8_feed_48 : decode cX8_feed 48 = .ok (.goto 28, 3) := by decide +kernel
theorem dX8_feed_51 : decode cX8_feed 51 = .ok (.iload 6, 2) := by decide +kernel
theorem dX8_feed_53 : decode cX8_feed 53 = .ok (.bipush 12, 2) := by decide +kernel
theorem dX8_feed_55 : decode cX8_feed 55 = .ok (.if_icmp .ge 7, 3) := by decide +kernel
theorem dX8_feed_58 : decode cX8_feed 58 = .ok (.iload_n 3, 1) := by decide +kernel
theorem dX8_feed_59 : decode cX8_feed 59 = .ok (.goto 17, 3) := by decide +kernel
theorem dX8_feed_62 : decode cX8_feed 62 = .ok (.iload 6, 2) := by decide +kernel
theorem dX8_feed_64 : decode cX8_feed 64 = .ok (.bipush 16, 2) := by decide +kernel
theorem dX8_feed_66 : decode cX8_feed 66 = .ok (.if_icmp .ge 8, 3) := by decide +kernel
theorem dX8_feed_69 : decode cX8_feed 69 = .ok (.iload 4, 2) := by decide +kernel
theorem dX8_feed_71 : decode cX8_feed 71 = .ok (.goto 5, 3) := by decide +kernel
theorem dX8_feed_74 : decode cX8_feed 74 = .ok (.iload 5, 2) := by decide +kernel
theorem dX8_feed_76 : decode cX8_feed 76 = .ok (.istore 7, 2) := by decide +kernel
theorem dX8_feed_78 : decode cX8_feed 78 = .ok (.aload_n 0, 1) := by decide +kernel
theorem dX8_feed_79 : decode cX8_feed 79 = .ok (.getfield 20, 3) := by decide +kernel
theorem dX8_feed_82 : decode cX8_feed 82 = .ok (.aload_n 0, 1) := by decide +kernel
theorem dX8_feed_83 : decode cX8_feed 83 = .ok (.getfield 89, 3) := by decide +kernel
theorem dX8_feed_86 : decode cX8_feed 86 = .ok (.iload 7, 2) := by decide +kernel
theorem dX8_feed_88 : decode cX8_feed 88 = .ok (.bipush 24, 2) := by decide +kernel
theorem dX8_feed_90 : decode cX8_feed 90 = .ok (.bipush 8, 2) := by decide +kernel
theorem dX8_feed_92 : decode cX8_feed 92 = .ok (.iload 6, 2) := by decide +kernel
theorem dX8_feed_94 : decode cX8_feed 94 = .ok (.iconst 4, 1) := by decide +kernel
theorem dX8_feed_95 : decode cX8_feed 95 = .ok (.irem, 1) := by decide +kernel
theorem dX8_feed_96 : decode cX8_feed 96 = .ok (.imul, 1) := by decide +kernel
theorem dX8_feed_97 : decode cX8_feed 97 = .ok (.isub, 1) := by decide +kernel
theorem dX8_feed_98 : decode cX8_feed 98 = .ok (.ishr, 1) := by decide +kernel
theorem dX8_feed_99 : decode cX8_feed 99 = .ok (.sipush 255, 3) := by decide +kernel
theorem dX8_feed_102 : decode cX8_feed 102 = .ok (.iand, 1) := by decide +kernel
theorem dX8_feed_103 : decode cX8_feed 103 = .ok (.iastore, 1) := by decide +kernel
theorem dX8_feed_104 : decode cX8_feed 104 = .ok (.aload_n 0, 1) := by decide +kernel
theorem dX8_feed_105 : decode cX8_feed 105 = .ok (.dup, 1) := by decide +kernel
theorem dX8_feed_106 : decode cX8_feed 106 = .ok (.getfield 89, 3) := by decide +kernel
theorem dX8_feed_109 : decode cX8_feed 109 = .ok (.iconst 1, 1) := by decide +kernel
theorem dX8_feed_110 : decode cX8_feed 110 = .ok (.iadd, 1) := by decide +kernel
theorem dX8_feed_111 : decode cX8_feed 111 = .ok (.putfield 89, 3) := by decide +kernel
theorem dX8_feed_114 : decode cX8_feed 114 = .ok (.iinc 6 1, 3) := by decide +kernel
theorem dX8_feed_117 : decode cX8_feed 117 = .ok (.goto (-94), 3) := by decide +kernel
theorem dX8_feed_120 : decode cX8_feed 120 = .ok (.iconst 1, 1) := by decide +kernel
theorem dX8_feed_121 : decode cX8_feed 121 = .ok (.ireturn, 1) := by decide +kernel
theorem dX8_end_0 : decode cX8_end 0 = .ok (.aload_n 0, 1) := by decide +kernel
theorem dX8_end_1 : decode cX8_end 1 = .ok (.iconst 0, 1) := by decide +kernel
theorem dX8_end_2 : decode cX8_end 2 = .ok (.putfield 30, 3) := by decide +kernel
theorem dX8_end_5 : decode cX8_end 5 = .ok (.iload_n 1, 1) := by decide +kernel
theorem dX8_end_6 : decode cX8_end 6 = .ok (.ifCond .lt 11, 3) := by decide +kernel
theorem dX8_end_9 : decode cX8_end 9 = .ok (.iload_n 1, 1) := by decide +kernel
theorem dX8_end_10 : decode cX8_end 10 = .ok (.aload_n 0, 1) := by decide +kernel
theorem dX8_end_11 : decode cX8_end 11 = .ok (.getfield 89, 3) := by decide +kernel
theorem dX8_end_14 : decode cX8_end 14 = .ok (.if_icmp .le 5, 3) := by decide +kernel
theorem dX8_end_17 : decode cX8_end 17 = .ok (.iconst 0, 1) := by decide +kernel
theorem dX8_end_18 : decode cX8_end 18 = .ok (.ireturn, 1) := by decide +kernel
theorem dX8_end_19 : decode cX8_end 19 = .ok (.aload_n 0, 1) := by decide +kernel
theorem dX8_end_20 : decode cX8_end 20 = .ok (.iload_n 1, 1) := by decide +kernel
theorem dX8_end_21 : decode cX8_end 21 = .ok (.putfield 89, 3) := by decide +kernel
theorem dX8_end_24 : decode cX8_end 24 = .ok (.iconst 1, 1) := by decide +kernel
theorem dX8_end_25 : decode cX8_end 25 = .ok (.ireturn, 1) := by decide +kernel
theorem dX8_byteAt_0 : decode cX8_byteAt 0 = .ok (.iload_n 1, 1) := by decide +kernel
theorem dX8_byteAt_1 : decode cX8_byteAt 1 = .ok (.iload_n 2, 1) := by decide +kernel
theorem dX8_byteAt_2 : decode cX8_byteAt 2 = .ok (.if_icmp .ge 12, 3) := by decide +kernel
theorem dX8_byteAt_5 : decode cX8_byteAt 5 = .ok (.aload_n 0, 1) := by decide +kernel
theorem dX8_byteAt_6 : decode cX8_byteAt 6 = .ok (.getfield 20, 3) := by decide +kernel
theorem dX8_byteAt_9 : decode cX8_byteAt 9 = .ok (.iload_n 1, 1) := by decide +kernel
theorem dX8_byteAt_10 : decode cX8_byteAt 10 = .ok (.iaload, 1) := by decide +kernel
theorem dX8_byteAt_11 : decode cX8_byteAt 11 = .ok (.goto 4, 3) := by decide +kernel
theorem dX8_byteAt_14 : decode cX8_byteAt 14 = .ok (.iconst (-1), 1) := by decide +kernel
theorem dX8_byteAt_15 : decode cX8_byteAt 15 = .ok (.ireturn, 1) := by decide +kernel
theorem dX8_isDigit_0 : decode cX8_isDigit 0 = .ok (.iload_n 0, 1) := by decide +kernel
theorem dX8_isDigit_1 : decode cX8_isDigit 1 = .ok (.bipush 48, 2) := by decide +kernel
theorem dX8_isDigit_3 : decode cX8_isDigit 3 = .ok (.if_icmp .lt 13, 3) := by decide +kernel
theorem dX8_isDigit_6 : decode cX8_isDigit 6 = .ok (.iload_n 0, 1) := by decide +kernel
theorem dX8_isDigit_7 : decode cX8_isDigit 7 = .ok (.bipush 57, 2) := by decide +kernel
theorem dX8_isDigit_9 : decode cX8_isDigit 9 = .ok (.if_icmp .gt 7, 3) := by decide +kernel
theorem dX8_isDigit_12 : decode cX8_isDigit 12 = .ok (.iconst 1, 1) := by decide +kernel
theorem dX8_isDigit_13 : decode cX8_isDigit 13 = .ok (.goto 4, 3) := by decide +kernel
theorem dX8_isDigit_16 : decode cX8_isDigit 16 = .ok (.iconst 0, 1) := by decide +kernel
theorem dX8_isDigit_17 : decode cX8_isDigit 17 = .ok (.ireturn, 1) := by decide +kernel
theorem dX8_digits_0 : decode cX8_digits 0 = .ok (.aload_n 0, 1) := by decide +kernel
theorem dX8_digits_1 : decode cX8_digits 1 = .ok (.getfield 13, 3) := by decide +kernel
theorem dX8_digits_4 : decode cX8_digits 4 = .ok (.iload_n 3, 1) := by decide +kernel
theorem dX8_digits_5 : decode cX8_digits 5 = .ok (.iconst 0, 1) := by decide +kernel
theorem dX8_digits_6 : decode cX8_digits 6 = .ok (.iastore, 1) := by decide +kernel
theorem dX8_digits_7 : decode cX8_digits 7 = .ok (.iload_n 1, 1) := by decide +kernel
theorem dX8_digits_8 : decode cX8_digits 8 = .ok (.istore 4, 2) := by decide +kernel
theorem dX8_digits_10 : decode cX8_digits 10 = .ok (.aload_n 0, 1) := by decide +kernel
theorem dX8_digits_11 : decode cX8_digits 11 = .ok (.iload 4, 2) := by decide +kernel
theorem dX8_digits_13 : decode cX8_digits 13 = .ok (.iload_n 2, 1) := by decide +kernel
theorem dX8_digits_14 : decode cX8_digits 14 = .ok (.invokevirtual 92, 3) := by decide +kernel
theorem dX8_digits_17 : decode cX8_digits 17 = .ok (.invokestatic 95, 3) := by decide +kernel
theorem dX8_digits_20 : decode cX8_digits 20 = .ok (.ifCond .eq 98, 3) := by decide +kernel
theorem dX8_digits_23 : decode cX8_digits 23 = .ok (.aload_n 0, 1) := by decide +kernel
theorem dX8_digits_24 : decode cX8_digits 24 = .ok (.iload 4, 2) := by decide +kernel
theorem dX8_digits_26 : decode cX8_digits 26 = .ok (.iload_n 2, 1) := by decide +kernel
theorem dX8_digits_27 : decode cX8_digits 27 = .ok (.invokevirtual 92, 3) := by decide +kernel
theorem dX8_digits_30 : decode cX8_digits 30 = .ok (.bipush 48, 2) := by decide +kernel
theorem dX8_digits_32 : decode cX8_digits 32 = .ok (.isub, 1) := by decide +kernel
theorem dX8_digits_33 : decode cX8_digits 33 = .ok (.istore 5, 2) := by decide +kernel
theorem dX8_digits_35 : decode cX8_digits 35 = .ok (.aload_n 0, 1) := by decide +kernel
theorem dX8_digits_36 : decode cX8_digits 36 = .ok (.getfield 13, 3) := by decide +kernel
theorem dX8_digits_39 : decode cX8_digits 39 = .ok (.iload_n 3, 1) := by decide +kernel
theorem dX8_digits_40 : decode cX8_digits 40 = .ok (.iaload, 1) := by decide +kernel
theorem dX8_digits_41 : decode cX8_digits 41 = .ok (.iconst 1, 1) := by decide +kernel
theorem dX8_digits_42 : decode cX8_digits 42 = .ok (.iadd, 1) := by decide +kernel
theorem dX8_digits_43 : decode cX8_digits 43 = .ok (.istore 6, 2) := by decide +kernel
theorem dX8_digits_45 : decode cX8_digits 45 = .ok (.iconst 0, 1) := by decide +kernel
theorem dX8_digits_46 : decode cX8_digits 46 = .ok (.istore 7, 2) := by decide +kernel
theorem dX8_digits_48 : decode cX8_digits 48 = .ok (.iload 7, 2) := by decide +kernel
theorem dX8_digits_50 : decode cX8_digits 50 = .ok (.iload 6, 2) := by decide +kernel
theorem dX8_digits_52 : decode cX8_digits 52 = .ok (.if_icmp .ge 43, 3) := by decide +kernel
theorem dX8_digits_55 : decode cX8_digits 55 = .ok (.aload_n 0, 1) := by decide +kernel
theorem dX8_digits_56 : decode cX8_digits 56 = .ok (.iload_n 3, 1) := by decide +kernel
theorem dX8_digits_57 : decode cX8_digits 57 = .ok (.iload 7, 2) := by decide +kernel
theorem dX8_digits_59 : decode cX8_digits 59 = .ok (.invokevirtual 41, 3) := by decide +kernel
theorem dX8_digits_62 : decode cX8_digits 62 = .ok (.bipush 10, 2) := by decide +kernel
theorem dX8_digits_64 : decode cX8_digits 64 = .ok (.imul, 1) := by decide +kernel
theorem dX8_digits_65 : decode cX8_digits 65 = .ok (.iload 5, 2) := by decide +kernel
theorem dX8_digits_67 : decode cX8_digits 67 = .ok (.iadd, 1) := by decide +kernel
theorem dX8_digits_68 : decode cX8_digits 68 = .ok (.istore 8, 2) := by decide +kernel
theorem dX8_digits_70 : decode cX8_digits 70 = .ok (.aload_n 0, 1) := by decide +kernel
theorem dX8_digits_71 : decode cX8_digits 71 = .ok (.iload_n 3, 1) := by decide +kernel
theorem dX8_digits_72 : decode cX8_digits 72 = .ok (.iload 7, 2) := by decide +kernel
theorem dX8_digits_74 : decode cX8_digits 74 = .ok (.iload 8, 2) := by decide +kernel
theorem dX8_digits_76 : decode cX8_digits 76 = .ok (.ldc 45, 2) := by decide +kernel
theorem dX8_digits_78 : decode cX8_digits 78 = .ok (.irem, 1) := by decide +kernel
theorem dX8_digits_79 : decode cX8_digits 79 = .ok (.invokevirtual 34, 3) := by decide +kernel
theorem dX8_digits_82 : decode cX8_digits 82 = .ok (.iload 8, 2) := by decide +kernel
theorem dX8_digits_84 : decode cX8_digits 84 = .ok (.ldc 45, 2) := by decide +kernel
theorem dX8_digits_86 : decode cX8_digits 86 = .ok (.idiv, 1) := by decide +kernel
theorem dX8_digits_87 : decode cX8_digits 87 = .ok (.istore 5, 2) := by decide +kernel
theorem dX8_digits_89 : decode cX8_digits 89 = .ok (.iinc 7 1, 3) := by decide +kernel
theorem dX8_digits_92 : decode cX8_digits 92 = .ok (.goto (-44), 3) := by decide +kernel
theorem dX8_digits_95 : decode cX8_digits 95 = .ok (.aload_n 0, 1) := by decide +kernel
theorem dX8_digits_96 : decode cX8_digits 96 = .ok (.iload_n 3, 1) := by decide +kernel
theorem dX8_digits_97 : decode cX8_digits 97 = .ok (.iload 6, 2) := by decide +kernel
theorem dX8_digits_99 : decode cX8_digits 99 = .ok (.invokevirtual 38, 3) := by decide +kernel
theorem dX8_digits_102 : decode cX8_digits 102 = .ok (.aload_n 0, 1) := by decide +kernel
theorem dX8_digits_103 : decode cX8_digits 103 = .ok (.iload_n 3, 1) := by decide +kernel
theorem dX8_digits_104 : decode cX8_digits 104 = .ok (.invokevirtual 86, 3) := by decide +kernel
theorem dX8_digits_107 : decode cX8_digits 107 = .ok (.ifCond .eq 5, 3) := by decide +kernel
theorem dX8_digits_110 : decode cX8_digits 110 = .ok (.iconst (-1), 1) := by decide +kernel
theorem dX8_digits_111 : decode cX8_digits 111 = .ok (.ireturn, 1) := by decide +kernel
theorem dX8_digits_112 : decode cX8_digits 112 = .ok (.iinc 4 1, 3) := by decide +kernel
theorem dX8_digits_115 : decode cX8_digits 115 = .ok (.goto (-105), 3) := by decide +kernel
theorem dX8_digits_118 : decode cX8_digits 118 = .ok (.iload 4, 2) := by decide +kernel
theorem dX8_digits_120 : decode cX8_digits 120 = .ok (.ireturn, 1) := by decide +kernel
theorem dX8_read_0 : decode cX8_read 0 = .ok (.aload_n 0, 1) := by decide +kernel
theorem dX8_read_1 : decode cX8_read 1 = .ok (.iconst 0, 1) := by decide +kernel
theorem dX8_read_2 : decode cX8_read 2 = .ok (.putfield 30, 3) := by decide +kernel
theorem dX8_read_5 : decode cX8_read 5 = .ok (.aload_n 0, 1) := by decide +kernel
theorem dX8_read_6 : decode cX8_read 6 = .ok (.getfield 89, 3) := by decide +kernel
theorem dX8_read_9 : decode cX8_read 9 = .ok (.istore_n 2, 1) := by decide +kernel
theorem dX8_read_10 : decode cX8_read 10 = .ok (.aload_n 0, 1) := by decide +kernel
theorem dX8_read_11 : decode cX8_read 11 = .ok (.iconst 0, 1) := by decide +kernel
theorem dX8_read_12 : decode cX8_read 12 = .ok (.putfield 89, 3) := by decide +kernel
theorem dX8_read_15 : decode cX8_read 15 = .ok (.iload_n 1, 1) := by decide +kernel
theorem dX8_read_16 : decode cX8_read 16 = .ok (.invokestatic 98, 3) := by decide +kernel
theorem dX8_read_19 : decode cX8_read 19 = .ok (.ifCond .ne 5, 3) := by decide +kernel
theorem dX8_read_22 : decode cX8_read 22 = .ok (.iconst (-1), 1) := by decide +kernel
theorem dX8_read_23 : decode cX8_read 23 = .ok (.ireturn, 1) := by decide +kernel
theorem dX8_read_24 : decode cX8_read 24 = .ok (.aload_n 0, 1) := by decide +kernel
theorem dX8_read_25 : decode cX8_read 25 = .ok (.iconst 0, 1) := by decide +kernel
theorem dX8_read_26 : decode cX8_read 26 = .ok (.iload_n 2, 1) := by decide +kernel
theorem dX8_read_27 : decode cX8_read 27 = .ok (.invokevirtual 92, 3) := by decide +kernel
theorem dX8_read_30 : decode cX8_read 30 = .ok (.bipush 45, 2) := by decide +kernel
theorem dX8_read_32 : decode cX8_read 32 = .ok (.if_icmp .ne 7, 3) := by decide +kernel
theorem dX8_read_35 : decode cX8_read 35 = .ok (.iconst 1, 1) := by decide +kernel
theorem dX8_read_36 : decode cX8_read 36 = .ok (.goto 4, 3) := by decide +kernel
theorem dX8_read_39 : decode cX8_read 39 = .ok (.iconst 0, 1) := by decide +kernel
theorem dX8_read_40 : decode cX8_read 40 = .ok (.istore_n 3, 1) := by decide +kernel
theorem dX8_read_41 : decode cX8_read 41 = .ok (.iload_n 3, 1) := by decide +kernel
theorem dX8_read_42 : decode cX8_read 42 = .ok (.ifCond .eq 7, 3) := by decide +kernel
theorem dX8_read_45 : decode cX8_read 45 = .ok (.iconst 1, 1) := by decide +kernel
theorem dX8_read_46 : decode cX8_read 46 = .ok (.goto 4, 3) := by decide +kernel
theorem dX8_read_49 : decode cX8_read 49 = .ok (.iconst 0, 1) := by decide +kernel
theorem dX8_read_50 : decode cX8_read 50 = .ok (.istore 4, 2) := by decide +kernel
theorem dX8_read_52 : decode cX8_read 52 = .ok (.aload_n 0, 1) := by decide +kernel
theorem dX8_read_53 : decode cX8_read 53 = .ok (.iload 4, 2) := by decide +kernel
theorem dX8_read_55 : decode cX8_read 55 = .ok (.iload_n 2, 1) := by decide +kernel
theorem dX8_read_56 : decode cX8_read 56 = .ok (.bipush 32, 2) := by decide +kernel
theorem dX8_read_58 : decode cX8_read 58 = .ok (.invokevirtual 101, 3) := by decide +kernel
theorem dX8_read_61 : decode cX8_read 61 = .ok (.istore 5, 2) := by decide +kernel
theorem dX8_read_63 : decode cX8_read 63 = .ok (.iload 5, 2) := by decide +kernel
theorem dX8_read_65 : decode cX8_read 65 = .ok (.iload 4, 2) := by decide +kernel
theorem dX8_read_67 : decode cX8_read 67 = .ok (.if_icmp .gt 5, 3) := by decide +kernel
theorem dX8_read_70 : decode cX8_read 70 = .ok (.iconst (-1), 1) := by decide +kernel
theorem dX8_read_71 : decode cX8_read 71 = .ok (.ireturn, 1) := by decide +kernel
theorem dX8_read_72 : decode cX8_read 72 = .ok (.aload_n 0, 1) := by decide +kernel
theorem dX8_read_73 : decode cX8_read 73 = .ok (.bipush 33, 2) := by decide +kernel
theorem dX8_read_75 : decode cX8_read 75 = .ok (.iconst 1, 1) := by decide +kernel
theorem dX8_read_76 : decode cX8_read 76 = .ok (.invokevirtual 26, 3) := by decide +kernel
theorem dX8_read_79 : decode cX8_read 79 = .ok (.aload_n 0, 1) := by decide +kernel
theorem dX8_read_80 : decode cX8_read 80 = .ok (.iload 5, 2) := by decide +kernel
theorem dX8_read_82 : decode cX8_read 82 = .ok (.iload_n 2, 1) := by decide +kernel
theorem dX8_read_83 : decode cX8_read 83 = .ok (.invokevirtual 92, 3) := by decide +kernel
theorem dX8_read_86 : decode cX8_read 86 = .ok (.bipush 47, 2) := by decide +kernel
theorem dX8_read_88 : decode cX8_read 88 = .ok (.if_icmp .ne 40, 3) := by decide +kernel
theorem dX8_read_91 : decode cX8_read 91 = .ok (.aload_n 0, 1) := by decide +kernel
theorem dX8_read_92 : decode cX8_read 92 = .ok (.iload 5, 2) := by decide +kernel
theorem dX8_read_94 : decode cX8_read 94 = .ok (.iconst 1, 1) := by decide +kernel
theorem dX8_read_95 : decode cX8_read 95 = .ok (.iadd, 1) := by decide +kernel
theorem dX8_read_96 : decode cX8_read 96 = .ok (.iload_n 2, 1) := by decide +kernel
theorem dX8_read_97 : decode cX8_read 97 = .ok (.bipush 33, 2) := by decide +kernel
theorem dX8_read_99 : decode cX8_read 99 = .ok (.invokevirtual 101, 3) := by decide +kernel
theorem dX8_read_102 : decode cX8_read 102 = .ok (.istore 6, 2) := by decide +kernel
theorem dX8_read_104 : decode cX8_read 104 = .ok (.iload 6, 2) := by decide +kernel
theorem dX8_read_106 : decode cX8_read 106 = .ok (.iload 5, 2) := by decide +kernel
theorem dX8_read_108 : decode cX8_read 108 = .ok (.iconst 1, 1) := by decide +kernel
theorem dX8_read_109 : decode cX8_read 109 = .ok (.iadd, 1) := by decide +kernel
theorem dX8_read_110 : decode cX8_read 110 = .ok (.if_icmp .le 12, 3) := by decide +kernel
theorem dX8_read_113 : decode cX8_read 113 = .ok (.aload_n 0, 1) := by decide +kernel
theorem dX8_read_114 : decode cX8_read 114 = .ok (.bipush 33, 2) := by decide +kernel
theorem dX8_read_116 : decode cX8_read 116 = .ok (.invokevirtual 73, 3) := by decide +kernel
theorem dX8_read_119 : decode cX8_read 119 = .ok (.ifCond .eq 5, 3) := by decide +kernel
theorem dX8_read_122 : decode cX8_read 122 = .ok (.iconst (-1), 1) := by decide +kernel
theorem dX8_read_123 : decode cX8_read 123 = .ok (.ireturn, 1) := by decide +kernel
theorem dX8_read_124 : decode cX8_read 124 = .ok (.iload 6, 2) := by decide +kernel
theorem dX8_read_126 : decode cX8_read 126 = .ok (.istore 5, 2) := by decide +kernel
theorem dX8_read_128 : decode cX8_read 128 = .ok (.iload 5, 2) := by decide +kernel
theorem dX8_read_130 : decode cX8_read 130 = .ok (.iload_n 2, 1) := by decide +kernel
theorem dX8_read_131 : decode cX8_read 131 = .ok (.if_icmp .ge 5, 3) := by decide +kernel
theorem dX8_read_134 : decode cX8_read 134 = .ok (.iconst (-1), 1) := by decide +kernel
theorem dX8_read_135 : decode cX8_read 135 = .ok (.ireturn, 1) := by decide +kernel
theorem dX8_read_136 : decode cX8_read 136 = .ok (.aload_n 0, 1) := by decide +kernel
theorem dX8_read_137 : decode cX8_read 137 = .ok (.invokevirtual 105, 3) := by decide +kernel
theorem dX8_read_140 : decode cX8_read 140 = .ok (.aload_n 0, 1) := by decide +kernel
theorem dX8_read_141 : decode cX8_read 141 = .ok (.iload_n 1, 1) := by decide +kernel
theorem dX8_read_142 : decode cX8_read 142 = .ok (.iload_n 3, 1) := by decide +kernel
theorem dX8_read_143 : decode cX8_read 143 = .ok (.invokevirtual 108, 3) := by decide +kernel
theorem dX8_read_146 : decode cX8_read 146 = .ok (.ireturn, 1) := by decide +kernel
theorem dX8_set_0 : decode cX8_set 0 = .ok (.aload_n 0, 1) := by decide +kernel
theorem dX8_set_1 : decode cX8_set 1 = .ok (.iconst 0, 1) := by decide +kernel
theorem dX8_set_2 : decode cX8_set 2 = .ok (.putfield 30, 3) := by decide +kernel
theorem dX8_set_5 : decode cX8_set 5 = .ok (.iload_n 1, 1) := by decide +kernel
theorem dX8_set_6 : decode cX8_set 6 = .ok (.invokestatic 98, 3) := by decide +kernel
theorem dX8_set_9 : decode cX8_set 9 = .ok (.ifCond .ne 5, 3) := by decide +kernel
theorem dX8_set_12 : decode cX8_set 12 = .ok (.iconst (-1), 1) := by decide +kernel
theorem dX8_set_13 : decode cX8_set 13 = .ok (.ireturn, 1) := by decide +kernel
theorem dX8_set_14 : decode cX8_set 14 = .ok (.lload_n 2, 1) := by decide +kernel
theorem dX8_set_15 : decode cX8_set 15 = .ok (.lstore 4, 2) := by decide +kernel
theorem dX8_set_17 : decode cX8_set 17 = .ok (.iconst 0, 1) := by decide +kernel
theorem dX8_set_18 : decode cX8_set 18 = .ok (.istore 6, 2) := by decide +kernel
theorem dX8_set_20 : decode cX8_set 20 = .ok (.iload 6, 2) := by decide +kernel
theorem dX8_set_22 : decode cX8_set 22 = .ok (.iconst 4, 1) := by decide +kernel
theorem dX8_set_23 : decode cX8_set 23 = .ok (.if_icmp .ge 49, 3) := by decide +kernel
theorem dX8_set_26 : decode cX8_set 26 = .ok (.lload 4, 2) := by decide +kernel
theorem dX8_set_28 : decode cX8_set 28 = .ok (.ldc2_w 46, 3) := by decide +kernel
theorem dX8_set_31 : decode cX8_set 31 = .ok (.lrem, 1) := by decide +kernel
theorem dX8_set_32 : decode cX8_set 32 = .ok (.lstore 7, 2) := by decide +kernel
theorem dX8_set_34 : decode cX8_set 34 = .ok (.aload_n 0, 1) := by decide +kernel
theorem dX8_set_35 : decode cX8_set 35 = .ok (.bipush 32, 2) := by decide +kernel
theorem dX8_set_37 : decode cX8_set 37 = .ok (.iload 6, 2) := by decide +kernel
theorem dX8_set_39 : decode cX8_set 39 = .ok (.lload 7, 2) := by decide +kernel
theorem dX8_set_41 : decode cX8_set 41 = .ok (.lconst 0, 1) := by decide +kernel
theorem dX8_set_42 : decode cX8_set 42 = .ok (.lcmp, 1) := by decide +kernel
theorem dX8_set_43 : decode cX8_set 43 = .ok (.ifCond .ge 9, 3) := by decide +kernel
theorem dX8_set_46 : decode cX8_set 46 = .ok (.lload 7, 2) := by decide +kernel
theorem dX8_set_48 : decode cX8_set 48 = .ok (.lneg, 1) := by decide +kernel
theorem dX8_set_49 : decode cX8_set 49 = .ok (.goto 5, 3) := by decide +kernel
theorem dX8_set_52 : decode cX8_set 52 = .ok (.lload 7, 2) := by decide +kernel
theorem dX8_set_54 : decode cX8_set 54 = .ok (.l2i, 1) := by decide +kernel
theorem dX8_set_55 : decode cX8_set 55 = .ok (.invokevirtual 34, 3) := by decide +kernel
theorem dX8_set_58 : decode cX8_set 58 = .ok (.lload 4, 2) := by decide +kernel
theorem dX8_set_60 : decode cX8_set 60 = .ok (.ldc2_w 46, 3) := by decide +kernel
theorem dX8_set_63 : decode cX8_set 63 = .ok (.ldiv, 1) := by decide +kernel
theorem dX8_set_64 : decode cX8_set 64 = .ok (.lstore 4, 2) := by decide +kernel
theorem dX8_set_66 : decode cX8_set 66 = .ok (.iinc 6 1, 3) := by decide +kernel
theorem dX8_set_69 : decode cX8_set 69 = .ok (.goto (-49), 3) := by decide +kernel
theorem dX8_set_72 : decode cX8_set 72 = .ok (.aload_n 0, 1) := by decide +kernel
theorem dX8_set_73 : decode cX8_set 73 = .ok (.bipush 32, 2) := by decide +kernel
theorem dX8_set_75 : decode cX8_set 75 = .ok (.iconst 4, 1) := by decide +kernel
theorem dX8_set_76 : decode cX8_set 76 = .ok (.invokevirtual 38, 3) := by decide +kernel
theorem dX8_set_79 : decode cX8_set 79 = .ok (.aload_n 0, 1) := by decide +kernel
theorem dX8_set_80 : decode cX8_set 80 = .ok (.bipush 33, 2) := by decide +kernel
theorem dX8_set_82 : decode cX8_set 82 = .ok (.iconst 1, 1) := by decide +kernel
theorem dX8_set_83 : decode cX8_set 83 = .ok (.invokevirtual 26, 3) := by decide +kernel
theorem dX8_set_86 : decode cX8_set 86 = .ok (.aload_n 0, 1) := by decide +kernel
theorem dX8_set_87 : decode cX8_set 87 = .ok (.iload_n 1, 1) := by decide +kernel
theorem dX8_set_88 : decode cX8_set 88 = .ok (.lload_n 2, 1) := by decide +kernel
theorem dX8_set_89 : decode cX8_set 89 = .ok (.lconst 0, 1) := by decide +kernel
theorem dX8_set_90 : decode cX8_set 90 = .ok (.lcmp, 1) := by decide +kernel
theorem dX8_set_91 : decode cX8_set 91 = .ok (.ifCond .ge 7, 3) := by decide +kernel
theorem dX8_set_94 : decode cX8_set 94 = .ok (.iconst 1, 1) := by decide +kernel
theorem dX8_set_95 : decode cX8_set 95 = .ok (.goto 4, 3) := by decide +kernel
theorem dX8_set_98 : decode cX8_set 98 = .ok (.iconst 0, 1) := by decide +kernel
theorem dX8_set_99 : decode cX8_set 99 = .ok (.invokevirtual 108, 3) := by decide +kernel
theorem dX8_set_102 : decode cX8_set 102 = .ok (.ireturn, 1) := by decide +kernel
theorem dX8_sums_0 : decode cX8_sums 0 = .ok (.aload_n 0, 1) := by decide +kernel
theorem dX8_sums_1 : decode cX8_sums 1 = .ok (.iconst 2, 1) := by decide +kernel
theorem dX8_sums_2 : decode cX8_sums 2 = .ok (.iload_n 1, 1) := by decide +kernel
theorem dX8_sums_3 : decode cX8_sums 3 = .ok (.imul, 1) := by decide +kernel
theorem dX8_sums_4 : decode cX8_sums 4 = .ok (.iconst 2, 1) := by decide +kernel
theorem dX8_sums_5 : decode cX8_sums 5 = .ok (.iload_n 2, 1) := by decide +kernel
theorem dX8_sums_6 : decode cX8_sums 6 = .ok (.imul, 1) := by decide +kernel
theorem dX8_sums_7 : decode cX8_sums 7 = .ok (.iconst 1, 1) := by decide +kernel
theorem dX8_sums_8 : decode cX8_sums 8 = .ok (.iadd, 1) := by decide +kernel
theorem dX8_sums_9 : decode cX8_sums 9 = .ok (.bipush 34, 2) := by decide +kernel
theorem dX8_sums_11 : decode cX8_sums 11 = .ok (.invokevirtual 112, 3) := by decide +kernel
theorem dX8_sums_14 : decode cX8_sums 14 = .ok (.aload_n 0, 1) := by decide +kernel
theorem dX8_sums_15 : decode cX8_sums 15 = .ok (.iconst 2, 1) := by decide +kernel
theorem dX8_sums_16 : decode cX8_sums 16 = .ok (.iload_n 2, 1) := by decide +kernel
theorem dX8_sums_17 : decode cX8_sums 17 = .ok (.imul, 1) := by decide +kernel
theorem dX8_sums_18 : decode cX8_sums 18 = .ok (.iconst 2, 1) := by decide +kernel
theorem dX8_sums_19 : decode cX8_sums 19 = .ok (.iload_n 1, 1) := by decide +kernel
theorem dX8_sums_20 : decode cX8_sums 20 = .ok (.imul, 1) := by decide +kernel
theorem dX8_sums_21 : decode cX8_sums 21 = .ok (.iconst 1, 1) := by decide +kernel
theorem dX8_sums_22 : decode cX8_sums 22 = .ok (.iadd, 1) := by decide +kernel
theorem dX8_sums_23 : decode cX8_sums 23 = .ok (.bipush 43, 2) := by decide +kernel
theorem dX8_sums_25 : decode cX8_sums 25 = .ok (.invokevirtual 112, 3) := by decide +kernel
theorem dX8_sums_28 : decode cX8_sums 28 = .ok (.aload_n 0, 1) := by decide +kernel
theorem dX8_sums_29 : decode cX8_sums 29 = .ok (.iconst 2, 1) := by decide +kernel
theorem dX8_sums_30 : decode cX8_sums 30 = .ok (.iload_n 1, 1) := by decide +kernel
theorem dX8_sums_31 : decode cX8_sums 31 = .ok (.imul, 1) := by decide +kernel
theorem dX8_sums_32 : decode cX8_sums 32 = .ok (.iconst 1, 1) := by decide +kernel
theorem dX8_sums_33 : decode cX8_sums 33 = .ok (.iadd, 1) := by decide +kernel
theorem dX8_sums_34 : decode cX8_sums 34 = .ok (.iconst 2, 1) := by decide +kernel
theorem dX8_sums_35 : decode cX8_sums 35 = .ok (.iload_n 2, 1) := by decide +kernel
theorem dX8_sums_36 : decode cX8_sums 36 = .ok (.imul, 1) := by decide +kernel
theorem dX8_sums_37 : decode cX8_sums 37 = .ok (.iconst 1, 1) := by decide +kernel
theorem dX8_sums_38 : decode cX8_sums 38 = .ok (.iadd, 1) := by decide +kernel
theorem dX8_sums_39 : decode cX8_sums 39 = .ok (.bipush 33, 2) := by decide +kernel
theorem dX8_sums_41 : decode cX8_sums 41 = .ok (.invokevirtual 112, 3) := by decide +kernel
theorem dX8_sums_44 : decode cX8_sums 44 = .ok (.aload_n 0, 1) := by decide +kernel
theorem dX8_sums_45 : decode cX8_sums 45 = .ok (.getfield 16, 3) := by decide +kernel
theorem dX8_sums_48 : decode cX8_sums 48 = .ok (.iload_n 1, 1) := by decide +kernel
theorem dX8_sums_49 : decode cX8_sums 49 = .ok (.baload, 1) := by decide +kernel
theorem dX8_sums_50 : decode cX8_sums 50 = .ok (.istore 4, 2) := by decide +kernel
theorem dX8_sums_52 : decode cX8_sums 52 = .ok (.aload_n 0, 1) := by decide +kernel
theorem dX8_sums_53 : decode cX8_sums 53 = .ok (.getfield 16, 3) := by decide +kernel
theorem dX8_sums_56 : decode cX8_sums 56 = .ok (.iload_n 2, 1) := by decide +kernel
theorem dX8_sums_57 : decode cX8_sums 57 = .ok (.baload, 1) := by decide +kernel
theorem dX8_sums_58 : decode cX8_sums 58 = .ok (.iload_n 3, 1) := by decide +kernel
theorem dX8_sums_59 : decode cX8_sums 59 = .ok (.if_icmp .eq 7, 3) := by decide +kernel
theorem dX8_sums_62 : decode cX8_sums 62 = .ok (.iconst 1, 1) := by decide +kernel
theorem dX8_sums_63 : decode cX8_sums 63 = .ok (.goto 4, 3) := by decide +kernel
theorem dX8_sums_66 : decode cX8_sums 66 = .ok (.iconst 0, 1) := by decide +kernel
theorem dX8_sums_67 : decode cX8_sums 67 = .ok (.istore 5, 2) := by decide +kernel
theorem dX8_sums_69 : decode cX8_sums 69 = .ok (.iload 4, 2) := by decide +kernel
theorem dX8_sums_71 : decode cX8_sums 71 = .ok (.iload 5, 2) := by decide +kernel
theorem dX8_sums_73 : decode cX8_sums 73 = .ok (.if_icmp .ne 16, 3) := by decide +kernel
theorem dX8_sums_76 : decode cX8_sums 76 = .ok (.aload_n 0, 1) := by decide +kernel
theorem dX8_sums_77 : decode cX8_sums 77 = .ok (.bipush 34, 2) := by decide +kernel
theorem dX8_sums_79 : decode cX8_sums 79 = .ok (.bipush 43, 2) := by decide +kernel
theorem dX8_sums_81 : decode cX8_sums 81 = .ok (.bipush 32, 2) := by decide +kernel
theorem dX8_sums_83 : decode cX8_sums 83 = .ok (.invokevirtual 115, 3) := by decide +kernel
theorem dX8_sums_86 : decode cX8_sums 86 = .ok (.iload 4, 2) := by decide +kernel
theorem dX8_sums_88 : decode cX8_sums 88 = .ok (.ireturn, 1) := by decide +kernel
theorem dX8_sums_89 : decode cX8_sums 89 = .ok (.aload_n 0, 1) := by decide +kernel
theorem dX8_sums_90 : decode cX8_sums 90 = .ok (.bipush 34, 2) := by decide +kernel
theorem dX8_sums_92 : decode cX8_sums 92 = .ok (.bipush 43, 2) := by decide +kernel
theorem dX8_sums_94 : decode cX8_sums 94 = .ok (.invokevirtual 48, 3) := by decide +kernel
theorem dX8_sums_97 : decode cX8_sums 97 = .ok (.ifCond .ge 7, 3) := by decide +kernel
theorem dX8_sums_100 : decode cX8_sums 100 = .ok (.iconst 1, 1) := by decide +kernel
theorem dX8_sums_101 : decode cX8_sums 101 = .ok (.goto 4, 3) := by decide +kernel
theorem dX8_sums_104 : decode cX8_sums 104 = .ok (.iconst 0, 1) := by decide +kernel
theorem dX8_sums_105 : decode cX8_sums 105 = .ok (.istore 6, 2) := by decide +kernel
theorem dX8_sums_107 : decode cX8_sums 107 = .ok (.iload 6, 2) := by decide +kernel
theorem dX8_sums_109 : decode cX8_sums 109 = .ok (.ifCond .eq 16, 3) := by decide +kernel
theorem dX8_sums_112 : decode cX8_sums 112 = .ok (.aload_n 0, 1) := by decide +kernel
theorem dX8_sums_113 : decode cX8_sums 113 = .ok (.bipush 43, 2) := by decide +kernel
theorem dX8_sums_115 : decode cX8_sums 115 = .ok (.bipush 34, 2) := by decide +kernel
theorem dX8_sums_117 : decode cX8_sums 117 = .ok (.bipush 32, 2) := by decide +kernel
theorem dX8_sums_119 : decode cX8_sums 119 = .ok (.invokevirtual 118, 3) := by decide +kernel
theorem dX8_sums_122 : decode cX8_sums 122 = .ok (.goto 13, 3) := by decide +kernel
theorem dX8_sums_125 : decode cX8_sums 125 = .ok (.aload_n 0, 1) := by decide +kernel
theorem dX8_sums_126 : decode cX8_sums 126 = .ok (.bipush 34, 2) := by decide +kernel
theorem dX8_sums_128 : decode cX8_sums 128 = .ok (.bipush 43, 2) := by decide +kernel
theorem dX8_sums_130 : decode cX8_sums 130 = .ok (.bipush 32, 2) := by decide +kernel
theorem dX8_sums_132 : decode cX8_sums 132 = .ok (.invokevirtual 118, 3) := by decide +kernel
theorem dX8_sums_135 : decode cX8_sums 135 = .ok (.iload 6, 2) := by decide +kernel
theorem dX8_sums_137 : decode cX8_sums 137 = .ok (.ifCond .eq 8, 3) := by decide +kernel
theorem dX8_sums_140 : decode cX8_sums 140 = .ok (.iload 5, 2) := by decide +kernel
theorem dX8_sums_142 : decode cX8_sums 142 = .ok (.goto 5, 3) := by decide +kernel
theorem dX8_sums_145 : decode cX8_sums 145 = .ok (.iload 4, 2) := by decide +kernel
theorem dX8_sums_147 : decode cX8_sums 147 = .ok (.ireturn, 1) := by decide +kernel
theorem dX8_downwards_0 : decode cX8_downwards 0 = .ok (.aload_n 0, 1) := by decide +kernel
theorem dX8_downwards_1 : decode cX8_downwards 1 = .ok (.iconst 2, 1) := by decide +kernel
theorem dX8_downwards_2 : decode cX8_downwards 2 = .ok (.iload_n 1, 1) := by decide +kernel
theorem dX8_downwards_3 : decode cX8_downwards 3 = .ok (.imul, 1) := by decide +kernel
theorem dX8_downwards_4 : decode cX8_downwards 4 = .ok (.iconst 2, 1) := by decide +kernel
theorem dX8_downwards_5 : decode cX8_downwards 5 = .ok (.iload_n 2, 1) := by decide +kernel
theorem dX8_downwards_6 : decode cX8_downwards 6 = .ok (.imul, 1) := by decide +kernel
theorem dX8_downwards_7 : decode cX8_downwards 7 = .ok (.invokevirtual 77, 3) := by decide +kernel
theorem dX8_downwards_10 : decode cX8_downwards 10 = .ok (.aload_n 0, 1) := by decide +kernel
theorem dX8_downwards_11 : decode cX8_downwards 11 = .ok (.getfield 16, 3) := by decide +kernel
theorem dX8_downwards_14 : decode cX8_downwards 14 = .ok (.iload_n 1, 1) := by decide +kernel
theorem dX8_downwards_15 : decode cX8_downwards 15 = .ok (.baload, 1) := by decide +kernel
theorem dX8_downwards_16 : decode cX8_downwards 16 = .ok (.aload_n 0, 1) := by decide +kernel
theorem dX8_downwards_17 : decode cX8_downwards 17 = .ok (.getfield 16, 3) := by decide +kernel
theorem dX8_downwards_20 : decode cX8_downwards 20 = .ok (.iload_n 2, 1) := by decide +kernel
theorem dX8_downwards_21 : decode cX8_downwards 21 = .ok (.baload, 1) := by decide +kernel
theorem dX8_downwards_22 : decode cX8_downwards 22 = .ok (.if_icmp .eq 7, 3) := by decide +kernel
theorem dX8_downwards_25 : decode cX8_downwards 25 = .ok (.iconst 1, 1) := by decide +kernel
theorem dX8_downwards_26 : decode cX8_downwards 26 = .ok (.goto 4, 3) := by decide +kernel
theorem dX8_downwards_29 : decode cX8_downwards 29 = .ok (.iconst 0, 1) := by decide +kernel
theorem dX8_downwards_30 : decode cX8_downwards 30 = .ok (.istore 4, 2) := by decide +kernel
theorem dX8_downwards_32 : decode cX8_downwards 32 = .ok (.iload 4, 2) := by decide +kernel
theorem dX8_downwards_34 : decode cX8_downwards 34 = .ok (.ifCond .eq 16, 3) := by decide +kernel
theorem dX8_downwards_37 : decode cX8_downwards 37 = .ok (.aload_n 0, 1) := by decide +kernel
theorem dX8_downwards_38 : decode cX8_downwards 38 = .ok (.bipush 36, 2) := by decide +kernel
theorem dX8_downwards_40 : decode cX8_downwards 40 = .ok (.invokevirtual 73, 3) := by decide +kernel
theorem dX8_downwards_43 : decode cX8_downwards 43 = .ok (.ifCond .ne 7, 3) := by decide +kernel
theorem dX8_downwards_46 : decode cX8_downwards 46 = .ok (.iconst 1, 1) := by decide +kernel
theorem dX8_downwards_47 : decode cX8_downwards 47 = .ok (.goto 4, 3) := by decide +kernel
theorem dX8_downwards_50 : decode cX8_downwards 50 = .ok (.iconst 0, 1) := by decide +kernel
theorem dX8_downwards_51 : decode cX8_downwards 51 = .ok (.istore 5, 2) := by decide +kernel
theorem dX8_downwards_53 : decode cX8_downwards 53 = .ok (.aload_n 0, 1) := by decide +kernel
theorem dX8_downwards_54 : decode cX8_downwards 54 = .ok (.bipush 33, 2) := by decide +kernel
theorem dX8_downwards_56 : decode cX8_downwards 56 = .ok (.iconst 1, 1) := by decide +kernel
theorem dX8_downwards_57 : decode cX8_downwards 57 = .ok (.invokevirtual 26, 3) := by decide +kernel
theorem dX8_downwards_60 : decode cX8_downwards 60 = .ok (.iload_n 3, 1) := by decide +kernel
theorem dX8_downwards_61 : decode cX8_downwards 61 = .ok (.ifCond .eq 37, 3) := by decide +kernel
theorem dX8_downwards_64 : decode cX8_downwards 64 = .ok (.iload 5, 2) := by decide +kernel
theorem dX8_downwards_66 : decode cX8_downwards 66 = .ok (.ifCond .eq 17, 3) := by decide +kernel
theorem dX8_downwards_69 : decode cX8_downwards 69 = .ok (.aload_n 0, 1) := by decide +kernel
theorem dX8_downwards_70 : decode cX8_downwards 70 = .ok (.iconst 2, 1) := by decide +kernel
theorem dX8_downwards_71 : decode cX8_downwards 71 = .ok (.iload_n 2, 1) := by decide +kernel
theorem dX8_downwards_72 : decode cX8_downwards 72 = .ok (.imul, 1) := by decide +kernel
theorem dX8_downwards_73 : decode cX8_downwards 73 = .ok (.bipush 36, 2) := by decide +kernel
theorem dX8_downwards_75 : decode cX8_downwards 75 = .ok (.bipush 32, 2) := by decide +kernel
theorem dX8_downwards_77 : decode cX8_downwards 77 = .ok (.invokevirtual 118, 3) := by decide +kernel
theorem dX8_downwards_80 : decode cX8_downwards 80 = .ok (.goto 11, 3) := by decide +kernel
theorem dX8_downwards_83 : decode cX8_downwards 83 = .ok (.aload_n 0, 1) := by decide +kernel
theorem dX8_downwards_84 : decode cX8_downwards 84 = .ok (.bipush 36, 2) := by decide +kernel
theorem dX8_downwards_86 : decode cX8_downwards 86 = .ok (.bipush 32, 2) := by decide +kernel
theorem dX8_downwards_88 : decode cX8_downwards 88 = .ok (.invokevirtual 51, 3) := by decide +kernel
theorem dX8_downwards_91 : decode cX8_downwards 91 = .ok (.aload_n 0, 1) := by decide +kernel
theorem dX8_downwards_92 : decode cX8_downwards 92 = .ok (.getfield 16, 3) := by decide +kernel
theorem dX8_downwards_95 : decode cX8_downwards 95 = .ok (.iload_n 2, 1) := by decide +kernel
theorem dX8_downwards_96 : decode cX8_downwards 96 = .ok (.baload, 1) := by decide +kernel
theorem dX8_downwards_97 : decode cX8_downwards 97 = .ok (.ireturn, 1) := by decide +kernel
theorem dX8_downwards_98 : decode cX8_downwards 98 = .ok (.aload_n 0, 1) := by decide +kernel
theorem dX8_downwards_99 : decode cX8_downwards 99 = .ok (.bipush 35, 2) := by decide +kernel
theorem dX8_downwards_101 : decode cX8_downwards 101 = .ok (.bipush 32, 2) := by decide +kernel
theorem dX8_downwards_103 : decode cX8_downwards 103 = .ok (.invokevirtual 51, 3) := by decide +kernel
theorem dX8_downwards_106 : decode cX8_downwards 106 = .ok (.iload 5, 2) := by decide +kernel
theorem dX8_downwards_108 : decode cX8_downwards 108 = .ok (.ifCond .eq 13, 3) := by decide +kernel
theorem dX8_downwards_111 : decode cX8_downwards 111 = .ok (.aload_n 0, 1) := by decide +kernel
theorem dX8_downwards_112 : decode cX8_downwards 112 = .ok (.bipush 35, 2) := by decide +kernel
theorem dX8_downwards_114 : decode cX8_downwards 114 = .ok (.bipush 42, 2) := by decide +kernel
theorem dX8_downwards_116 : decode cX8_downwards 116 = .ok (.bipush 32, 2) := by decide +kernel
theorem dX8_downwards_118 : decode cX8_downwards 118 = .ok (.invokevirtual 115, 3) := by decide +kernel
theorem dX8_downwards_121 : decode cX8_downwards 121 = .ok (.iload 4, 2) := by decide +kernel
theorem dX8_downwards_123 : decode cX8_downwards 123 = .ok (.ireturn, 1) := by decide +kernel
theorem dX8_bitsOf_0 : decode cX8_bitsOf 0 = .ok (.aload_n 0, 1) := by decide +kernel
theorem dX8_bitsOf_1 : decode cX8_bitsOf 1 = .ok (.getfield 13, 3) := by decide +kernel
theorem dX8_bitsOf_4 : decode cX8_bitsOf 4 = .ok (.iload_n 1, 1) := by decide +kernel
theorem dX8_bitsOf_5 : decode cX8_bitsOf 5 = .ok (.iaload, 1) := by decide +kernel
theorem dX8_bitsOf_6 : decode cX8_bitsOf 6 = .ok (.istore_n 2, 1) := by decide +kernel
theorem dX8_bitsOf_7 : decode cX8_bitsOf 7 = .ok (.bipush 16, 2) := by decide +kernel
theorem dX8_bitsOf_9 : decode cX8_bitsOf 9 = .ok (.iload_n 2, 1) := by decide +kernel
theorem dX8_bitsOf_10 : decode cX8_bitsOf 10 = .ok (.imul, 1) := by decide +kernel
theorem dX8_bitsOf_11 : decode cX8_bitsOf 11 = .ok (.istore_n 3, 1) := by decide +kernel
theorem dX8_bitsOf_12 : decode cX8_bitsOf 12 = .ok (.bipush 15, 2) := by decide +kernel
theorem dX8_bitsOf_14 : decode cX8_bitsOf 14 = .ok (.istore 4, 2) := by decide +kernel
theorem dX8_bitsOf_16 : decode cX8_bitsOf 16 = .ok (.iload 4, 2) := by decide +kernel
theorem dX8_bitsOf_18 : decode cX8_bitsOf 18 = .ok (.ifCond .lt 32, 3) := by decide +kernel
theorem dX8_bitsOf_21 : decode cX8_bitsOf 21 = .ok (.iload_n 2, 1) := by decide +kernel
theorem dX8_bitsOf_22 : decode cX8_bitsOf 22 = .ok (.ifCond .le 28, 3) := by decide +kernel
theorem dX8_bitsOf_25 : decode cX8_bitsOf 25 = .ok (.aload_n 0, 1) := by decide +kernel
theorem dX8_bitsOf_26 : decode cX8_bitsOf 26 = .ok (.iload_n 1, 1) := by decide +kernel
theorem dX8_bitsOf_27 : decode cX8_bitsOf 27 = .ok (.iload_n 2, 1) := by decide +kernel
theorem dX8_bitsOf_28 : decode cX8_bitsOf 28 = .ok (.iconst 1, 1) := by decide +kernel
theorem dX8_bitsOf_29 : decode cX8_bitsOf 29 = .ok (.isub, 1) := by decide +kernel
theorem dX8_bitsOf_30 : decode cX8_bitsOf 30 = .ok (.invokevirtual 41, 3) := by decide +kernel
theorem dX8_bitsOf_33 : decode cX8_bitsOf 33 = .ok (.iload 4, 2) := by decide +kernel
theorem dX8_bitsOf_35 : decode cX8_bitsOf 35 = .ok (.ishr, 1) := by decide +kernel
theorem dX8_bitsOf_36 : decode cX8_bitsOf 36 = .ok (.iconst 1, 1) := by decide +kernel
theorem dX8_bitsOf_37 : decode cX8_bitsOf 37 = .ok (.iand, 1) := by decide +kernel
theorem dX8_bitsOf_38 : decode cX8_bitsOf 38 = .ok (.ifCond .ne 12, 3) := by decide +kernel
theorem dX8_bitsOf_41 : decode cX8_bitsOf 41 = .ok (.iinc 3 (-1), 3) := by decide +kernel
theorem dX8_bitsOf_44 : decode cX8_bitsOf 44 = .ok (.iinc 4 (-1), 3) := by decide +kernel
theorem dX8_bitsOf_47 : decode cX8_bitsOf 47 = .ok (.goto (-31), 3) := by decide +kernel
theorem dX8_bitsOf_50 : decode cX8_bitsOf 50 = .ok (.iload_n 3, 1) := by decide +kernel
theorem dX8_bitsOf_51 : decode cX8_bitsOf 51 = .ok (.ireturn, 1) := by decide +kernel
theorem dX8_power_0 : decode cX8_power 0 = .ok (.aload_n 0, 1) := by decide +kernel
theorem dX8_power_1 : decode cX8_power 1 = .ok (.iload_n 3, 1) := by decide +kernel
theorem dX8_power_2 : decode cX8_power 2 = .ok (.iconst 1, 1) := by decide +kernel
theorem dX8_power_3 : decode cX8_power 3 = .ok (.invokevirtual 26, 3) := by decide +kernel
theorem dX8_power_6 : decode cX8_power 6 = .ok (.iload_n 2, 1) := by decide +kernel
theorem dX8_power_7 : decode cX8_power 7 = .ok (.ifCond .eq 11, 3) := by decide +kernel
theorem dX8_power_10 : decode cX8_power 10 = .ok (.aload_n 0, 1) := by decide +kernel
theorem dX8_power_11 : decode cX8_power 11 = .ok (.iload_n 1, 1) := by decide +kernel
theorem dX8_power_12 : decode cX8_power 12 = .ok (.invokevirtual 83, 3) := by decide +kernel
theorem dX8_power_15 : decode cX8_power 15 = .ok (.ifCond .eq 5, 3) := by decide +kernel
theorem dX8_power_18 : decode cX8_power 18 = .ok (.iconst 1, 1) := by decide +kernel
theorem dX8_power_19 : decode cX8_power 19 = .ok (.ireturn, 1) := by decide +kernel
theorem dX8_power_20 : decode cX8_power 20 = .ok (.aload_n 0, 1) := by decide +kernel
theorem dX8_power_21 : decode cX8_power 21 = .ok (.iload_n 1, 1) := by decide +kernel
theorem dX8_power_22 : decode cX8_power 22 = .ok (.invokevirtual 73, 3) := by decide +kernel
theorem dX8_power_25 : decode cX8_power 25 = .ok (.ifCond .eq 12, 3) := by decide +kernel
theorem dX8_power_28 : decode cX8_power 28 = .ok (.aload_n 0, 1) := by decide +kernel
theorem dX8_power_29 : decode cX8_power 29 = .ok (.getfield 13, 3) := by decide +kernel
theorem dX8_power_32 : decode cX8_power 32 = .ok (.iload_n 3, 1) := by decide +kernel
theorem dX8_power_33 : decode cX8_power 33 = .ok (.iconst 0, 1) := by decide +kernel
theorem dX8_power_34 : decode cX8_power 34 = .ok (.iastore, 1) := by decide +kernel
theorem dX8_power_35 : decode cX8_power 35 = .ok (.iconst 1, 1) := by decide +kernel
theorem dX8_power_36 : decode cX8_power 36 = .ok (.ireturn, 1) := by decide +kernel
theorem dX8_power_37 : decode cX8_power 37 = .ok (.aload_n 0, 1) := by decide +kernel
theorem dX8_power_38 : decode cX8_power 38 = .ok (.iload_n 1, 1) := by decide +kernel
theorem dX8_power_39 : decode cX8_power 39 = .ok (.invokevirtual 121, 3) := by decide +kernel
theorem dX8_power_42 : decode cX8_power 42 = .ok (.iconst 1, 1) := by decide +kernel
theorem dX8_power_43 : decode cX8_power 43 = .ok (.isub, 1) := by decide +kernel
theorem dX8_power_44 : decode cX8_power 44 = .ok (.i2l, 1) := by decide +kernel
theorem dX8_power_45 : decode cX8_power 45 = .ok (.iload_n 2, 1) := by decide +kernel
theorem dX8_power_46 : decode cX8_power 46 = .ok (.i2l, 1) := by decide +kernel
theorem dX8_power_47 : decode cX8_power 47 = .ok (.lmul, 1) := by decide +kernel
theorem dX8_power_48 : decode cX8_power 48 = .ok (.ldc2_w 125, 3) := by decide +kernel
theorem dX8_power_51 : decode cX8_power 51 = .ok (.lcmp, 1) := by decide +kernel
theorem dX8_power_52 : decode cX8_power 52 = .ok (.ifCond .lt 5, 3) := by decide +kernel
theorem dX8_power_55 : decode cX8_power 55 = .ok (.iconst 0, 1) := by decide +kernel
theorem dX8_power_56 : decode cX8_power 56 = .ok (.ireturn, 1) := by decide +kernel
theorem dX8_power_57 : decode cX8_power 57 = .ok (.iconst 0, 1) := by decide +kernel
theorem dX8_power_58 : decode cX8_power 58 = .ok (.istore 4, 2) := by decide +kernel
theorem dX8_power_60 : decode cX8_power 60 = .ok (.iload 4, 2) := by decide +kernel
theorem dX8_power_62 : decode cX8_power 62 = .ok (.iload_n 2, 1) := by decide +kernel
theorem dX8_power_63 : decode cX8_power 63 = .ok (.if_icmp .ge 35, 3) := by decide +kernel
theorem dX8_power_66 : decode cX8_power 66 = .ok (.aload_n 0, 1) := by decide +kernel
theorem dX8_power_67 : decode cX8_power 67 = .ok (.iload_n 3, 1) := by decide +kernel
theorem dX8_power_68 : decode cX8_power 68 = .ok (.iload_n 1, 1) := by decide +kernel
theorem dX8_power_69 : decode cX8_power 69 = .ok (.bipush 34, 2) := by decide +kernel
theorem dX8_power_71 : decode cX8_power 71 = .ok (.invokevirtual 112, 3) := by decide +kernel
theorem dX8_power_74 : decode cX8_power 74 = .ok (.aload_n 0, 1) := by decide +kernel
theorem dX8_power_75 : decode cX8_power 75 = .ok (.bipush 34, 2) := by decide +kernel
theorem dX8_power_77 : decode cX8_power 77 = .ok (.invokevirtual 86, 3) := by decide +kernel
theorem dX8_power_80 : decode cX8_power 80 = .ok (.ifCond .eq 5, 3) := by decide +kernel
theorem dX8_power_83 : decode cX8_power 83 = .ok (.iconst 0, 1) := by decide +kernel
theorem dX8_power_84 : decode cX8_power 84 = .ok (.ireturn, 1) := by decide +kernel
theorem dX8_power_85 : decode cX8_power 85 = .ok (.aload_n 0, 1) := by decide +kernel
theorem dX8_power_86 : decode cX8_power 86 = .ok (.bipush 34, 2) := by decide +kernel
theorem dX8_power_88 : decode cX8_power 88 = .ok (.iload_n 3, 1) := by decide +kernel
theorem dX8_power_89 : decode cX8_power 89 = .ok (.invokevirtual 51, 3) := by decide +kernel
theorem dX8_power_92 : decode cX8_power 92 = .ok (.iinc 4 1, 3) := by decide +kernel
theorem dX8_power_95 : decode cX8_power 95 = .ok (.goto (-35), 3) := by decide +kernel
theorem dX8_power_98 : decode cX8_power 98 = .ok (.iconst 1, 1) := by decide +kernel
theorem dX8_power_99 : decode cX8_power 99 = .ok (.ireturn, 1) := by decide +kernel
theorem dX8_raises_0 : decode cX8_raises 0 = .ok (.aload_n 0, 1) := by decide +kernel
theorem dX8_raises_1 : decode cX8_raises 1 = .ok (.iload_n 3, 1) := by decide +kernel
theorem dX8_raises_2 : decode cX8_raises 2 = .ok (.invokevirtual 127, 3) := by decide +kernel
theorem dX8_raises_5 : decode cX8_raises 5 = .ok (.ifCond .eq 38, 3) := by decide +kernel
theorem dX8_raises_8 : decode cX8_raises 8 = .ok (.aload_n 0, 1) := by decide +kernel
theorem dX8_raises_9 : decode cX8_raises 9 = .ok (.getfield 16, 3) := by decide +kernel
theorem dX8_raises_12 : decode cX8_raises 12 = .ok (.iload_n 3, 1) := by decide +kernel
theorem dX8_raises_13 : decode cX8_raises 13 = .ok (.baload, 1) := by decide +kernel
theorem dX8_raises_14 : decode cX8_raises 14 = .ok (.ifCond .ne 29, 3) := by decide +kernel
theorem dX8_raises_17 : decode cX8_raises 17 = .ok (.aload_n 0, 1) := by decide +kernel
theorem dX8_raises_18 : decode cX8_raises 18 = .ok (.getfield 13, 3) := by decide +kernel
theorem dX8_raises_21 : decode cX8_raises 21 = .ok (.iconst 2, 1) := by decide +kernel
theorem dX8_raises_22 : decode cX8_raises 22 = .ok (.iload_n 3, 1) := by decide +kernel
theorem dX8_raises_23 : decode cX8_raises 23 = .ok (.imul, 1) := by decide +kernel
theorem dX8_raises_24 : decode cX8_raises 24 = .ok (.iaload, 1) := by decide +kernel
theorem dX8_raises_25 : decode cX8_raises 25 = .ok (.iconst 1, 1) := by decide +kernel
theorem dX8_raises_26 : decode cX8_raises 26 = .ok (.if_icmp .gt 17, 3) := by decide +kernel
theorem dX8_raises_29 : decode cX8_raises 29 = .ok (.aload_n 0, 1) := by decide +kernel
theorem dX8_raises_30 : decode cX8_raises 30 = .ok (.iconst 2, 1) := by decide +kernel
theorem dX8_raises_31 : decode cX8_raises 31 = .ok (.iload_n 3, 1) := by decide +kernel
theorem dX8_raises_32 : decode cX8_raises 32 = .ok (.imul, 1) := by decide +kernel
theorem dX8_raises_33 : decode cX8_raises 33 = .ok (.iconst 0, 1) := by decide +kernel
theorem dX8_raises_34 : decode cX8_raises 34 = .ok (.invokevirtual 41, 3) := by decide +kernel
theorem dX8_raises_37 : decode cX8_raises 37 = .ok (.sipush 10000, 3) := by decide +kernel
theorem dX8_raises_40 : decode cX8_raises 40 = .ok (.if_icmp .le 5, 3) := by decide +kernel
theorem dX8_raises_43 : decode cX8_raises 43 = .ok (.iconst (-1), 1) := by decide +kernel
theorem dX8_raises_44 : decode cX8_raises 44 = .ok (.ireturn, 1) := by decide +kernel
theorem dX8_raises_45 : decode cX8_raises 45 = .ok (.aload_n 0, 1) := by decide +kernel
theorem dX8_raises_46 : decode cX8_raises 46 = .ok (.iconst 2, 1) := by decide +kernel
theorem dX8_raises_47 : decode cX8_raises 47 = .ok (.iload_n 3, 1) := by decide +kernel
theorem dX8_raises_48 : decode cX8_raises 48 = .ok (.imul, 1) := by decide +kernel
theorem dX8_raises_49 : decode cX8_raises 49 = .ok (.iconst 0, 1) := by decide +kernel
theorem dX8_raises_50 : decode cX8_raises 50 = .ok (.invokevirtual 41, 3) := by decide +kernel
theorem dX8_raises_53 : decode cX8_raises 53 = .ok (.istore 4, 2) := by decide +kernel
theorem dX8_raises_55 : decode cX8_raises 55 = .ok (.aload_n 0, 1) := by decide +kernel
theorem dX8_raises_56 : decode cX8_raises 56 = .ok (.iconst 2, 1) := by decide +kernel
theorem dX8_raises_57 : decode cX8_raises 57 = .ok (.iload_n 2, 1) := by decide +kernel
theorem dX8_raises_58 : decode cX8_raises 58 = .ok (.imul, 1) := by decide +kernel
theorem dX8_raises_59 : decode cX8_raises 59 = .ok (.iload 4, 2) := by decide +kernel
theorem dX8_raises_61 : decode cX8_raises 61 = .ok (.bipush 32, 2) := by decide +kernel
theorem dX8_raises_63 : decode cX8_raises 63 = .ok (.invokevirtual 130, 3) := by decide +kernel
theorem dX8_raises_66 : decode cX8_raises 66 = .ok (.ifCond .eq 19, 3) := by decide +kernel
theorem dX8_raises_69 : decode cX8_raises 69 = .ok (.aload_n 0, 1) := by decide +kernel
theorem dX8_raises_70 : decode cX8_raises 70 = .ok (.iconst 2, 1) := by decide +kernel
theorem dX8_raises_71 : decode cX8_raises 71 = .ok (.iload_n 2, 1) := by decide +kernel
theorem dX8_raises_72 : decode cX8_raises 72 = .ok (.imul, 1) := by decide +kernel
theorem dX8_raises_73 : decode cX8_raises 73 = .ok (.iconst 1, 1) := by decide +kernel
theorem dX8_raises_74 : decode cX8_raises 74 = .ok (.iadd, 1) := by decide +kernel
theorem dX8_raises_75 : decode cX8_raises 75 = .ok (.iload 4, 2) := by decide +kernel
theorem dX8_raises_77 : decode cX8_raises 77 = .ok (.bipush 33, 2) := by decide +kernel
theorem dX8_raises_79 : decode cX8_raises 79 = .ok (.invokevirtual 130, 3) := by decide +kernel
theorem dX8_raises_82 : decode cX8_raises 82 = .ok (.ifCond .ne 6, 3) := by decide +kernel
theorem dX8_raises_85 : decode cX8_raises 85 = .ok (.bipush (-3), 2) := by decide +kernel
theorem dX8_raises_87 : decode cX8_raises 87 = .ok (.ireturn, 1) := by decide +kernel
theorem dX8_raises_88 : decode cX8_raises 88 = .ok (.aload_n 0, 1) := by decide +kernel
theorem dX8_raises_89 : decode cX8_raises 89 = .ok (.iload_n 1, 1) := by decide +kernel
theorem dX8_raises_90 : decode cX8_raises 90 = .ok (.aload_n 0, 1) := by decide +kernel
theorem dX8_raises_91 : decode cX8_raises 91 = .ok (.getfield 16, 3) := by decide +kernel
theorem dX8_raises_94 : decode cX8_raises 94 = .ok (.iload_n 2, 1) := by decide +kernel
theorem dX8_raises_95 : decode cX8_raises 95 = .ok (.baload, 1) := by decide +kernel
theorem dX8_raises_96 : decode cX8_raises 96 = .ok (.ifCond .eq 15, 3) := by decide +kernel
theorem dX8_raises_99 : decode cX8_raises 99 = .ok (.iload 4, 2) := by decide +kernel
theorem dX8_raises_101 : decode cX8_raises 101 = .ok (.iconst 2, 1) := by decide +kernel
theorem dX8_raises_102 : decode cX8_raises 102 = .ok (.irem, 1) := by decide +kernel
theorem dX8_raises_103 : decode cX8_raises 103 = .ok (.iconst 1, 1) := by decide +kernel
theorem dX8_raises_104 : decode cX8_raises 104 = .ok (.if_icmp .ne 7, 3) := by decide +kernel
theorem dX8_raises_107 : decode cX8_raises 107 = .ok (.iconst 1, 1) := by decide +kernel
theorem dX8_raises_108 : decode cX8_raises 108 = .ok (.goto 4, 3) := by decide +kernel
theorem dX8_raises_111 : decode cX8_raises 111 = .ok (.iconst 0, 1) := by decide +kernel
theorem dX8_raises_112 : decode cX8_raises 112 = .ok (.invokevirtual 108, 3) := by decide +kernel
theorem dX8_raises_115 : decode cX8_raises 115 = .ok (.ireturn, 1) := by decide +kernel
theorem dX8_takesNumber_0 : decode cX8_takesNumber 0 = .ok (.aload_n 0, 1) := by decide +kernel
theorem dX8_takesNumber_1 : decode cX8_takesNumber 1 = .ok (.iconst 2, 1) := by decide +kernel
theorem dX8_takesNumber_2 : decode cX8_takesNumber 2 = .ok (.iload_n 1, 1) := by decide +kernel
theorem dX8_takesNumber_3 : decode cX8_takesNumber 3 = .ok (.imul, 1) := by decide +kernel
theorem dX8_takesNumber_4 : decode cX8_takesNumber 4 = .ok (.bipush 32, 2) := by decide +kernel
theorem dX8_takesNumber_6 : decode cX8_takesNumber 6 = .ok (.invokevirtual 51, 3) := by decide +kernel
theorem dX8_takesNumber_9 : decode cX8_takesNumber 9 = .ok (.aload_n 0, 1) := by decide +kernel
theorem dX8_takesNumber_10 : decode cX8_takesNumber 10 = .ok (.iconst 2, 1) := by decide +kernel
theorem dX8_takesNumber_11 : decode cX8_takesNumber 11 = .ok (.iload_n 1, 1) := by decide +kernel
theorem dX8_takesNumber_12 : decode cX8_takesNumber 12 = .ok (.imul, 1) := by decide +kernel
theorem dX8_takesNumber_13 : decode cX8_takesNumber 13 = .ok (.iconst 1, 1) := by decide +kernel
theorem dX8_takesNumber_14 : decode cX8_takesNumber 14 = .ok (.iadd, 1) := by decide +kernel
theorem dX8_takesNumber_15 : decode cX8_takesNumber 15 = .ok (.bipush 33, 2) := by decide +kernel
theorem dX8_takesNumber_17 : decode cX8_takesNumber 17 = .ok (.invokevirtual 51, 3) := by decide +kernel
theorem dX8_takesNumber_20 : decode cX8_takesNumber 20 = .ok (.return_, 1) := by decide +kernel
theorem dX8_chooses_0 : decode cX8_chooses 0 = .ok (.aload_n 0, 1) := by decide +kernel
theorem dX8_chooses_1 : decode cX8_chooses 1 = .ok (.iload_n 2, 1) := by decide +kernel
theorem dX8_chooses_2 : decode cX8_chooses 2 = .ok (.iload_n 3, 1) := by decide +kernel
theorem dX8_chooses_3 : decode cX8_chooses 3 = .ok (.invokevirtual 134, 3) := by decide +kernel
theorem dX8_chooses_6 : decode cX8_chooses 6 = .ok (.istore 5, 2) := by decide +kernel
theorem dX8_chooses_8 : decode cX8_chooses 8 = .ok (.iload 4, 2) := by decide +kernel
theorem dX8_chooses_10 : decode cX8_chooses 10 = .ok (.iload 5, 2) := by decide +kernel
theorem dX8_chooses_12 : decode cX8_chooses 12 = .ok (.ifCond .le 7, 3) := by decide +kernel
theorem dX8_chooses_15 : decode cX8_chooses 15 = .ok (.iconst 1, 1) := by decide +kernel
theorem dX8_chooses_16 : decode cX8_chooses 16 = .ok (.goto 4, 3) := by decide +kernel
theorem dX8_chooses_19 : decode cX8_chooses 19 = .ok (.iconst 0, 1) := by decide +kernel
theorem dX8_chooses_20 : decode cX8_chooses 20 = .ok (.if_icmp .ne 7, 3) := by decide +kernel
theorem dX8_chooses_23 : decode cX8_chooses 23 = .ok (.iload_n 2, 1) := by decide +kernel
theorem dX8_chooses_24 : decode cX8_chooses 24 = .ok (.goto 4, 3) := by decide +kernel
theorem dX8_chooses_27 : decode cX8_chooses 27 = .ok (.iload_n 3, 1) := by decide +kernel
theorem dX8_chooses_28 : decode cX8_chooses 28 = .ok (.istore 6, 2) := by decide +kernel
theorem dX8_chooses_30 : decode cX8_chooses 30 = .ok (.aload_n 0, 1) := by decide +kernel
theorem dX8_chooses_31 : decode cX8_chooses 31 = .ok (.iload 6, 2) := by decide +kernel
theorem dX8_chooses_33 : decode cX8_chooses 33 = .ok (.invokevirtual 137, 3) := by decide +kernel
theorem dX8_chooses_36 : decode cX8_chooses 36 = .ok (.aload_n 0, 1) := by decide +kernel
theorem dX8_chooses_37 : decode cX8_chooses 37 = .ok (.iload_n 1, 1) := by decide +kernel
theorem dX8_chooses_38 : decode cX8_chooses 38 = .ok (.aload_n 0, 1) := by decide +kernel
theorem dX8_chooses_39 : decode cX8_chooses 39 = .ok (.getfield 16, 3) := by decide +kernel
theorem dX8_chooses_42 : decode cX8_chooses 42 = .ok (.iload 6, 2) := by decide +kernel
theorem dX8_chooses_44 : decode cX8_chooses 44 = .ok (.baload, 1) := by decide +kernel
theorem dX8_chooses_45 : decode cX8_chooses 45 = .ok (.invokevirtual 108, 3) := by decide +kernel
theorem dX8_chooses_48 : decode cX8_chooses 48 = .ok (.ireturn, 1) := by decide +kernel
theorem dX8_reckon_0 : decode cX8_reckon 0 = .ok (.aload_n 0, 1) := by decide +kernel
theorem dX8_reckon_1 : decode cX8_reckon 1 = .ok (.iconst 0, 1) := by decide +kernel
theorem dX8_reckon_2 : decode cX8_reckon 2 = .ok (.putfield 30, 3) := by decide +kernel
theorem dX8_reckon_5 : decode cX8_reckon 5 = .ok (.iload 4, 2) := by decide +kernel
theorem dX8_reckon_7 : decode cX8_reckon 7 = .ok (.iconst 4, 1) := by decide +kernel
theorem dX8_reckon_8 : decode cX8_reckon 8 = .ok (.if_icmp .lt 14, 3) := by decide +kernel
theorem dX8_reckon_11 : decode cX8_reckon 11 = .ok (.iload 4, 2) := by decide +kernel
theorem dX8_reckon_13 : decode cX8_reckon 13 = .ok (.bipush 6, 2) := by decide +kernel
theorem dX8_reckon_15 : decode cX8_reckon 15 = .ok (.if_icmp .gt 7, 3) := by decide +kernel
theorem dX8_reckon_18 : decode cX8_reckon 18 = .ok (.iconst 1, 1) := by decide +kernel
theorem dX8_reckon_19 : decode cX8_reckon 19 = .ok (.goto 4, 3) := by decide +kernel
theorem dX8_reckon_22 : decode cX8_reckon 22 = .ok (.iconst 0, 1) := by decide +kernel
theorem dX8_reckon_23 : decode cX8_reckon 23 = .ok (.istore 5, 2) := by decide +kernel
theorem dX8_reckon_25 : decode cX8_reckon 25 = .ok (.iload_n 1, 1) := by decide +kernel
theorem dX8_reckon_26 : decode cX8_reckon 26 = .ok (.invokestatic 98, 3) := by decide +kernel
theorem dX8_reckon_29 : decode cX8_reckon 29 = .ok (.ifCond .eq 50, 3) := by decide +kernel
theorem dX8_reckon_32 : decode cX8_reckon 32 = .ok (.iload_n 2, 1) := by decide +kernel
theorem dX8_reckon_33 : decode cX8_reckon 33 = .ok (.invokestatic 98, 3) := by decide +kernel
theorem dX8_reckon_36 : decode cX8_reckon 36 = .ok (.ifCond .eq 43, 3) := by decide +kernel
theorem dX8_reckon_39 : decode cX8_reckon 39 = .ok (.iload_n 3, 1) := by decide +kernel
theorem dX8_reckon_40 : decode cX8_reckon 40 = .ok (.invokestatic 98, 3) := by decide +kernel
theorem dX8_reckon_43 : decode cX8_reckon 43 = .ok (.ifCond .eq 36, 3) := by decide +kernel
theorem dX8_reckon_46 : decode cX8_reckon 46 = .ok (.iload 4, 2) := by decide +kernel
theorem dX8_reckon_48 : decode cX8_reckon 48 = .ok (.ifCond .lt 31, 3) := by decide +kernel
theorem dX8_reckon_51 : decode cX8_reckon 51 = .ok (.iload 4, 2) := by decide +kernel
theorem dX8_reckon_53 : decode cX8_reckon 53 = .ok (.bipush 9, 2) := by decide +kernel
theorem dX8_reckon_55 : decode cX8_reckon 55 = .ok (.if_icmp .gt 24, 3) := by decide +kernel
theorem dX8_reckon_58 : decode cX8_reckon 58 = .ok (.iload 5, 2) := by decide +kernel
theorem dX8_reckon_60 : decode cX8_reckon 60 = .ok (.ifCond .eq 21, 3) := by decide +kernel
theorem dX8_reckon_63 : decode cX8_reckon 63 = .ok (.aload_n 0, 1) := by decide +kernel
theorem dX8_reckon_64 : decode cX8_reckon 64 = .ok (.iload_n 2, 1) := by decide +kernel
theorem dX8_reckon_65 : decode cX8_reckon 65 = .ok (.invokevirtual 127, 3) := by decide +kernel
theorem dX8_reckon_68 : decode cX8_reckon 68 = .ok (.ifCond .eq 11, 3) := by decide +kernel
theorem dX8_reckon_71 : decode cX8_reckon 71 = .ok (.aload_n 0, 1) := by decide +kernel
theorem dX8_reckon_72 : decode cX8_reckon 72 = .ok (.iload_n 3, 1) := by decide +kernel
theorem dX8_reckon_73 : decode cX8_reckon 73 = .ok (.invokevirtual 127, 3) := by decide +kernel
theorem dX8_reckon_76 : decode cX8_reckon 76 = .ok (.ifCond .ne 5, 3) := by decide +kernel
theorem dX8_reckon_79 : decode cX8_reckon 79 = .ok (.iconst (-1), 1) := by decide +kernel
theorem dX8_reckon_80 : decode cX8_reckon 80 = .ok (.ireturn, 1) := by decide +kernel
theorem dX8_reckon_81 : decode cX8_reckon 81 = .ok (.iload 4, 2) := by decide +kernel
theorem dX8_reckon_83 : decode cX8_reckon 83 = .ok (.iconst 3, 1) := by decide +kernel
theorem dX8_reckon_84 : decode cX8_reckon 84 = .ok (.if_icmp .lt 22, 3) := by decide +kernel
theorem dX8_reckon_87 : decode cX8_reckon 87 = .ok (.iload 4, 2) := by decide +kernel
theorem dX8_reckon_89 : decode cX8_reckon 89 = .ok (.iconst 5, 1) := by decide +kernel
theorem dX8_reckon_90 : decode cX8_reckon 90 = .ok (.if_icmp .gt 16, 3) := by decide +kernel
theorem dX8_reckon_93 : decode cX8_reckon 93 = .ok (.aload_n 0, 1) := by decide +kernel
theorem dX8_reckon_94 : decode cX8_reckon 94 = .ok (.iconst 2, 1) := by decide +kernel
theorem dX8_reckon_95 : decode cX8_reckon 95 = .ok (.iload_n 3, 1) := by decide +kernel
theorem dX8_reckon_96 : decode cX8_reckon 96 = .ok (.imul, 1) := by decide +kernel
theorem dX8_reckon_97 : decode cX8_reckon 97 = .ok (.invokevirtual 73, 3) := by decide +kernel
theorem dX8_reckon_100 : decode cX8_reckon 100 = .ok (.ifCond .eq 6, 3) := by decide +kernel
theorem dX8_reckon_103 : decode cX8_reckon 103 = .ok (.bipush (-2), 2) := by decide +kernel
theorem dX8_reckon_105 : decode cX8_reckon 105 = .ok (.ireturn, 1) := by decide +kernel
theorem dX8_reckon_106 : decode cX8_reckon 106 = .ok (.aload_n 0, 1) := by decide +kernel
theorem dX8_reckon_107 : decode cX8_reckon 107 = .ok (.getfield 16, 3) := by decide +kernel
theorem dX8_reckon_110 : decode cX8_reckon 110 = .ok (.iload_n 2, 1) := by decide +kernel
theorem dX8_reckon_111 : decode cX8_reckon 111 = .ok (.baload, 1) := by decide +kernel
theorem dX8_reckon_112 : decode cX8_reckon 112 = .ok (.aload_n 0, 1) := by decide +kernel
theorem dX8_reckon_113 : decode cX8_reckon 113 = .ok (.getfield 16, 3) := by decide +kernel
theorem dX8_reckon_116 : decode cX8_reckon 116 = .ok (.iload_n 3, 1) := by decide +kernel
theorem dX8_reckon_117 : decode cX8_reckon 117 = .ok (.baload, 1) := by decide +kernel
theorem dX8_reckon_118 : decode cX8_reckon 118 = .ok (.if_icmp .eq 7, 3) := by decide +kernel
theorem dX8_reckon_121 : decode cX8_reckon 121 = .ok (.iconst 1, 1) := by decide +kernel
theorem dX8_reckon_122 : decode cX8_reckon 122 = .ok (.goto 4, 3) := by decide +kernel
theorem dX8_reckon_125 : decode cX8_reckon 125 = .ok (.iconst 0, 1) := by decide +kernel
theorem dX8_reckon_126 : decode cX8_reckon 126 = .ok (.istore 6, 2) := by decide +kernel
theorem dX8_reckon_128 : decode cX8_reckon 128 = .ok (.iload 4, 2) := by decide +kernel
theorem dX8_reckon_130 : decode cX8_reckon 130 = .ok (.tableswitch 191 0 7 #[46, 46, 68, 99, 130, 130, 152, 183], 46) := by decide +kernel
theorem dX8_reckon_176 : decode cX8_reckon 176 = .ok (.aload_n 0, 1) := by decide +kernel
theorem dX8_reckon_177 : decode cX8_reckon 177 = .ok (.iload_n 2, 1) := by decide +kernel
theorem dX8_reckon_178 : decode cX8_reckon 178 = .ok (.iload_n 3, 1) := by decide +kernel
theorem dX8_reckon_179 : decode cX8_reckon 179 = .ok (.iload 4, 2) := by decide +kernel
theorem dX8_reckon_181 : decode cX8_reckon 181 = .ok (.iconst 1, 1) := by decide +kernel
theorem dX8_reckon_182 : decode cX8_reckon 182 = .ok (.if_icmp .ne 7, 3) := by decide +kernel
theorem dX8_reckon_185 : decode cX8_reckon 185 = .ok (.iconst 1, 1) := by decide +kernel
theorem dX8_reckon_186 : decode cX8_reckon 186 = .ok (.goto 4, 3) := by decide +kernel
theorem dX8_reckon_189 : decode cX8_reckon 189 = .ok (.iconst 0, 1) := by decide +kernel
theorem dX8_reckon_190 : decode cX8_reckon 190 = .ok (.invokevirtual 141, 3) := by decide +kernel
theorem dX8_reckon_193 : decode cX8_reckon 193 = .ok (.istore 6, 2) := by decide +kernel
theorem dX8_reckon_195 : decode cX8_reckon 195 = .ok (.goto 146, 3) := by decide +kernel
theorem dX8_reckon_198 : decode cX8_reckon 198 = .ok (.aload_n 0, 1) := by decide +kernel
theorem dX8_reckon_199 : decode cX8_reckon 199 = .ok (.iconst 2, 1) := by decide +kernel
theorem dX8_reckon_200 : decode cX8_reckon 200 = .ok (.iload_n 2, 1) := by decide +kernel
theorem dX8_reckon_201 : decode cX8_reckon 201 = .ok (.imul, 1) := by decide +kernel
theorem dX8_reckon_202 : decode cX8_reckon 202 = .ok (.iconst 2, 1) := by decide +kernel
theorem dX8_reckon_203 : decode cX8_reckon 203 = .ok (.iload_n 3, 1) := by decide +kernel
theorem dX8_reckon_204 : decode cX8_reckon 204 = .ok (.imul, 1) := by decide +kernel
theorem dX8_reckon_205 : decode cX8_reckon 205 = .ok (.bipush 32, 2) := by decide +kernel
theorem dX8_reckon_207 : decode cX8_reckon 207 = .ok (.invokevirtual 112, 3) := by decide +kernel
theorem dX8_reckon_210 : decode cX8_reckon 210 = .ok (.aload_n 0, 1) := by decide +kernel
theorem dX8_reckon_211 : decode cX8_reckon 211 = .ok (.iconst 2, 1) := by decide +kernel
theorem dX8_reckon_212 : decode cX8_reckon 212 = .ok (.iload_n 2, 1) := by decide +kernel
theorem dX8_reckon_213 : decode cX8_reckon 213 = .ok (.imul, 1) := by decide +kernel
theorem dX8_reckon_214 : decode cX8_reckon 214 = .ok (.iconst 1, 1) := by decide +kernel
theorem dX8_reckon_215 : decode cX8_reckon 215 = .ok (.iadd, 1) := by decide +kernel
theorem dX8_reckon_216 : decode cX8_reckon 216 = .ok (.iconst 2, 1) := by decide +kernel
theorem dX8_reckon_217 : decode cX8_reckon 217 = .ok (.iload_n 3, 1) := by decide +kernel
theorem dX8_reckon_218 : decode cX8_reckon 218 = .ok (.imul, 1) := by decide +kernel
theorem dX8_reckon_219 : decode cX8_reckon 219 = .ok (.iconst 1, 1) := by decide +kernel
theorem dX8_reckon_220 : decode cX8_reckon 220 = .ok (.iadd, 1) := by decide +kernel
theorem dX8_reckon_221 : decode cX8_reckon 221 = .ok (.bipush 33, 2) := by decide +kernel
theorem dX8_reckon_223 : decode cX8_reckon 223 = .ok (.invokevirtual 112, 3) := by decide +kernel
theorem dX8_reckon_226 : decode cX8_reckon 226 = .ok (.goto 115, 3) := by decide +kernel
theorem dX8_reckon_229 : decode cX8_reckon 229 = .ok (.aload_n 0, 1) := by decide +kernel
theorem dX8_reckon_230 : decode cX8_reckon 230 = .ok (.iconst 2, 1) := by decide +kernel
theorem dX8_reckon_231 : decode cX8_reckon 231 = .ok (.iload_n 2, 1) := by decide +kernel
theorem dX8_reckon_232 : decode cX8_reckon 232 = .ok (.imul, 1) := by decide +kernel
theorem dX8_reckon_233 : decode cX8_reckon 233 = .ok (.iconst 2, 1) := by decide +kernel
theorem dX8_reckon_234 : decode cX8_reckon 234 = .ok (.iload_n 3, 1) := by decide +kernel
theorem dX8_reckon_235 : decode cX8_reckon 235 = .ok (.imul, 1) := by decide +kernel
theorem dX8_reckon_236 : decode cX8_reckon 236 = .ok (.iconst 1, 1) := by decide +kernel
theorem dX8_reckon_237 : decode cX8_reckon 237 = .ok (.iadd, 1) := by decide +kernel
theorem dX8_reckon_238 : decode cX8_reckon 238 = .ok (.bipush 32, 2) := by decide +kernel
theorem dX8_reckon_240 : decode cX8_reckon 240 = .ok (.invokevirtual 112, 3) := by decide +kernel
theorem dX8_reckon_243 : decode cX8_reckon 243 = .ok (.aload_n 0, 1) := by decide +kernel
theorem dX8_reckon_244 : decode cX8_reckon 244 = .ok (.iconst 2, 1) := by decide +kernel
theorem dX8_reckon_245 : decode cX8_reckon 245 = .ok (.iload_n 2, 1) := by decide +kernel
theorem dX8_reckon_246 : decode cX8_reckon 246 = .ok (.imul, 1) := by decide +kernel
theorem dX8_reckon_247 : decode cX8_reckon 247 = .ok (.iconst 1, 1) := by decide +kernel
theorem dX8_reckon_248 : decode cX8_reckon 248 = .ok (.iadd, 1) := by decide +kernel
theorem dX8_reckon_249 : decode cX8_reckon 249 = .ok (.iconst 2, 1) := by decide +kernel
theorem dX8_reckon_250 : decode cX8_reckon 250 = .ok (.iload_n 3, 1) := by decide +kernel
theorem dX8_reckon_251 : decode cX8_reckon 251 = .ok (.imul, 1) := by decide +kernel
theorem dX8_reckon_252 : decode cX8_reckon 252 = .ok (.bipush 33, 2) := by decide +kernel
theorem dX8_reckon_254 : decode cX8_reckon 254 = .ok (.invokevirtual 112, 3) := by decide +kernel
theorem dX8_reckon_257 : decode cX8_reckon 257 = .ok (.goto 84, 3) := by decide +kernel
theorem dX8_reckon_260 : decode cX8_reckon 260 = .ok (.aload_n 0, 1) := by decide +kernel
theorem dX8_reckon_261 : decode cX8_reckon 261 = .ok (.iload_n 2, 1) := by decide +kernel
theorem dX8_reckon_262 : decode cX8_reckon 262 = .ok (.iload_n 3, 1) := by decide +kernel
theorem dX8_reckon_263 : decode cX8_reckon 263 = .ok (.iload 4, 2) := by decide +kernel
theorem dX8_reckon_265 : decode cX8_reckon 265 = .ok (.iconst 5, 1) := by decide +kernel
theorem dX8_reckon_266 : decode cX8_reckon 266 = .ok (.if_icmp .ne 7, 3) := by decide +kernel
theorem dX8_reckon_269 : decode cX8_reckon 269 = .ok (.iconst 1, 1) := by decide +kernel
theorem dX8_reckon_270 : decode cX8_reckon 270 = .ok (.goto 4, 3) := by decide +kernel
theorem dX8_reckon_273 : decode cX8_reckon 273 = .ok (.iconst 0, 1) := by decide +kernel
theorem dX8_reckon_274 : decode cX8_reckon 274 = .ok (.invokevirtual 145, 3) := by decide +kernel
theorem dX8_reckon_277 : decode cX8_reckon 277 = .ok (.istore 6, 2) := by decide +kernel
theorem dX8_reckon_279 : decode cX8_reckon 279 = .ok (.goto 62, 3) := by decide +kernel
theorem dX8_reckon_282 : decode cX8_reckon 282 = .ok (.aload_n 0, 1) := by decide +kernel
theorem dX8_reckon_283 : decode cX8_reckon 283 = .ok (.iconst 2, 1) := by decide +kernel
theorem dX8_reckon_284 : decode cX8_reckon 284 = .ok (.iload_n 2, 1) := by decide +kernel
theorem dX8_reckon_285 : decode cX8_reckon 285 = .ok (.imul, 1) := by decide +kernel
theorem dX8_reckon_286 : decode cX8_reckon 286 = .ok (.iconst 2, 1) := by decide +kernel
theorem dX8_reckon_287 : decode cX8_reckon 287 = .ok (.iload_n 3, 1) := by decide +kernel
theorem dX8_reckon_288 : decode cX8_reckon 288 = .ok (.imul, 1) := by decide +kernel
theorem dX8_reckon_289 : decode cX8_reckon 289 = .ok (.invokevirtual 80, 3) := by decide +kernel
theorem dX8_reckon_292 : decode cX8_reckon 292 = .ok (.aload_n 0, 1) := by decide +kernel
theorem dX8_reckon_293 : decode cX8_reckon 293 = .ok (.bipush 39, 2) := by decide +kernel
theorem dX8_reckon_295 : decode cX8_reckon 295 = .ok (.bipush 32, 2) := by decide +kernel
theorem dX8_reckon_297 : decode cX8_reckon 297 = .ok (.invokevirtual 51, 3) := by decide +kernel
theorem dX8_reckon_300 : decode cX8_reckon 300 = .ok (.aload_n 0, 1) := by decide +kernel
theorem dX8_reckon_301 : decode cX8_reckon 301 = .ok (.bipush 33, 2) := by decide +kernel
theorem dX8_reckon_303 : decode cX8_reckon 303 = .ok (.iconst 1, 1) := by decide +kernel
theorem dX8_reckon_304 : decode cX8_reckon 304 = .ok (.invokevirtual 26, 3) := by decide +kernel
theorem dX8_reckon_307 : decode cX8_reckon 307 = .ok (.iconst 0, 1) := by decide +kernel
theorem dX8_reckon_308 : decode cX8_reckon 308 = .ok (.istore 6, 2) := by decide +kernel
theorem dX8_reckon_310 : decode cX8_reckon 310 = .ok (.goto 31, 3) := by decide +kernel
theorem dX8_reckon_313 : decode cX8_reckon 313 = .ok (.aload_n 0, 1) := by decide +kernel
theorem dX8_reckon_314 : decode cX8_reckon 314 = .ok (.iload_n 1, 1) := by decide +kernel
theorem dX8_reckon_315 : decode cX8_reckon 315 = .ok (.iload_n 2, 1) := by decide +kernel
theorem dX8_reckon_316 : decode cX8_reckon 316 = .ok (.iload_n 3, 1) := by decide +kernel
theorem dX8_reckon_317 : decode cX8_reckon 317 = .ok (.invokevirtual 148, 3) := by decide +kernel
theorem dX8_reckon_320 : decode cX8_reckon 320 = .ok (.ireturn, 1) := by decide +kernel
theorem dX8_reckon_321 : decode cX8_reckon 321 = .ok (.aload_n 0, 1) := by decide +kernel
theorem dX8_reckon_322 : decode cX8_reckon 322 = .ok (.iload_n 1, 1) := by decide +kernel
theorem dX8_reckon_323 : decode cX8_reckon 323 = .ok (.iload_n 2, 1) := by decide +kernel
theorem dX8_reckon_324 : decode cX8_reckon 324 = .ok (.iload_n 3, 1) := by decide +kernel
theorem dX8_reckon_325 : decode cX8_reckon 325 = .ok (.iload 4, 2) := by decide +kernel
theorem dX8_reckon_327 : decode cX8_reckon 327 = .ok (.bipush 9, 2) := by decide +kernel
theorem dX8_reckon_329 : decode cX8_reckon 329 = .ok (.if_icmp .ne 7, 3) := by decide +kernel
theorem dX8_reckon_332 : decode cX8_reckon 332 = .ok (.iconst 1, 1) := by decide +kernel
theorem dX8_reckon_333 : decode cX8_reckon 333 = .ok (.goto 4, 3) := by decide +kernel
theorem dX8_reckon_336 : decode cX8_reckon 336 = .ok (.iconst 0, 1) := by decide +kernel
theorem dX8_reckon_337 : decode cX8_reckon 337 = .ok (.invokevirtual 151, 3) := by decide +kernel
theorem dX8_reckon_340 : decode cX8_reckon 340 = .ok (.ireturn, 1) := by decide +kernel
theorem dX8_reckon_341 : decode cX8_reckon 341 = .ok (.aload_n 0, 1) := by decide +kernel
theorem dX8_reckon_342 : decode cX8_reckon 342 = .ok (.invokevirtual 105, 3) := by decide +kernel
theorem dX8_reckon_345 : decode cX8_reckon 345 = .ok (.aload_n 0, 1) := by decide +kernel
theorem dX8_reckon_346 : decode cX8_reckon 346 = .ok (.iload_n 1, 1) := by decide +kernel
theorem dX8_reckon_347 : decode cX8_reckon 347 = .ok (.iload 6, 2) := by decide +kernel
theorem dX8_reckon_349 : decode cX8_reckon 349 = .ok (.invokevirtual 108, 3) := by decide +kernel
theorem dX8_reckon_352 : decode cX8_reckon 352 = .ok (.ireturn, 1) := by decide +kernel
theorem dX8_whole_0 : decode cX8_whole 0 = .ok (.aload_n 0, 1) := by decide +kernel
theorem dX8_whole_1 : decode cX8_whole 1 = .ok (.iconst 2, 1) := by decide +kernel
theorem dX8_whole_2 : decode cX8_whole 2 = .ok (.iload_n 1, 1) := by decide +kernel
theorem dX8_whole_3 : decode cX8_whole 3 = .ok (.imul, 1) := by decide +kernel
theorem dX8_whole_4 : decode cX8_whole 4 = .ok (.iconst 2, 1) := by decide +kernel
theorem dX8_whole_5 : decode cX8_whole 5 = .ok (.iload_n 1, 1) := by decide +kernel
theorem dX8_whole_6 : decode cX8_whole 6 = .ok (.imul, 1) := by decide +kernel
theorem dX8_whole_7 : decode cX8_whole 7 = .ok (.iconst 1, 1) := by decide +kernel
theorem dX8_whole_8 : decode cX8_whole 8 = .ok (.iadd, 1) := by decide +kernel
theorem dX8_whole_9 : decode cX8_whole 9 = .ok (.invokevirtual 77, 3) := by decide +kernel
theorem dX8_whole_12 : decode cX8_whole 12 = .ok (.aload_n 0, 1) := by decide +kernel
theorem dX8_whole_13 : decode cX8_whole 13 = .ok (.bipush 36, 2) := by decide +kernel
theorem dX8_whole_15 : decode cX8_whole 15 = .ok (.invokevirtual 73, 3) := by decide +kernel
theorem dX8_whole_18 : decode cX8_whole 18 = .ok (.ifCond .ne 7, 3) := by decide +kernel
theorem dX8_whole_21 : decode cX8_whole 21 = .ok (.iconst 1, 1) := by decide +kernel
theorem dX8_whole_22 : decode cX8_whole 22 = .ok (.goto 4, 3) := by decide +kernel
theorem dX8_whole_25 : decode cX8_whole 25 = .ok (.iconst 0, 1) := by decide +kernel
theorem dX8_whole_26 : decode cX8_whole 26 = .ok (.istore_n 3, 1) := by decide +kernel
theorem dX8_whole_27 : decode cX8_whole 27 = .ok (.iload_n 2, 1) := by decide +kernel
theorem dX8_whole_28 : decode cX8_whole 28 = .ok (.iconst 3, 1) := by decide +kernel
theorem dX8_whole_29 : decode cX8_whole 29 = .ok (.if_icmp .ne 24, 3) := by decide +kernel
theorem dX8_whole_32 : decode cX8_whole 32 = .ok (.iload_n 3, 1) := by decide +kernel
theorem dX8_whole_33 : decode cX8_whole 33 = .ok (.ifCond .eq 16, 3) := by decide +kernel
theorem dX8_whole_36 : decode cX8_whole 36 = .ok (.aload_n 0, 1) := by decide +kernel
theorem dX8_whole_37 : decode cX8_whole 37 = .ok (.getfield 16, 3) := by decide +kernel
theorem dX8_whole_40 : decode cX8_whole 40 = .ok (.iload_n 1, 1) := by decide +kernel
theorem dX8_whole_41 : decode cX8_whole 41 = .ok (.baload, 1) := by decide +kernel
theorem dX8_whole_42 : decode cX8_whole 42 = .ok (.ifCond .eq 7, 3) := by decide +kernel
theorem dX8_whole_45 : decode cX8_whole 45 = .ok (.iconst 1, 1) := by decide +kernel
theorem dX8_whole_46 : decode cX8_whole 46 = .ok (.goto 30, 3) := by decide +kernel
theorem dX8_whole_49 : decode cX8_whole 49 = .ok (.iconst 0, 1) := by decide +kernel
theorem dX8_whole_50 : decode cX8_whole 50 = .ok (.goto 26, 3) := by decide +kernel
theorem dX8_whole_53 : decode cX8_whole 53 = .ok (.iload_n 2, 1) := by decide +kernel
theorem dX8_whole_54 : decode cX8_whole 54 = .ok (.iconst 4, 1) := by decide +kernel
theorem dX8_whole_55 : decode cX8_whole 55 = .ok (.if_icmp .ne 20, 3) := by decide +kernel
theorem dX8_whole_58 : decode cX8_whole 58 = .ok (.iload_n 3, 1) := by decide +kernel
theorem dX8_whole_59 : decode cX8_whole 59 = .ok (.ifCond .eq 16, 3) := by decide +kernel
theorem dX8_whole_62 : decode cX8_whole 62 = .ok (.aload_n 0, 1) := by decide +kernel
theorem dX8_whole_63 : decode cX8_whole 63 = .ok (.getfield 16, 3) := by decide +kernel
theorem dX8_whole_66 : decode cX8_whole 66 = .ok (.iload_n 1, 1) := by decide +kernel
theorem dX8_whole_67 : decode cX8_whole 67 = .ok (.baload, 1) := by decide +kernel
theorem dX8_whole_68 : decode cX8_whole 68 = .ok (.ifCond .ne 7, 3) := by decide +kernel
theorem dX8_whole_71 : decode cX8_whole 71 = .ok (.iconst 1, 1) := by decide +kernel
theorem dX8_whole_72 : decode cX8_whole 72 = .ok (.goto 4, 3) := by decide +kernel
theorem dX8_whole_75 : decode cX8_whole 75 = .ok (.iconst 0, 1) := by decide +kernel
theorem dX8_whole_76 : decode cX8_whole 76 = .ok (.istore 4, 2) := by decide +kernel
theorem dX8_whole_78 : decode cX8_whole 78 = .ok (.iload_n 2, 1) := by decide +kernel
theorem dX8_whole_79 : decode cX8_whole 79 = .ok (.bipush 6, 2) := by decide +kernel
theorem dX8_whole_81 : decode cX8_whole 81 = .ok (.if_icmp .ne 56, 3) := by decide +kernel
theorem dX8_whole_84 : decode cX8_whole 84 = .ok (.aload_n 0, 1) := by decide +kernel
theorem dX8_whole_85 : decode cX8_whole 85 = .ok (.bipush 36, 2) := by decide +kernel
theorem dX8_whole_87 : decode cX8_whole 87 = .ok (.bipush 36, 2) := by decide +kernel
theorem dX8_whole_89 : decode cX8_whole 89 = .ok (.bipush 43, 2) := by decide +kernel
theorem dX8_whole_91 : decode cX8_whole 91 = .ok (.invokevirtual 115, 3) := by decide +kernel
theorem dX8_whole_94 : decode cX8_whole 94 = .ok (.aload_n 0, 1) := by decide +kernel
theorem dX8_whole_95 : decode cX8_whole 95 = .ok (.bipush 43, 2) := by decide +kernel
theorem dX8_whole_97 : decode cX8_whole 97 = .ok (.iconst 2, 1) := by decide +kernel
theorem dX8_whole_98 : decode cX8_whole 98 = .ok (.iload_n 1, 1) := by decide +kernel
theorem dX8_whole_99 : decode cX8_whole 99 = .ok (.imul, 1) := by decide +kernel
theorem dX8_whole_100 : decode cX8_whole 100 = .ok (.iconst 1, 1) := by decide +kernel
theorem dX8_whole_101 : decode cX8_whole 101 = .ok (.iadd, 1) := by decide +kernel
theorem dX8_whole_102 : decode cX8_whole 102 = .ok (.invokevirtual 48, 3) := by decide +kernel
theorem dX8_whole_105 : decode cX8_whole 105 = .ok (.istore 5, 2) := by decide +kernel
theorem dX8_whole_107 : decode cX8_whole 107 = .ok (.iload 5, 2) := by decide +kernel
theorem dX8_whole_109 : decode cX8_whole 109 = .ok (.ifCond .gt 21, 3) := by decide +kernel
theorem dX8_whole_112 : decode cX8_whole 112 = .ok (.iload 5, 2) := by decide +kernel
theorem dX8_whole_114 : decode cX8_whole 114 = .ok (.ifCond .ne 20, 3) := by decide +kernel
theorem dX8_whole_117 : decode cX8_whole 117 = .ok (.aload_n 0, 1) := by decide +kernel
theorem dX8_whole_118 : decode cX8_whole 118 = .ok (.bipush 35, 2) := by decide +kernel
theorem dX8_whole_120 : decode cX8_whole 120 = .ok (.iconst 0, 1) := by decide +kernel
theorem dX8_whole_121 : decode cX8_whole 121 = .ok (.invokevirtual 41, 3) := by decide +kernel
theorem dX8_whole_124 : decode cX8_whole 124 = .ok (.iconst 2, 1) := by decide +kernel
theorem dX8_whole_125 : decode cX8_whole 125 = .ok (.irem, 1) := by decide +kernel
theorem dX8_whole_126 : decode cX8_whole 126 = .ok (.iconst 1, 1) := by decide +kernel
theorem dX8_whole_127 : decode cX8_whole 127 = .ok (.if_icmp .ne 7, 3) := by decide +kernel
theorem dX8_whole_130 : decode cX8_whole 130 = .ok (.iconst 1, 1) := by decide +kernel
theorem dX8_whole_131 : decode cX8_whole 131 = .ok (.goto 4, 3) := by decide +kernel
theorem dX8_whole_134 : decode cX8_whole 134 = .ok (.iconst 0, 1) := by decide +kernel
theorem dX8_whole_135 : decode cX8_whole 135 = .ok (.istore 4, 2) := by decide +kernel
theorem dX8_whole_137 : decode cX8_whole 137 = .ok (.aload_n 0, 1) := by decide +kernel
theorem dX8_whole_138 : decode cX8_whole 138 = .ok (.bipush 35, 2) := by decide +kernel
theorem dX8_whole_140 : decode cX8_whole 140 = .ok (.bipush 32, 2) := by decide +kernel
theorem dX8_whole_142 : decode cX8_whole 142 = .ok (.invokevirtual 51, 3) := by decide +kernel
theorem dX8_whole_145 : decode cX8_whole 145 = .ok (.iload 4, 2) := by decide +kernel
theorem dX8_whole_147 : decode cX8_whole 147 = .ok (.ifCond .eq 13, 3) := by decide +kernel
theorem dX8_whole_150 : decode cX8_whole 150 = .ok (.aload_n 0, 1) := by decide +kernel
theorem dX8_whole_151 : decode cX8_whole 151 = .ok (.bipush 35, 2) := by decide +kernel
theorem dX8_whole_153 : decode cX8_whole 153 = .ok (.bipush 42, 2) := by decide +kernel
theorem dX8_whole_155 : decode cX8_whole 155 = .ok (.bipush 32, 2) := by decide +kernel
theorem dX8_whole_157 : decode cX8_whole 157 = .ok (.invokevirtual 115, 3) := by decide +kernel
theorem dX8_whole_160 : decode cX8_whole 160 = .ok (.aload_n 0, 1) := by decide +kernel
theorem dX8_whole_161 : decode cX8_whole 161 = .ok (.bipush 33, 2) := by decide +kernel
theorem dX8_whole_163 : decode cX8_whole 163 = .ok (.iconst 1, 1) := by decide +kernel
theorem dX8_whole_164 : decode cX8_whole 164 = .ok (.invokevirtual 26, 3) := by decide +kernel
theorem dX8_whole_167 : decode cX8_whole 167 = .ok (.return_, 1) := by decide +kernel
theorem dX8_round_0 : decode cX8_round 0 = .ok (.aload_n 0, 1) := by decide +kernel
theorem dX8_round_1 : decode cX8_round 1 = .ok (.iconst 0, 1) := by decide +kernel
theorem dX8_round_2 : decode cX8_round 2 = .ok (.putfield 30, 3) := by decide +kernel
theorem dX8_round_5 : decode cX8_round 5 = .ok (.iload_n 1, 1) := by decide +kernel
theorem dX8_round_6 : decode cX8_round 6 = .ok (.invokestatic 98, 3) := by decide +kernel
theorem dX8_round_9 : decode cX8_round 9 = .ok (.ifCond .eq 20, 3) := by decide +kernel
theorem dX8_round_12 : decode cX8_round 12 = .ok (.iload_n 2, 1) := by decide +kernel
theorem dX8_round_13 : decode cX8_round 13 = .ok (.invokestatic 98, 3) := by decide +kernel
theorem dX8_round_16 : decode cX8_round 16 = .ok (.ifCond .eq 13, 3) := by decide +kernel
theorem dX8_round_19 : decode cX8_round 19 = .ok (.iload_n 3, 1) := by decide +kernel
theorem dX8_round_20 : decode cX8_round 20 = .ok (.ifCond .lt 9, 3) := by decide +kernel
theorem dX8_round_23 : decode cX8_round 23 = .ok (.iload_n 3, 1) := by decide +kernel
theorem dX8_round_24 : decode cX8_round 24 = .ok (.bipush 7, 2) := by decide +kernel
theorem dX8_round_26 : decode cX8_round 26 = .ok (.if_icmp .le 5, 3) := by decide +kernel
theorem dX8_round_29 : decode cX8_round 29 = .ok (.iconst (-1), 1) := by decide +kernel
theorem dX8_round_30 : decode cX8_round 30 = .ok (.ireturn, 1) := by decide +kernel
theorem dX8_round_31 : decode cX8_round 31 = .ok (.aload_n 0, 1) := by decide +kernel
theorem dX8_round_32 : decode cX8_round 32 = .ok (.getfield 16, 3) := by decide +kernel
theorem dX8_round_35 : decode cX8_round 35 = .ok (.iload_n 2, 1) := by decide +kernel
theorem dX8_round_36 : decode cX8_round 36 = .ok (.baload, 1) := by decide +kernel
theorem dX8_round_37 : decode cX8_round 37 = .ok (.istore 4, 2) := by decide +kernel
theorem dX8_round_39 : decode cX8_round 39 = .ok (.aload_n 0, 1) := by decide +kernel
theorem dX8_round_40 : decode cX8_round 40 = .ok (.iload_n 2, 1) := by decide +kernel
theorem dX8_round_41 : decode cX8_round 41 = .ok (.invokevirtual 137, 3) := by decide +kernel
theorem dX8_round_44 : decode cX8_round 44 = .ok (.iload_n 3, 1) := by decide +kernel
theorem dX8_round_45 : decode cX8_round 45 = .ok (.ifCond .ne 13, 3) := by decide +kernel
theorem dX8_round_48 : decode cX8_round 48 = .ok (.aload_n 0, 1) := by decide +kernel
theorem dX8_round_49 : decode cX8_round 49 = .ok (.bipush 33, 2) := by decide +kernel
theorem dX8_round_51 : decode cX8_round 51 = .ok (.iconst 1, 1) := by decide +kernel
theorem dX8_round_52 : decode cX8_round 52 = .ok (.invokevirtual 26, 3) := by decide +kernel
theorem dX8_round_55 : decode cX8_round 55 = .ok (.goto 70, 3) := by decide +kernel
theorem dX8_round_58 : decode cX8_round 58 = .ok (.iload_n 3, 1) := by decide +kernel
theorem dX8_round_59 : decode cX8_round 59 = .ok (.iconst 1, 1) := by decide +kernel
theorem dX8_round_60 : decode cX8_round 60 = .ok (.if_icmp .ne 27, 3) := by decide +kernel
theorem dX8_round_63 : decode cX8_round 63 = .ok (.aload_n 0, 1) := by decide +kernel
theorem dX8_round_64 : decode cX8_round 64 = .ok (.iconst 2, 1) := by decide +kernel
theorem dX8_round_65 : decode cX8_round 65 = .ok (.iload_n 2, 1) := by decide +kernel
theorem dX8_round_66 : decode cX8_round 66 = .ok (.imul, 1) := by decide +kernel
theorem dX8_round_67 : decode cX8_round 67 = .ok (.iconst 1, 1) := by decide +kernel
theorem dX8_round_68 : decode cX8_round 68 = .ok (.iadd, 1) := by decide +kernel
theorem dX8_round_69 : decode cX8_round 69 = .ok (.bipush 32, 2) := by decide +kernel
theorem dX8_round_71 : decode cX8_round 71 = .ok (.invokevirtual 51, 3) := by decide +kernel
theorem dX8_round_74 : decode cX8_round 74 = .ok (.aload_n 0, 1) := by decide +kernel
theorem dX8_round_75 : decode cX8_round 75 = .ok (.bipush 33, 2) := by decide +kernel
theorem dX8_round_77 : decode cX8_round 77 = .ok (.iconst 1, 1) := by decide +kernel
theorem dX8_round_78 : decode cX8_round 78 = .ok (.invokevirtual 26, 3) := by decide +kernel
theorem dX8_round_81 : decode cX8_round 81 = .ok (.iconst 0, 1) := by decide +kernel
theorem dX8_round_82 : decode cX8_round 82 = .ok (.istore 4, 2) := by decide +kernel
theorem dX8_round_84 : decode cX8_round 84 = .ok (.goto 41, 3) := by decide +kernel
theorem dX8_round_87 : decode cX8_round 87 = .ok (.iload_n 3, 1) := by decide +kernel
theorem dX8_round_88 : decode cX8_round 88 = .ok (.iconst 2, 1) := by decide +kernel
theorem dX8_round_89 : decode cX8_round 89 = .ok (.if_icmp .ne 9, 3) := by decide +kernel
theorem dX8_round_92 : decode cX8_round 92 = .ok (.iconst 0, 1) := by decide +kernel
theorem dX8_round_93 : decode cX8_round 93 = .ok (.istore 4, 2) := by decide +kernel
theorem dX8_round_95 : decode cX8_round 95 = .ok (.goto 30, 3) := by decide +kernel
theorem dX8_round_98 : decode cX8_round 98 = .ok (.iload_n 3, 1) := by decide +kernel
theorem dX8_round_99 : decode cX8_round 99 = .ok (.bipush 7, 2) := by decide +kernel
theorem dX8_round_101 : decode cX8_round 101 = .ok (.if_icmp .ne 18, 3) := by decide +kernel
theorem dX8_round_104 : decode cX8_round 104 = .ok (.iload 4, 2) := by decide +kernel
theorem dX8_round_106 : decode cX8_round 106 = .ok (.ifCond .ne 7, 3) := by decide +kernel
theorem dX8_round_109 : decode cX8_round 109 = .ok (.iconst 1, 1) := by decide +kernel
theorem dX8_round_110 : decode cX8_round 110 = .ok (.goto 4, 3) := by decide +kernel
theorem dX8_round_113 : decode cX8_round 113 = .ok (.iconst 0, 1) := by decide +kernel
theorem dX8_round_114 : decode cX8_round 114 = .ok (.istore 4, 2) := by decide +kernel
theorem dX8_round_116 : decode cX8_round 116 = .ok (.goto 9, 3) := by decide +kernel
theorem dX8_round_119 : decode cX8_round 119 = .ok (.aload_n 0, 1) := by decide +kernel
theorem dX8_round_120 : decode cX8_round 120 = .ok (.iload_n 2, 1) := by decide +kernel
theorem dX8_round_121 : decode cX8_round 121 = .ok (.iload_n 3, 1) := by decide +kernel
theorem dX8_round_122 : decode cX8_round 122 = .ok (.invokevirtual 155, 3) := by decide +kernel
theorem dX8_round_125 : decode cX8_round 125 = .ok (.aload_n 0, 1) := by decide +kernel
theorem dX8_round_126 : decode cX8_round 126 = .ok (.iload_n 1, 1) := by decide +kernel
theorem dX8_round_127 : decode cX8_round 127 = .ok (.iload 4, 2) := by decide +kernel
theorem dX8_round_129 : decode cX8_round 129 = .ok (.invokevirtual 108, 3) := by decide +kernel
theorem dX8_round_132 : decode cX8_round 132 = .ok (.ireturn, 1) := by decide +kernel
theorem dX8_compare_0 : decode cX8_compare 0 = .ok (.aload_n 0, 1) := by decide +kernel
theorem dX8_compare_1 : decode cX8_compare 1 = .ok (.iconst 0, 1) := by decide +kernel
theorem dX8_compare_2 : decode cX8_compare 2 = .ok (.putfield 30, 3) := by decide +kernel
theorem dX8_compare_5 : decode cX8_compare 5 = .ok (.iload_n 1, 1) := by decide +kernel
theorem dX8_compare_6 : decode cX8_compare 6 = .ok (.invokestatic 98, 3) := by decide +kernel
theorem dX8_compare_9 : decode cX8_compare 9 = .ok (.ifCond .eq 10, 3) := by decide +kernel
theorem dX8_compare_12 : decode cX8_compare 12 = .ok (.iload_n 2, 1) := by decide +kernel
theorem dX8_compare_13 : decode cX8_compare 13 = .ok (.invokestatic 98, 3) := by decide +kernel
theorem dX8_compare_16 : decode cX8_compare 16 = .ok (.ifCond .ne 6, 3) := by decide +kernel
theorem dX8_compare_19 : decode cX8_compare 19 = .ok (.bipush (-2), 2) := by decide +kernel
theorem dX8_compare_21 : decode cX8_compare 21 = .ok (.ireturn, 1) := by decide +kernel
theorem dX8_compare_22 : decode cX8_compare 22 = .ok (.aload_n 0, 1) := by decide +kernel
theorem dX8_compare_23 : decode cX8_compare 23 = .ok (.getfield 16, 3) := by decide +kernel
theorem dX8_compare_26 : decode cX8_compare 26 = .ok (.iload_n 1, 1) := by decide +kernel
theorem dX8_compare_27 : decode cX8_compare 27 = .ok (.baload, 1) := by decide +kernel
theorem dX8_compare_28 : decode cX8_compare 28 = .ok (.aload_n 0, 1) := by decide +kernel
theorem dX8_compare_29 : decode cX8_compare 29 = .ok (.getfield 16, 3) := by decide +kernel
theorem dX8_compare_32 : decode cX8_compare 32 = .ok (.iload_n 2, 1) := by decide +kernel
theorem dX8_compare_33 : decode cX8_compare 33 = .ok (.baload, 1) := by decide +kernel
theorem dX8_compare_34 : decode cX8_compare 34 = .ok (.if_icmp .eq 18, 3) := by decide +kernel
theorem dX8_compare_37 : decode cX8_compare 37 = .ok (.aload_n 0, 1) := by decide +kernel
theorem dX8_compare_38 : decode cX8_compare 38 = .ok (.getfield 16, 3) := by decide +kernel
theorem dX8_compare_41 : decode cX8_compare 41 = .ok (.iload_n 1, 1) := by decide +kernel
theorem dX8_compare_42 : decode cX8_compare 42 = .ok (.baload, 1) := by decide +kernel
theorem dX8_compare_43 : decode cX8_compare 43 = .ok (.ifCond .eq 7, 3) := by decide +kernel
theorem dX8_compare_46 : decode cX8_compare 46 = .ok (.iconst (-1), 1) := by decide +kernel
theorem dX8_compare_47 : decode cX8_compare 47 = .ok (.goto 4, 3) := by decide +kernel
theorem dX8_compare_50 : decode cX8_compare 50 = .ok (.iconst 1, 1) := by decide +kernel
theorem dX8_compare_51 : decode cX8_compare 51 = .ok (.ireturn, 1) := by decide +kernel
theorem dX8_compare_52 : decode cX8_compare 52 = .ok (.aload_n 0, 1) := by decide +kernel
theorem dX8_compare_53 : decode cX8_compare 53 = .ok (.iconst 2, 1) := by decide +kernel
theorem dX8_compare_54 : decode cX8_compare 54 = .ok (.iload_n 1, 1) := by decide +kernel
theorem dX8_compare_55 : decode cX8_compare 55 = .ok (.imul, 1) := by decide +kernel
theorem dX8_compare_56 : decode cX8_compare 56 = .ok (.iconst 2, 1) := by decide +kernel
theorem dX8_compare_57 : decode cX8_compare 57 = .ok (.iload_n 2, 1) := by decide +kernel
theorem dX8_compare_58 : decode cX8_compare 58 = .ok (.imul, 1) := by decide +kernel
theorem dX8_compare_59 : decode cX8_compare 59 = .ok (.iconst 1, 1) := by decide +kernel
theorem dX8_compare_60 : decode cX8_compare 60 = .ok (.iadd, 1) := by decide +kernel
theorem dX8_compare_61 : decode cX8_compare 61 = .ok (.bipush 34, 2) := by decide +kernel
theorem dX8_compare_63 : decode cX8_compare 63 = .ok (.invokevirtual 112, 3) := by decide +kernel
theorem dX8_compare_66 : decode cX8_compare 66 = .ok (.aload_n 0, 1) := by decide +kernel
theorem dX8_compare_67 : decode cX8_compare 67 = .ok (.iconst 2, 1) := by decide +kernel
theorem dX8_compare_68 : decode cX8_compare 68 = .ok (.iload_n 2, 1) := by decide +kernel
theorem dX8_compare_69 : decode cX8_compare 69 = .ok (.imul, 1) := by decide +kernel
theorem dX8_compare_70 : decode cX8_compare 70 = .ok (.iconst 2, 1) := by decide +kernel
theorem dX8_compare_71 : decode cX8_compare 71 = .ok (.iload_n 1, 1) := by decide +kernel
theorem dX8_compare_72 : decode cX8_compare 72 = .ok (.imul, 1) := by decide +kernel
theorem dX8_compare_73 : decode cX8_compare 73 = .ok (.iconst 1, 1) := by decide +kernel
theorem dX8_compare_74 : decode cX8_compare 74 = .ok (.iadd, 1) := by decide +kernel
theorem dX8_compare_75 : decode cX8_compare 75 = .ok (.bipush 43, 2) := by decide +kernel
theorem dX8_compare_77 : decode cX8_compare 77 = .ok (.invokevirtual 112, 3) := by decide +kernel
theorem dX8_compare_80 : decode cX8_compare 80 = .ok (.aload_n 0, 1) := by decide +kernel
theorem dX8_compare_81 : decode cX8_compare 81 = .ok (.bipush 34, 2) := by decide +kernel
theorem dX8_compare_83 : decode cX8_compare 83 = .ok (.bipush 43, 2) := by decide +kernel
theorem dX8_compare_85 : decode cX8_compare 85 = .ok (.invokevirtual 48, 3) := by decide +kernel
theorem dX8_compare_88 : decode cX8_compare 88 = .ok (.istore_n 3, 1) := by decide +kernel
theorem dX8_compare_89 : decode cX8_compare 89 = .ok (.aload_n 0, 1) := by decide +kernel
theorem dX8_compare_90 : decode cX8_compare 90 = .ok (.getfield 16, 3) := by decide +kernel
theorem dX8_compare_93 : decode cX8_compare 93 = .ok (.iload_n 1, 1) := by decide +kernel
theorem dX8_compare_94 : decode cX8_compare 94 = .ok (.baload, 1) := by decide +kernel
theorem dX8_compare_95 : decode cX8_compare 95 = .ok (.ifCond .eq 8, 3) := by decide +kernel
theorem dX8_compare_98 : decode cX8_compare 98 = .ok (.iload_n 3, 1) := by decide +kernel
theorem dX8_compare_99 : decode cX8_compare 99 = .ok (.ineg, 1) := by decide +kernel
theorem dX8_compare_100 : decode cX8_compare 100 = .ok (.goto 4, 3) := by decide +kernel
theorem dX8_compare_103 : decode cX8_compare 103 = .ok (.iload_n 3, 1) := by decide +kernel
theorem dX8_compare_104 : decode cX8_compare 104 = .ok (.ireturn, 1) := by decide +kernel
theorem dX8_character_0 : decode cX8_character 0 = .ok (.aload_n 0, 1) := by decide +kernel
theorem dX8_character_1 : decode cX8_character 1 = .ok (.getfield 23, 3) := by decide +kernel
theorem dX8_character_4 : decode cX8_character 4 = .ok (.aload_n 0, 1) := by decide +kernel
theorem dX8_character_5 : decode cX8_character 5 = .ok (.getfield 158, 3) := by decide +kernel
theorem dX8_character_8 : decode cX8_character 8 = .ok (.iload_n 1, 1) := by decide +kernel
theorem dX8_character_9 : decode cX8_character 9 = .ok (.iastore, 1) := by decide +kernel
theorem dX8_character_10 : decode cX8_character 10 = .ok (.aload_n 0, 1) := by decide +kernel
theorem dX8_character_11 : decode cX8_character 11 = .ok (.dup, 1) := by decide +kernel
theorem dX8_character_12 : decode cX8_character 12 = .ok (.getfield 158, 3) := by decide +kernel
theorem dX8_character_15 : decode cX8_character 15 = .ok (.iconst 1, 1) := by decide +kernel
theorem dX8_character_16 : decode cX8_character 16 = .ok (.iadd, 1) := by decide +kernel
theorem dX8_character_17 : decode cX8_character 17 = .ok (.putfield 158, 3) := by decide +kernel
theorem dX8_character_20 : decode cX8_character 20 = .ok (.return_, 1) := by decide +kernel
theorem dX8_writes_0 : decode cX8_writes 0 = .ok (.aload_n 0, 1) := by decide +kernel
theorem dX8_writes_1 : decode cX8_writes 1 = .ok (.iload_n 1, 1) := by decide +kernel
theorem dX8_writes_2 : decode cX8_writes 2 = .ok (.bipush 37, 2) := by decide +kernel
theorem dX8_writes_4 : decode cX8_writes 4 = .ok (.invokevirtual 51, 3) := by decide +kernel
theorem dX8_writes_7 : decode cX8_writes 7 = .ok (.aload_n 0, 1) := by decide +kernel
theorem dX8_writes_8 : decode cX8_writes 8 = .ok (.getfield 158, 3) := by decide +kernel
theorem dX8_writes_11 : decode cX8_writes 11 = .ok (.istore_n 3, 1) := by decide +kernel
theorem dX8_writes_12 : decode cX8_writes 12 = .ok (.aload_n 0, 1) := by decide +kernel
theorem dX8_writes_13 : decode cX8_writes 13 = .ok (.bipush 37, 2) := by decide +kernel
theorem dX8_writes_15 : decode cX8_writes 15 = .ok (.iload_n 2, 1) := by decide +kernel
theorem dX8_writes_16 : decode cX8_writes 16 = .ok (.invokevirtual 54, 3) := by decide +kernel
theorem dX8_writes_19 : decode cX8_writes 19 = .ok (.istore 4, 2) := by decide +kernel
theorem dX8_writes_21 : decode cX8_writes 21 = .ok (.aload_n 0, 1) := by decide +kernel
theorem dX8_writes_22 : decode cX8_writes 22 = .ok (.iload 4, 2) := by decide +kernel
theorem dX8_writes_24 : decode cX8_writes 24 = .ok (.bipush 10, 2) := by decide +kernel
theorem dX8_writes_26 : decode cX8_writes 26 = .ok (.if_icmp .ge 11, 3) := by decide +kernel
theorem dX8_writes_29 : decode cX8_writes 29 = .ok (.bipush 48, 2) := by decide +kernel
theorem dX8_writes_31 : decode cX8_writes 31 = .ok (.iload 4, 2) := by decide +kernel
theorem dX8_writes_33 : decode cX8_writes 33 = .ok (.iadd, 1) := by decide +kernel
theorem dX8_writes_34 : decode cX8_writes 34 = .ok (.goto 8, 3) := by decide +kernel
theorem dX8_writes_37 : decode cX8_writes 37 = .ok (.bipush 87, 2) := by decide +kernel
theorem dX8_writes_39 : decode cX8_writes 39 = .ok (.iload 4, 2) := by decide +kernel
theorem dX8_writes_41 : decode cX8_writes 41 = .ok (.iadd, 1) := by decide +kernel
theorem dX8_writes_42 : decode cX8_writes 42 = .ok (.invokevirtual 161, 3) := by decide +kernel
theorem dX8_writes_45 : decode cX8_writes 45 = .ok (.aload_n 0, 1) := by decide +kernel
theorem dX8_writes_46 : decode cX8_writes 46 = .ok (.bipush 37, 2) := by decide +kernel
theorem dX8_writes_48 : decode cX8_writes 48 = .ok (.invokevirtual 73, 3) := by decide +kernel
theorem dX8_writes_51 : decode cX8_writes 51 = .ok (.ifCond .eq (-39), 3) := by decide +kernel
theorem dX8_writes_54 : decode cX8_writes 54 = .ok (.iconst 0, 1) := by decide +kernel
theorem dX8_writes_55 : decode cX8_writes 55 = .ok (.istore 4, 2) := by decide +kernel
theorem dX8_writes_57 : decode cX8_writes 57 = .ok (.iload 4, 2) := by decide +kernel
theorem dX8_writes_59 : decode cX8_writes 59 = .ok (.aload_n 0, 1) := by decide +kernel
theorem dX8_writes_60 : decode cX8_writes 60 = .ok (.getfield 158, 3) := by decide +kernel
theorem dX8_writes_63 : decode cX8_writes 63 = .ok (.iload_n 3, 1) := by decide +kernel
theorem dX8_writes_64 : decode cX8_writes 64 = .ok (.isub, 1) := by decide +kernel
theorem dX8_writes_65 : decode cX8_writes 65 = .ok (.iconst 2, 1) := by decide +kernel
theorem dX8_writes_66 : decode cX8_writes 66 = .ok (.idiv, 1) := by decide +kernel
theorem dX8_writes_67 : decode cX8_writes 67 = .ok (.if_icmp .ge 59, 3) := by decide +kernel
theorem dX8_writes_70 : decode cX8_writes 70 = .ok (.aload_n 0, 1) := by decide +kernel
theorem dX8_writes_71 : decode cX8_writes 71 = .ok (.getfield 23, 3) := by decide +kernel
theorem dX8_writes_74 : decode cX8_writes 74 = .ok (.iload_n 3, 1) := by decide +kernel
theorem dX8_writes_75 : decode cX8_writes 75 = .ok (.iload 4, 2) := by decide +kernel
theorem dX8_writes_77 : decode cX8_writes 77 = .ok (.iadd, 1) := by decide +kernel
theorem dX8_writes_78 : decode cX8_writes 78 = .ok (.iaload, 1) := by decide +kernel
theorem dX8_writes_79 : decode cX8_writes 79 = .ok (.istore 5, 2) := by decide +kernel
theorem dX8_writes_81 : decode cX8_writes 81 = .ok (.aload_n 0, 1) := by decide +kernel
theorem dX8_writes_82 : decode cX8_writes 82 = .ok (.getfield 23, 3) := by decide +kernel
theorem dX8_writes_85 : decode cX8_writes 85 = .ok (.iload_n 3, 1) := by decide +kernel
theorem dX8_writes_86 : decode cX8_writes 86 = .ok (.iload 4, 2) := by decide +kernel
theorem dX8_writes_88 : decode cX8_writes 88 = .ok (.iadd, 1) := by decide +kernel
theorem dX8_writes_89 : decode cX8_writes 89 = .ok (.aload_n 0, 1) := by decide +kernel
theorem dX8_writes_90 : decode cX8_writes 90 = .ok (.getfield 23, 3) := by decide +kernel
theorem dX8_writes_93 : decode cX8_writes 93 = .ok (.aload_n 0, 1) := by decide +kernel
theorem dX8_writes_94 : decode cX8_writes 94 = .ok (.getfield 158, 3) := by decide +kernel
theorem dX8_writes_97 : decode cX8_writes 97 = .ok (.iconst 1, 1) := by decide +kernel
theorem dX8_writes_98 : decode cX8_writes 98 = .ok (.isub, 1) := by decide +kernel
theorem dX8_writes_99 : decode cX8_writes 99 = .ok (.iload 4, 2) := by decide +kernel
theorem dX8_writes_101 : decode cX8_writes 101 = .ok (.isub, 1) := by decide +kernel
theorem dX8_writes_102 : decode cX8_writes 102 = .ok (.iaload, 1) := by decide +kernel
theorem dX8_writes_103 : decode cX8_writes 103 = .ok (.iastore, 1) := by decide +kernel
theorem dX8_writes_104 : decode cX8_writes 104 = .ok (.aload_n 0, 1) := by decide +kernel
theorem dX8_writes_105 : decode cX8_writes 105 = .ok (.getfield 23, 3) := by decide +kernel
theorem dX8_writes_108 : decode cX8_writes 108 = .ok (.aload_n 0, 1) := by decide +kernel
theorem dX8_writes_109 : decode cX8_writes 109 = .ok (.getfield 158, 3) := by decide +kernel
theorem dX8_writes_112 : decode cX8_writes 112 = .ok (.iconst 1, 1) := by decide +kernel
theorem dX8_writes_113 : decode cX8_writes 113 = .ok (.isub, 1) := by decide +kernel
theorem dX8_writes_114 : decode cX8_writes 114 = .ok (.iload 4, 2) := by decide +kernel
theorem dX8_writes_116 : decode cX8_writes 116 = .ok (.isub, 1) := by decide +kernel
theorem dX8_writes_117 : decode cX8_writes 117 = .ok (.iload 5, 2) := by decide +kernel
theorem dX8_writes_119 : decode cX8_writes 119 = .ok (.iastore, 1) := by decide +kernel
theorem dX8_writes_120 : decode cX8_writes 120 = .ok (.iinc 4 1, 3) := by decide +kernel
theorem dX8_writes_123 : decode cX8_writes 123 = .ok (.goto (-66), 3) := by decide +kernel
theorem dX8_writes_126 : decode cX8_writes 126 = .ok (.return_, 1) := by decide +kernel
theorem dX8_write_0 : decode cX8_write 0 = .ok (.aload_n 0, 1) := by decide +kernel
theorem dX8_write_1 : decode cX8_write 1 = .ok (.iconst 0, 1) := by decide +kernel
theorem dX8_write_2 : decode cX8_write 2 = .ok (.putfield 30, 3) := by decide +kernel
theorem dX8_write_5 : decode cX8_write 5 = .ok (.iload_n 1, 1) := by decide +kernel
theorem dX8_write_6 : decode cX8_write 6 = .ok (.invokestatic 98, 3) := by decide +kernel
theorem dX8_write_9 : decode cX8_write 9 = .ok (.ifCond .eq 14, 3) := by decide +kernel
theorem dX8_write_12 : decode cX8_write 12 = .ok (.iload_n 2, 1) := by decide +kernel
theorem dX8_write_13 : decode cX8_write 13 = .ok (.iconst 2, 1) := by decide +kernel
theorem dX8_write_14 : decode cX8_write 14 = .ok (.if_icmp .lt 9, 3) := by decide +kernel
theorem dX8_write_17 : decode cX8_write 17 = .ok (.iload_n 2, 1) := by decide +kernel
theorem dX8_write_18 : decode cX8_write 18 = .ok (.bipush 36, 2) := by decide +kernel
theorem dX8_write_20 : decode cX8_write 20 = .ok (.if_icmp .le 5, 3) := by decide +kernel
theorem dX8_write_23 : decode cX8_write 23 = .ok (.iconst (-1), 1) := by decide +kernel
theorem dX8_write_24 : decode cX8_write 24 = .ok (.ireturn, 1) := by decide +kernel
theorem dX8_write_25 : decode cX8_write 25 = .ok (.aload_n 0, 1) := by decide +kernel
theorem dX8_write_26 : decode cX8_write 26 = .ok (.iconst 0, 1) := by decide +kernel
theorem dX8_write_27 : decode cX8_write 27 = .ok (.putfield 158, 3) := by decide +kernel
theorem dX8_write_30 : decode cX8_write 30 = .ok (.aload_n 0, 1) := by decide +kernel
theorem dX8_write_31 : decode cX8_write 31 = .ok (.getfield 16, 3) := by decide +kernel
theorem dX8_write_34 : decode cX8_write 34 = .ok (.iload_n 1, 1) := by decide +kernel
theorem dX8_write_35 : decode cX8_write 35 = .ok (.baload, 1) := by decide +kernel
theorem dX8_write_36 : decode cX8_write 36 = .ok (.ifCond .eq 9, 3) := by decide +kernel
theorem dX8_write_39 : decode cX8_write 39 = .ok (.aload_n 0, 1) := by decide +kernel
theorem dX8_write_40 : decode cX8_write 40 = .ok (.bipush 45, 2) := by decide +kernel
theorem dX8_write_42 : decode cX8_write 42 = .ok (.invokevirtual 161, 3) := by decide +kernel
theorem dX8_write_45 : decode cX8_write 45 = .ok (.aload_n 0, 1) := by decide +kernel
theorem dX8_write_46 : decode cX8_write 46 = .ok (.iconst 2, 1) := by decide +kernel
theorem dX8_write_47 : decode cX8_write 47 = .ok (.iload_n 1, 1) := by decide +kernel
theorem dX8_write_48 : decode cX8_write 48 = .ok (.imul, 1) := by decide +kernel
theorem dX8_write_49 : decode cX8_write 49 = .ok (.iload_n 2, 1) := by decide +kernel
theorem dX8_write_50 : decode cX8_write 50 = .ok (.invokevirtual 164, 3) := by decide +kernel
theorem dX8_write_53 : decode cX8_write 53 = .ok (.aload_n 0, 1) := by decide +kernel
theorem dX8_write_54 : decode cX8_write 54 = .ok (.iload_n 1, 1) := by decide +kernel
theorem dX8_write_55 : decode cX8_write 55 = .ok (.invokevirtual 127, 3) := by decide +kernel
theorem dX8_write_58 : decode cX8_write 58 = .ok (.ifCond .ne 19, 3) := by decide +kernel
theorem dX8_write_61 : decode cX8_write 61 = .ok (.aload_n 0, 1) := by decide +kernel
theorem dX8_write_62 : decode cX8_write 62 = .ok (.bipush 47, 2) := by decide +kernel
theorem dX8_write_64 : decode cX8_write 64 = .ok (.invokevirtual 161, 3) := by decide +kernel
theorem dX8_write_67 : decode cX8_write 67 = .ok (.aload_n 0, 1) := by decide +kernel
theorem dX8_write_68 : decode cX8_write 68 = .ok (.iconst 2, 1) := by decide +kernel
theorem dX8_write_69 : decode cX8_write 69 = .ok (.iload_n 1, 1) := by decide +kernel
theorem dX8_write_70 : decode cX8_write 70 = .ok (.imul, 1) := by decide +kernel
theorem dX8_write_71 : decode cX8_write 71 = .ok (.iconst 1, 1) := by decide +kernel
theorem dX8_write_72 : decode cX8_write 72 = .ok (.iadd, 1) := by decide +kernel
theorem dX8_write_73 : decode cX8_write 73 = .ok (.iload_n 2, 1) := by decide +kernel
theorem dX8_write_74 : decode cX8_write 74 = .ok (.invokevirtual 164, 3) := by decide +kernel
theorem dX8_write_77 : decode cX8_write 77 = .ok (.aload_n 0, 1) := by decide +kernel
theorem dX8_write_78 : decode cX8_write 78 = .ok (.getfield 158, 3) := by decide +kernel
theorem dX8_write_81 : decode cX8_write 81 = .ok (.ireturn, 1) := by decide +kernel
theorem dX8_textAt_0 : decode cX8_textAt 0 = .ok (.aload_n 0, 1) := by decide +kernel
theorem dX8_textAt_1 : decode cX8_textAt 1 = .ok (.iload_n 1, 1) := by decide +kernel
theorem dX8_textAt_2 : decode cX8_textAt 2 = .ok (.ifCond .lt 11, 3) := by decide +kernel
theorem dX8_textAt_5 : decode cX8_textAt 5 = .ok (.iload_n 1, 1) := by decide +kernel
theorem dX8_textAt_6 : decode cX8_textAt 6 = .ok (.aload_n 0, 1) := by decide +kernel
theorem dX8_textAt_7 : decode cX8_textAt 7 = .ok (.getfield 158, 3) := by decide +kernel
theorem dX8_textAt_10 : decode cX8_textAt 10 = .ok (.if_icmp .lt 7, 3) := by decide +kernel
theorem dX8_textAt_13 : decode cX8_textAt 13 = .ok (.iconst 1, 1) := by decide +kernel
theorem dX8_textAt_14 : decode cX8_textAt 14 = .ok (.goto 4, 3) := by decide +kernel
theorem dX8_textAt_17 : decode cX8_textAt 17 = .ok (.iconst 0, 1) := by decide +kernel
theorem dX8_textAt_18 : decode cX8_textAt 18 = .ok (.putfield 30, 3) := by decide +kernel
theorem dX8_textAt_21 : decode cX8_textAt 21 = .ok (.aload_n 0, 1) := by decide +kernel
theorem dX8_textAt_22 : decode cX8_textAt 22 = .ok (.getfield 30, 3) := by decide +kernel
theorem dX8_textAt_25 : decode cX8_textAt 25 = .ok (.ifCond .ne 12, 3) := by decide +kernel
theorem dX8_textAt_28 : decode cX8_textAt 28 = .ok (.aload_n 0, 1) := by decide +kernel
theorem dX8_textAt_29 : decode cX8_textAt 29 = .ok (.getfield 23, 3) := by decide +kernel
theorem dX8_textAt_32 : decode cX8_textAt 32 = .ok (.iload_n 1, 1) := by decide +kernel
theorem dX8_textAt_33 : decode cX8_textAt 33 = .ok (.iaload, 1) := by decide +kernel
theorem dX8_textAt_34 : decode cX8_textAt 34 = .ok (.goto 4, 3) := by decide +kernel
theorem dX8_textAt_37 : decode cX8_textAt 37 = .ok (.iconst 0, 1) := by decide +kernel
theorem dX8_textAt_38 : decode cX8_textAt 38 = .ok (.ireturn, 1) := by decide +kernel
theorem dX8_bits_0 : decode cX8_bits 0 = .ok (.aload_n 0, 1) := by decide +kernel
theorem dX8_bits_1 : decode cX8_bits 1 = .ok (.iconst 0, 1) := by decide +kernel
theorem dX8_bits_2 : decode cX8_bits 2 = .ok (.putfield 30, 3) := by decide +kernel
theorem dX8_bits_5 : decode cX8_bits 5 = .ok (.iload_n 1, 1) := by decide +kernel
theorem dX8_bits_6 : decode cX8_bits 6 = .ok (.invokestatic 98, 3) := by decide +kernel
theorem dX8_bits_9 : decode cX8_bits 9 = .ok (.ifCond .eq 13, 3) := by decide +kernel
theorem dX8_bits_12 : decode cX8_bits 12 = .ok (.aload_n 0, 1) := by decide +kernel
theorem dX8_bits_13 : decode cX8_bits 13 = .ok (.iconst 2, 1) := by decide +kernel
theorem dX8_bits_14 : decode cX8_bits 14 = .ok (.iload_n 1, 1) := by decide +kernel
theorem dX8_bits_15 : decode cX8_bits 15 = .ok (.imul, 1) := by decide +kernel
theorem dX8_bits_16 : decode cX8_bits 16 = .ok (.invokevirtual 121, 3) := by decide +kernel
theorem dX8_bits_19 : decode cX8_bits 19 = .ok (.goto 4, 3) := by decide +kernel
theorem dX8_bits_22 : decode cX8_bits 22 = .ok (.iconst (-1), 1) := by decide +kernel
theorem dX8_bits_23 : decode cX8_bits 23 = .ok (.ireturn, 1) := by decide +kernel
theorem dX8_isInteger_0 : decode cX8_isInteger 0 = .ok (.aload_n 0, 1) := by decide +kernel
theorem dX8_isInteger_1 : decode cX8_isInteger 1 = .ok (.iconst 0, 1) := by decide +kernel
theorem dX8_isInteger_2 : decode cX8_isInteger 2 = .ok (.putfield 30, 3) := by decide +kernel
theorem dX8_isInteger_5 : decode cX8_isInteger 5 = .ok (.iload_n 1, 1) := by decide +kernel
theorem dX8_isInteger_6 : decode cX8_isInteger 6 = .ok (.invokestatic 98, 3) := by decide +kernel
theorem dX8_isInteger_9 : decode cX8_isInteger 9 = .ok (.ifCond .eq 15, 3) := by decide +kernel
theorem dX8_isInteger_12 : decode cX8_isInteger 12 = .ok (.aload_n 0, 1) := by decide +kernel
theorem dX8_isInteger_13 : decode cX8_isInteger 13 = .ok (.iload_n 1, 1) := by decide +kernel
theorem dX8_isInteger_14 : decode cX8_isInteger 14 = .ok (.invokevirtual 127, 3) := by decide +kernel
theorem dX8_isInteger_17 : decode cX8_isInteger 17 = .ok (.ifCond .eq 7, 3) := by decide +kernel
theorem dX8_isInteger_20 : decode cX8_isInteger 20 = .ok (.iconst 1, 1) := by decide +kernel
theorem dX8_isInteger_21 : decode cX8_isInteger 21 = .ok (.goto 4, 3) := by decide +kernel
theorem dX8_isInteger_24 : decode cX8_isInteger 24 = .ok (.iconst 0, 1) := by decide +kernel
theorem dX8_isInteger_25 : decode cX8_isInteger 25 = .ok (.ireturn, 1) := by decide +kernel
