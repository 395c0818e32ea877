theorem dX0_init_0 : decode cX0_init 0 = .ok (.aload_n 0, 1) := by decide +kernel
theorem dX0_init_1 : decode cX0_init 1 = .ok (.invokespecial 3, 3) := by decide +kernel
theorem dX0_init_4 : decode cX0_init 4 = .ok (.aload_n 0, 1) := by decide +kernel
theorem dX0_init_5 : decode cX0_init 5 = .ok (.bipush 20, 2) := by decide +kernel
theorem dX0_init_7 : decode cX0_init 7 = .ok (.newarray .int, 2) := by decide +kernel
theorem dX0_init_9 : decode cX0_init 9 = .ok (.putfield 9, 3) := by decide +kernel
theorem dX0_init_12 : decode cX0_init 12 = .ok (.aload_n 0, 1) := by decide +kernel
theorem dX0_init_13 : decode cX0_init 13 = .ok (.bipush 20, 2) := by decide +kernel
theorem dX0_init_15 : decode cX0_init 15 = .ok (.newarray .int, 2) := by decide +kernel
theorem dX0_init_17 : decode cX0_init 17 = .ok (.putfield 15, 3) := by decide +kernel
theorem dX0_init_20 : decode cX0_init 20 = .ok (.aload_n 0, 1) := by decide +kernel
theorem dX0_init_21 : decode cX0_init 21 = .ok (.bipush 20, 2) := by decide +kernel
theorem dX0_init_23 : decode cX0_init 23 = .ok (.newarray .int, 2) := by decide +kernel
theorem dX0_init_25 : decode cX0_init 25 = .ok (.putfield 18, 3) := by decide +kernel
theorem dX0_init_28 : decode cX0_init 28 = .ok (.return_, 1) := by decide +kernel
theorem dX0_append_0 : decode cX0_append 0 = .ok (.aload_n 0, 1) := by decide +kernel
theorem dX0_append_1 : decode cX0_append 1 = .ok (.getfield 9, 3) := by decide +kernel
theorem dX0_append_4 : decode cX0_append 4 = .ok (.aload_n 0, 1) := by decide +kernel
theorem dX0_append_5 : decode cX0_append 5 = .ok (.getfield 21, 3) := by decide +kernel
theorem dX0_append_8 : decode cX0_append 8 = .ok (.iload_n 1, 1) := by decide +kernel
theorem dX0_append_9 : decode cX0_append 9 = .ok (.iastore, 1) := by decide +kernel
theorem dX0_append_10 : decode cX0_append 10 = .ok (.aload_n 0, 1) := by decide +kernel
theorem dX0_append_11 : decode cX0_append 11 = .ok (.getfield 15, 3) := by decide +kernel
theorem dX0_append_14 : decode cX0_append 14 = .ok (.aload_n 0, 1) := by decide +kernel
theorem dX0_append_15 : decode cX0_append 15 = .ok (.getfield 21, 3) := by decide +kernel
theorem dX0_append_18 : decode cX0_append 18 = .ok (.iload_n 2, 1) := by decide +kernel
theorem dX0_append_19 : decode cX0_append 19 = .ok (.iastore, 1) := by decide +kernel
theorem dX0_append_20 : decode cX0_append 20 = .ok (.aload_n 0, 1) := by decide +kernel
theorem dX0_append_21 : decode cX0_append 21 = .ok (.getfield 18, 3) := by decide +kernel
theorem dX0_append_24 : decode cX0_append 24 = .ok (.aload_n 0, 1) := by decide +kernel
theorem dX0_append_25 : decode cX0_append 25 = .ok (.getfield 21, 3) := by decide +kernel
theorem dX0_append_28 : decode cX0_append 28 = .ok (.iload_n 3, 1) := by decide +kernel
theorem dX0_append_29 : decode cX0_append 29 = .ok (.iastore, 1) := by decide +kernel
theorem dX0_append_30 : decode cX0_append 30 = .ok (.aload_n 0, 1) := by decide +kernel
theorem dX0_append_31 : decode cX0_append 31 = .ok (.dup, 1) := by decide +kernel
theorem dX0_append_32 : decode cX0_append 32 = .ok (.getfield 21, 3) := by decide +kernel
theorem dX0_append_35 : decode cX0_append 35 = .ok (.iconst 1, 1) := by decide +kernel
theorem dX0_append_36 : decode cX0_append 36 = .ok (.iadd, 1) := by decide +kernel
theorem dX0_append_37 : decode cX0_append 37 = .ok (.putfield 21, 3) := by decide +kernel
theorem dX0_append_40 : decode cX0_append 40 = .ok (.return_, 1) := by decide +kernel
theorem dX0_firstBeyond_0 : decode cX0_firstBeyond 0 = .ok (.iconst 0, 1) := by decide +kernel
theorem dX0_firstBeyond_1 : decode cX0_firstBeyond 1 = .ok (.istore_n 2, 1) := by decide +kernel
theorem dX0_firstBeyond_2 : decode cX0_firstBeyond 2 = .ok (.iload_n 2, 1) := by decide +kernel
theorem dX0_firstBeyond_3 : decode cX0_firstBeyond 3 = .ok (.aload_n 0, 1) := by decide +kernel
theorem dX0_firstBeyond_4 : decode cX0_firstBeyond 4 = .ok (.getfield 21, 3) := by decide +kernel
theorem dX0_firstBeyond_7 : decode cX0_firstBeyond 7 = .ok (.if_icmp .ge 19, 3) := by decide +kernel
theorem dX0_firstBeyond_10 : decode cX0_firstBeyond 10 = .ok (.aload_n 0, 1) := by decide +kernel
theorem dX0_firstBeyond_11 : decode cX0_firstBeyond 11 = .ok (.getfield 9, 3) := by decide +kernel
theorem dX0_firstBeyond_14 : decode cX0_firstBeyond 14 = .ok (.iload_n 2, 1) := by decide +kernel
theorem dX0_firstBeyond_15 : decode cX0_firstBeyond 15 = .ok (.iaload, 1) := by decide +kernel
theorem dX0_firstBeyond_16 : decode cX0_firstBeyond 16 = .ok (.iload_n 1, 1) := by decide +kernel
theorem dX0_firstBeyond_17 : decode cX0_firstBeyond 17 = .ok (.if_icmp .ge 9, 3) := by decide +kernel
theorem dX0_firstBeyond_20 : decode cX0_firstBeyond 20 = .ok (.iinc 2 1, 3) := by decide +kernel
theorem dX0_firstBeyond_23 : decode cX0_firstBeyond 23 = .ok (.goto (-21), 3) := by decide +kernel
theorem dX0_firstBeyond_26 : decode cX0_firstBeyond 26 = .ok (.iload_n 2, 1) := by decide +kernel
theorem dX0_firstBeyond_27 : decode cX0_firstBeyond 27 = .ok (.ireturn, 1) := by decide +kernel
theorem dX0_firstOtherwise_0 : decode cX0_firstOtherwise 0 = .ok (.iconst 0, 1) := by decide +kernel
theorem dX0_firstOtherwise_1 : decode cX0_firstOtherwise 1 = .ok (.istore 4, 2) := by decide +kernel
theorem dX0_firstOtherwise_3 : decode cX0_firstOtherwise 3 = .ok (.iload 4, 2) := by decide +kernel
theorem dX0_firstOtherwise_5 : decode cX0_firstOtherwise 5 = .ok (.iload_n 3, 1) := by decide +kernel
theorem dX0_firstOtherwise_6 : decode cX0_firstOtherwise 6 = .ok (.if_icmp .ge 42, 3) := by decide +kernel
theorem dX0_firstOtherwise_9 : decode cX0_firstOtherwise 9 = .ok (.aload_n 0, 1) := by decide +kernel
theorem dX0_firstOtherwise_10 : decode cX0_firstOtherwise 10 = .ok (.getfield 15, 3) := by decide +kernel
theorem dX0_firstOtherwise_13 : decode cX0_firstOtherwise 13 = .ok (.iload 4, 2) := by decide +kernel
theorem dX0_firstOtherwise_15 : decode cX0_firstOtherwise 15 = .ok (.iaload, 1) := by decide +kernel
theorem dX0_firstOtherwise_16 : decode cX0_firstOtherwise 16 = .ok (.iload_n 1, 1) := by decide +kernel
theorem dX0_firstOtherwise_17 : decode cX0_firstOtherwise 17 = .ok (.if_icmp .ne 25, 3) := by decide +kernel
theorem dX0_firstOtherwise_20 : decode cX0_firstOtherwise 20 = .ok (.aload_n 2, 1) := by decide +kernel
theorem dX0_firstOtherwise_21 : decode cX0_firstOtherwise 21 = .ok (.aload_n 0, 1) := by decide +kernel
theorem dX0_firstOtherwise_22 : decode cX0_firstOtherwise 22 = .ok (.getfield 9, 3) := by decide +kernel
theorem dX0_firstOtherwise_25 : decode cX0_firstOtherwise 25 = .ok (.iload 4, 2) := by decide +kernel
theorem dX0_firstOtherwise_27 : decode cX0_firstOtherwise 27 = .ok (.iaload, 1) := by decide +kernel
theorem dX0_firstOtherwise_28 : decode cX0_firstOtherwise 28 = .ok (.iaload, 1) := by decide +kernel
theorem dX0_firstOtherwise_29 : decode cX0_firstOtherwise 29 = .ok (.aload_n 0, 1) := by decide +kernel
theorem dX0_firstOtherwise_30 : decode cX0_firstOtherwise 30 = .ok (.getfield 18, 3) := by decide +kernel
theorem dX0_firstOtherwise_33 : decode cX0_firstOtherwise 33 = .ok (.iload 4, 2) := by decide +kernel
theorem dX0_firstOtherwise_35 : decode cX0_firstOtherwise 35 = .ok (.iaload, 1) := by decide +kernel
theorem dX0_firstOtherwise_36 : decode cX0_firstOtherwise 36 = .ok (.if_icmp .eq 6, 3) := by decide +kernel
theorem dX0_firstOtherwise_39 : decode cX0_firstOtherwise 39 = .ok (.iload 4, 2) := by decide +kernel
theorem dX0_firstOtherwise_41 : decode cX0_firstOtherwise 41 = .ok (.ireturn, 1) := by decide +kernel
theorem dX0_firstOtherwise_42 : decode cX0_firstOtherwise 42 = .ok (.iinc 4 1, 3) := by decide +kernel
theorem dX0_firstOtherwise_45 : decode cX0_firstOtherwise 45 = .ok (.goto (-42), 3) := by decide +kernel
theorem dX0_firstOtherwise_48 : decode cX0_firstOtherwise 48 = .ok (.iload_n 3, 1) := by decide +kernel
theorem dX0_firstOtherwise_49 : decode cX0_firstOtherwise 49 = .ok (.ireturn, 1) := by decide +kernel
theorem dX1_init_0 : decode cX1_init 0 = .ok (.aload_n 0, 1) := by decide +kernel
theorem dX1_init_1 : decode cX1_init 1 = .ok (.iconst 5, 1) := by decide +kernel
theorem dX1_init_2 : decode cX1_init 2 = .ok (.invokespecial 3, 3) := by decide +kernel
theorem dX1_init_5 : decode cX1_init 5 = .ok (.aload_n 0, 1) := by decide +kernel
theorem dX1_init_6 : decode cX1_init 6 = .ok (.iconst 4, 1) := by decide +kernel
theorem dX1_init_7 : decode cX1_init 7 = .ok (.newarray .int, 2) := by decide +kernel
theorem dX1_init_9 : decode cX1_init 9 = .ok (.putfield 9, 3) := by decide +kernel
theorem dX1_init_12 : decode cX1_init 12 = .ok (.return_, 1) := by decide +kernel
theorem dX1_clear_0 : decode cX1_clear 0 = .ok (.aload_n 0, 1) := by decide +kernel
theorem dX1_clear_1 : decode cX1_clear 1 = .ok (.aload_n 1, 1) := by decide +kernel
theorem dX1_clear_2 : decode cX1_clear 2 = .ok (.getfield 15, 3) := by decide +kernel
theorem dX1_clear_5 : decode cX1_clear 5 = .ok (.putfield 21, 3) := by decide +kernel
theorem dX1_clear_8 : decode cX1_clear 8 = .ok (.aload_n 0, 1) := by decide +kernel
theorem dX1_clear_9 : decode cX1_clear 9 = .ok (.lconst 1, 1) := by decide +kernel
theorem dX1_clear_10 : decode cX1_clear 10 = .ok (.putfield 22, 3) := by decide +kernel
theorem dX1_clear_13 : decode cX1_clear 13 = .ok (.iconst 0, 1) := by decide +kernel
theorem dX1_clear_14 : decode cX1_clear 14 = .ok (.istore_n 2, 1) := by decide +kernel
theorem dX1_clear_15 : decode cX1_clear 15 = .ok (.iload_n 2, 1) := by decide +kernel
theorem dX1_clear_16 : decode cX1_clear 16 = .ok (.iconst 4, 1) := by decide +kernel
theorem dX1_clear_17 : decode cX1_clear 17 = .ok (.if_icmp .ge 37, 3) := by decide +kernel
theorem dX1_clear_20 : decode cX1_clear 20 = .ok (.iconst 0, 1) := by decide +kernel
theorem dX1_clear_21 : decode cX1_clear 21 = .ok (.istore_n 3, 1) := by decide +kernel
theorem dX1_clear_22 : decode cX1_clear 22 = .ok (.iload_n 3, 1) := by decide +kernel
theorem dX1_clear_23 : decode cX1_clear 23 = .ok (.iconst 5, 1) := by decide +kernel
theorem dX1_clear_24 : decode cX1_clear 24 = .ok (.if_icmp .ge 24, 3) := by decide +kernel
theorem dX1_clear_27 : decode cX1_clear 27 = .ok (.aload_n 0, 1) := by decide +kernel
theorem dX1_clear_28 : decode cX1_clear 28 = .ok (.getfield 26, 3) := by decide +kernel
theorem dX1_clear_31 : decode cX1_clear 31 = .ok (.iload_n 2, 1) := by decide +kernel
theorem dX1_clear_32 : decode cX1_clear 32 = .ok (.aaload, 1) := by decide +kernel
theorem dX1_clear_33 : decode cX1_clear 33 = .ok (.iload_n 3, 1) := by decide +kernel
theorem dX1_clear_34 : decode cX1_clear 34 = .ok (.aload_n 1, 1) := by decide +kernel
theorem dX1_clear_35 : decode cX1_clear 35 = .ok (.iload_n 2, 1) := by decide +kernel
theorem dX1_clear_36 : decode cX1_clear 36 = .ok (.iload_n 3, 1) := by decide +kernel
theorem dX1_clear_37 : decode cX1_clear 37 = .ok (.invokevirtual 30, 3) := by decide +kernel
theorem dX1_clear_40 : decode cX1_clear 40 = .ok (.i2l, 1) := by decide +kernel
theorem dX1_clear_41 : decode cX1_clear 41 = .ok (.lastore, 1) := by decide +kernel
theorem dX1_clear_42 : decode cX1_clear 42 = .ok (.iinc 3 1, 3) := by decide +kernel
theorem dX1_clear_45 : decode cX1_clear 45 = .ok (.goto (-23), 3) := by decide +kernel
theorem dX1_clear_48 : decode cX1_clear 48 = .ok (.iinc 2 1, 3) := by decide +kernel
theorem dX1_clear_51 : decode cX1_clear 51 = .ok (.goto (-36), 3) := by decide +kernel
theorem dX1_clear_54 : decode cX1_clear 54 = .ok (.aload_n 0, 1) := by decide +kernel
theorem dX1_clear_55 : decode cX1_clear 55 = .ok (.invokevirtual 34, 3) := by decide +kernel
theorem dX1_clear_58 : decode cX1_clear 58 = .ok (.return_, 1) := by decide +kernel
theorem dX1_clearColumn_0 : decode cX1_clearColumn 0 = .ok (.iconst 0, 1) := by decide +kernel
theorem dX1_clearColumn_1 : decode cX1_clearColumn 1 = .ok (.istore_n 2, 1) := by decide +kernel
theorem dX1_clearColumn_2 : decode cX1_clearColumn 2 = .ok (.iload_n 2, 1) := by decide +kernel
theorem dX1_clearColumn_3 : decode cX1_clearColumn 3 = .ok (.aload_n 0, 1) := by decide +kernel
theorem dX1_clearColumn_4 : decode cX1_clearColumn 4 = .ok (.getfield 21, 3) := by decide +kernel
theorem dX1_clearColumn_7 : decode cX1_clearColumn 7 = .ok (.if_icmp .ge 23, 3) := by decide +kernel
theorem dX1_clearColumn_10 : decode cX1_clearColumn 10 = .ok (.iload_n 2, 1) := by decide +kernel
theorem dX1_clearColumn_11 : decode cX1_clearColumn 11 = .ok (.aload_n 0, 1) := by decide +kernel
theorem dX1_clearColumn_12 : decode cX1_clearColumn 12 = .ok (.getfield 38, 3) := by decide +kernel
theorem dX1_clearColumn_15 : decode cX1_clearColumn 15 = .ok (.if_icmp .eq 9, 3) := by decide +kernel
theorem dX1_clearColumn_18 : decode cX1_clearColumn 18 = .ok (.aload_n 0, 1) := by decide +kernel
theorem dX1_clearColumn_19 : decode cX1_clearColumn 19 = .ok (.iload_n 2, 1) := by decide +kernel
theorem dX1_clearColumn_20 : decode cX1_clearColumn 20 = .ok (.iload_n 1, 1) := by decide +kernel
theorem dX1_clearColumn_21 : decode cX1_clearColumn 21 = .ok (.invokevirtual 41, 3) := by decide +kernel
theorem dX1_clearColumn_24 : decode cX1_clearColumn 24 = .ok (.iinc 2 1, 3) := by decide +kernel
theorem dX1_clearColumn_27 : decode cX1_clearColumn 27 = .ok (.goto (-25), 3) := by decide +kernel
theorem dX1_clearColumn_30 : decode cX1_clearColumn 30 = .ok (.aload_n 0, 1) := by decide +kernel
theorem dX1_clearColumn_31 : decode cX1_clearColumn 31 = .ok (.aload_n 0, 1) := by decide +kernel
theorem dX1_clearColumn_32 : decode cX1_clearColumn 32 = .ok (.getfield 26, 3) := by decide +kernel
theorem dX1_clearColumn_35 : decode cX1_clearColumn 35 = .ok (.aload_n 0, 1) := by decide +kernel
theorem dX1_clearColumn_36 : decode cX1_clearColumn 36 = .ok (.getfield 38, 3) := by decide +kernel
theorem dX1_clearColumn_39 : decode cX1_clearColumn 39 = .ok (.aaload, 1) := by decide +kernel
theorem dX1_clearColumn_40 : decode cX1_clearColumn 40 = .ok (.iload_n 1, 1) := by decide +kernel
theorem dX1_clearColumn_41 : decode cX1_clearColumn 41 = .ok (.laload, 1) := by decide +kernel
theorem dX1_clearColumn_42 : decode cX1_clearColumn 42 = .ok (.putfield 22, 3) := by decide +kernel
theorem dX1_clearColumn_45 : decode cX1_clearColumn 45 = .ok (.aload_n 0, 1) := by decide +kernel
theorem dX1_clearColumn_46 : decode cX1_clearColumn 46 = .ok (.getfield 9, 3) := by decide +kernel
theorem dX1_clearColumn_49 : decode cX1_clearColumn 49 = .ok (.aload_n 0, 1) := by decide +kernel
theorem dX1_clearColumn_50 : decode cX1_clearColumn 50 = .ok (.getfield 38, 3) := by decide +kernel
theorem dX1_clearColumn_53 : decode cX1_clearColumn 53 = .ok (.iload_n 1, 1) := by decide +kernel
theorem dX1_clearColumn_54 : decode cX1_clearColumn 54 = .ok (.iastore, 1) := by decide +kernel
theorem dX1_clearColumn_55 : decode cX1_clearColumn 55 = .ok (.return_, 1) := by decide +kernel
theorem dX1_clearRow_0 : decode cX1_clearRow 0 = .ok (.aload_n 0, 1) := by decide +kernel
theorem dX1_clearRow_1 : decode cX1_clearRow 1 = .ok (.getfield 26, 3) := by decide +kernel
theorem dX1_clearRow_4 : decode cX1_clearRow 4 = .ok (.aload_n 0, 1) := by decide +kernel
theorem dX1_clearRow_5 : decode cX1_clearRow 5 = .ok (.getfield 38, 3) := by decide +kernel
theorem dX1_clearRow_8 : decode cX1_clearRow 8 = .ok (.aaload, 1) := by decide +kernel
theorem dX1_clearRow_9 : decode cX1_clearRow 9 = .ok (.iload_n 2, 1) := by decide +kernel
theorem dX1_clearRow_10 : decode cX1_clearRow 10 = .ok (.laload, 1) := by decide +kernel
theorem dX1_clearRow_11 : decode cX1_clearRow 11 = .ok (.lstore_n 3, 1) := by decide +kernel
theorem dX1_clearRow_12 : decode cX1_clearRow 12 = .ok (.aload_n 0, 1) := by decide +kernel
theorem dX1_clearRow_13 : decode cX1_clearRow 13 = .ok (.getfield 26, 3) := by decide +kernel
theorem dX1_clearRow_16 : decode cX1_clearRow 16 = .ok (.iload_n 1, 1) := by decide +kernel
theorem dX1_clearRow_17 : decode cX1_clearRow 17 = .ok (.aaload, 1) := by decide +kernel
theorem dX1_clearRow_18 : decode cX1_clearRow 18 = .ok (.iload_n 2, 1) := by decide +kernel
theorem dX1_clearRow_19 : decode cX1_clearRow 19 = .ok (.laload, 1) := by decide +kernel
theorem dX1_clearRow_20 : decode cX1_clearRow 20 = .ok (.lstore 5, 2) := by decide +kernel
theorem dX1_clearRow_22 : decode cX1_clearRow 22 = .ok (.iconst 0, 1) := by decide +kernel
theorem dX1_clearRow_23 : decode cX1_clearRow 23 = .ok (.istore 7, 2) := by decide +kernel
theorem dX1_clearRow_25 : decode cX1_clearRow 25 = .ok (.iload 7, 2) := by decide +kernel
theorem dX1_clearRow_27 : decode cX1_clearRow 27 = .ok (.iconst 5, 1) := by decide +kernel
theorem dX1_clearRow_28 : decode cX1_clearRow 28 = .ok (.if_icmp .ge 52, 3) := by decide +kernel
theorem dX1_clearRow_31 : decode cX1_clearRow 31 = .ok (.aload_n 0, 1) := by decide +kernel
theorem dX1_clearRow_32 : decode cX1_clearRow 32 = .ok (.getfield 26, 3) := by decide +kernel
theorem dX1_clearRow_35 : decode cX1_clearRow 35 = .ok (.iload_n 1, 1) := by decide +kernel
theorem dX1_clearRow_36 : decode cX1_clearRow 36 = .ok (.aaload, 1) := by decide +kernel
theorem dX1_clearRow_37 : decode cX1_clearRow 37 = .ok (.iload 7, 2) := by decide +kernel
theorem dX1_clearRow_39 : decode cX1_clearRow 39 = .ok (.lload_n 3, 1) := by decide +kernel
theorem dX1_clearRow_40 : decode cX1_clearRow 40 = .ok (.aload_n 0, 1) := by decide +kernel
theorem dX1_clearRow_41 : decode cX1_clearRow 41 = .ok (.getfield 26, 3) := by decide +kernel
theorem dX1_clearRow_44 : decode cX1_clearRow 44 = .ok (.iload_n 1, 1) := by decide +kernel
theorem dX1_clearRow_45 : decode cX1_clearRow 45 = .ok (.aaload, 1) := by decide +kernel
theorem dX1_clearRow_46 : decode cX1_clearRow 46 = .ok (.iload 7, 2) := by decide +kernel
theorem dX1_clearRow_48 : decode cX1_clearRow 48 = .ok (.laload, 1) := by decide +kernel
theorem dX1_clearRow_49 : decode cX1_clearRow 49 = .ok (.lmul, 1) := by decide +kernel
theorem dX1_clearRow_50 : decode cX1_clearRow 50 = .ok (.lload 5, 2) := by decide +kernel
theorem dX1_clearRow_52 : decode cX1_clearRow 52 = .ok (.aload_n 0, 1) := by decide +kernel
theorem dX1_clearRow_53 : decode cX1_clearRow 53 = .ok (.getfield 26, 3) := by decide +kernel
theorem dX1_clearRow_56 : decode cX1_clearRow 56 = .ok (.aload_n 0, 1) := by decide +kernel
theorem dX1_clearRow_57 : decode cX1_clearRow 57 = .ok (.getfield 38, 3) := by decide +kernel
theorem dX1_clearRow_60 : decode cX1_clearRow 60 = .ok (.aaload, 1) := by decide +kernel
theorem dX1_clearRow_61 : decode cX1_clearRow 61 = .ok (.iload 7, 2) := by decide +kernel
theorem dX1_clearRow_63 : decode cX1_clearRow 63 = .ok (.laload, 1) := by decide +kernel
theorem dX1_clearRow_64 : decode cX1_clearRow 64 = .ok (.lmul, 1) := by decide +kernel
theorem dX1_clearRow_65 : decode cX1_clearRow 65 = .ok (.lsub, 1) := by decide +kernel
theorem dX1_clearRow_66 : decode cX1_clearRow 66 = .ok (.aload_n 0, 1) := by decide +kernel
theorem dX1_clearRow_67 : decode cX1_clearRow 67 = .ok (.getfield 22, 3) := by decide +kernel
theorem dX1_clearRow_70 : decode cX1_clearRow 70 = .ok (.invokestatic 45, 3) := by decide +kernel
theorem dX1_clearRow_73 : decode cX1_clearRow 73 = .ok (.lastore, 1) := by decide +kernel
theorem dX1_clearRow_74 : decode cX1_clearRow 74 = .ok (.iinc 7 1, 3) := by decide +kernel
theorem dX1_clearRow_77 : decode cX1_clearRow 77 = .ok (.goto (-52), 3) := by decide +kernel
theorem dX1_clearRow_80 : decode cX1_clearRow 80 = .ok (.return_, 1) := by decide +kernel
theorem dX1_determinant_0 : decode cX1_determinant 0 = .ok (.aload_n 0, 1) := by decide +kernel
theorem dX1_determinant_1 : decode cX1_determinant 1 = .ok (.getfield 38, 3) := by decide +kernel
theorem dX1_determinant_4 : decode cX1_determinant 4 = .ok (.aload_n 0, 1) := by decide +kernel
theorem dX1_determinant_5 : decode cX1_determinant 5 = .ok (.getfield 21, 3) := by decide +kernel
theorem dX1_determinant_8 : decode cX1_determinant 8 = .ok (.if_icmp .ge 5, 3) := by decide +kernel
theorem dX1_determinant_11 : decode cX1_determinant 11 = .ok (.lconst 0, 1) := by decide +kernel
theorem dX1_determinant_12 : decode cX1_determinant 12 = .ok (.lreturn, 1) := by decide +kernel
theorem dX1_determinant_13 : decode cX1_determinant 13 = .ok (.aload_n 0, 1) := by decide +kernel
theorem dX1_determinant_14 : decode cX1_determinant 14 = .ok (.getfield 49, 3) := by decide +kernel
theorem dX1_determinant_17 : decode cX1_determinant 17 = .ok (.iconst 2, 1) := by decide +kernel
theorem dX1_determinant_18 : decode cX1_determinant 18 = .ok (.irem, 1) := by decide +kernel
theorem dX1_determinant_19 : decode cX1_determinant 19 = .ok (.ifCond .ne 10, 3) := by decide +kernel
theorem dX1_determinant_22 : decode cX1_determinant 22 = .ok (.aload_n 0, 1) := by decide +kernel
theorem dX1_determinant_23 : decode cX1_determinant 23 = .ok (.getfield 22, 3) := by decide +kernel
theorem dX1_determinant_26 : decode cX1_determinant 26 = .ok (.goto 8, 3) := by decide +kernel
theorem dX1_determinant_29 : decode cX1_determinant 29 = .ok (.aload_n 0, 1) := by decide +kernel
theorem dX1_determinant_30 : decode cX1_determinant 30 = .ok (.getfield 22, 3) := by decide +kernel
theorem dX1_determinant_33 : decode cX1_determinant 33 = .ok (.lneg, 1) := by decide +kernel
theorem dX1_determinant_34 : decode cX1_determinant 34 = .ok (.lreturn, 1) := by decide +kernel
theorem dX1_wideRank_0 : decode cX1_wideRank 0 = .ok (.aload_n 0, 1) := by decide +kernel
theorem dX1_wideRank_1 : decode cX1_wideRank 1 = .ok (.invokevirtual 52, 3) := by decide +kernel
theorem dX1_wideRank_4 : decode cX1_wideRank 4 = .ok (.ifCond .eq 10, 3) := by decide +kernel
theorem dX1_wideRank_7 : decode cX1_wideRank 7 = .ok (.aload_n 0, 1) := by decide +kernel
theorem dX1_wideRank_8 : decode cX1_wideRank 8 = .ok (.getfield 38, 3) := by decide +kernel
theorem dX1_wideRank_11 : decode cX1_wideRank 11 = .ok (.goto 9, 3) := by decide +kernel
theorem dX1_wideRank_14 : decode cX1_wideRank 14 = .ok (.aload_n 0, 1) := by decide +kernel
theorem dX1_wideRank_15 : decode cX1_wideRank 15 = .ok (.getfield 38, 3) := by decide +kernel
theorem dX1_wideRank_18 : decode cX1_wideRank 18 = .ok (.iconst 1, 1) := by decide +kernel
theorem dX1_wideRank_19 : decode cX1_wideRank 19 = .ok (.iadd, 1) := by decide +kernel
theorem dX1_wideRank_20 : decode cX1_wideRank 20 = .ok (.ireturn, 1) := by decide +kernel
theorem dX1_kind_0 : decode cX1_kind 0 = .ok (.aload_n 0, 1) := by decide +kernel
theorem dX1_kind_1 : decode cX1_kind 1 = .ok (.invokevirtual 52, 3) := by decide +kernel
theorem dX1_kind_4 : decode cX1_kind 4 = .ok (.ifCond .ne 5, 3) := by decide +kernel
theorem dX1_kind_7 : decode cX1_kind 7 = .ok (.iconst 0, 1) := by decide +kernel
theorem dX1_kind_8 : decode cX1_kind 8 = .ok (.ireturn, 1) := by decide +kernel
theorem dX1_kind_9 : decode cX1_kind 9 = .ok (.aload_n 0, 1) := by decide +kernel
theorem dX1_kind_10 : decode cX1_kind 10 = .ok (.getfield 38, 3) := by decide +kernel
theorem dX1_kind_13 : decode cX1_kind 13 = .ok (.aload_n 0, 1) := by decide +kernel
theorem dX1_kind_14 : decode cX1_kind 14 = .ok (.getfield 21, 3) := by decide +kernel
theorem dX1_kind_17 : decode cX1_kind 17 = .ok (.if_icmp .ne 7, 3) := by decide +kernel
theorem dX1_kind_20 : decode cX1_kind 20 = .ok (.iconst 1, 1) := by decide +kernel
theorem dX1_kind_21 : decode cX1_kind 21 = .ok (.goto 4, 3) := by decide +kernel
theorem dX1_kind_24 : decode cX1_kind 24 = .ok (.iconst 2, 1) := by decide +kernel
theorem dX1_kind_25 : decode cX1_kind 25 = .ok (.ireturn, 1) := by decide +kernel
theorem dX1_leading_0 : decode cX1_leading 0 = .ok (.iconst 0, 1) := by decide +kernel
theorem dX1_leading_1 : decode cX1_leading 1 = .ok (.istore_n 1, 1) := by decide +kernel
theorem dX1_leading_2 : decode cX1_leading 2 = .ok (.iconst 0, 1) := by decide +kernel
theorem dX1_leading_3 : decode cX1_leading 3 = .ok (.istore_n 2, 1) := by decide +kernel
theorem dX1_leading_4 : decode cX1_leading 4 = .ok (.iload_n 2, 1) := by decide +kernel
theorem dX1_leading_5 : decode cX1_leading 5 = .ok (.aload_n 0, 1) := by decide +kernel
theorem dX1_leading_6 : decode cX1_leading 6 = .ok (.getfield 38, 3) := by decide +kernel
theorem dX1_leading_9 : decode cX1_leading 9 = .ok (.if_icmp .ge 20, 3) := by decide +kernel
theorem dX1_leading_12 : decode cX1_leading 12 = .ok (.iload_n 1, 1) := by decide +kernel
theorem dX1_leading_13 : decode cX1_leading 13 = .ok (.iconst 1, 1) := by decide +kernel
theorem dX1_leading_14 : decode cX1_leading 14 = .ok (.aload_n 0, 1) := by decide +kernel
theorem dX1_leading_15 : decode cX1_leading 15 = .ok (.getfield 9, 3) := by decide +kernel
theorem dX1_leading_18 : decode cX1_leading 18 = .ok (.iload_n 2, 1) := by decide +kernel
theorem dX1_leading_19 : decode cX1_leading 19 = .ok (.iaload, 1) := by decide +kernel
theorem dX1_leading_20 : decode cX1_leading 20 = .ok (.ishl, 1) := by decide +kernel
theorem dX1_leading_21 : decode cX1_leading 21 = .ok (.ior, 1) := by decide +kernel
theorem dX1_leading_22 : decode cX1_leading 22 = .ok (.istore_n 1, 1) := by decide +kernel
theorem dX1_leading_23 : decode cX1_leading 23 = .ok (.iinc 2 1, 3) := by decide +kernel
theorem dX1_leading_26 : decode cX1_leading 26 = .ok (.goto (-22), 3) := by decide +kernel
theorem dX1_leading_29 : decode cX1_leading 29 = .ok (.iload_n 1, 1) := by decide +kernel
theorem dX1_leading_30 : decode cX1_leading 30 = .ok (.ireturn, 1) := by decide +kernel
theorem dX1_broken_0 : decode cX1_broken 0 = .ok (.iconst 0, 1) := by decide +kernel
theorem dX1_broken_1 : decode cX1_broken 1 = .ok (.istore_n 1, 1) := by decide +kernel
theorem dX1_broken_2 : decode cX1_broken 2 = .ok (.iconst 0, 1) := by decide +kernel
theorem dX1_broken_3 : decode cX1_broken 3 = .ok (.istore_n 2, 1) := by decide +kernel
theorem dX1_broken_4 : decode cX1_broken 4 = .ok (.iload_n 2, 1) := by decide +kernel
theorem dX1_broken_5 : decode cX1_broken 5 = .ok (.aload_n 0, 1) := by decide +kernel
theorem dX1_broken_6 : decode cX1_broken 6 = .ok (.getfield 38, 3) := by decide +kernel
theorem dX1_broken_9 : decode cX1_broken 9 = .ok (.if_icmp .ge 20, 3) := by decide +kernel
theorem dX1_broken_12 : decode cX1_broken 12 = .ok (.aload_n 0, 1) := by decide +kernel
theorem dX1_broken_13 : decode cX1_broken 13 = .ok (.iload_n 2, 1) := by decide +kernel
theorem dX1_broken_14 : decode cX1_broken 14 = .ok (.invokevirtual 56, 3) := by decide +kernel
theorem dX1_broken_17 : decode cX1_broken 17 = .ok (.ifCond .eq 6, 3) := by decide +kernel
theorem dX1_broken_20 : decode cX1_broken 20 = .ok (.iinc 1 1, 3) := by decide +kernel
theorem dX1_broken_23 : decode cX1_broken 23 = .ok (.iinc 2 1, 3) := by decide +kernel
theorem dX1_broken_26 : decode cX1_broken 26 = .ok (.goto (-22), 3) := by decide +kernel
theorem dX1_broken_29 : decode cX1_broken 29 = .ok (.iload_n 1, 1) := by decide +kernel
theorem dX1_broken_30 : decode cX1_broken 30 = .ok (.ireturn, 1) := by decide +kernel
theorem dX1_isBroken_0 : decode cX1_isBroken 0 = .ok (.iconst 0, 1) := by decide +kernel
theorem dX1_isBroken_1 : decode cX1_isBroken 1 = .ok (.istore_n 2, 1) := by decide +kernel
theorem dX1_isBroken_2 : decode cX1_isBroken 2 = .ok (.iload_n 2, 1) := by decide +kernel
theorem dX1_isBroken_3 : decode cX1_isBroken 3 = .ok (.aload_n 0, 1) := by decide +kernel
theorem dX1_isBroken_4 : decode cX1_isBroken 4 = .ok (.getfield 21, 3) := by decide +kernel
theorem dX1_isBroken_7 : decode cX1_isBroken 7 = .ok (.if_icmp .ge 22, 3) := by decide +kernel
theorem dX1_isBroken_10 : decode cX1_isBroken 10 = .ok (.aload_n 0, 1) := by decide +kernel
theorem dX1_isBroken_11 : decode cX1_isBroken 11 = .ok (.iload_n 1, 1) := by decide +kernel
theorem dX1_isBroken_12 : decode cX1_isBroken 12 = .ok (.iload_n 2, 1) := by decide +kernel
theorem dX1_isBroken_13 : decode cX1_isBroken 13 = .ok (.invokevirtual 60, 3) := by decide +kernel
theorem dX1_isBroken_16 : decode cX1_isBroken 16 = .ok (.lconst 1, 1) := by decide +kernel
theorem dX1_isBroken_17 : decode cX1_isBroken 17 = .ok (.lcmp, 1) := by decide +kernel
theorem dX1_isBroken_18 : decode cX1_isBroken 18 = .ok (.ifCond .eq 5, 3) := by decide +kernel
theorem dX1_isBroken_21 : decode cX1_isBroken 21 = .ok (.iconst 1, 1) := by decide +kernel
theorem dX1_isBroken_22 : decode cX1_isBroken 22 = .ok (.ireturn, 1) := by decide +kernel
theorem dX1_isBroken_23 : decode cX1_isBroken 23 = .ok (.iinc 2 1, 3) := by decide +kernel
theorem dX1_isBroken_26 : decode cX1_isBroken 26 = .ok (.goto (-24), 3) := by decide +kernel
theorem dX1_isBroken_29 : decode cX1_isBroken 29 = .ok (.iconst 0, 1) := by decide +kernel
theorem dX1_isBroken_30 : decode cX1_isBroken 30 = .ok (.ireturn, 1) := by decide +kernel
theorem dX1_above_0 : decode cX1_above 0 = .ok (.aload_n 0, 1) := by decide +kernel
theorem dX1_above_1 : decode cX1_above 1 = .ok (.getfield 22, 3) := by decide +kernel
theorem dX1_above_4 : decode cX1_above 4 = .ok (.lconst 0, 1) := by decide +kernel
theorem dX1_above_5 : decode cX1_above 5 = .ok (.lcmp, 1) := by decide +kernel
theorem dX1_above_6 : decode cX1_above 6 = .ok (.ifCond .ge 15, 3) := by decide +kernel
theorem dX1_above_9 : decode cX1_above 9 = .ok (.aload_n 0, 1) := by decide +kernel
theorem dX1_above_10 : decode cX1_above 10 = .ok (.getfield 26, 3) := by decide +kernel
theorem dX1_above_13 : decode cX1_above 13 = .ok (.iload_n 1, 1) := by decide +kernel
theorem dX1_above_14 : decode cX1_above 14 = .ok (.aaload, 1) := by decide +kernel
theorem dX1_above_15 : decode cX1_above 15 = .ok (.iload_n 2, 1) := by decide +kernel
theorem dX1_above_16 : decode cX1_above 16 = .ok (.laload, 1) := by decide +kernel
theorem dX1_above_17 : decode cX1_above 17 = .ok (.lneg, 1) := by decide +kernel
theorem dX1_above_18 : decode cX1_above 18 = .ok (.goto 11, 3) := by decide +kernel
theorem dX1_above_21 : decode cX1_above 21 = .ok (.aload_n 0, 1) := by decide +kernel
theorem dX1_above_22 : decode cX1_above 22 = .ok (.getfield 26, 3) := by decide +kernel
theorem dX1_above_25 : decode cX1_above 25 = .ok (.iload_n 1, 1) := by decide +kernel
theorem dX1_above_26 : decode cX1_above 26 = .ok (.aaload, 1) := by decide +kernel
theorem dX1_above_27 : decode cX1_above 27 = .ok (.iload_n 2, 1) := by decide +kernel
theorem dX1_above_28 : decode cX1_above 28 = .ok (.laload, 1) := by decide +kernel
theorem dX1_above_29 : decode cX1_above 29 = .ok (.lstore_n 3, 1) := by decide +kernel
theorem dX1_above_30 : decode cX1_above 30 = .ok (.lload_n 3, 1) := by decide +kernel
theorem dX1_above_31 : decode cX1_above 31 = .ok (.aload_n 0, 1) := by decide +kernel
theorem dX1_above_32 : decode cX1_above 32 = .ok (.getfield 26, 3) := by decide +kernel
theorem dX1_above_35 : decode cX1_above 35 = .ok (.iload_n 1, 1) := by decide +kernel
theorem dX1_above_36 : decode cX1_above 36 = .ok (.aaload, 1) := by decide +kernel
theorem dX1_above_37 : decode cX1_above 37 = .ok (.iload_n 2, 1) := by decide +kernel
theorem dX1_above_38 : decode cX1_above 38 = .ok (.laload, 1) := by decide +kernel
theorem dX1_above_39 : decode cX1_above 39 = .ok (.aload_n 0, 1) := by decide +kernel
theorem dX1_above_40 : decode cX1_above 40 = .ok (.getfield 22, 3) := by decide +kernel
theorem dX1_above_43 : decode cX1_above 43 = .ok (.invokestatic 64, 3) := by decide +kernel
theorem dX1_above_46 : decode cX1_above 46 = .ok (.invokestatic 45, 3) := by decide +kernel
theorem dX1_above_49 : decode cX1_above 49 = .ok (.lreturn, 1) := by decide +kernel
theorem dX1_below_0 : decode cX1_below 0 = .ok (.aload_n 0, 1) := by decide +kernel
theorem dX1_below_1 : decode cX1_below 1 = .ok (.getfield 22, 3) := by decide +kernel
theorem dX1_below_4 : decode cX1_below 4 = .ok (.invokestatic 67, 3) := by decide +kernel
theorem dX1_below_7 : decode cX1_below 7 = .ok (.aload_n 0, 1) := by decide +kernel
theorem dX1_below_8 : decode cX1_below 8 = .ok (.getfield 26, 3) := by decide +kernel
theorem dX1_below_11 : decode cX1_below 11 = .ok (.iload_n 1, 1) := by decide +kernel
theorem dX1_below_12 : decode cX1_below 12 = .ok (.aaload, 1) := by decide +kernel
theorem dX1_below_13 : decode cX1_below 13 = .ok (.iload_n 2, 1) := by decide +kernel
theorem dX1_below_14 : decode cX1_below 14 = .ok (.laload, 1) := by decide +kernel
theorem dX1_below_15 : decode cX1_below 15 = .ok (.aload_n 0, 1) := by decide +kernel
theorem dX1_below_16 : decode cX1_below 16 = .ok (.getfield 22, 3) := by decide +kernel
theorem dX1_below_19 : decode cX1_below 19 = .ok (.invokestatic 64, 3) := by decide +kernel
theorem dX1_below_22 : decode cX1_below 22 = .ok (.invokestatic 45, 3) := by decide +kernel
theorem dX1_below_25 : decode cX1_below 25 = .ok (.lreturn, 1) := by decide +kernel
theorem dX1_rowLedBy_0 : decode cX1_rowLedBy 0 = .ok (.iconst 0, 1) := by decide +kernel
theorem dX1_rowLedBy_1 : decode cX1_rowLedBy 1 = .ok (.istore_n 2, 1) := by decide +kernel
theorem dX1_rowLedBy_2 : decode cX1_rowLedBy 2 = .ok (.iload_n 2, 1) := by decide +kernel
theorem dX1_rowLedBy_3 : decode cX1_rowLedBy 3 = .ok (.aload_n 0, 1) := by decide +kernel
theorem dX1_rowLedBy_4 : decode cX1_rowLedBy 4 = .ok (.getfield 38, 3) := by decide +kernel
theorem dX1_rowLedBy_7 : decode cX1_rowLedBy 7 = .ok (.if_icmp .ge 21, 3) := by decide +kernel
theorem dX1_rowLedBy_10 : decode cX1_rowLedBy 10 = .ok (.aload_n 0, 1) := by decide +kernel
theorem dX1_rowLedBy_11 : decode cX1_rowLedBy 11 = .ok (.getfield 9, 3) := by decide +kernel
theorem dX1_rowLedBy_14 : decode cX1_rowLedBy 14 = .ok (.iload_n 2, 1) := by decide +kernel
theorem dX1_rowLedBy_15 : decode cX1_rowLedBy 15 = .ok (.iaload, 1) := by decide +kernel
theorem dX1_rowLedBy_16 : decode cX1_rowLedBy 16 = .ok (.iload_n 1, 1) := by decide +kernel
theorem dX1_rowLedBy_17 : decode cX1_rowLedBy 17 = .ok (.if_icmp .ne 5, 3) := by decide +kernel
theorem dX1_rowLedBy_20 : decode cX1_rowLedBy 20 = .ok (.iload_n 2, 1) := by decide +kernel
theorem dX1_rowLedBy_21 : decode cX1_rowLedBy 21 = .ok (.ireturn, 1) := by decide +kernel
theorem dX1_rowLedBy_22 : decode cX1_rowLedBy 22 = .ok (.iinc 2 1, 3) := by decide +kernel
theorem dX1_rowLedBy_25 : decode cX1_rowLedBy 25 = .ok (.goto (-23), 3) := by decide +kernel
theorem dX1_rowLedBy_28 : decode cX1_rowLedBy 28 = .ok (.iconst (-1), 1) := by decide +kernel
theorem dX1_rowLedBy_29 : decode cX1_rowLedBy 29 = .ok (.ireturn, 1) := by decide +kernel
theorem dX1_solutionAbove_0 : decode cX1_solutionAbove 0 = .ok (.aload_n 0, 1) := by decide +kernel
theorem dX1_solutionAbove_1 : decode cX1_solutionAbove 1 = .ok (.iload_n 1, 1) := by decide +kernel
theorem dX1_solutionAbove_2 : decode cX1_solutionAbove 2 = .ok (.invokevirtual 73, 3) := by decide +kernel
theorem dX1_solutionAbove_5 : decode cX1_solutionAbove 5 = .ok (.istore_n 2, 1) := by decide +kernel
theorem dX1_solutionAbove_6 : decode cX1_solutionAbove 6 = .ok (.iload_n 2, 1) := by decide +kernel
theorem dX1_solutionAbove_7 : decode cX1_solutionAbove 7 = .ok (.iconst (-1), 1) := by decide +kernel
theorem dX1_solutionAbove_8 : decode cX1_solutionAbove 8 = .ok (.if_icmp .ne 7, 3) := by decide +kernel
theorem dX1_solutionAbove_11 : decode cX1_solutionAbove 11 = .ok (.lconst 0, 1) := by decide +kernel
theorem dX1_solutionAbove_12 : decode cX1_solutionAbove 12 = .ok (.goto 9, 3) := by decide +kernel
theorem dX1_solutionAbove_15 : decode cX1_solutionAbove 15 = .ok (.aload_n 0, 1) := by decide +kernel
theorem dX1_solutionAbove_16 : decode cX1_solutionAbove 16 = .ok (.iload_n 2, 1) := by decide +kernel
theorem dX1_solutionAbove_17 : decode cX1_solutionAbove 17 = .ok (.iconst 4, 1) := by decide +kernel
theorem dX1_solutionAbove_18 : decode cX1_solutionAbove 18 = .ok (.invokevirtual 77, 3) := by decide +kernel
theorem dX1_solutionAbove_21 : decode cX1_solutionAbove 21 = .ok (.lreturn, 1) := by decide +kernel
theorem dX1_solutionBelow_0 : decode cX1_solutionBelow 0 = .ok (.aload_n 0, 1) := by decide +kernel
theorem dX1_solutionBelow_1 : decode cX1_solutionBelow 1 = .ok (.iload_n 1, 1) := by decide +kernel
theorem dX1_solutionBelow_2 : decode cX1_solutionBelow 2 = .ok (.invokevirtual 73, 3) := by decide +kernel
theorem dX1_solutionBelow_5 : decode cX1_solutionBelow 5 = .ok (.istore_n 2, 1) := by decide +kernel
theorem dX1_solutionBelow_6 : decode cX1_solutionBelow 6 = .ok (.iload_n 2, 1) := by decide +kernel
theorem dX1_solutionBelow_7 : decode cX1_solutionBelow 7 = .ok (.iconst (-1), 1) := by decide +kernel
theorem dX1_solutionBelow_8 : decode cX1_solutionBelow 8 = .ok (.if_icmp .ne 7, 3) := by decide +kernel
theorem dX1_solutionBelow_11 : decode cX1_solutionBelow 11 = .ok (.lconst 1, 1) := by decide +kernel
theorem dX1_solutionBelow_12 : decode cX1_solutionBelow 12 = .ok (.goto 9, 3) := by decide +kernel
theorem dX1_solutionBelow_15 : decode cX1_solutionBelow 15 = .ok (.aload_n 0, 1) := by decide +kernel
theorem dX1_solutionBelow_16 : decode cX1_solutionBelow 16 = .ok (.iload_n 2, 1) := by decide +kernel
theorem dX1_solutionBelow_17 : decode cX1_solutionBelow 17 = .ok (.iconst 4, 1) := by decide +kernel
theorem dX1_solutionBelow_18 : decode cX1_solutionBelow 18 = .ok (.invokevirtual 60, 3) := by decide +kernel
theorem dX1_solutionBelow_21 : decode cX1_solutionBelow 21 = .ok (.lreturn, 1) := by decide +kernel
theorem dX1_nearest_0 : decode cX1_nearest 0 = .ok (.aload_n 0, 1) := by decide +kernel
theorem dX1_nearest_1 : decode cX1_nearest 1 = .ok (.iload_n 1, 1) := by decide +kernel
theorem dX1_nearest_2 : decode cX1_nearest 2 = .ok (.invokevirtual 80, 3) := by decide +kernel
theorem dX1_nearest_5 : decode cX1_nearest 5 = .ok (.l2d, 1) := by decide +kernel
theorem dX1_nearest_6 : decode cX1_nearest 6 = .ok (.dstore_n 2, 1) := by decide +kernel
theorem dX1_nearest_7 : decode cX1_nearest 7 = .ok (.dload_n 2, 1) := by decide +kernel
theorem dX1_nearest_8 : decode cX1_nearest 8 = .ok (.dconst 0, 1) := by decide +kernel
theorem dX1_nearest_9 : decode cX1_nearest 9 = .ok (.dcmp .l, 1) := by decide +kernel
theorem dX1_nearest_10 : decode cX1_nearest 10 = .ok (.ifCond .le 14, 3) := by decide +kernel
theorem dX1_nearest_13 : decode cX1_nearest 13 = .ok (.aload_n 0, 1) := by decide +kernel
theorem dX1_nearest_14 : decode cX1_nearest 14 = .ok (.iload_n 1, 1) := by decide +kernel
theorem dX1_nearest_15 : decode cX1_nearest 15 = .ok (.invokevirtual 84, 3) := by decide +kernel
theorem dX1_nearest_18 : decode cX1_nearest 18 = .ok (.l2d, 1) := by decide +kernel
theorem dX1_nearest_19 : decode cX1_nearest 19 = .ok (.dload_n 2, 1) := by decide +kernel
theorem dX1_nearest_20 : decode cX1_nearest 20 = .ok (.ddiv, 1) := by decide +kernel
theorem dX1_nearest_21 : decode cX1_nearest 21 = .ok (.goto 4, 3) := by decide +kernel
theorem dX1_nearest_24 : decode cX1_nearest 24 = .ok (.dconst 0, 1) := by decide +kernel
theorem dX1_nearest_25 : decode cX1_nearest 25 = .ok (.dreturn, 1) := by decide +kernel
theorem dX1_vanishing_0 : decode cX1_vanishing 0 = .ok (.iconst 0, 1) := by decide +kernel
theorem dX1_vanishing_1 : decode cX1_vanishing 1 = .ok (.istore_n 2, 1) := by decide +kernel
theorem dX1_vanishing_2 : decode cX1_vanishing 2 = .ok (.iload_n 2, 1) := by decide +kernel
theorem dX1_vanishing_3 : decode cX1_vanishing 3 = .ok (.aload_n 0, 1) := by decide +kernel
theorem dX1_vanishing_4 : decode cX1_vanishing 4 = .ok (.getfield 38, 3) := by decide +kernel
theorem dX1_vanishing_7 : decode cX1_vanishing 7 = .ok (.if_icmp .ge 19, 3) := by decide +kernel
theorem dX1_vanishing_10 : decode cX1_vanishing 10 = .ok (.aload_n 0, 1) := by decide +kernel
theorem dX1_vanishing_11 : decode cX1_vanishing 11 = .ok (.getfield 9, 3) := by decide +kernel
theorem dX1_vanishing_14 : decode cX1_vanishing 14 = .ok (.iload_n 2, 1) := by decide +kernel
theorem dX1_vanishing_15 : decode cX1_vanishing 15 = .ok (.iaload, 1) := by decide +kernel
theorem dX1_vanishing_16 : decode cX1_vanishing 16 = .ok (.iload_n 2, 1) := by decide +kernel
theorem dX1_vanishing_17 : decode cX1_vanishing 17 = .ok (.if_icmp .ne 9, 3) := by decide +kernel
theorem dX1_vanishing_20 : decode cX1_vanishing 20 = .ok (.iinc 2 1, 3) := by decide +kernel
theorem dX1_vanishing_23 : decode cX1_vanishing 23 = .ok (.goto (-21), 3) := by decide +kernel
theorem dX1_vanishing_26 : decode cX1_vanishing 26 = .ok (.lconst 1, 1) := by decide +kernel
theorem dX1_vanishing_27 : decode cX1_vanishing 27 = .ok (.lstore_n 3, 1) := by decide +kernel
theorem dX1_vanishing_28 : decode cX1_vanishing 28 = .ok (.iconst 0, 1) := by decide +kernel
theorem dX1_vanishing_29 : decode cX1_vanishing 29 = .ok (.istore 5, 2) := by decide +kernel
theorem dX1_vanishing_31 : decode cX1_vanishing 31 = .ok (.iload 5, 2) := by decide +kernel
theorem dX1_vanishing_33 : decode cX1_vanishing 33 = .ok (.aload_n 0, 1) := by decide +kernel
theorem dX1_vanishing_34 : decode cX1_vanishing 34 = .ok (.getfield 38, 3) := by decide +kernel
theorem dX1_vanishing_37 : decode cX1_vanishing 37 = .ok (.if_icmp .ge 33, 3) := by decide +kernel
theorem dX1_vanishing_40 : decode cX1_vanishing 40 = .ok (.lload_n 3, 1) := by decide +kernel
theorem dX1_vanishing_41 : decode cX1_vanishing 41 = .ok (.aload_n 0, 1) := by decide +kernel
theorem dX1_vanishing_42 : decode cX1_vanishing 42 = .ok (.iload 5, 2) := by decide +kernel
theorem dX1_vanishing_44 : decode cX1_vanishing 44 = .ok (.iload_n 2, 1) := by decide +kernel
theorem dX1_vanishing_45 : decode cX1_vanishing 45 = .ok (.invokevirtual 60, 3) := by decide +kernel
theorem dX1_vanishing_48 : decode cX1_vanishing 48 = .ok (.lload_n 3, 1) := by decide +kernel
theorem dX1_vanishing_49 : decode cX1_vanishing 49 = .ok (.aload_n 0, 1) := by decide +kernel
theorem dX1_vanishing_50 : decode cX1_vanishing 50 = .ok (.iload 5, 2) := by decide +kernel
theorem dX1_vanishing_52 : decode cX1_vanishing 52 = .ok (.iload_n 2, 1) := by decide +kernel
theorem dX1_vanishing_53 : decode cX1_vanishing 53 = .ok (.invokevirtual 60, 3) := by decide +kernel
theorem dX1_vanishing_56 : decode cX1_vanishing 56 = .ok (.invokestatic 64, 3) := by decide +kernel
theorem dX1_vanishing_59 : decode cX1_vanishing 59 = .ok (.invokestatic 45, 3) := by decide +kernel
theorem dX1_vanishing_62 : decode cX1_vanishing 62 = .ok (.lmul, 1) := by decide +kernel
theorem dX1_vanishing_63 : decode cX1_vanishing 63 = .ok (.lstore_n 3, 1) := by decide +kernel
theorem dX1_vanishing_64 : decode cX1_vanishing 64 = .ok (.iinc 5 1, 3) := by decide +kernel
theorem dX1_vanishing_67 : decode cX1_vanishing 67 = .ok (.goto (-36), 3) := by decide +kernel
theorem dX1_vanishing_70 : decode cX1_vanishing 70 = .ok (.iload_n 1, 1) := by decide +kernel
theorem dX1_vanishing_71 : decode cX1_vanishing 71 = .ok (.iload_n 2, 1) := by decide +kernel
theorem dX1_vanishing_72 : decode cX1_vanishing 72 = .ok (.if_icmp .ne 5, 3) := by decide +kernel
theorem dX1_vanishing_75 : decode cX1_vanishing 75 = .ok (.lload_n 3, 1) := by decide +kernel
theorem dX1_vanishing_76 : decode cX1_vanishing 76 = .ok (.lreturn, 1) := by decide +kernel
theorem dX1_vanishing_77 : decode cX1_vanishing 77 = .ok (.aload_n 0, 1) := by decide +kernel
theorem dX1_vanishing_78 : decode cX1_vanishing 78 = .ok (.iload_n 1, 1) := by decide +kernel
theorem dX1_vanishing_79 : decode cX1_vanishing 79 = .ok (.invokevirtual 73, 3) := by decide +kernel
theorem dX1_vanishing_82 : decode cX1_vanishing 82 = .ok (.istore 5, 2) := by decide +kernel
theorem dX1_vanishing_84 : decode cX1_vanishing 84 = .ok (.iload 5, 2) := by decide +kernel
theorem dX1_vanishing_86 : decode cX1_vanishing 86 = .ok (.iconst (-1), 1) := by decide +kernel
theorem dX1_vanishing_87 : decode cX1_vanishing 87 = .ok (.if_icmp .ne 7, 3) := by decide +kernel
theorem dX1_vanishing_90 : decode cX1_vanishing 90 = .ok (.lconst 0, 1) := by decide +kernel
theorem dX1_vanishing_91 : decode cX1_vanishing 91 = .ok (.goto 23, 3) := by decide +kernel
theorem dX1_vanishing_94 : decode cX1_vanishing 94 = .ok (.aload_n 0, 1) := by decide +kernel
theorem dX1_vanishing_95 : decode cX1_vanishing 95 = .ok (.iload 5, 2) := by decide +kernel
theorem dX1_vanishing_97 : decode cX1_vanishing 97 = .ok (.iload_n 2, 1) := by decide +kernel
theorem dX1_vanishing_98 : decode cX1_vanishing 98 = .ok (.invokevirtual 77, 3) := by decide +kernel
theorem dX1_vanishing_101 : decode cX1_vanishing 101 = .ok (.lneg, 1) := by decide +kernel
theorem dX1_vanishing_102 : decode cX1_vanishing 102 = .ok (.lload_n 3, 1) := by decide +kernel
theorem dX1_vanishing_103 : decode cX1_vanishing 103 = .ok (.aload_n 0, 1) := by decide +kernel
theorem dX1_vanishing_104 : decode cX1_vanishing 104 = .ok (.iload 5, 2) := by decide +kernel
theorem dX1_vanishing_106 : decode cX1_vanishing 106 = .ok (.iload_n 2, 1) := by decide +kernel
theorem dX1_vanishing_107 : decode cX1_vanishing 107 = .ok (.invokevirtual 60, 3) := by decide +kernel
theorem dX1_vanishing_110 : decode cX1_vanishing 110 = .ok (.invokestatic 45, 3) := by decide +kernel
theorem dX1_vanishing_113 : decode cX1_vanishing 113 = .ok (.lmul, 1) := by decide +kernel
theorem dX1_vanishing_114 : decode cX1_vanishing 114 = .ok (.lreturn, 1) := by decide +kernel
theorem dX2_init_0 : decode cX2_init 0 = .ok (.aload_n 0, 1) := by decide +kernel
theorem dX2_init_1 : decode cX2_init 1 = .ok (.invokespecial 1, 3) := by decide +kernel
theorem dX2_init_4 : decode cX2_init 4 = .ok (.return_, 1) := by decide +kernel
theorem dX2_next_0 : decode cX2_next 0 = .ok (.aload_n 0, 1) := by decide +kernel
theorem dX2_next_1 : decode cX2_next 1 = .ok (.aload_n 0, 1) := by decide +kernel
theorem dX2_next_2 : decode cX2_next 2 = .ok (.getfield 7, 3) := by decide +kernel
theorem dX2_next_5 : decode cX2_next 5 = .ok (.ldc2_w 13, 3) := by decide +kernel
theorem dX2_next_8 : decode cX2_next 8 = .ok (.lmul, 1) := by decide +kernel
theorem dX2_next_9 : decode cX2_next 9 = .ok (.ldc2_w 15, 3) := by decide +kernel
theorem dX2_next_12 : decode cX2_next 12 = .ok (.ladd, 1) := by decide +kernel
theorem dX2_next_13 : decode cX2_next 13 = .ok (.ldc2_w 17, 3) := by decide +kernel
theorem dX2_next_16 : decode cX2_next 16 = .ok (.land, 1) := by decide +kernel
theorem dX2_next_17 : decode cX2_next 17 = .ok (.putfield 7, 3) := by decide +kernel
theorem dX2_next_20 : decode cX2_next 20 = .ok (.aload_n 0, 1) := by decide +kernel
theorem dX2_next_21 : decode cX2_next 21 = .ok (.getfield 7, 3) := by decide +kernel
theorem dX2_next_24 : decode cX2_next 24 = .ok (.ldc2_w 19, 3) := by decide +kernel
theorem dX2_next_27 : decode cX2_next 27 = .ok (.ldiv, 1) := by decide +kernel
theorem dX2_next_28 : decode cX2_next 28 = .ok (.iload_n 1, 1) := by decide +kernel
theorem dX2_next_29 : decode cX2_next 29 = .ok (.invokestatic 21, 3) := by decide +kernel
theorem dX2_next_32 : decode cX2_next 32 = .ok (.ireturn, 1) := by decide +kernel
theorem dX3_init_0 : decode cX3_init 0 = .ok (.aload_n 0, 1) := by decide +kernel
theorem dX3_init_1 : decode cX3_init 1 = .ok (.invokespecial 3, 3) := by decide +kernel
theorem dX3_init_4 : decode cX3_init 4 = .ok (.aload_n 0, 1) := by decide +kernel
theorem dX3_init_5 : decode cX3_init 5 = .ok (.iconst 3, 1) := by decide +kernel
theorem dX3_init_6 : decode cX3_init 6 = .ok (.putfield 9, 3) := by decide +kernel
theorem dX3_init_9 : decode cX3_init 9 = .ok (.aload_n 0, 1) := by decide +kernel
theorem dX3_init_10 : decode cX3_init 10 = .ok (.bipush 20, 2) := by decide +kernel
theorem dX3_init_12 : decode cX3_init 12 = .ok (.newarray .int, 2) := by decide +kernel
theorem dX3_init_14 : decode cX3_init 14 = .ok (.putfield 15, 3) := by decide +kernel
theorem dX3_init_17 : decode cX3_init 17 = .ok (.aload_n 0, 1) := by decide +kernel
theorem dX3_init_18 : decode cX3_init 18 = .ok (.iconst 2, 1) := by decide +kernel
theorem dX3_init_19 : decode cX3_init 19 = .ok (.invokevirtual 19, 3) := by decide +kernel
theorem dX3_init_22 : decode cX3_init 22 = .ok (.return_, 1) := by decide +kernel
theorem dX3_begin_0 : decode cX3_begin 0 = .ok (.aload_n 0, 1) := by decide +kernel
theorem dX3_begin_1 : decode cX3_begin 1 = .ok (.iload_n 1, 1) := by decide +kernel
theorem dX3_begin_2 : decode cX3_begin 2 = .ok (.putfield 23, 3) := by decide +kernel
theorem dX3_begin_5 : decode cX3_begin 5 = .ok (.iconst 0, 1) := by decide +kernel
theorem dX3_begin_6 : decode cX3_begin 6 = .ok (.istore_n 2, 1) := by decide +kernel
theorem dX3_begin_7 : decode cX3_begin 7 = .ok (.iload_n 2, 1) := by decide +kernel
theorem dX3_begin_8 : decode cX3_begin 8 = .ok (.iconst 4, 1) := by decide +kernel
theorem dX3_begin_9 : decode cX3_begin 9 = .ok (.if_icmp .ge 46, 3) := by decide +kernel
theorem dX3_begin_12 : decode cX3_begin 12 = .ok (.iconst 0, 1) := by decide +kernel
theorem dX3_begin_13 : decode cX3_begin 13 = .ok (.istore_n 3, 1) := by decide +kernel
theorem dX3_begin_14 : decode cX3_begin 14 = .ok (.iload_n 3, 1) := by decide +kernel
theorem dX3_begin_15 : decode cX3_begin 15 = .ok (.iconst 5, 1) := by decide +kernel
theorem dX3_begin_16 : decode cX3_begin 16 = .ok (.if_icmp .ge 33, 3) := by decide +kernel
theorem dX3_begin_19 : decode cX3_begin 19 = .ok (.aload_n 0, 1) := by decide +kernel
theorem dX3_begin_20 : decode cX3_begin 20 = .ok (.iload_n 2, 1) := by decide +kernel
theorem dX3_begin_21 : decode cX3_begin 21 = .ok (.iload_n 3, 1) := by decide +kernel
theorem dX3_begin_22 : decode cX3_begin 22 = .ok (.iload_n 2, 1) := by decide +kernel
theorem dX3_begin_23 : decode cX3_begin 23 = .ok (.iload_n 3, 1) := by decide +kernel
theorem dX3_begin_24 : decode cX3_begin 24 = .ok (.if_icmp .ne 15, 3) := by decide +kernel
theorem dX3_begin_27 : decode cX3_begin 27 = .ok (.iload_n 2, 1) := by decide +kernel
theorem dX3_begin_28 : decode cX3_begin 28 = .ok (.aload_n 0, 1) := by decide +kernel
theorem dX3_begin_29 : decode cX3_begin 29 = .ok (.getfield 23, 3) := by decide +kernel
theorem dX3_begin_32 : decode cX3_begin 32 = .ok (.if_icmp .ge 7, 3) := by decide +kernel
theorem dX3_begin_35 : decode cX3_begin 35 = .ok (.iconst 1, 1) := by decide +kernel
theorem dX3_begin_36 : decode cX3_begin 36 = .ok (.goto 4, 3) := by decide +kernel
theorem dX3_begin_39 : decode cX3_begin 39 = .ok (.iconst 0, 1) := by decide +kernel
theorem dX3_begin_40 : decode cX3_begin 40 = .ok (.invokevirtual 26, 3) := by decide +kernel
theorem dX3_begin_43 : decode cX3_begin 43 = .ok (.iinc 3 1, 3) := by decide +kernel
theorem dX3_begin_46 : decode cX3_begin 46 = .ok (.goto (-32), 3) := by decide +kernel
theorem dX3_begin_49 : decode cX3_begin 49 = .ok (.iinc 2 1, 3) := by decide +kernel
theorem dX3_begin_52 : decode cX3_begin 52 = .ok (.goto (-45), 3) := by decide +kernel
theorem dX3_begin_55 : decode cX3_begin 55 = .ok (.return_, 1) := by decide +kernel
theorem dX3_has_0 : decode cX3_has 0 = .ok (.iload_n 1, 1) := by decide +kernel
theorem dX3_has_1 : decode cX3_has 1 = .ok (.ifCond .lt 15, 3) := by decide +kernel
theorem dX3_has_4 : decode cX3_has 4 = .ok (.iload_n 1, 1) := by decide +kernel
theorem dX3_has_5 : decode cX3_has 5 = .ok (.aload_n 0, 1) := by decide +kernel
theorem dX3_has_6 : decode cX3_has 6 = .ok (.getfield 23, 3) := by decide +kernel
theorem dX3_has_9 : decode cX3_has 9 = .ok (.if_icmp .ge 7, 3) := by decide +kernel
theorem dX3_has_12 : decode cX3_has 12 = .ok (.iconst 1, 1) := by decide +kernel
theorem dX3_has_13 : decode cX3_has 13 = .ok (.goto 4, 3) := by decide +kernel
theorem dX3_has_16 : decode cX3_has 16 = .ok (.iconst 0, 1) := by decide +kernel
theorem dX3_has_17 : decode cX3_has 17 = .ok (.ireturn, 1) := by decide +kernel
theorem dX3_p_0 : decode cX3_p 0 = .ok (.aload_n 0, 1) := by decide +kernel
theorem dX3_p_1 : decode cX3_p 1 = .ok (.getfield 9, 3) := by decide +kernel
theorem dX3_p_4 : decode cX3_p 4 = .ok (.ifCond .lt 25, 3) := by decide +kernel
theorem dX3_p_7 : decode cX3_p 7 = .ok (.aload_n 0, 1) := by decide +kernel
theorem dX3_p_8 : decode cX3_p 8 = .ok (.getfield 9, 3) := by decide +kernel
theorem dX3_p_11 : decode cX3_p 11 = .ok (.getstatic 30, 3) := by decide +kernel
theorem dX3_p_14 : decode cX3_p 14 = .ok (.arraylength, 1) := by decide +kernel
theorem dX3_p_15 : decode cX3_p 15 = .ok (.if_icmp .ge 14, 3) := by decide +kernel
theorem dX3_p_18 : decode cX3_p 18 = .ok (.getstatic 30, 3) := by decide +kernel
theorem dX3_p_21 : decode cX3_p 21 = .ok (.aload_n 0, 1) := by decide +kernel
theorem dX3_p_22 : decode cX3_p 22 = .ok (.getfield 9, 3) := by decide +kernel
theorem dX3_p_25 : decode cX3_p 25 = .ok (.iaload, 1) := by decide +kernel
theorem dX3_p_26 : decode cX3_p 26 = .ok (.goto 4, 3) := by decide +kernel
theorem dX3_p_29 : decode cX3_p 29 = .ok (.iconst 2, 1) := by decide +kernel
theorem dX3_p_30 : decode cX3_p 30 = .ok (.ireturn, 1) := by decide +kernel
theorem dX3_number_0 : decode cX3_number 0 = .ok (.aload_n 0, 1) := by decide +kernel
theorem dX3_number_1 : decode cX3_number 1 = .ok (.getfield 15, 3) := by decide +kernel
theorem dX3_number_4 : decode cX3_number 4 = .ok (.iload_n 1, 1) := by decide +kernel
theorem dX3_number_5 : decode cX3_number 5 = .ok (.iconst 5, 1) := by decide +kernel
theorem dX3_number_6 : decode cX3_number 6 = .ok (.imul, 1) := by decide +kernel
theorem dX3_number_7 : decode cX3_number 7 = .ok (.iload_n 2, 1) := by decide +kernel
theorem dX3_number_8 : decode cX3_number 8 = .ok (.iadd, 1) := by decide +kernel
theorem dX3_number_9 : decode cX3_number 9 = .ok (.iaload, 1) := by decide +kernel
theorem dX3_number_10 : decode cX3_number 10 = .ok (.ireturn, 1) := by decide +kernel
theorem dX3_set_0 : decode cX3_set 0 = .ok (.aload_n 0, 1) := by decide +kernel
theorem dX3_set_1 : decode cX3_set 1 = .ok (.getfield 15, 3) := by decide +kernel
theorem dX3_set_4 : decode cX3_set 4 = .ok (.iload_n 1, 1) := by decide +kernel
theorem dX3_set_5 : decode cX3_set 5 = .ok (.iconst 5, 1) := by decide +kernel
theorem dX3_set_6 : decode cX3_set 6 = .ok (.imul, 1) := by decide +kernel
theorem dX3_set_7 : decode cX3_set 7 = .ok (.iload_n 2, 1) := by decide +kernel
theorem dX3_set_8 : decode cX3_set 8 = .ok (.iadd, 1) := by decide +kernel
theorem dX3_set_9 : decode cX3_set 9 = .ok (.iload_n 3, 1) := by decide +kernel
theorem dX3_set_10 : decode cX3_set 10 = .ok (.iastore, 1) := by decide +kernel
theorem dX3_set_11 : decode cX3_set 11 = .ok (.return_, 1) := by decide +kernel
theorem dX3_squares_0 : decode cX3_squares 0 = .ok (.lconst 0, 1) := by decide +kernel
theorem dX3_squares_1 : decode cX3_squares 1 = .ok (.lstore_n 2, 1) := by decide +kernel
theorem dX3_squares_2 : decode cX3_squares 2 = .ok (.iconst 0, 1) := by decide +kernel
theorem dX3_squares_3 : decode cX3_squares 3 = .ok (.istore 4, 2) := by decide +kernel
theorem dX3_squares_5 : decode cX3_squares 5 = .ok (.iload 4, 2) := by decide +kernel
theorem dX3_squares_7 : decode cX3_squares 7 = .ok (.iconst 5, 1) := by decide +kernel
theorem dX3_squares_8 : decode cX3_squares 8 = .ok (.if_icmp .ge 28, 3) := by decide +kernel
theorem dX3_squares_11 : decode cX3_squares 11 = .ok (.lload_n 2, 1) := by decide +kernel
theorem dX3_squares_12 : decode cX3_squares 12 = .ok (.aload_n 0, 1) := by decide +kernel
theorem dX3_squares_13 : decode cX3_squares 13 = .ok (.iload_n 1, 1) := by decide +kernel
theorem dX3_squares_14 : decode cX3_squares 14 = .ok (.iload 4, 2) := by decide +kernel
theorem dX3_squares_16 : decode cX3_squares 16 = .ok (.invokevirtual 33, 3) := by decide +kernel
theorem dX3_squares_19 : decode cX3_squares 19 = .ok (.aload_n 0, 1) := by decide +kernel
theorem dX3_squares_20 : decode cX3_squares 20 = .ok (.iload_n 1, 1) := by decide +kernel
theorem dX3_squares_21 : decode cX3_squares 21 = .ok (.iload 4, 2) := by decide +kernel
theorem dX3_squares_23 : decode cX3_squares 23 = .ok (.invokevirtual 33, 3) := by decide +kernel
theorem dX3_squares_26 : decode cX3_squares 26 = .ok (.imul, 1) := by decide +kernel
theorem dX3_squares_27 : decode cX3_squares 27 = .ok (.i2l, 1) := by decide +kernel
theorem dX3_squares_28 : decode cX3_squares 28 = .ok (.ladd, 1) := by decide +kernel
theorem dX3_squares_29 : decode cX3_squares 29 = .ok (.lstore_n 2, 1) := by decide +kernel
theorem dX3_squares_30 : decode cX3_squares 30 = .ok (.iinc 4 1, 3) := by decide +kernel
theorem dX3_squares_33 : decode cX3_squares 33 = .ok (.goto (-28), 3) := by decide +kernel
theorem dX3_squares_36 : decode cX3_squares 36 = .ok (.lload_n 2, 1) := by decide +kernel
theorem dX3_squares_37 : decode cX3_squares 37 = .ok (.lreturn, 1) := by decide +kernel
theorem dX3_exchange_0 : decode cX3_exchange 0 = .ok (.iconst 0, 1) := by decide +kernel
theorem dX3_exchange_1 : decode cX3_exchange 1 = .ok (.istore_n 3, 1) := by decide +kernel
theorem dX3_exchange_2 : decode cX3_exchange 2 = .ok (.iload_n 3, 1) := by decide +kernel
theorem dX3_exchange_3 : decode cX3_exchange 3 = .ok (.iconst 5, 1) := by decide +kernel
theorem dX3_exchange_4 : decode cX3_exchange 4 = .ok (.if_icmp .ge 37, 3) := by decide +kernel
theorem dX3_exchange_7 : decode cX3_exchange 7 = .ok (.aload_n 0, 1) := by decide +kernel
theorem dX3_exchange_8 : decode cX3_exchange 8 = .ok (.iload_n 1, 1) := by decide +kernel
theorem dX3_exchange_9 : decode cX3_exchange 9 = .ok (.iload_n 3, 1) := by decide +kernel
theorem dX3_exchange_10 : decode cX3_exchange 10 = .ok (.invokevirtual 33, 3) := by decide +kernel
theorem dX3_exchange_13 : decode cX3_exchange 13 = .ok (.istore 4, 2) := by decide +kernel
theorem dX3_exchange_15 : decode cX3_exchange 15 = .ok (.aload_n 0, 1) := by decide +kernel
theorem dX3_exchange_16 : decode cX3_exchange 16 = .ok (.iload_n 1, 1) := by decide +kernel
theorem dX3_exchange_17 : decode cX3_exchange 17 = .ok (.iload_n 3, 1) := by decide +kernel
theorem dX3_exchange_18 : decode cX3_exchange 18 = .ok (.aload_n 0, 1) := by decide +kernel
theorem dX3_exchange_19 : decode cX3_exchange 19 = .ok (.iload_n 2, 1) := by decide +kernel
theorem dX3_exchange_20 : decode cX3_exchange 20 = .ok (.iload_n 3, 1) := by decide +kernel
theorem dX3_exchange_21 : decode cX3_exchange 21 = .ok (.invokevirtual 33, 3) := by decide +kernel
theorem dX3_exchange_24 : decode cX3_exchange 24 = .ok (.invokevirtual 26, 3) := by decide +kernel
theorem dX3_exchange_27 : decode cX3_exchange 27 = .ok (.aload_n 0, 1) := by decide +kernel
theorem dX3_exchange_28 : decode cX3_exchange 28 = .ok (.iload_n 2, 1) := by decide +kernel
theorem dX3_exchange_29 : decode cX3_exchange 29 = .ok (.iload_n 3, 1) := by decide +kernel
theorem dX3_exchange_30 : decode cX3_exchange 30 = .ok (.iload 4, 2) := by decide +kernel
theorem dX3_exchange_32 : decode cX3_exchange 32 = .ok (.invokevirtual 26, 3) := by decide +kernel
theorem dX3_exchange_35 : decode cX3_exchange 35 = .ok (.iinc 3 1, 3) := by decide +kernel
theorem dX3_exchange_38 : decode cX3_exchange 38 = .ok (.goto (-36), 3) := by decide +kernel
theorem dX3_exchange_41 : decode cX3_exchange 41 = .ok (.return_, 1) := by decide +kernel
theorem dX3_canAdd_0 : decode cX3_canAdd 0 = .ok (.iconst 0, 1) := by decide +kernel
theorem dX3_canAdd_1 : decode cX3_canAdd 1 = .ok (.istore 4, 2) := by decide +kernel
theorem dX3_canAdd_3 : decode cX3_canAdd 3 = .ok (.iload 4, 2) := by decide +kernel
theorem dX3_canAdd_5 : decode cX3_canAdd 5 = .ok (.iconst 5, 1) := by decide +kernel
theorem dX3_canAdd_6 : decode cX3_canAdd 6 = .ok (.if_icmp .ge 51, 3) := by decide +kernel
theorem dX3_canAdd_9 : decode cX3_canAdd 9 = .ok (.iload 4, 2) := by decide +kernel
theorem dX3_canAdd_11 : decode cX3_canAdd 11 = .ok (.iconst 4, 1) := by decide +kernel
theorem dX3_canAdd_12 : decode cX3_canAdd 12 = .ok (.if_icmp .ne 8, 3) := by decide +kernel
theorem dX3_canAdd_15 : decode cX3_canAdd 15 = .ok (.bipush 99, 2) := by decide +kernel
theorem dX3_canAdd_17 : decode cX3_canAdd 17 = .ok (.goto 5, 3) := by decide +kernel
theorem dX3_canAdd_20 : decode cX3_canAdd 20 = .ok (.bipush 9, 2) := by decide +kernel
theorem dX3_canAdd_22 : decode cX3_canAdd 22 = .ok (.istore 5, 2) := by decide +kernel
theorem dX3_canAdd_24 : decode cX3_canAdd 24 = .ok (.aload_n 0, 1) := by decide +kernel
theorem dX3_canAdd_25 : decode cX3_canAdd 25 = .ok (.iload_n 1, 1) := by decide +kernel
theorem dX3_canAdd_26 : decode cX3_canAdd 26 = .ok (.iload 4, 2) := by decide +kernel
theorem dX3_canAdd_28 : decode cX3_canAdd 28 = .ok (.invokevirtual 33, 3) := by decide +kernel
theorem dX3_canAdd_31 : decode cX3_canAdd 31 = .ok (.iload_n 3, 1) := by decide +kernel
theorem dX3_canAdd_32 : decode cX3_canAdd 32 = .ok (.aload_n 0, 1) := by decide +kernel
theorem dX3_canAdd_33 : decode cX3_canAdd 33 = .ok (.iload_n 2, 1) := by decide +kernel
theorem dX3_canAdd_34 : decode cX3_canAdd 34 = .ok (.iload 4, 2) := by decide +kernel
theorem dX3_canAdd_36 : decode cX3_canAdd 36 = .ok (.invokevirtual 33, 3) := by decide +kernel
theorem dX3_canAdd_39 : decode cX3_canAdd 39 = .ok (.imul, 1) := by decide +kernel
theorem dX3_canAdd_40 : decode cX3_canAdd 40 = .ok (.iadd, 1) := by decide +kernel
theorem dX3_canAdd_41 : decode cX3_canAdd 41 = .ok (.invokestatic 37, 3) := by decide +kernel
theorem dX3_canAdd_44 : decode cX3_canAdd 44 = .ok (.iload 5, 2) := by decide +kernel
theorem dX3_canAdd_46 : decode cX3_canAdd 46 = .ok (.if_icmp .le 5, 3) := by decide +kernel
theorem dX3_canAdd_49 : decode cX3_canAdd 49 = .ok (.iconst 0, 1) := by decide +kernel
theorem dX3_canAdd_50 : decode cX3_canAdd 50 = .ok (.ireturn, 1) := by decide +kernel
theorem dX3_canAdd_51 : decode cX3_canAdd 51 = .ok (.iinc 4 1, 3) := by decide +kernel
theorem dX3_canAdd_54 : decode cX3_canAdd 54 = .ok (.goto (-51), 3) := by decide +kernel
theorem dX3_canAdd_57 : decode cX3_canAdd 57 = .ok (.iconst 1, 1) := by decide +kernel
theorem dX3_canAdd_58 : decode cX3_canAdd 58 = .ok (.ireturn, 1) := by decide +kernel
theorem dX3_add_0 : decode cX3_add 0 = .ok (.iconst 0, 1) := by decide +kernel
theorem dX3_add_1 : decode cX3_add 1 = .ok (.istore 4, 2) := by decide +kernel
theorem dX3_add_3 : decode cX3_add 3 = .ok (.iload 4, 2) := by decide +kernel
theorem dX3_add_5 : decode cX3_add 5 = .ok (.iconst 5, 1) := by decide +kernel
theorem dX3_add_6 : decode cX3_add 6 = .ok (.if_icmp .ge 33, 3) := by decide +kernel
theorem dX3_add_9 : decode cX3_add 9 = .ok (.aload_n 0, 1) := by decide +kernel
theorem dX3_add_10 : decode cX3_add 10 = .ok (.iload_n 1, 1) := by decide +kernel
theorem dX3_add_11 : decode cX3_add 11 = .ok (.iload 4, 2) := by decide +kernel
theorem dX3_add_13 : decode cX3_add 13 = .ok (.aload_n 0, 1) := by decide +kernel
theorem dX3_add_14 : decode cX3_add 14 = .ok (.iload_n 1, 1) := by decide +kernel
theorem dX3_add_15 : decode cX3_add 15 = .ok (.iload 4, 2) := by decide +kernel
theorem dX3_add_17 : decode cX3_add 17 = .ok (.invokevirtual 33, 3) := by decide +kernel
theorem dX3_add_20 : decode cX3_add 20 = .ok (.iload_n 3, 1) := by decide +kernel
theorem dX3_add_21 : decode cX3_add 21 = .ok (.aload_n 0, 1) := by decide +kernel
theorem dX3_add_22 : decode cX3_add 22 = .ok (.iload_n 2, 1) := by decide +kernel
theorem dX3_add_23 : decode cX3_add 23 = .ok (.iload 4, 2) := by decide +kernel
theorem dX3_add_25 : decode cX3_add 25 = .ok (.invokevirtual 33, 3) := by decide +kernel
theorem dX3_add_28 : decode cX3_add 28 = .ok (.imul, 1) := by decide +kernel
theorem dX3_add_29 : decode cX3_add 29 = .ok (.iadd, 1) := by decide +kernel
theorem dX3_add_30 : decode cX3_add 30 = .ok (.invokevirtual 26, 3) := by decide +kernel
theorem dX3_add_33 : decode cX3_add 33 = .ok (.iinc 4 1, 3) := by decide +kernel
theorem dX3_add_36 : decode cX3_add 36 = .ok (.goto (-33), 3) := by decide +kernel
theorem dX3_add_39 : decode cX3_add 39 = .ok (.return_, 1) := by decide +kernel
theorem dX3_transpose_0 : decode cX3_transpose 0 = .ok (.iconst 0, 1) := by decide +kernel
theorem dX3_transpose_1 : decode cX3_transpose 1 = .ok (.istore_n 1, 1) := by decide +kernel
theorem dX3_transpose_2 : decode cX3_transpose 2 = .ok (.iload_n 1, 1) := by decide +kernel
theorem dX3_transpose_3 : decode cX3_transpose 3 = .ok (.aload_n 0, 1) := by decide +kernel
theorem dX3_transpose_4 : decode cX3_transpose 4 = .ok (.getfield 23, 3) := by decide +kernel
theorem dX3_transpose_7 : decode cX3_transpose 7 = .ok (.if_icmp .ge 48, 3) := by decide +kernel
theorem dX3_transpose_10 : decode cX3_transpose 10 = .ok (.iconst 0, 1) := by decide +kernel
theorem dX3_transpose_11 : decode cX3_transpose 11 = .ok (.istore_n 2, 1) := by decide +kernel
theorem dX3_transpose_12 : decode cX3_transpose 12 = .ok (.iload_n 2, 1) := by decide +kernel
theorem dX3_transpose_13 : decode cX3_transpose 13 = .ok (.iload_n 1, 1) := by decide +kernel
theorem dX3_transpose_14 : decode cX3_transpose 14 = .ok (.if_icmp .ge 35, 3) := by decide +kernel
theorem dX3_transpose_17 : decode cX3_transpose 17 = .ok (.aload_n 0, 1) := by decide +kernel
theorem dX3_transpose_18 : decode cX3_transpose 18 = .ok (.iload_n 1, 1) := by decide +kernel
theorem dX3_transpose_19 : decode cX3_transpose 19 = .ok (.iload_n 2, 1) := by decide +kernel
theorem dX3_transpose_20 : decode cX3_transpose 20 = .ok (.invokevirtual 33, 3) := by decide +kernel
theorem dX3_transpose_23 : decode cX3_transpose 23 = .ok (.istore_n 3, 1) := by decide +kernel
theorem dX3_transpose_24 : decode cX3_transpose 24 = .ok (.aload_n 0, 1) := by decide +kernel
theorem dX3_transpose_25 : decode cX3_transpose 25 = .ok (.iload_n 1, 1) := by decide +kernel
theorem dX3_transpose_26 : decode cX3_transpose 26 = .ok (.iload_n 2, 1) := by decide +kernel
theorem dX3_transpose_27 : decode cX3_transpose 27 = .ok (.aload_n 0, 1) := by decide +kernel
theorem dX3_transpose_28 : decode cX3_transpose 28 = .ok (.iload_n 2, 1) := by decide +kernel
theorem dX3_transpose_29 : decode cX3_transpose 29 = .ok (.iload_n 1, 1) := by decide +kernel
theorem dX3_transpose_30 : decode cX3_transpose 30 = .ok (.invokevirtual 33, 3) := by decide +kernel
theorem dX3_transpose_33 : decode cX3_transpose 33 = .ok (.invokevirtual 26, 3) := by decide +kernel
theorem dX3_transpose_36 : decode cX3_transpose 36 = .ok (.aload_n 0, 1) := by decide +kernel
theorem dX3_transpose_37 : decode cX3_transpose 37 = .ok (.iload_n 2, 1) := by decide +kernel
theorem dX3_transpose_38 : decode cX3_transpose 38 = .ok (.iload_n 1, 1) := by decide +kernel
theorem dX3_transpose_39 : decode cX3_transpose 39 = .ok (.iload_n 3, 1) := by decide +kernel
theorem dX3_transpose_40 : decode cX3_transpose 40 = .ok (.invokevirtual 26, 3) := by decide +kernel
theorem dX3_transpose_43 : decode cX3_transpose 43 = .ok (.iinc 2 1, 3) := by decide +kernel
theorem dX3_transpose_46 : decode cX3_transpose 46 = .ok (.goto (-34), 3) := by decide +kernel
theorem dX3_transpose_49 : decode cX3_transpose 49 = .ok (.iinc 1 1, 3) := by decide +kernel
theorem dX3_transpose_52 : decode cX3_transpose 52 = .ok (.goto (-50), 3) := by decide +kernel
theorem dX3_transpose_55 : decode cX3_transpose 55 = .ok (.return_, 1) := by decide +kernel
theorem dX3_writeTo_0 : decode cX3_writeTo 0 = .ok (.aload_n 1, 1) := by decide +kernel
theorem dX3_writeTo_1 : decode cX3_writeTo 1 = .ok (.iload_n 2, 1) := by decide +kernel
theorem dX3_writeTo_2 : decode cX3_writeTo 2 = .ok (.aload_n 0, 1) := by decide +kernel
theorem dX3_writeTo_3 : decode cX3_writeTo 3 = .ok (.getfield 23, 3) := by decide +kernel
theorem dX3_writeTo_6 : decode cX3_writeTo 6 = .ok (.iastore, 1) := by decide +kernel
theorem dX3_writeTo_7 : decode cX3_writeTo 7 = .ok (.aload_n 1, 1) := by decide +kernel
theorem dX3_writeTo_8 : decode cX3_writeTo 8 = .ok (.iload_n 2, 1) := by decide +kernel
theorem dX3_writeTo_9 : decode cX3_writeTo 9 = .ok (.iconst 1, 1) := by decide +kernel
theorem dX3_writeTo_10 : decode cX3_writeTo 10 = .ok (.iadd, 1) := by decide +kernel
theorem dX3_writeTo_11 : decode cX3_writeTo 11 = .ok (.aload_n 0, 1) := by decide +kernel
theorem dX3_writeTo_12 : decode cX3_writeTo 12 = .ok (.getfield 9, 3) := by decide +kernel
theorem dX3_writeTo_15 : decode cX3_writeTo 15 = .ok (.iastore, 1) := by decide +kernel
theorem dX3_writeTo_16 : decode cX3_writeTo 16 = .ok (.aload_n 0, 1) := by decide +kernel
theorem dX3_writeTo_17 : decode cX3_writeTo 17 = .ok (.getfield 15, 3) := by decide +kernel
theorem dX3_writeTo_20 : decode cX3_writeTo 20 = .ok (.iconst 0, 1) := by decide +kernel
theorem dX3_writeTo_21 : decode cX3_writeTo 21 = .ok (.aload_n 1, 1) := by decide +kernel
theorem dX3_writeTo_22 : decode cX3_writeTo 22 = .ok (.iload_n 2, 1) := by decide +kernel
theorem dX3_writeTo_23 : decode cX3_writeTo 23 = .ok (.iconst 2, 1) := by decide +kernel
theorem dX3_writeTo_24 : decode cX3_writeTo 24 = .ok (.iadd, 1) := by decide +kernel
theorem dX3_writeTo_25 : decode cX3_writeTo 25 = .ok (.aload_n 0, 1) := by decide +kernel
theorem dX3_writeTo_26 : decode cX3_writeTo 26 = .ok (.getfield 15, 3) := by decide +kernel
theorem dX3_writeTo_29 : decode cX3_writeTo 29 = .ok (.arraylength, 1) := by decide +kernel
theorem dX3_writeTo_30 : decode cX3_writeTo 30 = .ok (.invokestatic 43, 3) := by decide +kernel
theorem dX3_writeTo_33 : decode cX3_writeTo 33 = .ok (.return_, 1) := by decide +kernel
theorem dX3_readFrom_0 : decode cX3_readFrom 0 = .ok (.aload_n 0, 1) := by decide +kernel
theorem dX3_readFrom_1 : decode cX3_readFrom 1 = .ok (.aload_n 1, 1) := by decide +kernel
theorem dX3_readFrom_2 : decode cX3_readFrom 2 = .ok (.iload_n 2, 1) := by decide +kernel
theorem dX3_readFrom_3 : decode cX3_readFrom 3 = .ok (.iaload, 1) := by decide +kernel
theorem dX3_readFrom_4 : decode cX3_readFrom 4 = .ok (.putfield 23, 3) := by decide +kernel
theorem dX3_readFrom_7 : decode cX3_readFrom 7 = .ok (.aload_n 0, 1) := by decide +kernel
theorem dX3_readFrom_8 : decode cX3_readFrom 8 = .ok (.aload_n 1, 1) := by decide +kernel
theorem dX3_readFrom_9 : decode cX3_readFrom 9 = .ok (.iload_n 2, 1) := by decide +kernel
theorem dX3_readFrom_10 : decode cX3_readFrom 10 = .ok (.iconst 1, 1) := by decide +kernel
theorem dX3_readFrom_11 : decode cX3_readFrom 11 = .ok (.iadd, 1) := by decide +kernel
theorem dX3_readFrom_12 : decode cX3_readFrom 12 = .ok (.iaload, 1) := by decide +kernel
theorem dX3_readFrom_13 : decode cX3_readFrom 13 = .ok (.putfield 9, 3) := by decide +kernel
theorem dX3_readFrom_16 : decode cX3_readFrom 16 = .ok (.aload_n 1, 1) := by decide +kernel
theorem dX3_readFrom_17 : decode cX3_readFrom 17 = .ok (.iload_n 2, 1) := by decide +kernel
theorem dX3_readFrom_18 : decode cX3_readFrom 18 = .ok (.iconst 2, 1) := by decide +kernel
theorem dX3_readFrom_19 : decode cX3_readFrom 19 = .ok (.iadd, 1) := by decide +kernel
theorem dX3_readFrom_20 : decode cX3_readFrom 20 = .ok (.aload_n 0, 1) := by decide +kernel
theorem dX3_readFrom_21 : decode cX3_readFrom 21 = .ok (.getfield 15, 3) := by decide +kernel
theorem dX3_readFrom_24 : decode cX3_readFrom 24 = .ok (.iconst 0, 1) := by decide +kernel
theorem dX3_readFrom_25 : decode cX3_readFrom 25 = .ok (.aload_n 0, 1) := by decide +kernel
theorem dX3_readFrom_26 : decode cX3_readFrom 26 = .ok (.getfield 15, 3) := by decide +kernel
theorem dX3_readFrom_29 : decode cX3_readFrom 29 = .ok (.arraylength, 1) := by decide +kernel
theorem dX3_readFrom_30 : decode cX3_readFrom 30 = .ok (.invokestatic 43, 3) := by decide +kernel
theorem dX3_readFrom_33 : decode cX3_readFrom 33 = .ok (.return_, 1) := by decide +kernel
theorem dX4_init_0 : decode cX4_init 0 = .ok (.aload_n 0, 1) := by decide +kernel
theorem dX4_init_1 : decode cX4_init 1 = .ok (.invokespecial 1, 3) := by decide +kernel
theorem dX4_init_4 : decode cX4_init 4 = .ok (.return_, 1) := by decide +kernel
theorem dX4_seek_0 : decode cX4_seek 0 = .ok (.lload_n 3, 1) := by decide +kernel
theorem dX4_seek_1 : decode cX4_seek 1 = .ok (.invokestatic 7, 3) := by decide +kernel
theorem dX4_seek_4 : decode cX4_seek 4 = .ok (.lstore 6, 2) := by decide +kernel
theorem dX4_seek_6 : decode cX4_seek 6 = .ok (.lload_n 3, 1) := by decide +kernel
theorem dX4_seek_7 : decode cX4_seek 7 = .ok (.lstore 8, 2) := by decide +kernel
theorem dX4_seek_9 : decode cX4_seek 9 = .ok (.lload_n 1, 1) := by decide +kernel
theorem dX4_seek_10 : decode cX4_seek 10 = .ok (.lstore 10, 2) := by decide +kernel
theorem dX4_seek_12 : decode cX4_seek 12 = .ok (.lconst 0, 1) := by decide +kernel
theorem dX4_seek_13 : decode cX4_seek 13 = .ok (.lstore 12, 2) := by decide +kernel
theorem dX4_seek_15 : decode cX4_seek 15 = .ok (.lconst 1, 1) := by decide +kernel
theorem dX4_seek_16 : decode cX4_seek 16 = .ok (.lstore 14, 2) := by decide +kernel
theorem dX4_seek_18 : decode cX4_seek 18 = .ok (.iconst 0, 1) := by decide +kernel
theorem dX4_seek_19 : decode cX4_seek 19 = .ok (.istore 16, 2) := by decide +kernel
theorem dX4_seek_21 : decode cX4_seek 21 = .ok (.iload 16, 2) := by decide +kernel
theorem dX4_seek_23 : decode cX4_seek 23 = .ok (.sipush 200, 3) := by decide +kernel
theorem dX4_seek_26 : decode cX4_seek 26 = .ok (.if_icmp .ge 62, 3) := by decide +kernel
theorem dX4_seek_29 : decode cX4_seek 29 = .ok (.lload 10, 2) := by decide +kernel
theorem dX4_seek_31 : decode cX4_seek 31 = .ok (.lload 6, 2) := by decide +kernel
theorem dX4_seek_33 : decode cX4_seek 33 = .ok (.lcmp, 1) := by decide +kernel
theorem dX4_seek_34 : decode cX4_seek 34 = .ok (.ifCond .le 54, 3) := by decide +kernel
theorem dX4_seek_37 : decode cX4_seek 37 = .ok (.lload 8, 2) := by decide +kernel
theorem dX4_seek_39 : decode cX4_seek 39 = .ok (.lload 10, 2) := by decide +kernel
theorem dX4_seek_41 : decode cX4_seek 41 = .ok (.invokestatic 13, 3) := by decide +kernel
theorem dX4_seek_44 : decode cX4_seek 44 = .ok (.lstore 17, 2) := by decide +kernel
theorem dX4_seek_46 : decode cX4_seek 46 = .ok (.lload 8, 2) := by decide +kernel
theorem dX4_seek_48 : decode cX4_seek 48 = .ok (.lload 17, 2) := by decide +kernel
theorem dX4_seek_50 : decode cX4_seek 50 = .ok (.lload 10, 2) := by decide +kernel
theorem dX4_seek_52 : decode cX4_seek 52 = .ok (.lmul, 1) := by decide +kernel
theorem dX4_seek_53 : decode cX4_seek 53 = .ok (.lsub, 1) := by decide +kernel
theorem dX4_seek_54 : decode cX4_seek 54 = .ok (.lstore 19, 2) := by decide +kernel
theorem dX4_seek_56 : decode cX4_seek 56 = .ok (.lload 10, 2) := by decide +kernel
theorem dX4_seek_58 : decode cX4_seek 58 = .ok (.lstore 8, 2) := by decide +kernel
theorem dX4_seek_60 : decode cX4_seek 60 = .ok (.lload 19, 2) := by decide +kernel
theorem dX4_seek_62 : decode cX4_seek 62 = .ok (.lstore 10, 2) := by decide +kernel
theorem dX4_seek_64 : decode cX4_seek 64 = .ok (.lload 12, 2) := by decide +kernel
theorem dX4_seek_66 : decode cX4_seek 66 = .ok (.lload 17, 2) := by decide +kernel
theorem dX4_seek_68 : decode cX4_seek 68 = .ok (.lload 14, 2) := by decide +kernel
theorem dX4_seek_70 : decode cX4_seek 70 = .ok (.lmul, 1) := by decide +kernel
theorem dX4_seek_71 : decode cX4_seek 71 = .ok (.lsub, 1) := by decide +kernel
theorem dX4_seek_72 : decode cX4_seek 72 = .ok (.lstore 21, 2) := by decide +kernel
theorem dX4_seek_74 : decode cX4_seek 74 = .ok (.lload 14, 2) := by decide +kernel
theorem dX4_seek_76 : decode cX4_seek 76 = .ok (.lstore 12, 2) := by decide +kernel
theorem dX4_seek_78 : decode cX4_seek 78 = .ok (.lload 21, 2) := by decide +kernel
theorem dX4_seek_80 : decode cX4_seek 80 = .ok (.lstore 14, 2) := by decide +kernel
theorem dX4_seek_82 : decode cX4_seek 82 = .ok (.iinc 16 1, 3) := by decide +kernel
theorem dX4_seek_85 : decode cX4_seek 85 = .ok (.goto (-64), 3) := by decide +kernel
theorem dX4_seek_88 : decode cX4_seek 88 = .ok (.aload_n 0, 1) := by decide +kernel
theorem dX4_seek_89 : decode cX4_seek 89 = .ok (.lload 14, 2) := by decide +kernel
theorem dX4_seek_91 : decode cX4_seek 91 = .ok (.lconst 0, 1) := by decide +kernel
theorem dX4_seek_92 : decode cX4_seek 92 = .ok (.lcmp, 1) := by decide +kernel
theorem dX4_seek_93 : decode cX4_seek 93 = .ok (.ifCond .ge 9, 3) := by decide +kernel
theorem dX4_seek_96 : decode cX4_seek 96 = .ok (.lload 10, 2) := by decide +kernel
theorem dX4_seek_98 : decode cX4_seek 98 = .ok (.lneg, 1) := by decide +kernel
theorem dX4_seek_99 : decode cX4_seek 99 = .ok (.goto 5, 3) := by decide +kernel
theorem dX4_seek_102 : decode cX4_seek 102 = .ok (.lload 10, 2) := by decide +kernel
theorem dX4_seek_104 : decode cX4_seek 104 = .ok (.putfield 19, 3) := by decide +kernel
theorem dX4_seek_107 : decode cX4_seek 107 = .ok (.aload_n 0, 1) := by decide +kernel
theorem dX4_seek_108 : decode cX4_seek 108 = .ok (.lload 14, 2) := by decide +kernel
theorem dX4_seek_110 : decode cX4_seek 110 = .ok (.invokestatic 23, 3) := by decide +kernel
theorem dX4_seek_113 : decode cX4_seek 113 = .ok (.putfield 28, 3) := by decide +kernel
theorem dX4_seek_116 : decode cX4_seek 116 = .ok (.aload_n 0, 1) := by decide +kernel
theorem dX4_seek_117 : decode cX4_seek 117 = .ok (.aload_n 0, 1) := by decide +kernel
theorem dX4_seek_118 : decode cX4_seek 118 = .ok (.getfield 28, 3) := by decide +kernel
theorem dX4_seek_121 : decode cX4_seek 121 = .ok (.lload 6, 2) := by decide +kernel
theorem dX4_seek_123 : decode cX4_seek 123 = .ok (.lcmp, 1) := by decide +kernel
theorem dX4_seek_124 : decode cX4_seek 124 = .ok (.ifCond .gt 19, 3) := by decide +kernel
theorem dX4_seek_127 : decode cX4_seek 127 = .ok (.aload_n 0, 1) := by decide +kernel
theorem dX4_seek_128 : decode cX4_seek 128 = .ok (.getfield 28, 3) := by decide +kernel
theorem dX4_seek_131 : decode cX4_seek 131 = .ok (.iload 5, 2) := by decide +kernel
theorem dX4_seek_133 : decode cX4_seek 133 = .ok (.invokestatic 31, 3) := by decide +kernel
theorem dX4_seek_136 : decode cX4_seek 136 = .ok (.ifCond .eq 7, 3) := by decide +kernel
theorem dX4_seek_139 : decode cX4_seek 139 = .ok (.iconst 1, 1) := by decide +kernel
theorem dX4_seek_140 : decode cX4_seek 140 = .ok (.goto 4, 3) := by decide +kernel
theorem dX4_seek_143 : decode cX4_seek 143 = .ok (.iconst 0, 1) := by decide +kernel
theorem dX4_seek_144 : decode cX4_seek 144 = .ok (.putfield 35, 3) := by decide +kernel
theorem dX4_seek_147 : decode cX4_seek 147 = .ok (.return_, 1) := by decide +kernel
theorem dX4_boundOf_0 : decode cX4_boundOf 0 = .ok (.lconst 0, 1) := by decide +kernel
theorem dX4_boundOf_1 : decode cX4_boundOf 1 = .ok (.lstore_n 2, 1) := by decide +kernel
theorem dX4_boundOf_2 : decode cX4_boundOf 2 = .ok (.bipush 29, 2) := by decide +kernel
theorem dX4_boundOf_4 : decode cX4_boundOf 4 = .ok (.istore 4, 2) := by decide +kernel
theorem dX4_boundOf_6 : decode cX4_boundOf 6 = .ok (.iload 4, 2) := by decide +kernel
theorem dX4_boundOf_8 : decode cX4_boundOf 8 = .ok (.ifCond .lt 34, 3) := by decide +kernel
theorem dX4_boundOf_11 : decode cX4_boundOf 11 = .ok (.lload_n 2, 1) := by decide +kernel
theorem dX4_boundOf_12 : decode cX4_boundOf 12 = .ok (.lconst 1, 1) := by decide +kernel
theorem dX4_boundOf_13 : decode cX4_boundOf 13 = .ok (.iload 4, 2) := by decide +kernel
theorem dX4_boundOf_15 : decode cX4_boundOf 15 = .ok (.lshl, 1) := by decide +kernel
theorem dX4_boundOf_16 : decode cX4_boundOf 16 = .ok (.ladd, 1) := by decide +kernel
theorem dX4_boundOf_17 : decode cX4_boundOf 17 = .ok (.lstore 5, 2) := by decide +kernel
theorem dX4_boundOf_19 : decode cX4_boundOf 19 = .ok (.ldc2_w 39, 3) := by decide +kernel
theorem dX4_boundOf_22 : decode cX4_boundOf 22 = .ok (.lload 5, 2) := by decide +kernel
theorem dX4_boundOf_24 : decode cX4_boundOf 24 = .ok (.lmul, 1) := by decide +kernel
theorem dX4_boundOf_25 : decode cX4_boundOf 25 = .ok (.lload 5, 2) := by decide +kernel
theorem dX4_boundOf_27 : decode cX4_boundOf 27 = .ok (.lmul, 1) := by decide +kernel
theorem dX4_boundOf_28 : decode cX4_boundOf 28 = .ok (.lload_n 0, 1) := by decide +kernel
theorem dX4_boundOf_29 : decode cX4_boundOf 29 = .ok (.lcmp, 1) := by decide +kernel
theorem dX4_boundOf_30 : decode cX4_boundOf 30 = .ok (.ifCond .ge 6, 3) := by decide +kernel
theorem dX4_boundOf_33 : decode cX4_boundOf 33 = .ok (.lload 5, 2) := by decide +kernel
theorem dX4_boundOf_35 : decode cX4_boundOf 35 = .ok (.lstore_n 2, 1) := by decide +kernel
theorem dX4_boundOf_36 : decode cX4_boundOf 36 = .ok (.iinc 4 (-1), 3) := by decide +kernel
theorem dX4_boundOf_39 : decode cX4_boundOf 39 = .ok (.goto (-33), 3) := by decide +kernel
theorem dX4_boundOf_42 : decode cX4_boundOf 42 = .ok (.lload_n 2, 1) := by decide +kernel
theorem dX4_boundOf_43 : decode cX4_boundOf 43 = .ok (.lreturn, 1) := by decide +kernel
theorem dX4_is_0 : decode cX4_is 0 = .ok (.aload_n 0, 1) := by decide +kernel
theorem dX4_is_1 : decode cX4_is 1 = .ok (.getfield 35, 3) := by decide +kernel
theorem dX4_is_4 : decode cX4_is 4 = .ok (.ifCond .eq 25, 3) := by decide +kernel
theorem dX4_is_7 : decode cX4_is 7 = .ok (.aload_n 0, 1) := by decide +kernel
theorem dX4_is_8 : decode cX4_is 8 = .ok (.getfield 19, 3) := by decide +kernel
theorem dX4_is_11 : decode cX4_is 11 = .ok (.lload_n 1, 1) := by decide +kernel
theorem dX4_is_12 : decode cX4_is 12 = .ok (.lcmp, 1) := by decide +kernel
theorem dX4_is_13 : decode cX4_is 13 = .ok (.ifCond .ne 16, 3) := by decide +kernel
theorem dX4_is_16 : decode cX4_is 16 = .ok (.aload_n 0, 1) := by decide +kernel
theorem dX4_is_17 : decode cX4_is 17 = .ok (.getfield 28, 3) := by decide +kernel
theorem dX4_is_20 : decode cX4_is 20 = .ok (.lload_n 3, 1) := by decide +kernel
theorem dX4_is_21 : decode cX4_is 21 = .ok (.lcmp, 1) := by decide +kernel
theorem dX4_is_22 : decode cX4_is 22 = .ok (.ifCond .ne 7, 3) := by decide +kernel
theorem dX4_is_25 : decode cX4_is 25 = .ok (.iconst 1, 1) := by decide +kernel
theorem dX4_is_26 : decode cX4_is 26 = .ok (.goto 4, 3) := by decide +kernel
theorem dX4_is_29 : decode cX4_is 29 = .ok (.iconst 0, 1) := by decide +kernel
theorem dX4_is_30 : decode cX4_is 30 = .ok (.ireturn, 1) := by decide +kernel
theorem dX5_init_0 : decode cX5_init 0 = .ok (.aload_n 0, 1) := by decide +kernel
theorem dX5_init_1 : decode cX5_init 1 = .ok (.invokespecial 3, 3) := by decide +kernel
theorem dX5_init_4 : decode cX5_init 4 = .ok (.aload_n 0, 1) := by decide +kernel
theorem dX5_init_5 : decode cX5_init 5 = .ok (.sipush 352, 3) := by decide +kernel
theorem dX5_init_8 : decode cX5_init 8 = .ok (.newarray .int, 2) := by decide +kernel
theorem dX5_init_10 : decode cX5_init 10 = .ok (.putfield 11, 3) := by decide +kernel
theorem dX5_init_13 : decode cX5_init 13 = .ok (.return_, 1) := by decide +kernel
theorem dX5_remember_0 : decode cX5_remember 0 = .ok (.aload_n 1, 1) := by decide +kernel
theorem dX5_remember_1 : decode cX5_remember 1 = .ok (.aload_n 0, 1) := by decide +kernel
theorem dX5_remember_2 : decode cX5_remember 2 = .ok (.getfield 11, 3) := by decide +kernel
theorem dX5_remember_5 : decode cX5_remember 5 = .ok (.aload_n 0, 1) := by decide +kernel
theorem dX5_remember_6 : decode cX5_remember 6 = .ok (.getfield 17, 3) := by decide +kernel
theorem dX5_remember_9 : decode cX5_remember 9 = .ok (.bipush 22, 2) := by decide +kernel
theorem dX5_remember_11 : decode cX5_remember 11 = .ok (.imul, 1) := by decide +kernel
theorem dX5_remember_12 : decode cX5_remember 12 = .ok (.invokevirtual 21, 3) := by decide +kernel
theorem dX5_remember_15 : decode cX5_remember 15 = .ok (.aload_n 0, 1) := by decide +kernel
theorem dX5_remember_16 : decode cX5_remember 16 = .ok (.aload_n 0, 1) := by decide +kernel
theorem dX5_remember_17 : decode cX5_remember 17 = .ok (.getfield 17, 3) := by decide +kernel
theorem dX5_remember_20 : decode cX5_remember 20 = .ok (.iconst 1, 1) := by decide +kernel
theorem dX5_remember_21 : decode cX5_remember 21 = .ok (.iadd, 1) := by decide +kernel
theorem dX5_remember_22 : decode cX5_remember 22 = .ok (.bipush 16, 2) := by decide +kernel
theorem dX5_remember_24 : decode cX5_remember 24 = .ok (.irem, 1) := by decide +kernel
theorem dX5_remember_25 : decode cX5_remember 25 = .ok (.putfield 17, 3) := by decide +kernel
theorem dX5_remember_28 : decode cX5_remember 28 = .ok (.aload_n 0, 1) := by decide +kernel
theorem dX5_remember_29 : decode cX5_remember 29 = .ok (.aload_n 0, 1) := by decide +kernel
theorem dX5_remember_30 : decode cX5_remember 30 = .ok (.getfield 25, 3) := by decide +kernel
theorem dX5_remember_33 : decode cX5_remember 33 = .ok (.iconst 1, 1) := by decide +kernel
theorem dX5_remember_34 : decode cX5_remember 34 = .ok (.iadd, 1) := by decide +kernel
theorem dX5_remember_35 : decode cX5_remember 35 = .ok (.bipush 16, 2) := by decide +kernel
theorem dX5_remember_37 : decode cX5_remember 37 = .ok (.invokestatic 28, 3) := by decide +kernel
theorem dX5_remember_40 : decode cX5_remember 40 = .ok (.putfield 25, 3) := by decide +kernel
theorem dX5_remember_43 : decode cX5_remember 43 = .ok (.return_, 1) := by decide +kernel
theorem dX5_bringBack_0 : decode cX5_bringBack 0 = .ok (.aload_n 0, 1) := by decide +kernel
theorem dX5_bringBack_1 : decode cX5_bringBack 1 = .ok (.aload_n 0, 1) := by decide +kernel
theorem dX5_bringBack_2 : decode cX5_bringBack 2 = .ok (.getfield 17, 3) := by decide +kernel
theorem dX5_bringBack_5 : decode cX5_bringBack 5 = .ok (.iload_n 2, 1) := by decide +kernel
theorem dX5_bringBack_6 : decode cX5_bringBack 6 = .ok (.isub, 1) := by decide +kernel
theorem dX5_bringBack_7 : decode cX5_bringBack 7 = .ok (.bipush 16, 2) := by decide +kernel
theorem dX5_bringBack_9 : decode cX5_bringBack 9 = .ok (.invokestatic 34, 3) := by decide +kernel
theorem dX5_bringBack_12 : decode cX5_bringBack 12 = .ok (.putfield 17, 3) := by decide +kernel
theorem dX5_bringBack_15 : decode cX5_bringBack 15 = .ok (.aload_n 0, 1) := by decide +kernel
theorem dX5_bringBack_16 : decode cX5_bringBack 16 = .ok (.dup, 1) := by decide +kernel
theorem dX5_bringBack_17 : decode cX5_bringBack 17 = .ok (.getfield 25, 3) := by decide +kernel
theorem dX5_bringBack_20 : decode cX5_bringBack 20 = .ok (.iload_n 2, 1) := by decide +kernel
theorem dX5_bringBack_21 : decode cX5_bringBack 21 = .ok (.isub, 1) := by decide +kernel
theorem dX5_bringBack_22 : decode cX5_bringBack 22 = .ok (.putfield 25, 3) := by decide +kernel
theorem dX5_bringBack_25 : decode cX5_bringBack 25 = .ok (.aload_n 1, 1) := by decide +kernel
theorem dX5_bringBack_26 : decode cX5_bringBack 26 = .ok (.aload_n 0, 1) := by decide +kernel
theorem dX5_bringBack_27 : decode cX5_bringBack 27 = .ok (.getfield 11, 3) := by decide +kernel
theorem dX5_bringBack_30 : decode cX5_bringBack 30 = .ok (.aload_n 0, 1) := by decide +kernel
theorem dX5_bringBack_31 : decode cX5_bringBack 31 = .ok (.getfield 17, 3) := by decide +kernel
theorem dX5_bringBack_34 : decode cX5_bringBack 34 = .ok (.bipush 22, 2) := by decide +kernel
theorem dX5_bringBack_36 : decode cX5_bringBack 36 = .ok (.imul, 1) := by decide +kernel
theorem dX5_bringBack_37 : decode cX5_bringBack 37 = .ok (.invokevirtual 37, 3) := by decide +kernel
theorem dX5_bringBack_40 : decode cX5_bringBack 40 = .ok (.return_, 1) := by decide +kernel
theorem dX6_init_0 : decode cX6_init 0 = .ok (.aload_n 0, 1) := by decide +kernel
theorem dX6_init_1 : decode cX6_init 1 = .ok (.invokespecial 1, 3) := by decide +kernel
theorem dX6_init_4 : decode cX6_init 4 = .ok (.aload_n 0, 1) := by decide +kernel
theorem dX6_init_5 : decode cX6_init 5 = .ok (.bipush 22, 2) := by decide +kernel
theorem dX6_init_7 : decode cX6_init 7 = .ok (.newarray .int, 2) := by decide +kernel
theorem dX6_init_9 : decode cX6_init 9 = .ok (.putfield 9, 3) := by decide +kernel
theorem dX6_init_12 : decode cX6_init 12 = .ok (.return_, 1) := by decide +kernel
theorem dX6_take_0 : decode cX6_take 0 = .ok (.aload_n 1, 1) := by decide +kernel
theorem dX6_take_1 : decode cX6_take 1 = .ok (.aload_n 0, 1) := by decide +kernel
theorem dX6_take_2 : decode cX6_take 2 = .ok (.getfield 9, 3) := by decide +kernel
theorem dX6_take_5 : decode cX6_take 5 = .ok (.iconst 0, 1) := by decide +kernel
theorem dX6_take_6 : decode cX6_take 6 = .ok (.invokevirtual 15, 3) := by decide +kernel
theorem dX6_take_9 : decode cX6_take 9 = .ok (.aload_n 0, 1) := by decide +kernel
theorem dX6_take_10 : decode cX6_take 10 = .ok (.aload_n 2, 1) := by decide +kernel
theorem dX6_take_11 : decode cX6_take 11 = .ok (.getfield 19, 3) := by decide +kernel
theorem dX6_take_14 : decode cX6_take 14 = .ok (.putfield 25, 3) := by decide +kernel
theorem dX6_take_17 : decode cX6_take 17 = .ok (.aload_n 0, 1) := by decide +kernel
theorem dX6_take_18 : decode cX6_take 18 = .ok (.iconst 1, 1) := by decide +kernel
theorem dX6_take_19 : decode cX6_take 19 = .ok (.putfield 28, 3) := by decide +kernel
theorem dX6_take_22 : decode cX6_take 22 = .ok (.return_, 1) := by decide +kernel
theorem dX6_give_0 : decode cX6_give 0 = .ok (.aload_n 1, 1) := by decide +kernel
theorem dX6_give_1 : decode cX6_give 1 = .ok (.aload_n 0, 1) := by decide +kernel
theorem dX6_give_2 : decode cX6_give 2 = .ok (.getfield 9, 3) := by decide +kernel
theorem dX6_give_5 : decode cX6_give 5 = .ok (.iconst 0, 1) := by decide +kernel
theorem dX6_give_6 : decode cX6_give 6 = .ok (.invokevirtual 32, 3) := by decide +kernel
theorem dX6_give_9 : decode cX6_give 9 = .ok (.aload_n 2, 1) := by decide +kernel
theorem dX6_give_10 : decode cX6_give 10 = .ok (.aload_n 0, 1) := by decide +kernel
theorem dX6_give_11 : decode cX6_give 11 = .ok (.getfield 25, 3) := by decide +kernel
theorem dX6_give_14 : decode cX6_give 14 = .ok (.putfield 19, 3) := by decide +kernel
theorem dX6_give_17 : decode cX6_give 17 = .ok (.return_, 1) := by decide +kernel
theorem dX7_init_0 : decode cX7_init 0 = .ok (.aload_n 0, 1) := by decide +kernel
theorem dX7_init_1 : decode cX7_init 1 = .ok (.invokespecial 3, 3) := by decide +kernel
theorem dX7_init_4 : decode cX7_init 4 = .ok (.aload_n 0, 1) := by decide +kernel
theorem dX7_init_5 : decode cX7_init 5 = .ok (.iconst 4, 1) := by decide +kernel
theorem dX7_init_6 : decode cX7_init 6 = .ok (.newarray .int, 2) := by decide +kernel
theorem dX7_init_8 : decode cX7_init 8 = .ok (.putfield 9, 3) := by decide +kernel
theorem dX7_init_11 : decode cX7_init 11 = .ok (.aload_n 0, 1) := by decide +kernel
theorem dX7_init_12 : decode cX7_init 12 = .ok (.iconst 4, 1) := by decide +kernel
theorem dX7_init_13 : decode cX7_init 13 = .ok (.newarray .int, 2) := by decide +kernel
theorem dX7_init_15 : decode cX7_init 15 = .ok (.putfield 15, 3) := by decide +kernel
theorem dX7_init_18 : decode cX7_init 18 = .ok (.aload_n 0, 1) := by decide +kernel
theorem dX7_init_19 : decode cX7_init 19 = .ok (.iconst 4, 1) := by decide +kernel
theorem dX7_init_20 : decode cX7_init 20 = .ok (.newarray .long, 2) := by decide +kernel
theorem dX7_init_22 : decode cX7_init 22 = .ok (.putfield 18, 3) := by decide +kernel
theorem dX7_init_25 : decode cX7_init 25 = .ok (.return_, 1) := by decide +kernel
theorem dX7_begin_0 : decode cX7_begin 0 = .ok (.aload_n 0, 1) := by decide +kernel
theorem dX7_begin_1 : decode cX7_begin 1 = .ok (.lconst 1, 1) := by decide +kernel
theorem dX7_begin_2 : decode cX7_begin 2 = .ok (.putfield 22, 3) := by decide +kernel
theorem dX7_begin_5 : decode cX7_begin 5 = .ok (.iconst 0, 1) := by decide +kernel
theorem dX7_begin_6 : decode cX7_begin 6 = .ok (.istore_n 2, 1) := by decide +kernel
theorem dX7_begin_7 : decode cX7_begin 7 = .ok (.iload_n 2, 1) := by decide +kernel
theorem dX7_begin_8 : decode cX7_begin 8 = .ok (.iconst 4, 1) := by decide +kernel
theorem dX7_begin_9 : decode cX7_begin 9 = .ok (.if_icmp .ge 28, 3) := by decide +kernel
theorem dX7_begin_12 : decode cX7_begin 12 = .ok (.aload_n 0, 1) := by decide +kernel
theorem dX7_begin_13 : decode cX7_begin 13 = .ok (.getfield 9, 3) := by decide +kernel
theorem dX7_begin_16 : decode cX7_begin 16 = .ok (.iload_n 2, 1) := by decide +kernel
theorem dX7_begin_17 : decode cX7_begin 17 = .ok (.aload_n 1, 1) := by decide +kernel
theorem dX7_begin_18 : decode cX7_begin 18 = .ok (.iload_n 2, 1) := by decide +kernel
theorem dX7_begin_19 : decode cX7_begin 19 = .ok (.iconst 4, 1) := by decide +kernel
theorem dX7_begin_20 : decode cX7_begin 20 = .ok (.invokevirtual 26, 3) := by decide +kernel
theorem dX7_begin_23 : decode cX7_begin 23 = .ok (.iastore, 1) := by decide +kernel
theorem dX7_begin_24 : decode cX7_begin 24 = .ok (.aload_n 0, 1) := by decide +kernel
theorem dX7_begin_25 : decode cX7_begin 25 = .ok (.getfield 18, 3) := by decide +kernel
theorem dX7_begin_28 : decode cX7_begin 28 = .ok (.iload_n 2, 1) := by decide +kernel
theorem dX7_begin_29 : decode cX7_begin 29 = .ok (.lconst 0, 1) := by decide +kernel
theorem dX7_begin_30 : decode cX7_begin 30 = .ok (.lastore, 1) := by decide +kernel
theorem dX7_begin_31 : decode cX7_begin 31 = .ok (.iinc 2 1, 3) := by decide +kernel
theorem dX7_begin_34 : decode cX7_begin 34 = .ok (.goto (-27), 3) := by decide +kernel
theorem dX7_begin_37 : decode cX7_begin 37 = .ok (.return_, 1) := by decide +kernel
theorem dX7_step_0 : decode cX7_step 0 = .ok (.aload_n 1, 1) := by decide +kernel
theorem dX7_step_1 : decode cX7_step 1 = .ok (.getfield 32, 3) := by decide +kernel
theorem dX7_step_4 : decode cX7_step 4 = .ok (.istore_n 3, 1) := by decide +kernel
theorem dX7_step_5 : decode cX7_step 5 = .ok (.aload_n 1, 1) := by decide +kernel
theorem dX7_step_6 : decode cX7_step 6 = .ok (.invokevirtual 36, 3) := by decide +kernel
theorem dX7_step_9 : decode cX7_step 9 = .ok (.istore 4, 2) := by decide +kernel
theorem dX7_step_11 : decode cX7_step 11 = .ok (.iconst 0, 1) := by decide +kernel
theorem dX7_step_12 : decode cX7_step 12 = .ok (.istore 5, 2) := by decide +kernel
theorem dX7_step_14 : decode cX7_step 14 = .ok (.iload 5, 2) := by decide +kernel
theorem dX7_step_16 : decode cX7_step 16 = .ok (.iload_n 3, 1) := by decide +kernel
theorem dX7_step_17 : decode cX7_step 17 = .ok (.if_icmp .ge 86, 3) := by decide +kernel
theorem dX7_step_20 : decode cX7_step 20 = .ok (.iconst 0, 1) := by decide +kernel
theorem dX7_step_21 : decode cX7_step 21 = .ok (.istore 6, 2) := by decide +kernel
theorem dX7_step_23 : decode cX7_step 23 = .ok (.iconst 0, 1) := by decide +kernel
theorem dX7_step_24 : decode cX7_step 24 = .ok (.istore 7, 2) := by decide +kernel
theorem dX7_step_26 : decode cX7_step 26 = .ok (.iload 7, 2) := by decide +kernel
theorem dX7_step_28 : decode cX7_step 28 = .ok (.iload_n 3, 1) := by decide +kernel
theorem dX7_step_29 : decode cX7_step 29 = .ok (.if_icmp .ge 30, 3) := by decide +kernel
theorem dX7_step_32 : decode cX7_step 32 = .ok (.iload 6, 2) := by decide +kernel
theorem dX7_step_34 : decode cX7_step 34 = .ok (.aload_n 2, 1) := by decide +kernel
theorem dX7_step_35 : decode cX7_step 35 = .ok (.iload 5, 2) := by decide +kernel
theorem dX7_step_37 : decode cX7_step 37 = .ok (.iload 7, 2) := by decide +kernel
theorem dX7_step_39 : decode cX7_step 39 = .ok (.invokevirtual 40, 3) := by decide +kernel
theorem dX7_step_42 : decode cX7_step 42 = .ok (.aload_n 0, 1) := by decide +kernel
theorem dX7_step_43 : decode cX7_step 43 = .ok (.getfield 9, 3) := by decide +kernel
theorem dX7_step_46 : decode cX7_step 46 = .ok (.iload 7, 2) := by decide +kernel
theorem dX7_step_48 : decode cX7_step 48 = .ok (.iaload, 1) := by decide +kernel
theorem dX7_step_49 : decode cX7_step 49 = .ok (.imul, 1) := by decide +kernel
theorem dX7_step_50 : decode cX7_step 50 = .ok (.iadd, 1) := by decide +kernel
theorem dX7_step_51 : decode cX7_step 51 = .ok (.istore 6, 2) := by decide +kernel
theorem dX7_step_53 : decode cX7_step 53 = .ok (.iinc 7 1, 3) := by decide +kernel
theorem dX7_step_56 : decode cX7_step 56 = .ok (.goto (-30), 3) := by decide +kernel
theorem dX7_step_59 : decode cX7_step 59 = .ok (.aload_n 0, 1) := by decide +kernel
theorem dX7_step_60 : decode cX7_step 60 = .ok (.getfield 15, 3) := by decide +kernel
theorem dX7_step_63 : decode cX7_step 63 = .ok (.iload 5, 2) := by decide +kernel
theorem dX7_step_65 : decode cX7_step 65 = .ok (.iload 6, 2) := by decide +kernel
theorem dX7_step_67 : decode cX7_step 67 = .ok (.i2l, 1) := by decide +kernel
theorem dX7_step_68 : decode cX7_step 68 = .ok (.iload 4, 2) := by decide +kernel
theorem dX7_step_70 : decode cX7_step 70 = .ok (.invokestatic 45, 3) := by decide +kernel
theorem dX7_step_73 : decode cX7_step 73 = .ok (.iastore, 1) := by decide +kernel
theorem dX7_step_74 : decode cX7_step 74 = .ok (.aload_n 0, 1) := by decide +kernel
theorem dX7_step_75 : decode cX7_step 75 = .ok (.getfield 18, 3) := by decide +kernel
theorem dX7_step_78 : decode cX7_step 78 = .ok (.iload 5, 2) := by decide +kernel
theorem dX7_step_80 : decode cX7_step 80 = .ok (.dup2, 1) := by decide +kernel
theorem dX7_step_81 : decode cX7_step 81 = .ok (.laload, 1) := by decide +kernel
theorem dX7_step_82 : decode cX7_step 82 = .ok (.aload_n 0, 1) := by decide +kernel
theorem dX7_step_83 : decode cX7_step 83 = .ok (.getfield 15, 3) := by decide +kernel
theorem dX7_step_86 : decode cX7_step 86 = .ok (.iload 5, 2) := by decide +kernel
theorem dX7_step_88 : decode cX7_step 88 = .ok (.iaload, 1) := by decide +kernel
theorem dX7_step_89 : decode cX7_step 89 = .ok (.i2l, 1) := by decide +kernel
theorem dX7_step_90 : decode cX7_step 90 = .ok (.aload_n 0, 1) := by decide +kernel
theorem dX7_step_91 : decode cX7_step 91 = .ok (.getfield 22, 3) := by decide +kernel
theorem dX7_step_94 : decode cX7_step 94 = .ok (.lmul, 1) := by decide +kernel
theorem dX7_step_95 : decode cX7_step 95 = .ok (.ladd, 1) := by decide +kernel
theorem dX7_step_96 : decode cX7_step 96 = .ok (.lastore, 1) := by decide +kernel
theorem dX7_step_97 : decode cX7_step 97 = .ok (.iinc 5 1, 3) := by decide +kernel
theorem dX7_step_100 : decode cX7_step 100 = .ok (.goto (-86), 3) := by decide +kernel
theorem dX7_step_103 : decode cX7_step 103 = .ok (.iconst 0, 1) := by decide +kernel
theorem dX7_step_104 : decode cX7_step 104 = .ok (.istore 5, 2) := by decide +kernel
theorem dX7_step_106 : decode cX7_step 106 = .ok (.iload 5, 2) := by decide +kernel
theorem dX7_step_108 : decode cX7_step 108 = .ok (.iload_n 3, 1) := by decide +kernel
theorem dX7_step_109 : decode cX7_step 109 = .ok (.if_icmp .ge 71, 3) := by decide +kernel
theorem dX7_step_112 : decode cX7_step 112 = .ok (.aload_n 0, 1) := by decide +kernel
theorem dX7_step_113 : decode cX7_step 113 = .ok (.getfield 9, 3) := by decide +kernel
theorem dX7_step_116 : decode cX7_step 116 = .ok (.iload 5, 2) := by decide +kernel
theorem dX7_step_118 : decode cX7_step 118 = .ok (.iaload, 1) := by decide +kernel
theorem dX7_step_119 : decode cX7_step 119 = .ok (.istore 6, 2) := by decide +kernel
theorem dX7_step_121 : decode cX7_step 121 = .ok (.iconst 0, 1) := by decide +kernel
theorem dX7_step_122 : decode cX7_step 122 = .ok (.istore 7, 2) := by decide +kernel
theorem dX7_step_124 : decode cX7_step 124 = .ok (.iload 7, 2) := by decide +kernel
theorem dX7_step_126 : decode cX7_step 126 = .ok (.iload_n 3, 1) := by decide +kernel
theorem dX7_step_127 : decode cX7_step 127 = .ok (.if_icmp .ge 30, 3) := by decide +kernel
theorem dX7_step_130 : decode cX7_step 130 = .ok (.iload 6, 2) := by decide +kernel
theorem dX7_step_132 : decode cX7_step 132 = .ok (.aload_n 1, 1) := by decide +kernel
theorem dX7_step_133 : decode cX7_step 133 = .ok (.iload 5, 2) := by decide +kernel
theorem dX7_step_135 : decode cX7_step 135 = .ok (.iload 7, 2) := by decide +kernel
theorem dX7_step_137 : decode cX7_step 137 = .ok (.invokevirtual 26, 3) := by decide +kernel
theorem dX7_step_140 : decode cX7_step 140 = .ok (.aload_n 0, 1) := by decide +kernel
theorem dX7_step_141 : decode cX7_step 141 = .ok (.getfield 15, 3) := by decide +kernel
theorem dX7_step_144 : decode cX7_step 144 = .ok (.iload 7, 2) := by decide +kernel
theorem dX7_step_146 : decode cX7_step 146 = .ok (.iaload, 1) := by decide +kernel
theorem dX7_step_147 : decode cX7_step 147 = .ok (.imul, 1) := by decide +kernel
theorem dX7_step_148 : decode cX7_step 148 = .ok (.isub, 1) := by decide +kernel
theorem dX7_step_149 : decode cX7_step 149 = .ok (.istore 6, 2) := by decide +kernel
theorem dX7_step_151 : decode cX7_step 151 = .ok (.iinc 7 1, 3) := by decide +kernel
theorem dX7_step_154 : decode cX7_step 154 = .ok (.goto (-30), 3) := by decide +kernel
theorem dX7_step_157 : decode cX7_step 157 = .ok (.aload_n 0, 1) := by decide +kernel
theorem dX7_step_158 : decode cX7_step 158 = .ok (.getfield 9, 3) := by decide +kernel
theorem dX7_step_161 : decode cX7_step 161 = .ok (.iload 5, 2) := by decide +kernel
theorem dX7_step_163 : decode cX7_step 163 = .ok (.iload 6, 2) := by decide +kernel
theorem dX7_step_165 : decode cX7_step 165 = .ok (.i2l, 1) := by decide +kernel
theorem dX7_step_166 : decode cX7_step 166 = .ok (.iload 4, 2) := by decide +kernel
theorem dX7_step_168 : decode cX7_step 168 = .ok (.i2l, 1) := by decide +kernel
theorem dX7_step_169 : decode cX7_step 169 = .ok (.invokestatic 49, 3) := by decide +kernel
theorem dX7_step_172 : decode cX7_step 172 = .ok (.l2i, 1) := by decide +kernel
theorem dX7_step_173 : decode cX7_step 173 = .ok (.iastore, 1) := by decide +kernel
theorem dX7_step_174 : decode cX7_step 174 = .ok (.iinc 5 1, 3) := by decide +kernel
theorem dX7_step_177 : decode cX7_step 177 = .ok (.goto (-71), 3) := by decide +kernel
theorem dX7_step_180 : decode cX7_step 180 = .ok (.aload_n 0, 1) := by decide +kernel
theorem dX7_step_181 : decode cX7_step 181 = .ok (.dup, 1) := by decide +kernel
theorem dX7_step_182 : decode cX7_step 182 = .ok (.getfield 22, 3) := by decide +kernel
theorem dX7_step_185 : decode cX7_step 185 = .ok (.iload 4, 2) := by decide +kernel
theorem dX7_step_187 : decode cX7_step 187 = .ok (.i2l, 1) := by decide +kernel
theorem dX7_step_188 : decode cX7_step 188 = .ok (.lmul, 1) := by decide +kernel
theorem dX7_step_189 : decode cX7_step 189 = .ok (.putfield 22, 3) := by decide +kernel
theorem dX7_step_192 : decode cX7_step 192 = .ok (.return_, 1) := by decide +kernel
theorem dX8_init_0 : decode cX8_init 0 = .ok (.aload_n 0, 1) := by decide +kernel
theorem dX8_init_1 : decode cX8_init 1 = .ok (.bipush 9, 2) := by decide +kernel
theorem dX8_init_3 : decode cX8_init 3 = .ok (.invokespecial 5, 3) := by decide +kernel
theorem dX8_init_6 : decode cX8_init 6 = .ok (.return_, 1) := by decide +kernel
theorem dX8_clear_0 : decode cX8_clear 0 = .ok (.aload_n 0, 1) := by decide +kernel
theorem dX8_clear_1 : decode cX8_clear 1 = .ok (.aload_n 1, 1) := by decide +kernel
theorem dX8_clear_2 : decode cX8_clear 2 = .ok (.getfield 11, 3) := by decide +kernel
theorem dX8_clear_5 : decode cX8_clear 5 = .ok (.putfield 17, 3) := by decide +kernel
theorem dX8_clear_8 : decode cX8_clear 8 = .ok (.aload_n 0, 1) := by decide +kernel
theorem dX8_clear_9 : decode cX8_clear 9 = .ok (.aload_n 1, 1) := by decide +kernel
theorem dX8_clear_10 : decode cX8_clear 10 = .ok (.invokevirtual 18, 3) := by decide +kernel
theorem dX8_clear_13 : decode cX8_clear 13 = .ok (.putfield 22, 3) := by decide +kernel
theorem dX8_clear_16 : decode cX8_clear 16 = .ok (.iconst 0, 1) := by decide +kernel
theorem dX8_clear_17 : decode cX8_clear 17 = .ok (.istore_n 2, 1) := by decide +kernel
theorem dX8_clear_18 : decode cX8_clear 18 = .ok (.iload_n 2, 1) := by decide +kernel
theorem dX8_clear_19 : decode cX8_clear 19 = .ok (.iconst 4, 1) := by decide +kernel
theorem dX8_clear_20 : decode cX8_clear 20 = .ok (.if_icmp .ge 79, 3) := by decide +kernel
theorem dX8_clear_23 : decode cX8_clear 23 = .ok (.iconst 0, 1) := by decide +kernel
theorem dX8_clear_24 : decode cX8_clear 24 = .ok (.istore_n 3, 1) := by decide +kernel
theorem dX8_clear_25 : decode cX8_clear 25 = .ok (.iload_n 3, 1) := by decide +kernel
theorem dX8_clear_26 : decode cX8_clear 26 = .ok (.iconst 5, 1) := by decide +kernel
theorem dX8_clear_27 : decode cX8_clear 27 = .ok (.if_icmp .ge 32, 3) := by decide +kernel
theorem dX8_clear_30 : decode cX8_clear 30 = .ok (.aload_n 0, 1) := by decide +kernel
theorem dX8_clear_31 : decode cX8_clear 31 = .ok (.getfield 24, 3) := by decide +kernel
theorem dX8_clear_34 : decode cX8_clear 34 = .ok (.iload_n 2, 1) := by decide +kernel
theorem dX8_clear_35 : decode cX8_clear 35 = .ok (.aaload, 1) := by decide +kernel
theorem dX8_clear_36 : decode cX8_clear 36 = .ok (.iload_n 3, 1) := by decide +kernel
theorem dX8_clear_37 : decode cX8_clear 37 = .ok (.aload_n 1, 1) := by decide +kernel
theorem dX8_clear_38 : decode cX8_clear 38 = .ok (.iload_n 2, 1) := by decide +kernel
theorem dX8_clear_39 : decode cX8_clear 39 = .ok (.iload_n 3, 1) := by decide +kernel
theorem dX8_clear_40 : decode cX8_clear 40 = .ok (.invokevirtual 28, 3) := by decide +kernel
theorem dX8_clear_43 : decode cX8_clear 43 = .ok (.i2l, 1) := by decide +kernel
theorem dX8_clear_44 : decode cX8_clear 44 = .ok (.aload_n 0, 1) := by decide +kernel
theorem dX8_clear_45 : decode cX8_clear 45 = .ok (.getfield 22, 3) := by decide +kernel
theorem dX8_clear_48 : decode cX8_clear 48 = .ok (.invokestatic 32, 3) := by decide +kernel
theorem dX8_clear_51 : decode cX8_clear 51 = .ok (.i2l, 1) := by decide +kernel
theorem dX8_clear_52 : decode cX8_clear 52 = .ok (.lastore, 1) := by decide +kernel
theorem dX8_clear_53 : decode cX8_clear 53 = .ok (.iinc 3 1, 3) := by decide +kernel
theorem dX8_clear_56 : decode cX8_clear 56 = .ok (.goto (-31), 3) := by decide +kernel
theorem dX8_clear_59 : decode cX8_clear 59 = .ok (.iconst 5, 1) := by decide +kernel
theorem dX8_clear_60 : decode cX8_clear 60 = .ok (.istore_n 3, 1) := by decide +kernel
theorem dX8_clear_61 : decode cX8_clear 61 = .ok (.iload_n 3, 1) := by decide +kernel
theorem dX8_clear_62 : decode cX8_clear 62 = .ok (.bipush 9, 2) := by decide +kernel
theorem dX8_clear_64 : decode cX8_clear 64 = .ok (.if_icmp .ge 29, 3) := by decide +kernel
theorem dX8_clear_67 : decode cX8_clear 67 = .ok (.aload_n 0, 1) := by decide +kernel
theorem dX8_clear_68 : decode cX8_clear 68 = .ok (.getfield 24, 3) := by decide +kernel
theorem dX8_clear_71 : decode cX8_clear 71 = .ok (.iload_n 2, 1) := by decide +kernel
theorem dX8_clear_72 : decode cX8_clear 72 = .ok (.aaload, 1) := by decide +kernel
theorem dX8_clear_73 : decode cX8_clear 73 = .ok (.iload_n 3, 1) := by decide +kernel
theorem dX8_clear_74 : decode cX8_clear 74 = .ok (.iload_n 3, 1) := by decide +kernel
theorem dX8_clear_75 : decode cX8_clear 75 = .ok (.iconst 5, 1) := by decide +kernel
theorem dX8_clear_76 : decode cX8_clear 76 = .ok (.isub, 1) := by decide +kernel
theorem dX8_clear_77 : decode cX8_clear 77 = .ok (.iload_n 2, 1) := by decide +kernel
theorem dX8_clear_78 : decode cX8_clear 78 = .ok (.if_icmp .ne 7, 3) := by decide +kernel
theorem dX8_clear_81 : decode cX8_clear 81 = .ok (.lconst 1, 1) := by decide +kernel
theorem dX8_clear_82 : decode cX8_clear 82 = .ok (.goto 4, 3) := by decide +kernel
theorem dX8_clear_85 : decode cX8_clear 85 = .ok (.lconst 0, 1) := by decide +kernel
theorem dX8_clear_86 : decode cX8_clear 86 = .ok (.lastore, 1) := by decide +kernel
theorem dX8_clear_87 : decode cX8_clear 87 = .ok (.iinc 3 1, 3) := by decide +kernel
theorem dX8_clear_90 : decode cX8_clear 90 = .ok (.goto (-29), 3) := by decide +kernel
theorem dX8_clear_93 : decode cX8_clear 93 = .ok (.iinc 2 1, 3) := by decide +kernel
theorem dX8_clear_96 : decode cX8_clear 96 = .ok (.goto (-78), 3) := by decide +kernel
theorem dX8_clear_99 : decode cX8_clear 99 = .ok (.aload_n 0, 1) := by decide +kernel
theorem dX8_clear_100 : decode cX8_clear 100 = .ok (.invokevirtual 36, 3) := by decide +kernel
theorem dX8_clear_103 : decode cX8_clear 103 = .ok (.return_, 1) := by decide +kernel
theorem dX8_clearColumn_0 : decode cX8_clearColumn 0 = .ok (.aload_n 0, 1) := by decide +kernel
theorem dX8_clearColumn_1 : decode cX8_clearColumn 1 = .ok (.aload_n 0, 1) := by decide +kernel
theorem dX8_clearColumn_2 : decode cX8_clearColumn 2 = .ok (.getfield 24, 3) := by decide +kernel
theorem dX8_clearColumn_5 : decode cX8_clearColumn 5 = .ok (.aload_n 0, 1) := by decide +kernel
theorem dX8_clearColumn_6 : decode cX8_clearColumn 6 = .ok (.getfield 40, 3) := by decide +kernel
theorem dX8_clearColumn_9 : decode cX8_clearColumn 9 = .ok (.aaload, 1) := by decide +kernel
theorem dX8_clearColumn_10 : decode cX8_clearColumn 10 = .ok (.iload_n 1, 1) := by decide +kernel
theorem dX8_clearColumn_11 : decode cX8_clearColumn 11 = .ok (.laload, 1) := by decide +kernel
theorem dX8_clearColumn_12 : decode cX8_clearColumn 12 = .ok (.invokevirtual 43, 3) := by decide +kernel
theorem dX8_clearColumn_15 : decode cX8_clearColumn 15 = .ok (.istore_n 2, 1) := by decide +kernel
theorem dX8_clearColumn_16 : decode cX8_clearColumn 16 = .ok (.iconst 0, 1) := by decide +kernel
theorem dX8_clearColumn_17 : decode cX8_clearColumn 17 = .ok (.istore_n 3, 1) := by decide +kernel
theorem dX8_clearColumn_18 : decode cX8_clearColumn 18 = .ok (.iload_n 3, 1) := by decide +kernel
theorem dX8_clearColumn_19 : decode cX8_clearColumn 19 = .ok (.bipush 9, 2) := by decide +kernel
theorem dX8_clearColumn_21 : decode cX8_clearColumn 21 = .ok (.if_icmp .ge 42, 3) := by decide +kernel
theorem dX8_clearColumn_24 : decode cX8_clearColumn 24 = .ok (.aload_n 0, 1) := by decide +kernel
theorem dX8_clearColumn_25 : decode cX8_clearColumn 25 = .ok (.getfield 24, 3) := by decide +kernel
theorem dX8_clearColumn_28 : decode cX8_clearColumn 28 = .ok (.aload_n 0, 1) := by decide +kernel
theorem dX8_clearColumn_29 : decode cX8_clearColumn 29 = .ok (.getfield 40, 3) := by decide +kernel
theorem dX8_clearColumn_32 : decode cX8_clearColumn 32 = .ok (.aaload, 1) := by decide +kernel
theorem dX8_clearColumn_33 : decode cX8_clearColumn 33 = .ok (.iload_n 3, 1) := by decide +kernel
theorem dX8_clearColumn_34 : decode cX8_clearColumn 34 = .ok (.aload_n 0, 1) := by decide +kernel
theorem dX8_clearColumn_35 : decode cX8_clearColumn 35 = .ok (.getfield 24, 3) := by decide +kernel
theorem dX8_clearColumn_38 : decode cX8_clearColumn 38 = .ok (.aload_n 0, 1) := by decide +kernel
theorem dX8_clearColumn_39 : decode cX8_clearColumn 39 = .ok (.getfield 40, 3) := by decide +kernel
theorem dX8_clearColumn_42 : decode cX8_clearColumn 42 = .ok (.aaload, 1) := by decide +kernel
theorem dX8_clearColumn_43 : decode cX8_clearColumn 43 = .ok (.iload_n 3, 1) := by decide +kernel
theorem dX8_clearColumn_44 : decode cX8_clearColumn 44 = .ok (.laload, 1) := by decide +kernel
theorem dX8_clearColumn_45 : decode cX8_clearColumn 45 = .ok (.iload_n 2, 1) := by decide +kernel
theorem dX8_clearColumn_46 : decode cX8_clearColumn 46 = .ok (.i2l, 1) := by decide +kernel
theorem dX8_clearColumn_47 : decode cX8_clearColumn 47 = .ok (.lmul, 1) := by decide +kernel
theorem dX8_clearColumn_48 : decode cX8_clearColumn 48 = .ok (.aload_n 0, 1) := by decide +kernel
theorem dX8_clearColumn_49 : decode cX8_clearColumn 49 = .ok (.getfield 22, 3) := by decide +kernel
theorem dX8_clearColumn_52 : decode cX8_clearColumn 52 = .ok (.invokestatic 32, 3) := by decide +kernel
theorem dX8_clearColumn_55 : decode cX8_clearColumn 55 = .ok (.i2l, 1) := by decide +kernel
theorem dX8_clearColumn_56 : decode cX8_clearColumn 56 = .ok (.lastore, 1) := by decide +kernel
theorem dX8_clearColumn_57 : decode cX8_clearColumn 57 = .ok (.iinc 3 1, 3) := by decide +kernel
theorem dX8_clearColumn_60 : decode cX8_clearColumn 60 = .ok (.goto (-42), 3) := by decide +kernel
theorem dX8_clearColumn_63 : decode cX8_clearColumn 63 = .ok (.iconst 0, 1) := by decide +kernel
theorem dX8_clearColumn_64 : decode cX8_clearColumn 64 = .ok (.istore_n 3, 1) := by decide +kernel
theorem dX8_clearColumn_65 : decode cX8_clearColumn 65 = .ok (.iload_n 3, 1) := by decide +kernel
theorem dX8_clearColumn_66 : decode cX8_clearColumn 66 = .ok (.aload_n 0, 1) := by decide +kernel
theorem dX8_clearColumn_67 : decode cX8_clearColumn 67 = .ok (.getfield 17, 3) := by decide +kernel
theorem dX8_clearColumn_70 : decode cX8_clearColumn 70 = .ok (.if_icmp .ge 89, 3) := by decide +kernel
theorem dX8_clearColumn_73 : decode cX8_clearColumn 73 = .ok (.iload_n 3, 1) := by decide +kernel
theorem dX8_clearColumn_74 : decode cX8_clearColumn 74 = .ok (.aload_n 0, 1) := by decide +kernel
theorem dX8_clearColumn_75 : decode cX8_clearColumn 75 = .ok (.getfield 40, 3) := by decide +kernel
theorem dX8_clearColumn_78 : decode cX8_clearColumn 78 = .ok (.if_icmp .ne 7, 3) := by decide +kernel
theorem dX8_clearColumn_81 : decode cX8_clearColumn 81 = .ok (.lconst 0, 1) := by decide +kernel
theorem dX8_clearColumn_82 : decode cX8_clearColumn 82 = .ok (.goto 11, 3) := by decide +kernel
theorem dX8_clearColumn_85 : decode cX8_clearColumn 85 = .ok (.aload_n 0, 1) := by decide +kernel
theorem dX8_clearColumn_86 : decode cX8_clearColumn 86 = .ok (.getfield 24, 3) := by decide +kernel
theorem dX8_clearColumn_89 : decode cX8_clearColumn 89 = .ok (.iload_n 3, 1) := by decide +kernel
theorem dX8_clearColumn_90 : decode cX8_clearColumn 90 = .ok (.aaload, 1) := by decide +kernel
theorem dX8_clearColumn_91 : decode cX8_clearColumn 91 = .ok (.iload_n 1, 1) := by decide +kernel
theorem dX8_clearColumn_92 : decode cX8_clearColumn 92 = .ok (.laload, 1) := by decide +kernel
theorem dX8_clearColumn_93 : decode cX8_clearColumn 93 = .ok (.lstore 4, 2) := by decide +kernel
theorem dX8_clearColumn_95 : decode cX8_clearColumn 95 = .ok (.iconst 0, 1) := by decide +kernel
theorem dX8_clearColumn_96 : decode cX8_clearColumn 96 = .ok (.istore 6, 2) := by decide +kernel
theorem dX8_clearColumn_98 : decode cX8_clearColumn 98 = .ok (.iload 6, 2) := by decide +kernel
theorem dX8_clearColumn_100 : decode cX8_clearColumn 100 = .ok (.bipush 9, 2) := by decide +kernel
theorem dX8_clearColumn_102 : decode cX8_clearColumn 102 = .ok (.if_icmp .ge 51, 3) := by decide +kernel
theorem dX8_clearColumn_105 : decode cX8_clearColumn 105 = .ok (.aload_n 0, 1) := by decide +kernel
theorem dX8_clearColumn_106 : decode cX8_clearColumn 106 = .ok (.getfield 24, 3) := by decide +kernel
theorem dX8_clearColumn_109 : decode cX8_clearColumn 109 = .ok (.iload_n 3, 1) := by decide +kernel
theorem dX8_clearColumn_110 : decode cX8_clearColumn 110 = .ok (.aaload, 1) := by decide +kernel
theorem dX8_clearColumn_111 : decode cX8_clearColumn 111 = .ok (.iload 6, 2) := by decide +kernel
theorem dX8_clearColumn_113 : decode cX8_clearColumn 113 = .ok (.aload_n 0, 1) := by decide +kernel
theorem dX8_clearColumn_114 : decode cX8_clearColumn 114 = .ok (.getfield 24, 3) := by decide +kernel
theorem dX8_clearColumn_117 : decode cX8_clearColumn 117 = .ok (.iload_n 3, 1) := by decide +kernel
theorem dX8_clearColumn_118 : decode cX8_clearColumn 118 = .ok (.aaload, 1) := by decide +kernel
theorem dX8_clearColumn_119 : decode cX8_clearColumn 119 = .ok (.iload 6, 2) := by decide +kernel
theorem dX8_clearColumn_121 : decode cX8_clearColumn 121 = .ok (.laload, 1) := by decide +kernel
theorem dX8_clearColumn_122 : decode cX8_clearColumn 122 = .ok (.lload 4, 2) := by decide +kernel
theorem dX8_clearColumn_124 : decode cX8_clearColumn 124 = .ok (.aload_n 0, 1) := by decide +kernel
theorem dX8_clearColumn_125 : decode cX8_clearColumn 125 = .ok (.getfield 24, 3) := by decide +kernel
theorem dX8_clearColumn_128 : decode cX8_clearColumn 128 = .ok (.aload_n 0, 1) := by decide +kernel
theorem dX8_clearColumn_129 : decode cX8_clearColumn 129 = .ok (.getfield 40, 3) := by decide +kernel
theorem dX8_clearColumn_132 : decode cX8_clearColumn 132 = .ok (.aaload, 1) := by decide +kernel
theorem dX8_clearColumn_133 : decode cX8_clearColumn 133 = .ok (.iload 6, 2) := by decide +kernel
theorem dX8_clearColumn_135 : decode cX8_clearColumn 135 = .ok (.laload, 1) := by decide +kernel
theorem dX8_clearColumn_136 : decode cX8_clearColumn 136 = .ok (.lmul, 1) := by decide +kernel
theorem dX8_clearColumn_137 : decode cX8_clearColumn 137 = .ok (.lsub, 1) := by decide +kernel
theorem dX8_clearColumn_138 : decode cX8_clearColumn 138 = .ok (.aload_n 0, 1) := by decide +kernel
theorem dX8_clearColumn_139 : decode cX8_clearColumn 139 = .ok (.getfield 22, 3) := by decide +kernel
theorem dX8_clearColumn_142 : decode cX8_clearColumn 142 = .ok (.invokestatic 32, 3) := by decide +kernel
theorem dX8_clearColumn_145 : decode cX8_clearColumn 145 = .ok (.i2l, 1) := by decide +kernel
theorem dX8_clearColumn_146 : decode cX8_clearColumn 146 = .ok (.lastore, 1) := by decide +kernel
theorem dX8_clearColumn_147 : decode cX8_clearColumn 147 = .ok (.iinc 6 1, 3) := by decide +kernel
theorem dX8_clearColumn_150 : decode cX8_clearColumn 150 = .ok (.goto (-52), 3) := by decide +kernel
theorem dX8_clearColumn_153 : decode cX8_clearColumn 153 = .ok (.iinc 3 1, 3) := by decide +kernel
theorem dX8_clearColumn_156 : decode cX8_clearColumn 156 = .ok (.goto (-91), 3) := by decide +kernel
theorem dX8_clearColumn_159 : decode cX8_clearColumn 159 = .ok (.return_, 1) := by decide +kernel
theorem dX8_oneOver_0 : decode cX8_oneOver 0 = .ok (.iconst 1, 1) := by decide +kernel
theorem dX8_oneOver_1 : decode cX8_oneOver 1 = .ok (.istore_n 3, 1) := by decide +kernel
theorem dX8_oneOver_2 : decode cX8_oneOver 2 = .ok (.iload_n 3, 1) := by decide +kernel
theorem dX8_oneOver_3 : decode cX8_oneOver 3 = .ok (.aload_n 0, 1) := by decide +kernel
theorem dX8_oneOver_4 : decode cX8_oneOver 4 = .ok (.getfield 22, 3) := by decide +kernel
theorem dX8_oneOver_7 : decode cX8_oneOver 7 = .ok (.if_icmp .ge 26, 3) := by decide +kernel
theorem dX8_oneOver_10 : decode cX8_oneOver 10 = .ok (.lload_n 1, 1) := by decide +kernel
theorem dX8_oneOver_11 : decode cX8_oneOver 11 = .ok (.iload_n 3, 1) := by decide +kernel
theorem dX8_oneOver_12 : decode cX8_oneOver 12 = .ok (.i2l, 1) := by decide +kernel
theorem dX8_oneOver_13 : decode cX8_oneOver 13 = .ok (.lmul, 1) := by decide +kernel
theorem dX8_oneOver_14 : decode cX8_oneOver 14 = .ok (.aload_n 0, 1) := by decide +kernel
theorem dX8_oneOver_15 : decode cX8_oneOver 15 = .ok (.getfield 22, 3) := by decide +kernel
theorem dX8_oneOver_18 : decode cX8_oneOver 18 = .ok (.invokestatic 32, 3) := by decide +kernel
theorem dX8_oneOver_21 : decode cX8_oneOver 21 = .ok (.iconst 1, 1) := by decide +kernel
theorem dX8_oneOver_22 : decode cX8_oneOver 22 = .ok (.if_icmp .ne 5, 3) := by decide +kernel
theorem dX8_oneOver_25 : decode cX8_oneOver 25 = .ok (.iload_n 3, 1) := by decide +kernel
theorem dX8_oneOver_26 : decode cX8_oneOver 26 = .ok (.ireturn, 1) := by decide +kernel
theorem dX8_oneOver_27 : decode cX8_oneOver 27 = .ok (.iinc 3 1, 3) := by decide +kernel
theorem dX8_oneOver_30 : decode cX8_oneOver 30 = .ok (.goto (-28), 3) := by decide +kernel
theorem dX8_oneOver_33 : decode cX8_oneOver 33 = .ok (.iconst 0, 1) := by decide +kernel
theorem dX8_oneOver_34 : decode cX8_oneOver 34 = .ok (.ireturn, 1) := by decide +kernel
theorem dX8_ways_0 : decode cX8_ways 0 = .ok (.aload_n 0, 1) := by decide +kernel
theorem dX8_ways_1 : decode cX8_ways 1 = .ok (.invokevirtual 47, 3) := by decide +kernel
theorem dX8_ways_4 : decode cX8_ways 4 = .ok (.ifCond .ne 5, 3) := by decide +kernel
theorem dX8_ways_7 : decode cX8_ways 7 = .ok (.iconst 0, 1) := by decide +kernel
theorem dX8_ways_8 : decode cX8_ways 8 = .ok (.ireturn, 1) := by decide +kernel
theorem dX8_ways_9 : decode cX8_ways 9 = .ok (.iconst 1, 1) := by decide +kernel
theorem dX8_ways_10 : decode cX8_ways 10 = .ok (.istore_n 1, 1) := by decide +kernel
theorem dX8_ways_11 : decode cX8_ways 11 = .ok (.aload_n 0, 1) := by decide +kernel
theorem dX8_ways_12 : decode cX8_ways 12 = .ok (.getfield 40, 3) := by decide +kernel
theorem dX8_ways_15 : decode cX8_ways 15 = .ok (.istore_n 2, 1) := by decide +kernel
theorem dX8_ways_16 : decode cX8_ways 16 = .ok (.iload_n 2, 1) := by decide +kernel
theorem dX8_ways_17 : decode cX8_ways 17 = .ok (.aload_n 0, 1) := by decide +kernel
theorem dX8_ways_18 : decode cX8_ways 18 = .ok (.getfield 17, 3) := by decide +kernel
theorem dX8_ways_21 : decode cX8_ways 21 = .ok (.if_icmp .ge 16, 3) := by decide +kernel
theorem dX8_ways_24 : decode cX8_ways 24 = .ok (.iload_n 1, 1) := by decide +kernel
theorem dX8_ways_25 : decode cX8_ways 25 = .ok (.aload_n 0, 1) := by decide +kernel
theorem dX8_ways_26 : decode cX8_ways 26 = .ok (.getfield 22, 3) := by decide +kernel
theorem dX8_ways_29 : decode cX8_ways 29 = .ok (.imul, 1) := by decide +kernel
theorem dX8_ways_30 : decode cX8_ways 30 = .ok (.istore_n 1, 1) := by decide +kernel
theorem dX8_ways_31 : decode cX8_ways 31 = .ok (.iinc 2 1, 3) := by decide +kernel
theorem dX8_ways_34 : decode cX8_ways 34 = .ok (.goto (-18), 3) := by decide +kernel
theorem dX8_ways_37 : decode cX8_ways 37 = .ok (.iload_n 1, 1) := by decide +kernel
theorem dX8_ways_38 : decode cX8_ways 38 = .ok (.ireturn, 1) := by decide +kernel
theorem dX8_inverse_0 : decode cX8_inverse 0 = .ok (.aload_n 0, 1) := by decide +kernel
theorem dX8_inverse_1 : decode cX8_inverse 1 = .ok (.getfield 24, 3) := by decide +kernel
theorem dX8_inverse_4 : decode cX8_inverse 4 = .ok (.iload_n 1, 1) := by decide +kernel
theorem dX8_inverse_5 : decode cX8_inverse 5 = .ok (.aaload, 1) := by decide +kernel
theorem dX8_inverse_6 : decode cX8_inverse 6 = .ok (.iconst 5, 1) := by decide +kernel
theorem dX8_inverse_7 : decode cX8_inverse 7 = .ok (.iload_n 2, 1) := by decide +kernel
theorem dX8_inverse_8 : decode cX8_inverse 8 = .ok (.iadd, 1) := by decide +kernel
theorem dX8_inverse_9 : decode cX8_inverse 9 = .ok (.laload, 1) := by decide +kernel
theorem dX8_inverse_10 : decode cX8_inverse 10 = .ok (.l2i, 1) := by decide +kernel
theorem dX8_inverse_11 : decode cX8_inverse 11 = .ok (.ireturn, 1) := by decide +kernel
theorem dX9_init_0 : decode cX9_init 0 = .ok (.aload_n 0, 1) := by decide +kernel
theorem dX9_init_1 : decode cX9_init 1 = .ok (.invokespecial 3, 3) := by decide +kernel
theorem dX9_init_4 : decode cX9_init 4 = .ok (.aload_n 0, 1) := by decide +kernel
theorem dX9_init_5 : decode cX9_init 5 = .ok (.iload_n 1, 1) := by decide +kernel
theorem dX9_init_6 : decode cX9_init 6 = .ok (.putfield 9, 3) := by decide +kernel
theorem dX9_init_9 : decode cX9_init 9 = .ok (.aload_n 0, 1) := by decide +kernel
theorem dX9_init_10 : decode cX9_init 10 = .ok (.iconst 4, 1) := by decide +kernel
theorem dX9_init_11 : decode cX9_init 11 = .ok (.iload_n 1, 1) := by decide +kernel
theorem dX9_init_12 : decode cX9_init 12 = .ok (.multianewarray 15 2, 4) := by decide +kernel
theorem dX9_init_16 : decode cX9_init 16 = .ok (.putfield 17, 3) := by decide +kernel
theorem dX9_init_19 : decode cX9_init 19 = .ok (.return_, 1) := by decide +kernel
theorem dX9_clearColumns_0 : decode cX9_clearColumns 0 = .ok (.aload_n 0, 1) := by decide +kernel
theorem dX9_clearColumns_1 : decode cX9_clearColumns 1 = .ok (.iconst 0, 1) := by decide +kernel
theorem dX9_clearColumns_2 : decode cX9_clearColumns 2 = .ok (.putfield 20, 3) := by decide +kernel
theorem dX9_clearColumns_5 : decode cX9_clearColumns 5 = .ok (.aload_n 0, 1) := by decide +kernel
theorem dX9_clearColumns_6 : decode cX9_clearColumns 6 = .ok (.iconst 0, 1) := by decide +kernel
theorem dX9_clearColumns_7 : decode cX9_clearColumns 7 = .ok (.putfield 23, 3) := by decide +kernel
theorem dX9_clearColumns_10 : decode cX9_clearColumns 10 = .ok (.iconst 0, 1) := by decide +kernel
theorem dX9_clearColumns_11 : decode cX9_clearColumns 11 = .ok (.istore_n 1, 1) := by decide +kernel
theorem dX9_clearColumns_12 : decode cX9_clearColumns 12 = .ok (.iload_n 1, 1) := by decide +kernel
theorem dX9_clearColumns_13 : decode cX9_clearColumns 13 = .ok (.aload_n 0, 1) := by decide +kernel
theorem dX9_clearColumns_14 : decode cX9_clearColumns 14 = .ok (.getfield 26, 3) := by decide +kernel
theorem dX9_clearColumns_17 : decode cX9_clearColumns 17 = .ok (.if_icmp .ge 32, 3) := by decide +kernel
theorem dX9_clearColumns_20 : decode cX9_clearColumns 20 = .ok (.aload_n 0, 1) := by decide +kernel
theorem dX9_clearColumns_21 : decode cX9_clearColumns 21 = .ok (.iload_n 1, 1) := by decide +kernel
theorem dX9_clearColumns_22 : decode cX9_clearColumns 22 = .ok (.invokevirtual 29, 3) := by decide +kernel
theorem dX9_clearColumns_25 : decode cX9_clearColumns 25 = .ok (.ifCond .eq 18, 3) := by decide +kernel
theorem dX9_clearColumns_28 : decode cX9_clearColumns 28 = .ok (.aload_n 0, 1) := by decide +kernel
theorem dX9_clearColumns_29 : decode cX9_clearColumns 29 = .ok (.iload_n 1, 1) := by decide +kernel
theorem dX9_clearColumns_30 : decode cX9_clearColumns 30 = .ok (.invokevirtual 33, 3) := by decide +kernel
theorem dX9_clearColumns_33 : decode cX9_clearColumns 33 = .ok (.aload_n 0, 1) := by decide +kernel
theorem dX9_clearColumns_34 : decode cX9_clearColumns 34 = .ok (.dup, 1) := by decide +kernel
theorem dX9_clearColumns_35 : decode cX9_clearColumns 35 = .ok (.getfield 20, 3) := by decide +kernel
theorem dX9_clearColumns_38 : decode cX9_clearColumns 38 = .ok (.iconst 1, 1) := by decide +kernel
theorem dX9_clearColumns_39 : decode cX9_clearColumns 39 = .ok (.iadd, 1) := by decide +kernel
theorem dX9_clearColumns_40 : decode cX9_clearColumns 40 = .ok (.putfield 20, 3) := by decide +kernel
theorem dX9_clearColumns_43 : decode cX9_clearColumns 43 = .ok (.iinc 1 1, 3) := by decide +kernel
theorem dX9_clearColumns_46 : decode cX9_clearColumns 46 = .ok (.goto (-34), 3) := by decide +kernel
theorem dX9_clearColumns_49 : decode cX9_clearColumns 49 = .ok (.return_, 1) := by decide +kernel
theorem dX9_raise_0 : decode cX9_raise 0 = .ok (.aload_n 0, 1) := by decide +kernel
theorem dX9_raise_1 : decode cX9_raise 1 = .ok (.getfield 20, 3) := by decide +kernel
theorem dX9_raise_4 : decode cX9_raise 4 = .ok (.istore_n 2, 1) := by decide +kernel
theorem dX9_raise_5 : decode cX9_raise 5 = .ok (.iload_n 2, 1) := by decide +kernel
theorem dX9_raise_6 : decode cX9_raise 6 = .ok (.aload_n 0, 1) := by decide +kernel
theorem dX9_raise_7 : decode cX9_raise 7 = .ok (.getfield 26, 3) := by decide +kernel
theorem dX9_raise_10 : decode cX9_raise 10 = .ok (.if_icmp .ge 22, 3) := by decide +kernel
theorem dX9_raise_13 : decode cX9_raise 13 = .ok (.aload_n 0, 1) := by decide +kernel
theorem dX9_raise_14 : decode cX9_raise 14 = .ok (.getfield 17, 3) := by decide +kernel
theorem dX9_raise_17 : decode cX9_raise 17 = .ok (.iload_n 2, 1) := by decide +kernel
theorem dX9_raise_18 : decode cX9_raise 18 = .ok (.aaload, 1) := by decide +kernel
theorem dX9_raise_19 : decode cX9_raise 19 = .ok (.iload_n 1, 1) := by decide +kernel
theorem dX9_raise_20 : decode cX9_raise 20 = .ok (.laload, 1) := by decide +kernel
theorem dX9_raise_21 : decode cX9_raise 21 = .ok (.lconst 0, 1) := by decide +kernel
theorem dX9_raise_22 : decode cX9_raise 22 = .ok (.lcmp, 1) := by decide +kernel
theorem dX9_raise_23 : decode cX9_raise 23 = .ok (.ifCond .ne 9, 3) := by decide +kernel
theorem dX9_raise_26 : decode cX9_raise 26 = .ok (.iinc 2 1, 3) := by decide +kernel
theorem dX9_raise_29 : decode cX9_raise 29 = .ok (.goto (-24), 3) := by decide +kernel
theorem dX9_raise_32 : decode cX9_raise 32 = .ok (.iload_n 2, 1) := by decide +kernel
theorem dX9_raise_33 : decode cX9_raise 33 = .ok (.aload_n 0, 1) := by decide +kernel
theorem dX9_raise_34 : decode cX9_raise 34 = .ok (.getfield 26, 3) := by decide +kernel
theorem dX9_raise_37 : decode cX9_raise 37 = .ok (.if_icmp .lt 5, 3) := by decide +kernel
theorem dX9_raise_40 : decode cX9_raise 40 = .ok (.iconst 0, 1) := by decide +kernel
theorem dX9_raise_41 : decode cX9_raise 41 = .ok (.ireturn, 1) := by decide +kernel
theorem dX9_raise_42 : decode cX9_raise 42 = .ok (.iload_n 2, 1) := by decide +kernel
theorem dX9_raise_43 : decode cX9_raise 43 = .ok (.aload_n 0, 1) := by decide +kernel
theorem dX9_raise_44 : decode cX9_raise 44 = .ok (.getfield 20, 3) := by decide +kernel
theorem dX9_raise_47 : decode cX9_raise 47 = .ok (.if_icmp .le 22, 3) := by decide +kernel
theorem dX9_raise_50 : decode cX9_raise 50 = .ok (.aload_n 0, 1) := by decide +kernel
theorem dX9_raise_51 : decode cX9_raise 51 = .ok (.iload_n 2, 1) := by decide +kernel
theorem dX9_raise_52 : decode cX9_raise 52 = .ok (.aload_n 0, 1) := by decide +kernel
theorem dX9_raise_53 : decode cX9_raise 53 = .ok (.getfield 20, 3) := by decide +kernel
theorem dX9_raise_56 : decode cX9_raise 56 = .ok (.invokevirtual 37, 3) := by decide +kernel
theorem dX9_raise_59 : decode cX9_raise 59 = .ok (.aload_n 0, 1) := by decide +kernel
theorem dX9_raise_60 : decode cX9_raise 60 = .ok (.dup, 1) := by decide +kernel
theorem dX9_raise_61 : decode cX9_raise 61 = .ok (.getfield 23, 3) := by decide +kernel
theorem dX9_raise_64 : decode cX9_raise 64 = .ok (.iconst 1, 1) := by decide +kernel
theorem dX9_raise_65 : decode cX9_raise 65 = .ok (.iadd, 1) := by decide +kernel
theorem dX9_raise_66 : decode cX9_raise 66 = .ok (.putfield 23, 3) := by decide +kernel
theorem dX9_raise_69 : decode cX9_raise 69 = .ok (.iconst 1, 1) := by decide +kernel
theorem dX9_raise_70 : decode cX9_raise 70 = .ok (.ireturn, 1) := by decide +kernel
theorem dX9_exchangeRows_0 : decode cX9_exchangeRows 0 = .ok (.iconst 0, 1) := by decide +kernel
theorem dX9_exchangeRows_1 : decode cX9_exchangeRows 1 = .ok (.istore_n 3, 1) := by decide +kernel
theorem dX9_exchangeRows_2 : decode cX9_exchangeRows 2 = .ok (.iload_n 3, 1) := by decide +kernel
theorem dX9_exchangeRows_3 : decode cX9_exchangeRows 3 = .ok (.aload_n 0, 1) := by decide +kernel
theorem dX9_exchangeRows_4 : decode cX9_exchangeRows 4 = .ok (.getfield 9, 3) := by decide +kernel
theorem dX9_exchangeRows_7 : decode cX9_exchangeRows 7 = .ok (.if_icmp .ge 45, 3) := by decide +kernel
theorem dX9_exchangeRows_10 : decode cX9_exchangeRows 10 = .ok (.aload_n 0, 1) := by decide +kernel
theorem dX9_exchangeRows_11 : decode cX9_exchangeRows 11 = .ok (.getfield 17, 3) := by decide +kernel
theorem dX9_exchangeRows_14 : decode cX9_exchangeRows 14 = .ok (.iload_n 1, 1) := by decide +kernel
theorem dX9_exchangeRows_15 : decode cX9_exchangeRows 15 = .ok (.aaload, 1) := by decide +kernel
theorem dX9_exchangeRows_16 : decode cX9_exchangeRows 16 = .ok (.iload_n 3, 1) := by decide +kernel
theorem dX9_exchangeRows_17 : decode cX9_exchangeRows 17 = .ok (.laload, 1) := by decide +kernel
theorem dX9_exchangeRows_18 : decode cX9_exchangeRows 18 = .ok (.lstore 4, 2) := by decide +kernel
theorem dX9_exchangeRows_20 : decode cX9_exchangeRows 20 = .ok (.aload_n 0, 1) := by decide +kernel
theorem dX9_exchangeRows_21 : decode cX9_exchangeRows 21 = .ok (.getfield 17, 3) := by decide +kernel
theorem dX9_exchangeRows_24 : decode cX9_exchangeRows 24 = .ok (.iload_n 1, 1) := by decide +kernel
theorem dX9_exchangeRows_25 : decode cX9_exchangeRows 25 = .ok (.aaload, 1) := by decide +kernel
theorem dX9_exchangeRows_26 : decode cX9_exchangeRows 26 = .ok (.iload_n 3, 1) := by decide +kernel
theorem dX9_exchangeRows_27 : decode cX9_exchangeRows 27 = .ok (.aload_n 0, 1) := by decide +kernel
theorem dX9_exchangeRows_28 : decode cX9_exchangeRows 28 = .ok (.getfield 17, 3) := by decide +kernel
theorem dX9_exchangeRows_31 : decode cX9_exchangeRows 31 = .ok (.iload_n 2, 1) := by decide +kernel
theorem dX9_exchangeRows_32 : decode cX9_exchangeRows 32 = .ok (.aaload, 1) := by decide +kernel
theorem dX9_exchangeRows_33 : decode cX9_exchangeRows 33 = .ok (.iload_n 3, 1) := by decide +kernel
theorem dX9_exchangeRows_34 : decode cX9_exchangeRows 34 = .ok (.laload, 1) := by decide +kernel
theorem dX9_exchangeRows_35 : decode cX9_exchangeRows 35 = .ok (.lastore, 1) := by decide +kernel
theorem dX9_exchangeRows_36 : decode cX9_exchangeRows 36 = .ok (.aload_n 0, 1) := by decide +kernel
theorem dX9_exchangeRows_37 : decode cX9_exchangeRows 37 = .ok (.getfield 17, 3) := by decide +kernel
theorem dX9_exchangeRows_40 : decode cX9_exchangeRows 40 = .ok (.iload_n 2, 1) := by decide +kernel
theorem dX9_exchangeRows_41 : decode cX9_exchangeRows 41 = .ok (.aaload, 1) := by decide +kernel
theorem dX9_exchangeRows_42 : decode cX9_exchangeRows 42 = .ok (.iload_n 3, 1) := by decide +kernel
theorem dX9_exchangeRows_43 : decode cX9_exchangeRows 43 = .ok (.lload 4, 2) := by decide +kernel
theorem dX9_exchangeRows_45 : decode cX9_exchangeRows 45 = .ok (.lastore, 1) := by decide +kernel
theorem dX9_exchangeRows_46 : decode cX9_exchangeRows 46 = .ok (.iinc 3 1, 3) := by decide +kernel
theorem dX9_exchangeRows_49 : decode cX9_exchangeRows 49 = .ok (.goto (-47), 3) := by decide +kernel
theorem dX9_exchangeRows_52 : decode cX9_exchangeRows 52 = .ok (.return_, 1) := by decide +kernel
theorem dX9_fitsSide_0 : decode cX9_fitsSide 0 = .ok (.aload_n 0, 1) := by decide +kernel
theorem dX9_fitsSide_1 : decode cX9_fitsSide 1 = .ok (.getfield 20, 3) := by decide +kernel
theorem dX9_fitsSide_4 : decode cX9_fitsSide 4 = .ok (.istore_n 1, 1) := by decide +kernel
theorem dX9_fitsSide_5 : decode cX9_fitsSide 5 = .ok (.iload_n 1, 1) := by decide +kernel
theorem dX9_fitsSide_6 : decode cX9_fitsSide 6 = .ok (.aload_n 0, 1) := by decide +kernel
theorem dX9_fitsSide_7 : decode cX9_fitsSide 7 = .ok (.getfield 26, 3) := by decide +kernel
theorem dX9_fitsSide_10 : decode cX9_fitsSide 10 = .ok (.if_icmp .ge 24, 3) := by decide +kernel
theorem dX9_fitsSide_13 : decode cX9_fitsSide 13 = .ok (.aload_n 0, 1) := by decide +kernel
theorem dX9_fitsSide_14 : decode cX9_fitsSide 14 = .ok (.getfield 17, 3) := by decide +kernel
theorem dX9_fitsSide_17 : decode cX9_fitsSide 17 = .ok (.iload_n 1, 1) := by decide +kernel
theorem dX9_fitsSide_18 : decode cX9_fitsSide 18 = .ok (.aaload, 1) := by decide +kernel
theorem dX9_fitsSide_19 : decode cX9_fitsSide 19 = .ok (.iconst 4, 1) := by decide +kernel
theorem dX9_fitsSide_20 : decode cX9_fitsSide 20 = .ok (.laload, 1) := by decide +kernel
theorem dX9_fitsSide_21 : decode cX9_fitsSide 21 = .ok (.lconst 0, 1) := by decide +kernel
theorem dX9_fitsSide_22 : decode cX9_fitsSide 22 = .ok (.lcmp, 1) := by decide +kernel
theorem dX9_fitsSide_23 : decode cX9_fitsSide 23 = .ok (.ifCond .eq 5, 3) := by decide +kernel
theorem dX9_fitsSide_26 : decode cX9_fitsSide 26 = .ok (.iconst 0, 1) := by decide +kernel
theorem dX9_fitsSide_27 : decode cX9_fitsSide 27 = .ok (.ireturn, 1) := by decide +kernel
theorem dX9_fitsSide_28 : decode cX9_fitsSide 28 = .ok (.iinc 1 1, 3) := by decide +kernel
theorem dX9_fitsSide_31 : decode cX9_fitsSide 31 = .ok (.goto (-26), 3) := by decide +kernel
theorem dX9_fitsSide_34 : decode cX9_fitsSide 34 = .ok (.iconst 1, 1) := by decide +kernel
theorem dX9_fitsSide_35 : decode cX9_fitsSide 35 = .ok (.ireturn, 1) := by decide +kernel
theorem dX10_init_0 : decode cX10_init 0 = .ok (.aload_n 0, 1) := by decide +kernel
theorem dX10_init_1 : decode cX10_init 1 = .ok (.invokespecial 3, 3) := by decide +kernel
theorem dX10_init_4 : decode cX10_init 4 = .ok (.aload_n 0, 1) := by decide +kernel
theorem dX10_init_5 : decode cX10_init 5 = .ok (.new 9, 3) := by decide +kernel
theorem dX10_init_8 : decode cX10_init 8 = .ok (.dup, 1) := by decide +kernel
theorem dX10_init_9 : decode cX10_init 9 = .ok (.invokespecial 11, 3) := by decide +kernel
theorem dX10_init_12 : decode cX10_init 12 = .ok (.putfield 12, 3) := by decide +kernel
theorem dX10_init_15 : decode cX10_init 15 = .ok (.aload_n 0, 1) := by decide +kernel
theorem dX10_init_16 : decode cX10_init 16 = .ok (.new 18, 3) := by decide +kernel
theorem dX10_init_19 : decode cX10_init 19 = .ok (.dup, 1) := by decide +kernel
theorem dX10_init_20 : decode cX10_init 20 = .ok (.invokespecial 20, 3) := by decide +kernel
theorem dX10_init_23 : decode cX10_init 23 = .ok (.putfield 21, 3) := by decide +kernel
theorem dX10_init_26 : decode cX10_init 26 = .ok (.return_, 1) := by decide +kernel
theorem dX10_go_0 : decode cX10_go 0 = .ok (.aload_n 0, 1) := by decide +kernel
theorem dX10_go_1 : decode cX10_go 1 = .ok (.iconst (-1), 1) := by decide +kernel
theorem dX10_go_2 : decode cX10_go 2 = .ok (.putfield 25, 3) := by decide +kernel
theorem dX10_go_5 : decode cX10_go 5 = .ok (.aload_n 0, 1) := by decide +kernel
theorem dX10_go_6 : decode cX10_go 6 = .ok (.iconst 0, 1) := by decide +kernel
theorem dX10_go_7 : decode cX10_go 7 = .ok (.putfield 29, 3) := by decide +kernel
theorem dX10_go_10 : decode cX10_go 10 = .ok (.aload_n 0, 1) := by decide +kernel
theorem dX10_go_11 : decode cX10_go 11 = .ok (.getfield 12, 3) := by decide +kernel
theorem dX10_go_14 : decode cX10_go 14 = .ok (.aload_n 1, 1) := by decide +kernel
theorem dX10_go_15 : decode cX10_go 15 = .ok (.invokevirtual 32, 3) := by decide +kernel
theorem dX10_go_18 : decode cX10_go 18 = .ok (.iconst 1, 1) := by decide +kernel
theorem dX10_go_19 : decode cX10_go 19 = .ok (.istore 5, 2) := by decide +kernel
theorem dX10_go_21 : decode cX10_go 21 = .ok (.iload 5, 2) := by decide +kernel
theorem dX10_go_23 : decode cX10_go 23 = .ok (.iload 4, 2) := by decide +kernel
theorem dX10_go_25 : decode cX10_go 25 = .ok (.if_icmp .gt 65, 3) := by decide +kernel
theorem dX10_go_28 : decode cX10_go 28 = .ok (.aload_n 0, 1) := by decide +kernel
theorem dX10_go_29 : decode cX10_go 29 = .ok (.getfield 25, 3) := by decide +kernel
theorem dX10_go_32 : decode cX10_go 32 = .ok (.iconst (-1), 1) := by decide +kernel
theorem dX10_go_33 : decode cX10_go 33 = .ok (.if_icmp .ne 57, 3) := by decide +kernel
theorem dX10_go_36 : decode cX10_go 36 = .ok (.aload_n 0, 1) := by decide +kernel
theorem dX10_go_37 : decode cX10_go 37 = .ok (.getfield 12, 3) := by decide +kernel
theorem dX10_go_40 : decode cX10_go 40 = .ok (.aload_n 1, 1) := by decide +kernel
theorem dX10_go_41 : decode cX10_go 41 = .ok (.aload_n 2, 1) := by decide +kernel
theorem dX10_go_42 : decode cX10_go 42 = .ok (.invokevirtual 36, 3) := by decide +kernel
theorem dX10_go_45 : decode cX10_go 45 = .ok (.aload_n 0, 1) := by decide +kernel
theorem dX10_go_46 : decode cX10_go 46 = .ok (.aload_n 1, 1) := by decide +kernel
theorem dX10_go_47 : decode cX10_go 47 = .ok (.aload_n 3, 1) := by decide +kernel
theorem dX10_go_48 : decode cX10_go 48 = .ok (.invokevirtual 40, 3) := by decide +kernel
theorem dX10_go_51 : decode cX10_go 51 = .ok (.aload_n 0, 1) := by decide +kernel
theorem dX10_go_52 : decode cX10_go 52 = .ok (.getfield 44, 3) := by decide +kernel
theorem dX10_go_55 : decode cX10_go 55 = .ok (.ifCond .eq 12, 3) := by decide +kernel
theorem dX10_go_58 : decode cX10_go 58 = .ok (.aload_n 0, 1) := by decide +kernel
theorem dX10_go_59 : decode cX10_go 59 = .ok (.iload 5, 2) := by decide +kernel
theorem dX10_go_61 : decode cX10_go 61 = .ok (.putfield 25, 3) := by decide +kernel
theorem dX10_go_64 : decode cX10_go 64 = .ok (.goto 20, 3) := by decide +kernel
theorem dX10_go_67 : decode cX10_go 67 = .ok (.aload_n 0, 1) := by decide +kernel
theorem dX10_go_68 : decode cX10_go 68 = .ok (.getfield 48, 3) := by decide +kernel
theorem dX10_go_71 : decode cX10_go 71 = .ok (.ifCond .eq 13, 3) := by decide +kernel
theorem dX10_go_74 : decode cX10_go 74 = .ok (.aload_n 0, 1) := by decide +kernel
theorem dX10_go_75 : decode cX10_go 75 = .ok (.dup, 1) := by decide +kernel
theorem dX10_go_76 : decode cX10_go 76 = .ok (.getfield 29, 3) := by decide +kernel
theorem dX10_go_79 : decode cX10_go 79 = .ok (.iconst 1, 1) := by decide +kernel
theorem dX10_go_80 : decode cX10_go 80 = .ok (.iadd, 1) := by decide +kernel
theorem dX10_go_81 : decode cX10_go 81 = .ok (.putfield 29, 3) := by decide +kernel
theorem dX10_go_84 : decode cX10_go 84 = .ok (.iinc 5 1, 3) := by decide +kernel
theorem dX10_go_87 : decode cX10_go 87 = .ok (.goto (-66), 3) := by decide +kernel
theorem dX10_go_90 : decode cX10_go 90 = .ok (.return_, 1) := by decide +kernel
theorem dX10_guessAll_0 : decode cX10_guessAll 0 = .ok (.aload_n 0, 1) := by decide +kernel
theorem dX10_guessAll_1 : decode cX10_guessAll 1 = .ok (.iconst 1, 1) := by decide +kernel
theorem dX10_guessAll_2 : decode cX10_guessAll 2 = .ok (.putfield 48, 3) := by decide +kernel
theorem dX10_guessAll_5 : decode cX10_guessAll 5 = .ok (.aload_n 0, 1) := by decide +kernel
theorem dX10_guessAll_6 : decode cX10_guessAll 6 = .ok (.iconst 1, 1) := by decide +kernel
theorem dX10_guessAll_7 : decode cX10_guessAll 7 = .ok (.putfield 44, 3) := by decide +kernel
theorem dX10_guessAll_10 : decode cX10_guessAll 10 = .ok (.iconst 0, 1) := by decide +kernel
theorem dX10_guessAll_11 : decode cX10_guessAll 11 = .ok (.istore_n 3, 1) := by decide +kernel
theorem dX10_guessAll_12 : decode cX10_guessAll 12 = .ok (.iload_n 3, 1) := by decide +kernel
theorem dX10_guessAll_13 : decode cX10_guessAll 13 = .ok (.aload_n 1, 1) := by decide +kernel
theorem dX10_guessAll_14 : decode cX10_guessAll 14 = .ok (.getfield 51, 3) := by decide +kernel
theorem dX10_guessAll_17 : decode cX10_guessAll 17 = .ok (.if_icmp .ge 90, 3) := by decide +kernel
theorem dX10_guessAll_20 : decode cX10_guessAll 20 = .ok (.aload_n 0, 1) := by decide +kernel
theorem dX10_guessAll_21 : decode cX10_guessAll 21 = .ok (.getfield 48, 3) := by decide +kernel
theorem dX10_guessAll_24 : decode cX10_guessAll 24 = .ok (.ifCond .eq 83, 3) := by decide +kernel
theorem dX10_guessAll_27 : decode cX10_guessAll 27 = .ok (.aload_n 0, 1) := by decide +kernel
theorem dX10_guessAll_28 : decode cX10_guessAll 28 = .ok (.getfield 21, 3) := by decide +kernel
theorem dX10_guessAll_31 : decode cX10_guessAll 31 = .ok (.aload_n 0, 1) := by decide +kernel
theorem dX10_guessAll_32 : decode cX10_guessAll 32 = .ok (.getfield 12, 3) := by decide +kernel
theorem dX10_guessAll_35 : decode cX10_guessAll 35 = .ok (.getfield 56, 3) := by decide +kernel
theorem dX10_guessAll_38 : decode cX10_guessAll 38 = .ok (.iload_n 3, 1) := by decide +kernel
theorem dX10_guessAll_39 : decode cX10_guessAll 39 = .ok (.laload, 1) := by decide +kernel
theorem dX10_guessAll_40 : decode cX10_guessAll 40 = .ok (.aload_n 0, 1) := by decide +kernel
theorem dX10_guessAll_41 : decode cX10_guessAll 41 = .ok (.getfield 12, 3) := by decide +kernel
theorem dX10_guessAll_44 : decode cX10_guessAll 44 = .ok (.getfield 60, 3) := by decide +kernel
theorem dX10_guessAll_47 : decode cX10_guessAll 47 = .ok (.aload_n 1, 1) := by decide +kernel
theorem dX10_guessAll_48 : decode cX10_guessAll 48 = .ok (.invokevirtual 64, 3) := by decide +kernel
theorem dX10_guessAll_51 : decode cX10_guessAll 51 = .ok (.invokevirtual 68, 3) := by decide +kernel
theorem dX10_guessAll_54 : decode cX10_guessAll 54 = .ok (.aload_n 0, 1) := by decide +kernel
theorem dX10_guessAll_55 : decode cX10_guessAll 55 = .ok (.aload_n 0, 1) := by decide +kernel
theorem dX10_guessAll_56 : decode cX10_guessAll 56 = .ok (.getfield 21, 3) := by decide +kernel
theorem dX10_guessAll_59 : decode cX10_guessAll 59 = .ok (.getfield 72, 3) := by decide +kernel
theorem dX10_guessAll_62 : decode cX10_guessAll 62 = .ok (.putfield 48, 3) := by decide +kernel
theorem dX10_guessAll_65 : decode cX10_guessAll 65 = .ok (.aload_n 0, 1) := by decide +kernel
theorem dX10_guessAll_66 : decode cX10_guessAll 66 = .ok (.aload_n 0, 1) := by decide +kernel
theorem dX10_guessAll_67 : decode cX10_guessAll 67 = .ok (.getfield 44, 3) := by decide +kernel
theorem dX10_guessAll_70 : decode cX10_guessAll 70 = .ok (.ifCond .eq 27, 3) := by decide +kernel
theorem dX10_guessAll_73 : decode cX10_guessAll 73 = .ok (.aload_n 0, 1) := by decide +kernel
theorem dX10_guessAll_74 : decode cX10_guessAll 74 = .ok (.getfield 21, 3) := by decide +kernel
theorem dX10_guessAll_77 : decode cX10_guessAll 77 = .ok (.aload_n 2, 1) := by decide +kernel
theorem dX10_guessAll_78 : decode cX10_guessAll 78 = .ok (.iload_n 3, 1) := by decide +kernel
theorem dX10_guessAll_79 : decode cX10_guessAll 79 = .ok (.invokevirtual 75, 3) := by decide +kernel
theorem dX10_guessAll_82 : decode cX10_guessAll 82 = .ok (.aload_n 2, 1) := by decide +kernel
theorem dX10_guessAll_83 : decode cX10_guessAll 83 = .ok (.iload_n 3, 1) := by decide +kernel
theorem dX10_guessAll_84 : decode cX10_guessAll 84 = .ok (.invokevirtual 81, 3) := by decide +kernel
theorem dX10_guessAll_87 : decode cX10_guessAll 87 = .ok (.invokevirtual 84, 3) := by decide +kernel
theorem dX10_guessAll_90 : decode cX10_guessAll 90 = .ok (.ifCond .eq 7, 3) := by decide +kernel
theorem dX10_guessAll_93 : decode cX10_guessAll 93 = .ok (.iconst 1, 1) := by decide +kernel
theorem dX10_guessAll_94 : decode cX10_guessAll 94 = .ok (.goto 4, 3) := by decide +kernel
theorem dX10_guessAll_97 : decode cX10_guessAll 97 = .ok (.iconst 0, 1) := by decide +kernel
theorem dX10_guessAll_98 : decode cX10_guessAll 98 = .ok (.putfield 44, 3) := by decide +kernel
theorem dX10_guessAll_101 : decode cX10_guessAll 101 = .ok (.iinc 3 1, 3) := by decide +kernel
theorem dX10_guessAll_104 : decode cX10_guessAll 104 = .ok (.goto (-92), 3) := by decide +kernel
theorem dX10_guessAll_107 : decode cX10_guessAll 107 = .ok (.return_, 1) := by decide +kernel
theorem dX11_init_0 : decode cX11_init 0 = .ok (.aload_n 0, 1) := by decide +kernel
theorem dX11_init_1 : decode cX11_init 1 = .ok (.invokespecial 3, 3) := by decide +kernel
theorem dX11_init_4 : decode cX11_init 4 = .ok (.aload_n 0, 1) := by decide +kernel
theorem dX11_init_5 : decode cX11_init 5 = .ok (.new 9, 3) := by decide +kernel
theorem dX11_init_8 : decode cX11_init 8 = .ok (.dup, 1) := by decide +kernel
theorem dX11_init_9 : decode cX11_init 9 = .ok (.invokespecial 11, 3) := by decide +kernel
theorem dX11_init_12 : decode cX11_init 12 = .ok (.putfield 12, 3) := by decide +kernel
theorem dX11_init_15 : decode cX11_init 15 = .ok (.aload_n 0, 1) := by decide +kernel
theorem dX11_init_16 : decode cX11_init 16 = .ok (.new 16, 3) := by decide +kernel
theorem dX11_init_19 : decode cX11_init 19 = .ok (.dup, 1) := by decide +kernel
theorem dX11_init_20 : decode cX11_init 20 = .ok (.invokespecial 18, 3) := by decide +kernel
theorem dX11_init_23 : decode cX11_init 23 = .ok (.putfield 19, 3) := by decide +kernel
theorem dX11_init_26 : decode cX11_init 26 = .ok (.aload_n 0, 1) := by decide +kernel
theorem dX11_init_27 : decode cX11_init 27 = .ok (.new 23, 3) := by decide +kernel
theorem dX11_init_30 : decode cX11_init 30 = .ok (.dup, 1) := by decide +kernel
theorem dX11_init_31 : decode cX11_init 31 = .ok (.invokespecial 25, 3) := by decide +kernel
theorem dX11_init_34 : decode cX11_init 34 = .ok (.putfield 26, 3) := by decide +kernel
theorem dX11_init_37 : decode cX11_init 37 = .ok (.aload_n 0, 1) := by decide +kernel
theorem dX11_init_38 : decode cX11_init 38 = .ok (.new 30, 3) := by decide +kernel
theorem dX11_init_41 : decode cX11_init 41 = .ok (.dup, 1) := by decide +kernel
theorem dX11_init_42 : decode cX11_init 42 = .ok (.invokespecial 32, 3) := by decide +kernel
theorem dX11_init_45 : decode cX11_init 45 = .ok (.putfield 33, 3) := by decide +kernel
theorem dX11_init_48 : decode cX11_init 48 = .ok (.aload_n 0, 1) := by decide +kernel
theorem dX11_init_49 : decode cX11_init 49 = .ok (.new 37, 3) := by decide +kernel
theorem dX11_init_52 : decode cX11_init 52 = .ok (.dup, 1) := by decide +kernel
theorem dX11_init_53 : decode cX11_init 53 = .ok (.invokespecial 39, 3) := by decide +kernel
theorem dX11_init_56 : decode cX11_init 56 = .ok (.putfield 40, 3) := by decide +kernel
theorem dX11_init_59 : decode cX11_init 59 = .ok (.aload_n 0, 1) := by decide +kernel
theorem dX11_init_60 : decode cX11_init 60 = .ok (.new 44, 3) := by decide +kernel
theorem dX11_init_63 : decode cX11_init 63 = .ok (.dup, 1) := by decide +kernel
theorem dX11_init_64 : decode cX11_init 64 = .ok (.invokespecial 46, 3) := by decide +kernel
theorem dX11_init_67 : decode cX11_init 67 = .ok (.putfield 47, 3) := by decide +kernel
theorem dX11_init_70 : decode cX11_init 70 = .ok (.aload_n 0, 1) := by decide +kernel
theorem dX11_init_71 : decode cX11_init 71 = .ok (.new 51, 3) := by decide +kernel
theorem dX11_init_74 : decode cX11_init 74 = .ok (.dup, 1) := by decide +kernel
theorem dX11_init_75 : decode cX11_init 75 = .ok (.invokespecial 53, 3) := by decide +kernel
theorem dX11_init_78 : decode cX11_init 78 = .ok (.putfield 54, 3) := by decide +kernel
theorem dX11_init_81 : decode cX11_init 81 = .ok (.aload_n 0, 1) := by decide +kernel
theorem dX11_init_82 : decode cX11_init 82 = .ok (.new 58, 3) := by decide +kernel
theorem dX11_init_85 : decode cX11_init 85 = .ok (.dup, 1) := by decide +kernel
theorem dX11_init_86 : decode cX11_init 86 = .ok (.invokespecial 60, 3) := by decide +kernel
theorem dX11_init_89 : decode cX11_init 89 = .ok (.putfield 61, 3) := by decide +kernel
theorem dX11_init_92 : decode cX11_init 92 = .ok (.aload_n 0, 1) := by decide +kernel
theorem dX11_init_93 : decode cX11_init 93 = .ok (.new 65, 3) := by decide +kernel
theorem dX11_init_96 : decode cX11_init 96 = .ok (.dup, 1) := by decide +kernel
theorem dX11_init_97 : decode cX11_init 97 = .ok (.invokespecial 67, 3) := by decide +kernel
theorem dX11_init_100 : decode cX11_init 100 = .ok (.putfield 68, 3) := by decide +kernel
theorem dX11_init_103 : decode cX11_init 103 = .ok (.aload_n 0, 1) := by decide +kernel
theorem dX11_init_104 : decode cX11_init 104 = .ok (.new 72, 3) := by decide +kernel
theorem dX11_init_107 : decode cX11_init 107 = .ok (.dup, 1) := by decide +kernel
theorem dX11_init_108 : decode cX11_init 108 = .ok (.invokespecial 74, 3) := by decide +kernel
theorem dX11_init_111 : decode cX11_init 111 = .ok (.putfield 75, 3) := by decide +kernel
theorem dX11_init_114 : decode cX11_init 114 = .ok (.aload_n 0, 1) := by decide +kernel
theorem dX11_init_115 : decode cX11_init 115 = .ok (.new 72, 3) := by decide +kernel
theorem dX11_init_118 : decode cX11_init 118 = .ok (.dup, 1) := by decide +kernel
theorem dX11_init_119 : decode cX11_init 119 = .ok (.invokespecial 74, 3) := by decide +kernel
theorem dX11_init_122 : decode cX11_init 122 = .ok (.putfield 79, 3) := by decide +kernel
theorem dX11_init_125 : decode cX11_init 125 = .ok (.return_, 1) := by decide +kernel
theorem dX11_told_0 : decode cX11_told 0 = .ok (.iload_n 1, 1) := by decide +kernel
theorem dX11_told_1 : decode cX11_told 1 = .ok (.tableswitch 142 0 17 #[87, 95, 103, 103, 103, 103, 103, 103, 109, 103, 109, 109, 115, 115, 115, 121, 129, 134], 87) := by decide +kernel
theorem dX11_told_88 : decode cX11_told 88 = .ok (.aload_n 0, 1) := by decide +kernel
theorem dX11_told_89 : decode cX11_told 89 = .ok (.getfield 12, 3) := by decide +kernel
theorem dX11_told_92 : decode cX11_told 92 = .ok (.getfield 82, 3) := by decide +kernel
theorem dX11_told_95 : decode cX11_told 95 = .ok (.ireturn, 1) := by decide +kernel
theorem dX11_told_96 : decode cX11_told 96 = .ok (.aload_n 0, 1) := by decide +kernel
theorem dX11_told_97 : decode cX11_told 97 = .ok (.getfield 12, 3) := by decide +kernel
theorem dX11_told_100 : decode cX11_told 100 = .ok (.invokevirtual 86, 3) := by decide +kernel
theorem dX11_told_103 : decode cX11_told 103 = .ok (.ireturn, 1) := by decide +kernel
theorem dX11_told_104 : decode cX11_told 104 = .ok (.aload_n 0, 1) := by decide +kernel
theorem dX11_told_105 : decode cX11_told 105 = .ok (.iload_n 1, 1) := by decide +kernel
theorem dX11_told_106 : decode cX11_told 106 = .ok (.invokevirtual 90, 3) := by decide +kernel
theorem dX11_told_109 : decode cX11_told 109 = .ok (.ireturn, 1) := by decide +kernel
theorem dX11_told_110 : decode cX11_told 110 = .ok (.aload_n 0, 1) := by decide +kernel
theorem dX11_told_111 : decode cX11_told 111 = .ok (.iload_n 1, 1) := by decide +kernel
theorem dX11_told_112 : decode cX11_told 112 = .ok (.invokevirtual 94, 3) := by decide +kernel
theorem dX11_told_115 : decode cX11_told 115 = .ok (.ireturn, 1) := by decide +kernel
theorem dX11_told_116 : decode cX11_told 116 = .ok (.aload_n 0, 1) := by decide +kernel
theorem dX11_told_117 : decode cX11_told 117 = .ok (.iload_n 1, 1) := by decide +kernel
theorem dX11_told_118 : decode cX11_told 118 = .ok (.invokevirtual 97, 3) := by decide +kernel
theorem dX11_told_121 : decode cX11_told 121 = .ok (.ireturn, 1) := by decide +kernel
theorem dX11_told_122 : decode cX11_told 122 = .ok (.aload_n 0, 1) := by decide +kernel
theorem dX11_told_123 : decode cX11_told 123 = .ok (.getfield 61, 3) := by decide +kernel
theorem dX11_told_126 : decode cX11_told 126 = .ok (.getfield 100, 3) := by decide +kernel
theorem dX11_told_129 : decode cX11_told 129 = .ok (.ireturn, 1) := by decide +kernel
theorem dX11_told_130 : decode cX11_told 130 = .ok (.aload_n 0, 1) := by decide +kernel
theorem dX11_told_131 : decode cX11_told 131 = .ok (.invokevirtual 103, 3) := by decide +kernel
theorem dX11_told_134 : decode cX11_told 134 = .ok (.ireturn, 1) := by decide +kernel
theorem dX11_told_135 : decode cX11_told 135 = .ok (.aload_n 0, 1) := by decide +kernel
theorem dX11_told_136 : decode cX11_told 136 = .ok (.getfield 54, 3) := by decide +kernel
theorem dX11_told_139 : decode cX11_told 139 = .ok (.getfield 106, 3) := by decide +kernel
theorem dX11_told_142 : decode cX11_told 142 = .ok (.ireturn, 1) := by decide +kernel
theorem dX11_told_143 : decode cX11_told 143 = .ok (.ldc 107, 2) := by decide +kernel
theorem dX11_told_145 : decode cX11_told 145 = .ok (.ireturn, 1) := by decide +kernel
theorem dX11_at_0 : decode cX11_at 0 = .ok (.aload_n 0, 1) := by decide +kernel
theorem dX11_at_1 : decode cX11_at 1 = .ok (.getfield 12, 3) := by decide +kernel
theorem dX11_at_4 : decode cX11_at 4 = .ok (.iload_n 1, 1) := by decide +kernel
theorem dX11_at_5 : decode cX11_at 5 = .ok (.invokevirtual 108, 3) := by decide +kernel
theorem dX11_at_8 : decode cX11_at 8 = .ok (.ifCond .eq 18, 3) := by decide +kernel
theorem dX11_at_11 : decode cX11_at 11 = .ok (.iload_n 2, 1) := by decide +kernel
theorem dX11_at_12 : decode cX11_at 12 = .ok (.ifCond .lt 14, 3) := by decide +kernel
theorem dX11_at_15 : decode cX11_at 15 = .ok (.iload_n 2, 1) := by decide +kernel
theorem dX11_at_16 : decode cX11_at 16 = .ok (.aload_n 0, 1) := by decide +kernel
theorem dX11_at_17 : decode cX11_at 17 = .ok (.getfield 12, 3) := by decide +kernel
theorem dX11_at_20 : decode cX11_at 20 = .ok (.getfield 82, 3) := by decide +kernel
