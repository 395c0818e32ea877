theorem dX12_rankOf_49 : decode cX12_rankOf 49 = .ok (.iload 4, 2) := by decide +kernel
theorem dX12_rankOf_51 : decode cX12_rankOf 51 = .ok (.invokestatic 69, 3) := by decide +kernel
theorem dX12_rankOf_54 : decode cX12_rankOf 54 = .ok (.if_icmp .ne 47, 3) := by decide +kernel
theorem dX12_rankOf_57 : decode cX12_rankOf 57 = .ok (.aload_n 0, 1) := by decide +kernel
theorem dX12_rankOf_58 : decode cX12_rankOf 58 = .ok (.iload 4, 2) := by decide +kernel
theorem dX12_rankOf_60 : decode cX12_rankOf 60 = .ok (.iload 5, 2) := by decide +kernel
theorem dX12_rankOf_62 : decode cX12_rankOf 62 = .ok (.invokevirtual 88, 3) := by decide +kernel
theorem dX12_rankOf_65 : decode cX12_rankOf 65 = .ok (.lstore 6, 2) := by decide +kernel
theorem dX12_rankOf_67 : decode cX12_rankOf 67 = .ok (.iload_n 2, 1) := by decide +kernel
theorem dX12_rankOf_68 : decode cX12_rankOf 68 = .ok (.ifCond .ne 13, 3) := by decide +kernel
theorem dX12_rankOf_71 : decode cX12_rankOf 71 = .ok (.lload 6, 2) := by decide +kernel
theorem dX12_rankOf_73 : decode cX12_rankOf 73 = .ok (.lconst 0, 1) := by decide +kernel
theorem dX12_rankOf_74 : decode cX12_rankOf 74 = .ok (.lcmp, 1) := by decide +kernel
theorem dX12_rankOf_75 : decode cX12_rankOf 75 = .ok (.ifCond .eq 24, 3) := by decide +kernel
theorem dX12_rankOf_78 : decode cX12_rankOf 78 = .ok (.goto 13, 3) := by decide +kernel
theorem dX12_rankOf_81 : decode cX12_rankOf 81 = .ok (.lload 6, 2) := by decide +kernel
theorem dX12_rankOf_83 : decode cX12_rankOf 83 = .ok (.iload_n 2, 1) := by decide +kernel
theorem dX12_rankOf_84 : decode cX12_rankOf 84 = .ok (.i2l, 1) := by decide +kernel
theorem dX12_rankOf_85 : decode cX12_rankOf 85 = .ok (.lrem, 1) := by decide +kernel
theorem dX12_rankOf_86 : decode cX12_rankOf 86 = .ok (.lconst 0, 1) := by decide +kernel
theorem dX12_rankOf_87 : decode cX12_rankOf 87 = .ok (.lcmp, 1) := by decide +kernel
theorem dX12_rankOf_88 : decode cX12_rankOf 88 = .ok (.ifCond .eq 11, 3) := by decide +kernel
theorem dX12_rankOf_91 : decode cX12_rankOf 91 = .ok (.iload 4, 2) := by decide +kernel
theorem dX12_rankOf_93 : decode cX12_rankOf 93 = .ok (.invokestatic 69, 3) := by decide +kernel
theorem dX12_rankOf_96 : decode cX12_rankOf 96 = .ok (.goto 4, 3) := by decide +kernel
theorem dX12_rankOf_99 : decode cX12_rankOf 99 = .ok (.iload_n 3, 1) := by decide +kernel
theorem dX12_rankOf_100 : decode cX12_rankOf 100 = .ok (.istore_n 3, 1) := by decide +kernel
theorem dX12_rankOf_101 : decode cX12_rankOf 101 = .ok (.iinc 5 1, 3) := by decide +kernel
theorem dX12_rankOf_104 : decode cX12_rankOf 104 = .ok (.goto (-85), 3) := by decide +kernel
theorem dX12_rankOf_107 : decode cX12_rankOf 107 = .ok (.iinc 4 1, 3) := by decide +kernel
theorem dX12_rankOf_110 : decode cX12_rankOf 110 = .ok (.goto (-105), 3) := by decide +kernel
theorem dX12_rankOf_113 : decode cX12_rankOf 113 = .ok (.iload_n 3, 1) := by decide +kernel
theorem dX12_rankOf_114 : decode cX12_rankOf 114 = .ok (.ireturn, 1) := by decide +kernel
theorem dX12_rank_0 : decode cX12_rank 0 = .ok (.aload_n 0, 1) := by decide +kernel
theorem dX12_rank_1 : decode cX12_rank 1 = .ok (.invokevirtual 91, 3) := by decide +kernel
theorem dX12_rank_4 : decode cX12_rank 4 = .ok (.lconst 0, 1) := by decide +kernel
theorem dX12_rank_5 : decode cX12_rank 5 = .ok (.lcmp, 1) := by decide +kernel
theorem dX12_rank_6 : decode cX12_rank 6 = .ok (.ifCond .eq 10, 3) := by decide +kernel
theorem dX12_rank_9 : decode cX12_rank 9 = .ok (.aload_n 0, 1) := by decide +kernel
theorem dX12_rank_10 : decode cX12_rank 10 = .ok (.invokevirtual 81, 3) := by decide +kernel
theorem dX12_rank_13 : decode cX12_rank 13 = .ok (.goto 12, 3) := by decide +kernel
theorem dX12_rank_16 : decode cX12_rank 16 = .ok (.aload_n 0, 1) := by decide +kernel
theorem dX12_rank_17 : decode cX12_rank 17 = .ok (.aload_n 0, 1) := by decide +kernel
theorem dX12_rank_18 : decode cX12_rank 18 = .ok (.invokevirtual 85, 3) := by decide +kernel
theorem dX12_rank_21 : decode cX12_rank 21 = .ok (.iconst 0, 1) := by decide +kernel
theorem dX12_rank_22 : decode cX12_rank 22 = .ok (.invokevirtual 95, 3) := by decide +kernel
theorem dX12_rank_25 : decode cX12_rank 25 = .ok (.ireturn, 1) := by decide +kernel
theorem dX12_wideRank_0 : decode cX12_wideRank 0 = .ok (.aload_n 0, 1) := by decide +kernel
theorem dX12_wideRank_1 : decode cX12_wideRank 1 = .ok (.aload_n 0, 1) := by decide +kernel
theorem dX12_wideRank_2 : decode cX12_wideRank 2 = .ok (.invokevirtual 85, 3) := by decide +kernel
theorem dX12_wideRank_5 : decode cX12_wideRank 5 = .ok (.bipush 16, 2) := by decide +kernel
theorem dX12_wideRank_7 : decode cX12_wideRank 7 = .ok (.ior, 1) := by decide +kernel
theorem dX12_wideRank_8 : decode cX12_wideRank 8 = .ok (.iload_n 1, 1) := by decide +kernel
theorem dX12_wideRank_9 : decode cX12_wideRank 9 = .ok (.invokevirtual 95, 3) := by decide +kernel
theorem dX12_wideRank_12 : decode cX12_wideRank 12 = .ok (.ireturn, 1) := by decide +kernel
theorem dX12_leading_0 : decode cX12_leading 0 = .ok (.aload_n 0, 1) := by decide +kernel
theorem dX12_leading_1 : decode cX12_leading 1 = .ok (.invokevirtual 91, 3) := by decide +kernel
theorem dX12_leading_4 : decode cX12_leading 4 = .ok (.lconst 0, 1) := by decide +kernel
theorem dX12_leading_5 : decode cX12_leading 5 = .ok (.lcmp, 1) := by decide +kernel
theorem dX12_leading_6 : decode cX12_leading 6 = .ok (.ifCond .eq 8, 3) := by decide +kernel
theorem dX12_leading_9 : decode cX12_leading 9 = .ok (.aload_n 0, 1) := by decide +kernel
theorem dX12_leading_10 : decode cX12_leading 10 = .ok (.invokevirtual 85, 3) := by decide +kernel
theorem dX12_leading_13 : decode cX12_leading 13 = .ok (.ireturn, 1) := by decide +kernel
theorem dX12_leading_14 : decode cX12_leading 14 = .ok (.iconst 0, 1) := by decide +kernel
theorem dX12_leading_15 : decode cX12_leading 15 = .ok (.istore_n 1, 1) := by decide +kernel
theorem dX12_leading_16 : decode cX12_leading 16 = .ok (.iconst 0, 1) := by decide +kernel
theorem dX12_leading_17 : decode cX12_leading 17 = .ok (.istore_n 2, 1) := by decide +kernel
theorem dX12_leading_18 : decode cX12_leading 18 = .ok (.iload_n 2, 1) := by decide +kernel
theorem dX12_leading_19 : decode cX12_leading 19 = .ok (.aload_n 0, 1) := by decide +kernel
theorem dX12_leading_20 : decode cX12_leading 20 = .ok (.invokevirtual 81, 3) := by decide +kernel
theorem dX12_leading_23 : decode cX12_leading 23 = .ok (.if_icmp .ge 42, 3) := by decide +kernel
theorem dX12_leading_26 : decode cX12_leading 26 = .ok (.iload_n 1, 1) := by decide +kernel
theorem dX12_leading_27 : decode cX12_leading 27 = .ok (.aload_n 0, 1) := by decide +kernel
theorem dX12_leading_28 : decode cX12_leading 28 = .ok (.iconst 2, 1) := by decide +kernel
theorem dX12_leading_29 : decode cX12_leading 29 = .ok (.iload_n 2, 1) := by decide +kernel
theorem dX12_leading_30 : decode cX12_leading 30 = .ok (.ishl, 1) := by decide +kernel
theorem dX12_leading_31 : decode cX12_leading 31 = .ok (.iconst 1, 1) := by decide +kernel
theorem dX12_leading_32 : decode cX12_leading 32 = .ok (.isub, 1) := by decide +kernel
theorem dX12_leading_33 : decode cX12_leading 33 = .ok (.iconst 0, 1) := by decide +kernel
theorem dX12_leading_34 : decode cX12_leading 34 = .ok (.invokevirtual 95, 3) := by decide +kernel
theorem dX12_leading_37 : decode cX12_leading 37 = .ok (.aload_n 0, 1) := by decide +kernel
theorem dX12_leading_38 : decode cX12_leading 38 = .ok (.iconst 1, 1) := by decide +kernel
theorem dX12_leading_39 : decode cX12_leading 39 = .ok (.iload_n 2, 1) := by decide +kernel
theorem dX12_leading_40 : decode cX12_leading 40 = .ok (.ishl, 1) := by decide +kernel
theorem dX12_leading_41 : decode cX12_leading 41 = .ok (.iconst 1, 1) := by decide +kernel
theorem dX12_leading_42 : decode cX12_leading 42 = .ok (.isub, 1) := by decide +kernel
theorem dX12_leading_43 : decode cX12_leading 43 = .ok (.iconst 0, 1) := by decide +kernel
theorem dX12_leading_44 : decode cX12_leading 44 = .ok (.invokevirtual 95, 3) := by decide +kernel
theorem dX12_leading_47 : decode cX12_leading 47 = .ok (.if_icmp .le 9, 3) := by decide +kernel
theorem dX12_leading_50 : decode cX12_leading 50 = .ok (.iconst 1, 1) := by decide +kernel
theorem dX12_leading_51 : decode cX12_leading 51 = .ok (.iload_n 2, 1) := by decide +kernel
theorem dX12_leading_52 : decode cX12_leading 52 = .ok (.ishl, 1) := by decide +kernel
theorem dX12_leading_53 : decode cX12_leading 53 = .ok (.goto 4, 3) := by decide +kernel
theorem dX12_leading_56 : decode cX12_leading 56 = .ok (.iconst 0, 1) := by decide +kernel
theorem dX12_leading_57 : decode cX12_leading 57 = .ok (.ior, 1) := by decide +kernel
theorem dX12_leading_58 : decode cX12_leading 58 = .ok (.istore_n 1, 1) := by decide +kernel
theorem dX12_leading_59 : decode cX12_leading 59 = .ok (.iinc 2 1, 3) := by decide +kernel
theorem dX12_leading_62 : decode cX12_leading 62 = .ok (.goto (-44), 3) := by decide +kernel
theorem dX12_leading_65 : decode cX12_leading 65 = .ok (.iload_n 1, 1) := by decide +kernel
theorem dX12_leading_66 : decode cX12_leading 66 = .ok (.ireturn, 1) := by decide +kernel
theorem dX12_rowsFor_0 : decode cX12_rowsFor 0 = .ok (.iload_n 1, 1) := by decide +kernel
theorem dX12_rowsFor_1 : decode cX12_rowsFor 1 = .ok (.aload_n 0, 1) := by decide +kernel
theorem dX12_rowsFor_2 : decode cX12_rowsFor 2 = .ok (.invokevirtual 85, 3) := by decide +kernel
theorem dX12_rowsFor_5 : decode cX12_rowsFor 5 = .ok (.if_icmp .ne 5, 3) := by decide +kernel
theorem dX12_rowsFor_8 : decode cX12_rowsFor 8 = .ok (.iload_n 1, 1) := by decide +kernel
theorem dX12_rowsFor_9 : decode cX12_rowsFor 9 = .ok (.ireturn, 1) := by decide +kernel
theorem dX12_rowsFor_10 : decode cX12_rowsFor 10 = .ok (.iconst 0, 1) := by decide +kernel
theorem dX12_rowsFor_11 : decode cX12_rowsFor 11 = .ok (.istore_n 2, 1) := by decide +kernel
theorem dX12_rowsFor_12 : decode cX12_rowsFor 12 = .ok (.iconst 0, 1) := by decide +kernel
theorem dX12_rowsFor_13 : decode cX12_rowsFor 13 = .ok (.istore_n 3, 1) := by decide +kernel
theorem dX12_rowsFor_14 : decode cX12_rowsFor 14 = .ok (.iload_n 3, 1) := by decide +kernel
theorem dX12_rowsFor_15 : decode cX12_rowsFor 15 = .ok (.iconst 1, 1) := by decide +kernel
theorem dX12_rowsFor_16 : decode cX12_rowsFor 16 = .ok (.aload_n 0, 1) := by decide +kernel
theorem dX12_rowsFor_17 : decode cX12_rowsFor 17 = .ok (.invokevirtual 81, 3) := by decide +kernel
theorem dX12_rowsFor_20 : decode cX12_rowsFor 20 = .ok (.ishl, 1) := by decide +kernel
theorem dX12_rowsFor_21 : decode cX12_rowsFor 21 = .ok (.if_icmp .ge 37, 3) := by decide +kernel
theorem dX12_rowsFor_24 : decode cX12_rowsFor 24 = .ok (.iload_n 3, 1) := by decide +kernel
theorem dX12_rowsFor_25 : decode cX12_rowsFor 25 = .ok (.invokestatic 69, 3) := by decide +kernel
theorem dX12_rowsFor_28 : decode cX12_rowsFor 28 = .ok (.iload_n 1, 1) := by decide +kernel
theorem dX12_rowsFor_29 : decode cX12_rowsFor 29 = .ok (.invokestatic 69, 3) := by decide +kernel
theorem dX12_rowsFor_32 : decode cX12_rowsFor 32 = .ok (.if_icmp .ne 18, 3) := by decide +kernel
theorem dX12_rowsFor_35 : decode cX12_rowsFor 35 = .ok (.aload_n 0, 1) := by decide +kernel
theorem dX12_rowsFor_36 : decode cX12_rowsFor 36 = .ok (.iload_n 3, 1) := by decide +kernel
theorem dX12_rowsFor_37 : decode cX12_rowsFor 37 = .ok (.iload_n 1, 1) := by decide +kernel
theorem dX12_rowsFor_38 : decode cX12_rowsFor 38 = .ok (.invokevirtual 88, 3) := by decide +kernel
theorem dX12_rowsFor_41 : decode cX12_rowsFor 41 = .ok (.lconst 0, 1) := by decide +kernel
theorem dX12_rowsFor_42 : decode cX12_rowsFor 42 = .ok (.lcmp, 1) := by decide +kernel
theorem dX12_rowsFor_43 : decode cX12_rowsFor 43 = .ok (.ifCond .eq 7, 3) := by decide +kernel
theorem dX12_rowsFor_46 : decode cX12_rowsFor 46 = .ok (.iload_n 3, 1) := by decide +kernel
theorem dX12_rowsFor_47 : decode cX12_rowsFor 47 = .ok (.goto 4, 3) := by decide +kernel
theorem dX12_rowsFor_50 : decode cX12_rowsFor 50 = .ok (.iload_n 2, 1) := by decide +kernel
theorem dX12_rowsFor_51 : decode cX12_rowsFor 51 = .ok (.istore_n 2, 1) := by decide +kernel
theorem dX12_rowsFor_52 : decode cX12_rowsFor 52 = .ok (.iinc 3 1, 3) := by decide +kernel
theorem dX12_rowsFor_55 : decode cX12_rowsFor 55 = .ok (.goto (-41), 3) := by decide +kernel
theorem dX12_rowsFor_58 : decode cX12_rowsFor 58 = .ok (.iload_n 2, 1) := by decide +kernel
theorem dX12_rowsFor_59 : decode cX12_rowsFor 59 = .ok (.ireturn, 1) := by decide +kernel
theorem dX12_divisor_0 : decode cX12_divisor 0 = .ok (.lload_n 0, 1) := by decide +kernel
theorem dX12_divisor_1 : decode cX12_divisor 1 = .ok (.lconst 0, 1) := by decide +kernel
theorem dX12_divisor_2 : decode cX12_divisor 2 = .ok (.lcmp, 1) := by decide +kernel
theorem dX12_divisor_3 : decode cX12_divisor 3 = .ok (.ifCond .ge 8, 3) := by decide +kernel
theorem dX12_divisor_6 : decode cX12_divisor 6 = .ok (.lload_n 0, 1) := by decide +kernel
theorem dX12_divisor_7 : decode cX12_divisor 7 = .ok (.lneg, 1) := by decide +kernel
theorem dX12_divisor_8 : decode cX12_divisor 8 = .ok (.goto 4, 3) := by decide +kernel
theorem dX12_divisor_11 : decode cX12_divisor 11 = .ok (.lload_n 0, 1) := by decide +kernel
theorem dX12_divisor_12 : decode cX12_divisor 12 = .ok (.lstore 4, 2) := by decide +kernel
theorem dX12_divisor_14 : decode cX12_divisor 14 = .ok (.lload_n 2, 1) := by decide +kernel
theorem dX12_divisor_15 : decode cX12_divisor 15 = .ok (.lconst 0, 1) := by decide +kernel
theorem dX12_divisor_16 : decode cX12_divisor 16 = .ok (.lcmp, 1) := by decide +kernel
theorem dX12_divisor_17 : decode cX12_divisor 17 = .ok (.ifCond .ge 8, 3) := by decide +kernel
theorem dX12_divisor_20 : decode cX12_divisor 20 = .ok (.lload_n 2, 1) := by decide +kernel
theorem dX12_divisor_21 : decode cX12_divisor 21 = .ok (.lneg, 1) := by decide +kernel
theorem dX12_divisor_22 : decode cX12_divisor 22 = .ok (.goto 4, 3) := by decide +kernel
theorem dX12_divisor_25 : decode cX12_divisor 25 = .ok (.lload_n 2, 1) := by decide +kernel
theorem dX12_divisor_26 : decode cX12_divisor 26 = .ok (.lstore 6, 2) := by decide +kernel
theorem dX12_divisor_28 : decode cX12_divisor 28 = .ok (.lload 6, 2) := by decide +kernel
theorem dX12_divisor_30 : decode cX12_divisor 30 = .ok (.lconst 0, 1) := by decide +kernel
theorem dX12_divisor_31 : decode cX12_divisor 31 = .ok (.lcmp, 1) := by decide +kernel
theorem dX12_divisor_32 : decode cX12_divisor 32 = .ok (.ifCond .eq 21, 3) := by decide +kernel
theorem dX12_divisor_35 : decode cX12_divisor 35 = .ok (.lload 4, 2) := by decide +kernel
theorem dX12_divisor_37 : decode cX12_divisor 37 = .ok (.lload 6, 2) := by decide +kernel
theorem dX12_divisor_39 : decode cX12_divisor 39 = .ok (.lrem, 1) := by decide +kernel
theorem dX12_divisor_40 : decode cX12_divisor 40 = .ok (.lstore 8, 2) := by decide +kernel
theorem dX12_divisor_42 : decode cX12_divisor 42 = .ok (.lload 6, 2) := by decide +kernel
theorem dX12_divisor_44 : decode cX12_divisor 44 = .ok (.lstore 4, 2) := by decide +kernel
theorem dX12_divisor_46 : decode cX12_divisor 46 = .ok (.lload 8, 2) := by decide +kernel
theorem dX12_divisor_48 : decode cX12_divisor 48 = .ok (.lstore 6, 2) := by decide +kernel
theorem dX12_divisor_50 : decode cX12_divisor 50 = .ok (.goto (-22), 3) := by decide +kernel
theorem dX12_divisor_53 : decode cX12_divisor 53 = .ok (.lload 4, 2) := by decide +kernel
theorem dX12_divisor_55 : decode cX12_divisor 55 = .ok (.lreturn, 1) := by decide +kernel
theorem dX12_layFraction_0 : decode cX12_layFraction 0 = .ok (.lload_n 1, 1) := by decide +kernel
theorem dX12_layFraction_1 : decode cX12_layFraction 1 = .ok (.lload_n 3, 1) := by decide +kernel
theorem dX12_layFraction_2 : decode cX12_layFraction 2 = .ok (.invokestatic 98, 3) := by decide +kernel
theorem dX12_layFraction_5 : decode cX12_layFraction 5 = .ok (.lstore 5, 2) := by decide +kernel
theorem dX12_layFraction_7 : decode cX12_layFraction 7 = .ok (.lload_n 3, 1) := by decide +kernel
theorem dX12_layFraction_8 : decode cX12_layFraction 8 = .ok (.lconst 0, 1) := by decide +kernel
theorem dX12_layFraction_9 : decode cX12_layFraction 9 = .ok (.lcmp, 1) := by decide +kernel
theorem dX12_layFraction_10 : decode cX12_layFraction 10 = .ok (.ifCond .ge 9, 3) := by decide +kernel
theorem dX12_layFraction_13 : decode cX12_layFraction 13 = .ok (.lload 5, 2) := by decide +kernel
theorem dX12_layFraction_15 : decode cX12_layFraction 15 = .ok (.lneg, 1) := by decide +kernel
theorem dX12_layFraction_16 : decode cX12_layFraction 16 = .ok (.goto 5, 3) := by decide +kernel
theorem dX12_layFraction_19 : decode cX12_layFraction 19 = .ok (.lload 5, 2) := by decide +kernel
theorem dX12_layFraction_21 : decode cX12_layFraction 21 = .ok (.lstore 5, 2) := by decide +kernel
theorem dX12_layFraction_23 : decode cX12_layFraction 23 = .ok (.aload_n 0, 1) := by decide +kernel
theorem dX12_layFraction_24 : decode cX12_layFraction 24 = .ok (.lload_n 1, 1) := by decide +kernel
theorem dX12_layFraction_25 : decode cX12_layFraction 25 = .ok (.lload 5, 2) := by decide +kernel
theorem dX12_layFraction_27 : decode cX12_layFraction 27 = .ok (.ldiv, 1) := by decide +kernel
theorem dX12_layFraction_28 : decode cX12_layFraction 28 = .ok (.putfield 102, 3) := by decide +kernel
theorem dX12_layFraction_31 : decode cX12_layFraction 31 = .ok (.aload_n 0, 1) := by decide +kernel
theorem dX12_layFraction_32 : decode cX12_layFraction 32 = .ok (.lload_n 3, 1) := by decide +kernel
theorem dX12_layFraction_33 : decode cX12_layFraction 33 = .ok (.lload 5, 2) := by decide +kernel
theorem dX12_layFraction_35 : decode cX12_layFraction 35 = .ok (.ldiv, 1) := by decide +kernel
theorem dX12_layFraction_36 : decode cX12_layFraction 36 = .ok (.putfield 106, 3) := by decide +kernel
theorem dX12_layFraction_39 : decode cX12_layFraction 39 = .ok (.return_, 1) := by decide +kernel
theorem dX12_layShare_0 : decode cX12_layShare 0 = .ok (.aload_n 0, 1) := by decide +kernel
theorem dX12_layShare_1 : decode cX12_layShare 1 = .ok (.invokevirtual 109, 3) := by decide +kernel
theorem dX12_layShare_4 : decode cX12_layShare 4 = .ok (.istore_n 3, 1) := by decide +kernel
theorem dX12_layShare_5 : decode cX12_layShare 5 = .ok (.aload_n 0, 1) := by decide +kernel
theorem dX12_layShare_6 : decode cX12_layShare 6 = .ok (.iload_n 3, 1) := by decide +kernel
theorem dX12_layShare_7 : decode cX12_layShare 7 = .ok (.invokevirtual 112, 3) := by decide +kernel
theorem dX12_layShare_10 : decode cX12_layShare 10 = .ok (.istore 4, 2) := by decide +kernel
theorem dX12_layShare_12 : decode cX12_layShare 12 = .ok (.aload_n 0, 1) := by decide +kernel
theorem dX12_layShare_13 : decode cX12_layShare 13 = .ok (.iload 4, 2) := by decide +kernel
theorem dX12_layShare_15 : decode cX12_layShare 15 = .ok (.iload_n 3, 1) := by decide +kernel
theorem dX12_layShare_16 : decode cX12_layShare 16 = .ok (.invokevirtual 88, 3) := by decide +kernel
theorem dX12_layShare_19 : decode cX12_layShare 19 = .ok (.lstore 5, 2) := by decide +kernel
theorem dX12_layShare_21 : decode cX12_layShare 21 = .ok (.iload 4, 2) := by decide +kernel
theorem dX12_layShare_23 : decode cX12_layShare 23 = .ok (.invokestatic 69, 3) := by decide +kernel
theorem dX12_layShare_26 : decode cX12_layShare 26 = .ok (.istore 7, 2) := by decide +kernel
theorem dX12_layShare_28 : decode cX12_layShare 28 = .ok (.iconst 0, 1) := by decide +kernel
theorem dX12_layShare_29 : decode cX12_layShare 29 = .ok (.istore 8, 2) := by decide +kernel
theorem dX12_layShare_31 : decode cX12_layShare 31 = .ok (.iload 8, 2) := by decide +kernel
theorem dX12_layShare_33 : decode cX12_layShare 33 = .ok (.iload 7, 2) := by decide +kernel
theorem dX12_layShare_35 : decode cX12_layShare 35 = .ok (.if_icmp .ge 46, 3) := by decide +kernel
theorem dX12_layShare_38 : decode cX12_layShare 38 = .ok (.aload_n 0, 1) := by decide +kernel
theorem dX12_layShare_39 : decode cX12_layShare 39 = .ok (.getfield 25, 3) := by decide +kernel
theorem dX12_layShare_42 : decode cX12_layShare 42 = .ok (.iload 8, 2) := by decide +kernel
theorem dX12_layShare_44 : decode cX12_layShare 44 = .ok (.iload 4, 2) := by decide +kernel
theorem dX12_layShare_46 : decode cX12_layShare 46 = .ok (.iload 8, 2) := by decide +kernel
theorem dX12_layShare_48 : decode cX12_layShare 48 = .ok (.invokestatic 73, 3) := by decide +kernel
theorem dX12_layShare_51 : decode cX12_layShare 51 = .ok (.iastore, 1) := by decide +kernel
theorem dX12_layShare_52 : decode cX12_layShare 52 = .ok (.aload_n 0, 1) := by decide +kernel
theorem dX12_layShare_53 : decode cX12_layShare 53 = .ok (.getfield 28, 3) := by decide +kernel
theorem dX12_layShare_56 : decode cX12_layShare 56 = .ok (.iload 8, 2) := by decide +kernel
theorem dX12_layShare_58 : decode cX12_layShare 58 = .ok (.iload 8, 2) := by decide +kernel
theorem dX12_layShare_60 : decode cX12_layShare 60 = .ok (.iload_n 1, 1) := by decide +kernel
theorem dX12_layShare_61 : decode cX12_layShare 61 = .ok (.if_icmp .ne 7, 3) := by decide +kernel
theorem dX12_layShare_64 : decode cX12_layShare 64 = .ok (.iload_n 2, 1) := by decide +kernel
theorem dX12_layShare_65 : decode cX12_layShare 65 = .ok (.goto 9, 3) := by decide +kernel
theorem dX12_layShare_68 : decode cX12_layShare 68 = .ok (.iload_n 3, 1) := by decide +kernel
theorem dX12_layShare_69 : decode cX12_layShare 69 = .ok (.iload 8, 2) := by decide +kernel
theorem dX12_layShare_71 : decode cX12_layShare 71 = .ok (.invokestatic 73, 3) := by decide +kernel
theorem dX12_layShare_74 : decode cX12_layShare 74 = .ok (.iastore, 1) := by decide +kernel
theorem dX12_layShare_75 : decode cX12_layShare 75 = .ok (.iinc 8 1, 3) := by decide +kernel
theorem dX12_layShare_78 : decode cX12_layShare 78 = .ok (.goto (-47), 3) := by decide +kernel
theorem dX12_layShare_81 : decode cX12_layShare 81 = .ok (.aload_n 0, 1) := by decide +kernel
theorem dX12_layShare_82 : decode cX12_layShare 82 = .ok (.aload_n 0, 1) := by decide +kernel
theorem dX12_layShare_83 : decode cX12_layShare 83 = .ok (.iload 7, 2) := by decide +kernel
theorem dX12_layShare_85 : decode cX12_layShare 85 = .ok (.invokevirtual 77, 3) := by decide +kernel
theorem dX12_layShare_88 : decode cX12_layShare 88 = .ok (.lload 5, 2) := by decide +kernel
theorem dX12_layShare_90 : decode cX12_layShare 90 = .ok (.invokevirtual 115, 3) := by decide +kernel
theorem dX12_layShare_93 : decode cX12_layShare 93 = .ok (.return_, 1) := by decide +kernel
theorem dX12_broken_0 : decode cX12_broken 0 = .ok (.iconst 0, 1) := by decide +kernel
theorem dX12_broken_1 : decode cX12_broken 1 = .ok (.istore_n 1, 1) := by decide +kernel
theorem dX12_broken_2 : decode cX12_broken 2 = .ok (.iconst 0, 1) := by decide +kernel
theorem dX12_broken_3 : decode cX12_broken 3 = .ok (.istore_n 2, 1) := by decide +kernel
theorem dX12_broken_4 : decode cX12_broken 4 = .ok (.iload_n 2, 1) := by decide +kernel
theorem dX12_broken_5 : decode cX12_broken 5 = .ok (.aload_n 0, 1) := by decide +kernel
theorem dX12_broken_6 : decode cX12_broken 6 = .ok (.invokevirtual 119, 3) := by decide +kernel
theorem dX12_broken_9 : decode cX12_broken 9 = .ok (.if_icmp .ge 67, 3) := by decide +kernel
theorem dX12_broken_12 : decode cX12_broken 12 = .ok (.iconst 0, 1) := by decide +kernel
theorem dX12_broken_13 : decode cX12_broken 13 = .ok (.istore_n 3, 1) := by decide +kernel
theorem dX12_broken_14 : decode cX12_broken 14 = .ok (.iconst 0, 1) := by decide +kernel
theorem dX12_broken_15 : decode cX12_broken 15 = .ok (.istore 4, 2) := by decide +kernel
theorem dX12_broken_17 : decode cX12_broken 17 = .ok (.iload 4, 2) := by decide +kernel
theorem dX12_broken_19 : decode cX12_broken 19 = .ok (.aload_n 0, 1) := by decide +kernel
theorem dX12_broken_20 : decode cX12_broken 20 = .ok (.invokevirtual 81, 3) := by decide +kernel
theorem dX12_broken_23 : decode cX12_broken 23 = .ok (.if_icmp .ge 35, 3) := by decide +kernel
theorem dX12_broken_26 : decode cX12_broken 26 = .ok (.aload_n 0, 1) := by decide +kernel
theorem dX12_broken_27 : decode cX12_broken 27 = .ok (.iload_n 2, 1) := by decide +kernel
theorem dX12_broken_28 : decode cX12_broken 28 = .ok (.iload 4, 2) := by decide +kernel
theorem dX12_broken_30 : decode cX12_broken 30 = .ok (.invokevirtual 122, 3) := by decide +kernel
theorem dX12_broken_33 : decode cX12_broken 33 = .ok (.iload_n 3, 1) := by decide +kernel
theorem dX12_broken_34 : decode cX12_broken 34 = .ok (.ifCond .ne 12, 3) := by decide +kernel
theorem dX12_broken_37 : decode cX12_broken 37 = .ok (.aload_n 0, 1) := by decide +kernel
theorem dX12_broken_38 : decode cX12_broken 38 = .ok (.getfield 106, 3) := by decide +kernel
theorem dX12_broken_41 : decode cX12_broken 41 = .ok (.lconst 1, 1) := by decide +kernel
theorem dX12_broken_42 : decode cX12_broken 42 = .ok (.lcmp, 1) := by decide +kernel
theorem dX12_broken_43 : decode cX12_broken 43 = .ok (.ifCond .eq 7, 3) := by decide +kernel
theorem dX12_broken_46 : decode cX12_broken 46 = .ok (.iconst 1, 1) := by decide +kernel
theorem dX12_broken_47 : decode cX12_broken 47 = .ok (.goto 4, 3) := by decide +kernel
theorem dX12_broken_50 : decode cX12_broken 50 = .ok (.iconst 0, 1) := by decide +kernel
theorem dX12_broken_51 : decode cX12_broken 51 = .ok (.istore_n 3, 1) := by decide +kernel
theorem dX12_broken_52 : decode cX12_broken 52 = .ok (.iinc 4 1, 3) := by decide +kernel
theorem dX12_broken_55 : decode cX12_broken 55 = .ok (.goto (-38), 3) := by decide +kernel
theorem dX12_broken_58 : decode cX12_broken 58 = .ok (.iload_n 1, 1) := by decide +kernel
theorem dX12_broken_59 : decode cX12_broken 59 = .ok (.iload_n 3, 1) := by decide +kernel
theorem dX12_broken_60 : decode cX12_broken 60 = .ok (.ifCond .eq 7, 3) := by decide +kernel
theorem dX12_broken_63 : decode cX12_broken 63 = .ok (.iconst 1, 1) := by decide +kernel
theorem dX12_broken_64 : decode cX12_broken 64 = .ok (.goto 4, 3) := by decide +kernel
theorem dX12_broken_67 : decode cX12_broken 67 = .ok (.iconst 0, 1) := by decide +kernel
theorem dX12_broken_68 : decode cX12_broken 68 = .ok (.iadd, 1) := by decide +kernel
theorem dX12_broken_69 : decode cX12_broken 69 = .ok (.istore_n 1, 1) := by decide +kernel
theorem dX12_broken_70 : decode cX12_broken 70 = .ok (.iinc 2 1, 3) := by decide +kernel
theorem dX12_broken_73 : decode cX12_broken 73 = .ok (.goto (-69), 3) := by decide +kernel
theorem dX12_broken_76 : decode cX12_broken 76 = .ok (.iload_n 1, 1) := by decide +kernel
theorem dX12_broken_77 : decode cX12_broken 77 = .ok (.ireturn, 1) := by decide +kernel
theorem dX12_kind_0 : decode cX12_kind 0 = .ok (.aload_n 0, 1) := by decide +kernel
theorem dX12_kind_1 : decode cX12_kind 1 = .ok (.invokevirtual 119, 3) := by decide +kernel
theorem dX12_kind_4 : decode cX12_kind 4 = .ok (.istore_n 1, 1) := by decide +kernel
theorem dX12_kind_5 : decode cX12_kind 5 = .ok (.aload_n 0, 1) := by decide +kernel
theorem dX12_kind_6 : decode cX12_kind 6 = .ok (.iconst 0, 1) := by decide +kernel
theorem dX12_kind_7 : decode cX12_kind 7 = .ok (.invokevirtual 125, 3) := by decide +kernel
theorem dX12_kind_10 : decode cX12_kind 10 = .ok (.iload_n 1, 1) := by decide +kernel
theorem dX12_kind_11 : decode cX12_kind 11 = .ok (.if_icmp .le 7, 3) := by decide +kernel
theorem dX12_kind_14 : decode cX12_kind 14 = .ok (.iconst 0, 1) := by decide +kernel
theorem dX12_kind_15 : decode cX12_kind 15 = .ok (.goto 16, 3) := by decide +kernel
theorem dX12_kind_18 : decode cX12_kind 18 = .ok (.iload_n 1, 1) := by decide +kernel
theorem dX12_kind_19 : decode cX12_kind 19 = .ok (.aload_n 0, 1) := by decide +kernel
theorem dX12_kind_20 : decode cX12_kind 20 = .ok (.invokevirtual 81, 3) := by decide +kernel
theorem dX12_kind_23 : decode cX12_kind 23 = .ok (.if_icmp .ne 7, 3) := by decide +kernel
theorem dX12_kind_26 : decode cX12_kind 26 = .ok (.iconst 1, 1) := by decide +kernel
theorem dX12_kind_27 : decode cX12_kind 27 = .ok (.goto 4, 3) := by decide +kernel
theorem dX12_kind_30 : decode cX12_kind 30 = .ok (.iconst 2, 1) := by decide +kernel
theorem dX12_kind_31 : decode cX12_kind 31 = .ok (.ireturn, 1) := by decide +kernel
theorem dX12_laySolution_0 : decode cX12_laySolution 0 = .ok (.aload_n 0, 1) := by decide +kernel
theorem dX12_laySolution_1 : decode cX12_laySolution 1 = .ok (.invokevirtual 109, 3) := by decide +kernel
theorem dX12_laySolution_4 : decode cX12_laySolution 4 = .ok (.istore_n 2, 1) := by decide +kernel
theorem dX12_laySolution_5 : decode cX12_laySolution 5 = .ok (.iload_n 2, 1) := by decide +kernel
theorem dX12_laySolution_6 : decode cX12_laySolution 6 = .ok (.iload_n 1, 1) := by decide +kernel
theorem dX12_laySolution_7 : decode cX12_laySolution 7 = .ok (.invokestatic 65, 3) := by decide +kernel
theorem dX12_laySolution_10 : decode cX12_laySolution 10 = .ok (.ifCond .eq 21, 3) := by decide +kernel
theorem dX12_laySolution_13 : decode cX12_laySolution 13 = .ok (.aload_n 0, 1) := by decide +kernel
theorem dX12_laySolution_14 : decode cX12_laySolution 14 = .ok (.iload_n 2, 1) := by decide +kernel
theorem dX12_laySolution_15 : decode cX12_laySolution 15 = .ok (.iconst 1, 1) := by decide +kernel
theorem dX12_laySolution_16 : decode cX12_laySolution 16 = .ok (.iload_n 1, 1) := by decide +kernel
theorem dX12_laySolution_17 : decode cX12_laySolution 17 = .ok (.ishl, 1) := by decide +kernel
theorem dX12_laySolution_18 : decode cX12_laySolution 18 = .ok (.iconst 1, 1) := by decide +kernel
theorem dX12_laySolution_19 : decode cX12_laySolution 19 = .ok (.isub, 1) := by decide +kernel
theorem dX12_laySolution_20 : decode cX12_laySolution 20 = .ok (.iand, 1) := by decide +kernel
theorem dX12_laySolution_21 : decode cX12_laySolution 21 = .ok (.invokestatic 69, 3) := by decide +kernel
theorem dX12_laySolution_24 : decode cX12_laySolution 24 = .ok (.iconst 4, 1) := by decide +kernel
theorem dX12_laySolution_25 : decode cX12_laySolution 25 = .ok (.invokevirtual 122, 3) := by decide +kernel
theorem dX12_laySolution_28 : decode cX12_laySolution 28 = .ok (.goto 9, 3) := by decide +kernel
theorem dX12_laySolution_31 : decode cX12_laySolution 31 = .ok (.aload_n 0, 1) := by decide +kernel
theorem dX12_laySolution_32 : decode cX12_laySolution 32 = .ok (.lconst 0, 1) := by decide +kernel
theorem dX12_laySolution_33 : decode cX12_laySolution 33 = .ok (.lconst 1, 1) := by decide +kernel
theorem dX12_laySolution_34 : decode cX12_laySolution 34 = .ok (.invokevirtual 115, 3) := by decide +kernel
theorem dX12_laySolution_37 : decode cX12_laySolution 37 = .ok (.return_, 1) := by decide +kernel
theorem dX12_layNothing_0 : decode cX12_layNothing 0 = .ok (.aload_n 0, 1) := by decide +kernel
theorem dX12_layNothing_1 : decode cX12_layNothing 1 = .ok (.invokevirtual 109, 3) := by decide +kernel
theorem dX12_layNothing_4 : decode cX12_layNothing 4 = .ok (.istore_n 1, 1) := by decide +kernel
theorem dX12_layNothing_5 : decode cX12_layNothing 5 = .ok (.iconst 0, 1) := by decide +kernel
theorem dX12_layNothing_6 : decode cX12_layNothing 6 = .ok (.istore_n 2, 1) := by decide +kernel
theorem dX12_layNothing_7 : decode cX12_layNothing 7 = .ok (.iload_n 1, 1) := by decide +kernel
theorem dX12_layNothing_8 : decode cX12_layNothing 8 = .ok (.iload_n 2, 1) := by decide +kernel
theorem dX12_layNothing_9 : decode cX12_layNothing 9 = .ok (.invokestatic 65, 3) := by decide +kernel
theorem dX12_layNothing_12 : decode cX12_layNothing 12 = .ok (.ifCond .eq 9, 3) := by decide +kernel
theorem dX12_layNothing_15 : decode cX12_layNothing 15 = .ok (.iinc 2 1, 3) := by decide +kernel
theorem dX12_layNothing_18 : decode cX12_layNothing 18 = .ok (.goto (-11), 3) := by decide +kernel
theorem dX12_layNothing_21 : decode cX12_layNothing 21 = .ok (.lconst 1, 1) := by decide +kernel
theorem dX12_layNothing_22 : decode cX12_layNothing 22 = .ok (.lstore_n 3, 1) := by decide +kernel
theorem dX12_layNothing_23 : decode cX12_layNothing 23 = .ok (.iconst 0, 1) := by decide +kernel
theorem dX12_layNothing_24 : decode cX12_layNothing 24 = .ok (.istore 5, 2) := by decide +kernel
theorem dX12_layNothing_26 : decode cX12_layNothing 26 = .ok (.iload 5, 2) := by decide +kernel
theorem dX12_layNothing_28 : decode cX12_layNothing 28 = .ok (.iload_n 1, 1) := by decide +kernel
theorem dX12_layNothing_29 : decode cX12_layNothing 29 = .ok (.invokestatic 69, 3) := by decide +kernel
theorem dX12_layNothing_32 : decode cX12_layNothing 32 = .ok (.if_icmp .ge 32, 3) := by decide +kernel
theorem dX12_layNothing_35 : decode cX12_layNothing 35 = .ok (.aload_n 0, 1) := by decide +kernel
theorem dX12_layNothing_36 : decode cX12_layNothing 36 = .ok (.iload 5, 2) := by decide +kernel
theorem dX12_layNothing_38 : decode cX12_layNothing 38 = .ok (.iload_n 2, 1) := by decide +kernel
theorem dX12_layNothing_39 : decode cX12_layNothing 39 = .ok (.invokevirtual 122, 3) := by decide +kernel
theorem dX12_layNothing_42 : decode cX12_layNothing 42 = .ok (.lload_n 3, 1) := by decide +kernel
theorem dX12_layNothing_43 : decode cX12_layNothing 43 = .ok (.lload_n 3, 1) := by decide +kernel
theorem dX12_layNothing_44 : decode cX12_layNothing 44 = .ok (.aload_n 0, 1) := by decide +kernel
theorem dX12_layNothing_45 : decode cX12_layNothing 45 = .ok (.getfield 106, 3) := by decide +kernel
theorem dX12_layNothing_48 : decode cX12_layNothing 48 = .ok (.invokestatic 98, 3) := by decide +kernel
theorem dX12_layNothing_51 : decode cX12_layNothing 51 = .ok (.ldiv, 1) := by decide +kernel
theorem dX12_layNothing_52 : decode cX12_layNothing 52 = .ok (.aload_n 0, 1) := by decide +kernel
theorem dX12_layNothing_53 : decode cX12_layNothing 53 = .ok (.getfield 106, 3) := by decide +kernel
theorem dX12_layNothing_56 : decode cX12_layNothing 56 = .ok (.lmul, 1) := by decide +kernel
theorem dX12_layNothing_57 : decode cX12_layNothing 57 = .ok (.lstore_n 3, 1) := by decide +kernel
theorem dX12_layNothing_58 : decode cX12_layNothing 58 = .ok (.iinc 5 1, 3) := by decide +kernel
theorem dX12_layNothing_61 : decode cX12_layNothing 61 = .ok (.goto (-35), 3) := by decide +kernel
theorem dX12_layNothing_64 : decode cX12_layNothing 64 = .ok (.iconst 0, 1) := by decide +kernel
theorem dX12_layNothing_65 : decode cX12_layNothing 65 = .ok (.istore 5, 2) := by decide +kernel
theorem dX12_layNothing_67 : decode cX12_layNothing 67 = .ok (.iload 5, 2) := by decide +kernel
theorem dX12_layNothing_69 : decode cX12_layNothing 69 = .ok (.aload_n 0, 1) := by decide +kernel
theorem dX12_layNothing_70 : decode cX12_layNothing 70 = .ok (.invokevirtual 81, 3) := by decide +kernel
theorem dX12_layNothing_73 : decode cX12_layNothing 73 = .ok (.if_icmp .ge 27, 3) := by decide +kernel
theorem dX12_layNothing_76 : decode cX12_layNothing 76 = .ok (.aload_n 0, 1) := by decide +kernel
theorem dX12_layNothing_77 : decode cX12_layNothing 77 = .ok (.getfield 31, 3) := by decide +kernel
theorem dX12_layNothing_80 : decode cX12_layNothing 80 = .ok (.iload 5, 2) := by decide +kernel
theorem dX12_layNothing_82 : decode cX12_layNothing 82 = .ok (.iload 5, 2) := by decide +kernel
theorem dX12_layNothing_84 : decode cX12_layNothing 84 = .ok (.iload_n 2, 1) := by decide +kernel
theorem dX12_layNothing_85 : decode cX12_layNothing 85 = .ok (.if_icmp .ne 7, 3) := by decide +kernel
theorem dX12_layNothing_88 : decode cX12_layNothing 88 = .ok (.lload_n 3, 1) := by decide +kernel
theorem dX12_layNothing_89 : decode cX12_layNothing 89 = .ok (.goto 4, 3) := by decide +kernel
theorem dX12_layNothing_92 : decode cX12_layNothing 92 = .ok (.lconst 0, 1) := by decide +kernel
theorem dX12_layNothing_93 : decode cX12_layNothing 93 = .ok (.lastore, 1) := by decide +kernel
theorem dX12_layNothing_94 : decode cX12_layNothing 94 = .ok (.iinc 5 1, 3) := by decide +kernel
theorem dX12_layNothing_97 : decode cX12_layNothing 97 = .ok (.goto (-30), 3) := by decide +kernel
theorem dX12_layNothing_100 : decode cX12_layNothing 100 = .ok (.iconst 0, 1) := by decide +kernel
theorem dX12_layNothing_101 : decode cX12_layNothing 101 = .ok (.istore 5, 2) := by decide +kernel
theorem dX12_layNothing_103 : decode cX12_layNothing 103 = .ok (.iload 5, 2) := by decide +kernel
theorem dX12_layNothing_105 : decode cX12_layNothing 105 = .ok (.iload_n 1, 1) := by decide +kernel
theorem dX12_layNothing_106 : decode cX12_layNothing 106 = .ok (.invokestatic 69, 3) := by decide +kernel
theorem dX12_layNothing_109 : decode cX12_layNothing 109 = .ok (.if_icmp .ge 39, 3) := by decide +kernel
theorem dX12_layNothing_112 : decode cX12_layNothing 112 = .ok (.aload_n 0, 1) := by decide +kernel
theorem dX12_layNothing_113 : decode cX12_layNothing 113 = .ok (.iload 5, 2) := by decide +kernel
theorem dX12_layNothing_115 : decode cX12_layNothing 115 = .ok (.iload_n 2, 1) := by decide +kernel
theorem dX12_layNothing_116 : decode cX12_layNothing 116 = .ok (.invokevirtual 122, 3) := by decide +kernel
theorem dX12_layNothing_119 : decode cX12_layNothing 119 = .ok (.aload_n 0, 1) := by decide +kernel
theorem dX12_layNothing_120 : decode cX12_layNothing 120 = .ok (.getfield 31, 3) := by decide +kernel
theorem dX12_layNothing_123 : decode cX12_layNothing 123 = .ok (.iload_n 1, 1) := by decide +kernel
theorem dX12_layNothing_124 : decode cX12_layNothing 124 = .ok (.iload 5, 2) := by decide +kernel
theorem dX12_layNothing_126 : decode cX12_layNothing 126 = .ok (.invokestatic 73, 3) := by decide +kernel
theorem dX12_layNothing_129 : decode cX12_layNothing 129 = .ok (.aload_n 0, 1) := by decide +kernel
theorem dX12_layNothing_130 : decode cX12_layNothing 130 = .ok (.getfield 102, 3) := by decide +kernel
theorem dX12_layNothing_133 : decode cX12_layNothing 133 = .ok (.lneg, 1) := by decide +kernel
theorem dX12_layNothing_134 : decode cX12_layNothing 134 = .ok (.lload_n 3, 1) := by decide +kernel
theorem dX12_layNothing_135 : decode cX12_layNothing 135 = .ok (.aload_n 0, 1) := by decide +kernel
theorem dX12_layNothing_136 : decode cX12_layNothing 136 = .ok (.getfield 106, 3) := by decide +kernel
theorem dX12_layNothing_139 : decode cX12_layNothing 139 = .ok (.ldiv, 1) := by decide +kernel
theorem dX12_layNothing_140 : decode cX12_layNothing 140 = .ok (.lmul, 1) := by decide +kernel
theorem dX12_layNothing_141 : decode cX12_layNothing 141 = .ok (.lastore, 1) := by decide +kernel
theorem dX12_layNothing_142 : decode cX12_layNothing 142 = .ok (.iinc 5 1, 3) := by decide +kernel
theorem dX12_layNothing_145 : decode cX12_layNothing 145 = .ok (.goto (-42), 3) := by decide +kernel
theorem dX12_layNothing_148 : decode cX12_layNothing 148 = .ok (.return_, 1) := by decide +kernel
theorem dX12_isBad_0 : decode cX12_isBad 0 = .ok (.aload_n 0, 1) := by decide +kernel
theorem dX12_isBad_1 : decode cX12_isBad 1 = .ok (.invokevirtual 91, 3) := by decide +kernel
theorem dX12_isBad_4 : decode cX12_isBad 4 = .ok (.aload_n 0, 1) := by decide +kernel
theorem dX12_isBad_5 : decode cX12_isBad 5 = .ok (.invokevirtual 128, 3) := by decide +kernel
theorem dX12_isBad_8 : decode cX12_isBad 8 = .ok (.i2l, 1) := by decide +kernel
theorem dX12_isBad_9 : decode cX12_isBad 9 = .ok (.lrem, 1) := by decide +kernel
theorem dX12_isBad_10 : decode cX12_isBad 10 = .ok (.lconst 0, 1) := by decide +kernel
theorem dX12_isBad_11 : decode cX12_isBad 11 = .ok (.lcmp, 1) := by decide +kernel
theorem dX12_isBad_12 : decode cX12_isBad 12 = .ok (.ifCond .ne 7, 3) := by decide +kernel
theorem dX12_isBad_15 : decode cX12_isBad 15 = .ok (.iconst 1, 1) := by decide +kernel
theorem dX12_isBad_16 : decode cX12_isBad 16 = .ok (.goto 4, 3) := by decide +kernel
theorem dX12_isBad_19 : decode cX12_isBad 19 = .ok (.iconst 0, 1) := by decide +kernel
theorem dX12_isBad_20 : decode cX12_isBad 20 = .ok (.ireturn, 1) := by decide +kernel
theorem dX12_badMany_0 : decode cX12_badMany 0 = .ok (.iconst 0, 1) := by decide +kernel
theorem dX12_badMany_1 : decode cX12_badMany 1 = .ok (.istore_n 1, 1) := by decide +kernel
theorem dX12_badMany_2 : decode cX12_badMany 2 = .ok (.aload_n 0, 1) := by decide +kernel
theorem dX12_badMany_3 : decode cX12_badMany 3 = .ok (.invokevirtual 91, 3) := by decide +kernel
theorem dX12_badMany_6 : decode cX12_badMany 6 = .ok (.lstore_n 2, 1) := by decide +kernel
theorem dX12_badMany_7 : decode cX12_badMany 7 = .ok (.iconst 2, 1) := by decide +kernel
theorem dX12_badMany_8 : decode cX12_badMany 8 = .ok (.istore 4, 2) := by decide +kernel
theorem dX12_badMany_10 : decode cX12_badMany 10 = .ok (.iload 4, 2) := by decide +kernel
theorem dX12_badMany_12 : decode cX12_badMany 12 = .ok (.bipush 98, 2) := by decide +kernel
theorem dX12_badMany_14 : decode cX12_badMany 14 = .ok (.if_icmp .ge 35, 3) := by decide +kernel
theorem dX12_badMany_17 : decode cX12_badMany 17 = .ok (.iload_n 1, 1) := by decide +kernel
theorem dX12_badMany_18 : decode cX12_badMany 18 = .ok (.iload 4, 2) := by decide +kernel
theorem dX12_badMany_20 : decode cX12_badMany 20 = .ok (.invokestatic 47, 3) := by decide +kernel
theorem dX12_badMany_23 : decode cX12_badMany 23 = .ok (.ifCond .eq 17, 3) := by decide +kernel
theorem dX12_badMany_26 : decode cX12_badMany 26 = .ok (.lload_n 2, 1) := by decide +kernel
theorem dX12_badMany_27 : decode cX12_badMany 27 = .ok (.iload 4, 2) := by decide +kernel
theorem dX12_badMany_29 : decode cX12_badMany 29 = .ok (.i2l, 1) := by decide +kernel
theorem dX12_badMany_30 : decode cX12_badMany 30 = .ok (.lrem, 1) := by decide +kernel
theorem dX12_badMany_31 : decode cX12_badMany 31 = .ok (.lconst 0, 1) := by decide +kernel
theorem dX12_badMany_32 : decode cX12_badMany 32 = .ok (.lcmp, 1) := by decide +kernel
theorem dX12_badMany_33 : decode cX12_badMany 33 = .ok (.ifCond .ne 7, 3) := by decide +kernel
theorem dX12_badMany_36 : decode cX12_badMany 36 = .ok (.iconst 1, 1) := by decide +kernel
theorem dX12_badMany_37 : decode cX12_badMany 37 = .ok (.goto 4, 3) := by decide +kernel
theorem dX12_badMany_40 : decode cX12_badMany 40 = .ok (.iconst 0, 1) := by decide +kernel
theorem dX12_badMany_41 : decode cX12_badMany 41 = .ok (.iadd, 1) := by decide +kernel
theorem dX12_badMany_42 : decode cX12_badMany 42 = .ok (.istore_n 1, 1) := by decide +kernel
theorem dX12_badMany_43 : decode cX12_badMany 43 = .ok (.iinc 4 1, 3) := by decide +kernel
theorem dX12_badMany_46 : decode cX12_badMany 46 = .ok (.goto (-36), 3) := by decide +kernel
theorem dX12_badMany_49 : decode cX12_badMany 49 = .ok (.iload_n 1, 1) := by decide +kernel
theorem dX12_badMany_50 : decode cX12_badMany 50 = .ok (.ireturn, 1) := by decide +kernel
theorem dX12_leftOver_0 : decode cX12_leftOver 0 = .ok (.lload_n 0, 1) := by decide +kernel
theorem dX12_leftOver_1 : decode cX12_leftOver 1 = .ok (.lload_n 2, 1) := by decide +kernel
theorem dX12_leftOver_2 : decode cX12_leftOver 2 = .ok (.lrem, 1) := by decide +kernel
theorem dX12_leftOver_3 : decode cX12_leftOver 3 = .ok (.lload_n 2, 1) := by decide +kernel
theorem dX12_leftOver_4 : decode cX12_leftOver 4 = .ok (.ladd, 1) := by decide +kernel
theorem dX12_leftOver_5 : decode cX12_leftOver 5 = .ok (.lload_n 2, 1) := by decide +kernel
theorem dX12_leftOver_6 : decode cX12_leftOver 6 = .ok (.lrem, 1) := by decide +kernel
theorem dX12_leftOver_7 : decode cX12_leftOver 7 = .ok (.lreturn, 1) := by decide +kernel
theorem dX12_waysNow_0 : decode cX12_waysNow 0 = .ok (.aload_n 0, 1) := by decide +kernel
theorem dX12_waysNow_1 : decode cX12_waysNow 1 = .ok (.invokevirtual 128, 3) := by decide +kernel
theorem dX12_waysNow_4 : decode cX12_waysNow 4 = .ok (.istore_n 1, 1) := by decide +kernel
theorem dX12_waysNow_5 : decode cX12_waysNow 5 = .ok (.aload_n 0, 1) := by decide +kernel
theorem dX12_waysNow_6 : decode cX12_waysNow 6 = .ok (.aload_n 0, 1) := by decide +kernel
theorem dX12_waysNow_7 : decode cX12_waysNow 7 = .ok (.invokevirtual 85, 3) := by decide +kernel
theorem dX12_waysNow_10 : decode cX12_waysNow 10 = .ok (.iload_n 1, 1) := by decide +kernel
theorem dX12_waysNow_11 : decode cX12_waysNow 11 = .ok (.invokevirtual 95, 3) := by decide +kernel
theorem dX12_waysNow_14 : decode cX12_waysNow 14 = .ok (.istore_n 2, 1) := by decide +kernel
theorem dX12_waysNow_15 : decode cX12_waysNow 15 = .ok (.aload_n 0, 1) := by decide +kernel
theorem dX12_waysNow_16 : decode cX12_waysNow 16 = .ok (.iload_n 1, 1) := by decide +kernel
theorem dX12_waysNow_17 : decode cX12_waysNow 17 = .ok (.invokevirtual 125, 3) := by decide +kernel
theorem dX12_waysNow_20 : decode cX12_waysNow 20 = .ok (.iload_n 2, 1) := by decide +kernel
theorem dX12_waysNow_21 : decode cX12_waysNow 21 = .ok (.if_icmp .le 7, 3) := by decide +kernel
theorem dX12_waysNow_24 : decode cX12_waysNow 24 = .ok (.iconst 0, 1) := by decide +kernel
theorem dX12_waysNow_25 : decode cX12_waysNow 25 = .ok (.goto 4, 3) := by decide +kernel
theorem dX12_waysNow_28 : decode cX12_waysNow 28 = .ok (.iconst 1, 1) := by decide +kernel
theorem dX12_waysNow_29 : decode cX12_waysNow 29 = .ok (.istore_n 3, 1) := by decide +kernel
theorem dX12_waysNow_30 : decode cX12_waysNow 30 = .ok (.iload_n 2, 1) := by decide +kernel
theorem dX12_waysNow_31 : decode cX12_waysNow 31 = .ok (.istore 4, 2) := by decide +kernel
theorem dX12_waysNow_33 : decode cX12_waysNow 33 = .ok (.iload 4, 2) := by decide +kernel
theorem dX12_waysNow_35 : decode cX12_waysNow 35 = .ok (.aload_n 0, 1) := by decide +kernel
theorem dX12_waysNow_36 : decode cX12_waysNow 36 = .ok (.invokevirtual 81, 3) := by decide +kernel
theorem dX12_waysNow_39 : decode cX12_waysNow 39 = .ok (.if_icmp .ge 13, 3) := by decide +kernel
theorem dX12_waysNow_42 : decode cX12_waysNow 42 = .ok (.iload_n 3, 1) := by decide +kernel
theorem dX12_waysNow_43 : decode cX12_waysNow 43 = .ok (.iload_n 1, 1) := by decide +kernel
theorem dX12_waysNow_44 : decode cX12_waysNow 44 = .ok (.imul, 1) := by decide +kernel
theorem dX12_waysNow_45 : decode cX12_waysNow 45 = .ok (.istore_n 3, 1) := by decide +kernel
theorem dX12_waysNow_46 : decode cX12_waysNow 46 = .ok (.iinc 4 1, 3) := by decide +kernel
theorem dX12_waysNow_49 : decode cX12_waysNow 49 = .ok (.goto (-16), 3) := by decide +kernel
theorem dX12_waysNow_52 : decode cX12_waysNow 52 = .ok (.iload_n 3, 1) := by decide +kernel
theorem dX12_waysNow_53 : decode cX12_waysNow 53 = .ok (.ireturn, 1) := by decide +kernel
theorem dX12_inverse_0 : decode cX12_inverse 0 = .ok (.lconst 1, 1) := by decide +kernel
theorem dX12_inverse_1 : decode cX12_inverse 1 = .ok (.lstore 4, 2) := by decide +kernel
theorem dX12_inverse_3 : decode cX12_inverse 3 = .ok (.lconst 1, 1) := by decide +kernel
theorem dX12_inverse_4 : decode cX12_inverse 4 = .ok (.lstore 6, 2) := by decide +kernel
theorem dX12_inverse_6 : decode cX12_inverse 6 = .ok (.lload 6, 2) := by decide +kernel
theorem dX12_inverse_8 : decode cX12_inverse 8 = .ok (.lload_n 2, 1) := by decide +kernel
theorem dX12_inverse_9 : decode cX12_inverse 9 = .ok (.lcmp, 1) := by decide +kernel
theorem dX12_inverse_10 : decode cX12_inverse 10 = .ok (.ifCond .ge 36, 3) := by decide +kernel
theorem dX12_inverse_13 : decode cX12_inverse 13 = .ok (.lload_n 0, 1) := by decide +kernel
theorem dX12_inverse_14 : decode cX12_inverse 14 = .ok (.lload_n 2, 1) := by decide +kernel
theorem dX12_inverse_15 : decode cX12_inverse 15 = .ok (.invokestatic 131, 3) := by decide +kernel
theorem dX12_inverse_18 : decode cX12_inverse 18 = .ok (.lload 6, 2) := by decide +kernel
theorem dX12_inverse_20 : decode cX12_inverse 20 = .ok (.lmul, 1) := by decide +kernel
theorem dX12_inverse_21 : decode cX12_inverse 21 = .ok (.lload_n 2, 1) := by decide +kernel
theorem dX12_inverse_22 : decode cX12_inverse 22 = .ok (.lrem, 1) := by decide +kernel
theorem dX12_inverse_23 : decode cX12_inverse 23 = .ok (.lconst 1, 1) := by decide +kernel
theorem dX12_inverse_24 : decode cX12_inverse 24 = .ok (.lcmp, 1) := by decide +kernel
theorem dX12_inverse_25 : decode cX12_inverse 25 = .ok (.ifCond .ne 8, 3) := by decide +kernel
theorem dX12_inverse_28 : decode cX12_inverse 28 = .ok (.lload 6, 2) := by decide +kernel
theorem dX12_inverse_30 : decode cX12_inverse 30 = .ok (.goto 5, 3) := by decide +kernel
theorem dX12_inverse_33 : decode cX12_inverse 33 = .ok (.lload 4, 2) := by decide +kernel
theorem dX12_inverse_35 : decode cX12_inverse 35 = .ok (.lstore 4, 2) := by decide +kernel
theorem dX12_inverse_37 : decode cX12_inverse 37 = .ok (.lload 6, 2) := by decide +kernel
theorem dX12_inverse_39 : decode cX12_inverse 39 = .ok (.lconst 1, 1) := by decide +kernel
theorem dX12_inverse_40 : decode cX12_inverse 40 = .ok (.ladd, 1) := by decide +kernel
theorem dX12_inverse_41 : decode cX12_inverse 41 = .ok (.lstore 6, 2) := by decide +kernel
theorem dX12_inverse_43 : decode cX12_inverse 43 = .ok (.goto (-37), 3) := by decide +kernel
theorem dX12_inverse_46 : decode cX12_inverse 46 = .ok (.lload 4, 2) := by decide +kernel
theorem dX12_inverse_48 : decode cX12_inverse 48 = .ok (.lreturn, 1) := by decide +kernel
theorem dX12_backOf_0 : decode cX12_backOf 0 = .ok (.aload_n 0, 1) := by decide +kernel
theorem dX12_backOf_1 : decode cX12_backOf 1 = .ok (.invokevirtual 128, 3) := by decide +kernel
theorem dX12_backOf_4 : decode cX12_backOf 4 = .ok (.i2l, 1) := by decide +kernel
theorem dX12_backOf_5 : decode cX12_backOf 5 = .ok (.lstore_n 3, 1) := by decide +kernel
theorem dX12_backOf_6 : decode cX12_backOf 6 = .ok (.aload_n 0, 1) := by decide +kernel
theorem dX12_backOf_7 : decode cX12_backOf 7 = .ok (.aload_n 0, 1) := by decide +kernel
theorem dX12_backOf_8 : decode cX12_backOf 8 = .ok (.invokevirtual 85, 3) := by decide +kernel
theorem dX12_backOf_11 : decode cX12_backOf 11 = .ok (.iconst 1, 1) := by decide +kernel
theorem dX12_backOf_12 : decode cX12_backOf 12 = .ok (.iload_n 2, 1) := by decide +kernel
theorem dX12_backOf_13 : decode cX12_backOf 13 = .ok (.ishl, 1) := by decide +kernel
theorem dX12_backOf_14 : decode cX12_backOf 14 = .ok (.iconst (-1), 1) := by decide +kernel
theorem dX12_backOf_15 : decode cX12_backOf 15 = .ok (.ixor, 1) := by decide +kernel
theorem dX12_backOf_16 : decode cX12_backOf 16 = .ok (.iand, 1) := by decide +kernel
theorem dX12_backOf_17 : decode cX12_backOf 17 = .ok (.aload_n 0, 1) := by decide +kernel
theorem dX12_backOf_18 : decode cX12_backOf 18 = .ok (.invokevirtual 85, 3) := by decide +kernel
theorem dX12_backOf_21 : decode cX12_backOf 21 = .ok (.iconst 1, 1) := by decide +kernel
theorem dX12_backOf_22 : decode cX12_backOf 22 = .ok (.iload_n 1, 1) := by decide +kernel
theorem dX12_backOf_23 : decode cX12_backOf 23 = .ok (.ishl, 1) := by decide +kernel
theorem dX12_backOf_24 : decode cX12_backOf 24 = .ok (.iconst (-1), 1) := by decide +kernel
theorem dX12_backOf_25 : decode cX12_backOf 25 = .ok (.ixor, 1) := by decide +kernel
theorem dX12_backOf_26 : decode cX12_backOf 26 = .ok (.iand, 1) := by decide +kernel
theorem dX12_backOf_27 : decode cX12_backOf 27 = .ok (.invokevirtual 88, 3) := by decide +kernel
theorem dX12_backOf_30 : decode cX12_backOf 30 = .ok (.lstore 5, 2) := by decide +kernel
theorem dX12_backOf_32 : decode cX12_backOf 32 = .ok (.iload_n 1, 1) := by decide +kernel
theorem dX12_backOf_33 : decode cX12_backOf 33 = .ok (.iload_n 2, 1) := by decide +kernel
theorem dX12_backOf_34 : decode cX12_backOf 34 = .ok (.iadd, 1) := by decide +kernel
theorem dX12_backOf_35 : decode cX12_backOf 35 = .ok (.iconst 2, 1) := by decide +kernel
theorem dX12_backOf_36 : decode cX12_backOf 36 = .ok (.irem, 1) := by decide +kernel
theorem dX12_backOf_37 : decode cX12_backOf 37 = .ok (.ifCond .ne 8, 3) := by decide +kernel
theorem dX12_backOf_40 : decode cX12_backOf 40 = .ok (.lload 5, 2) := by decide +kernel
theorem dX12_backOf_42 : decode cX12_backOf 42 = .ok (.goto 6, 3) := by decide +kernel
theorem dX12_backOf_45 : decode cX12_backOf 45 = .ok (.lload 5, 2) := by decide +kernel
theorem dX12_backOf_47 : decode cX12_backOf 47 = .ok (.lneg, 1) := by decide +kernel
theorem dX12_backOf_48 : decode cX12_backOf 48 = .ok (.lstore 5, 2) := by decide +kernel
theorem dX12_backOf_50 : decode cX12_backOf 50 = .ok (.lload 5, 2) := by decide +kernel
theorem dX12_backOf_52 : decode cX12_backOf 52 = .ok (.lload_n 3, 1) := by decide +kernel
theorem dX12_backOf_53 : decode cX12_backOf 53 = .ok (.invokestatic 131, 3) := by decide +kernel
theorem dX12_backOf_56 : decode cX12_backOf 56 = .ok (.aload_n 0, 1) := by decide +kernel
theorem dX12_backOf_57 : decode cX12_backOf 57 = .ok (.invokevirtual 91, 3) := by decide +kernel
theorem dX12_backOf_60 : decode cX12_backOf 60 = .ok (.lload_n 3, 1) := by decide +kernel
theorem dX12_backOf_61 : decode cX12_backOf 61 = .ok (.invokestatic 134, 3) := by decide +kernel
theorem dX12_backOf_64 : decode cX12_backOf 64 = .ok (.lmul, 1) := by decide +kernel
theorem dX12_backOf_65 : decode cX12_backOf 65 = .ok (.lload_n 3, 1) := by decide +kernel
theorem dX12_backOf_66 : decode cX12_backOf 66 = .ok (.lrem, 1) := by decide +kernel
theorem dX12_backOf_67 : decode cX12_backOf 67 = .ok (.lreturn, 1) := by decide +kernel
theorem dX12_digitOf_0 : decode cX12_digitOf 0 = .ok (.aload_n 0, 1) := by decide +kernel
theorem dX12_digitOf_1 : decode cX12_digitOf 1 = .ok (.invokevirtual 128, 3) := by decide +kernel
theorem dX12_digitOf_4 : decode cX12_digitOf 4 = .ok (.i2l, 1) := by decide +kernel
theorem dX12_digitOf_5 : decode cX12_digitOf 5 = .ok (.lstore_n 3, 1) := by decide +kernel
theorem dX12_digitOf_6 : decode cX12_digitOf 6 = .ok (.aload_n 0, 1) := by decide +kernel
theorem dX12_digitOf_7 : decode cX12_digitOf 7 = .ok (.iload_n 1, 1) := by decide +kernel
theorem dX12_digitOf_8 : decode cX12_digitOf 8 = .ok (.invokevirtual 137, 3) := by decide +kernel
theorem dX12_digitOf_11 : decode cX12_digitOf 11 = .ok (.aload_n 0, 1) := by decide +kernel
theorem dX12_digitOf_12 : decode cX12_digitOf 12 = .ok (.aload_n 0, 1) := by decide +kernel
theorem dX12_digitOf_13 : decode cX12_digitOf 13 = .ok (.getfield 102, 3) := by decide +kernel
theorem dX12_digitOf_16 : decode cX12_digitOf 16 = .ok (.putfield 140, 3) := by decide +kernel
theorem dX12_digitOf_19 : decode cX12_digitOf 19 = .ok (.aload_n 0, 1) := by decide +kernel
theorem dX12_digitOf_20 : decode cX12_digitOf 20 = .ok (.aload_n 0, 1) := by decide +kernel
theorem dX12_digitOf_21 : decode cX12_digitOf 21 = .ok (.getfield 106, 3) := by decide +kernel
theorem dX12_digitOf_24 : decode cX12_digitOf 24 = .ok (.putfield 143, 3) := by decide +kernel
theorem dX12_digitOf_27 : decode cX12_digitOf 27 = .ok (.aload_n 0, 1) := by decide +kernel
theorem dX12_digitOf_28 : decode cX12_digitOf 28 = .ok (.getfield 143, 3) := by decide +kernel
theorem dX12_digitOf_31 : decode cX12_digitOf 31 = .ok (.lload_n 3, 1) := by decide +kernel
theorem dX12_digitOf_32 : decode cX12_digitOf 32 = .ok (.invokestatic 134, 3) := by decide +kernel
theorem dX12_digitOf_35 : decode cX12_digitOf 35 = .ok (.lstore 5, 2) := by decide +kernel
theorem dX12_digitOf_37 : decode cX12_digitOf 37 = .ok (.lconst 0, 1) := by decide +kernel
theorem dX12_digitOf_38 : decode cX12_digitOf 38 = .ok (.lstore 7, 2) := by decide +kernel
theorem dX12_digitOf_40 : decode cX12_digitOf 40 = .ok (.iconst 0, 1) := by decide +kernel
theorem dX12_digitOf_41 : decode cX12_digitOf 41 = .ok (.istore 9, 2) := by decide +kernel
theorem dX12_digitOf_43 : decode cX12_digitOf 43 = .ok (.iload 9, 2) := by decide +kernel
theorem dX12_digitOf_45 : decode cX12_digitOf 45 = .ok (.iload_n 2, 1) := by decide +kernel
theorem dX12_digitOf_46 : decode cX12_digitOf 46 = .ok (.if_icmp .gt 42, 3) := by decide +kernel
theorem dX12_digitOf_49 : decode cX12_digitOf 49 = .ok (.aload_n 0, 1) := by decide +kernel
theorem dX12_digitOf_50 : decode cX12_digitOf 50 = .ok (.getfield 140, 3) := by decide +kernel
theorem dX12_digitOf_53 : decode cX12_digitOf 53 = .ok (.lload_n 3, 1) := by decide +kernel
theorem dX12_digitOf_54 : decode cX12_digitOf 54 = .ok (.invokestatic 131, 3) := by decide +kernel
theorem dX12_digitOf_57 : decode cX12_digitOf 57 = .ok (.lload 5, 2) := by decide +kernel
theorem dX12_digitOf_59 : decode cX12_digitOf 59 = .ok (.lmul, 1) := by decide +kernel
theorem dX12_digitOf_60 : decode cX12_digitOf 60 = .ok (.lload_n 3, 1) := by decide +kernel
theorem dX12_digitOf_61 : decode cX12_digitOf 61 = .ok (.lrem, 1) := by decide +kernel
theorem dX12_digitOf_62 : decode cX12_digitOf 62 = .ok (.lstore 7, 2) := by decide +kernel
theorem dX12_digitOf_64 : decode cX12_digitOf 64 = .ok (.aload_n 0, 1) := by decide +kernel
theorem dX12_digitOf_65 : decode cX12_digitOf 65 = .ok (.aload_n 0, 1) := by decide +kernel
theorem dX12_digitOf_66 : decode cX12_digitOf 66 = .ok (.getfield 140, 3) := by decide +kernel
theorem dX12_digitOf_69 : decode cX12_digitOf 69 = .ok (.lload 7, 2) := by decide +kernel
theorem dX12_digitOf_71 : decode cX12_digitOf 71 = .ok (.aload_n 0, 1) := by decide +kernel
theorem dX12_digitOf_72 : decode cX12_digitOf 72 = .ok (.getfield 143, 3) := by decide +kernel
theorem dX12_digitOf_75 : decode cX12_digitOf 75 = .ok (.lmul, 1) := by decide +kernel
theorem dX12_digitOf_76 : decode cX12_digitOf 76 = .ok (.lsub, 1) := by decide +kernel
theorem dX12_digitOf_77 : decode cX12_digitOf 77 = .ok (.lload_n 3, 1) := by decide +kernel
theorem dX12_digitOf_78 : decode cX12_digitOf 78 = .ok (.ldiv, 1) := by decide +kernel
theorem dX12_digitOf_79 : decode cX12_digitOf 79 = .ok (.putfield 140, 3) := by decide +kernel
theorem dX12_digitOf_82 : decode cX12_digitOf 82 = .ok (.iinc 9 1, 3) := by decide +kernel
theorem dX12_digitOf_85 : decode cX12_digitOf 85 = .ok (.goto (-42), 3) := by decide +kernel
theorem dX12_digitOf_88 : decode cX12_digitOf 88 = .ok (.lload 7, 2) := by decide +kernel
theorem dX12_digitOf_90 : decode cX12_digitOf 90 = .ok (.l2i, 1) := by decide +kernel
theorem dX12_digitOf_91 : decode cX12_digitOf 91 = .ok (.ireturn, 1) := by decide +kernel
theorem dX12_restOf_0 : decode cX12_restOf 0 = .ok (.iload_n 2, 1) := by decide +kernel
theorem dX12_restOf_1 : decode cX12_restOf 1 = .ok (.ifCond .ne 10, 3) := by decide +kernel
theorem dX12_restOf_4 : decode cX12_restOf 4 = .ok (.aload_n 0, 1) := by decide +kernel
theorem dX12_restOf_5 : decode cX12_restOf 5 = .ok (.iload_n 1, 1) := by decide +kernel
theorem dX12_restOf_6 : decode cX12_restOf 6 = .ok (.iconst 4, 1) := by decide +kernel
theorem dX12_restOf_7 : decode cX12_restOf 7 = .ok (.invokevirtual 51, 3) := by decide +kernel
theorem dX12_restOf_10 : decode cX12_restOf 10 = .ok (.lreturn, 1) := by decide +kernel
theorem dX12_restOf_11 : decode cX12_restOf 11 = .ok (.aload_n 0, 1) := by decide +kernel
theorem dX12_restOf_12 : decode cX12_restOf 12 = .ok (.invokevirtual 91, 3) := by decide +kernel
theorem dX12_restOf_15 : decode cX12_restOf 15 = .ok (.lstore_n 3, 1) := by decide +kernel
theorem dX12_restOf_16 : decode cX12_restOf 16 = .ok (.lconst 0, 1) := by decide +kernel
theorem dX12_restOf_17 : decode cX12_restOf 17 = .ok (.lstore 5, 2) := by decide +kernel
theorem dX12_restOf_19 : decode cX12_restOf 19 = .ok (.iconst 0, 1) := by decide +kernel
theorem dX12_restOf_20 : decode cX12_restOf 20 = .ok (.istore 7, 2) := by decide +kernel
theorem dX12_restOf_22 : decode cX12_restOf 22 = .ok (.iload 7, 2) := by decide +kernel
theorem dX12_restOf_24 : decode cX12_restOf 24 = .ok (.aload_n 0, 1) := by decide +kernel
theorem dX12_restOf_25 : decode cX12_restOf 25 = .ok (.invokevirtual 81, 3) := by decide +kernel
theorem dX12_restOf_28 : decode cX12_restOf 28 = .ok (.if_icmp .ge 53, 3) := by decide +kernel
theorem dX12_restOf_31 : decode cX12_restOf 31 = .ok (.aload_n 0, 1) := by decide +kernel
theorem dX12_restOf_32 : decode cX12_restOf 32 = .ok (.iload 7, 2) := by decide +kernel
theorem dX12_restOf_34 : decode cX12_restOf 34 = .ok (.iload_n 2, 1) := by decide +kernel
theorem dX12_restOf_35 : decode cX12_restOf 35 = .ok (.iconst 1, 1) := by decide +kernel
theorem dX12_restOf_36 : decode cX12_restOf 36 = .ok (.isub, 1) := by decide +kernel
theorem dX12_restOf_37 : decode cX12_restOf 37 = .ok (.invokevirtual 146, 3) := by decide +kernel
theorem dX12_restOf_40 : decode cX12_restOf 40 = .ok (.istore 8, 2) := by decide +kernel
theorem dX12_restOf_42 : decode cX12_restOf 42 = .ok (.lload 5, 2) := by decide +kernel
theorem dX12_restOf_44 : decode cX12_restOf 44 = .ok (.iload 8, 2) := by decide +kernel
theorem dX12_restOf_46 : decode cX12_restOf 46 = .ok (.ifCond .ge 7, 3) := by decide +kernel
theorem dX12_restOf_49 : decode cX12_restOf 49 = .ok (.lconst 0, 1) := by decide +kernel
theorem dX12_restOf_50 : decode cX12_restOf 50 = .ok (.goto 22, 3) := by decide +kernel
theorem dX12_restOf_53 : decode cX12_restOf 53 = .ok (.aload_n 0, 1) := by decide +kernel
theorem dX12_restOf_54 : decode cX12_restOf 54 = .ok (.iload_n 1, 1) := by decide +kernel
theorem dX12_restOf_55 : decode cX12_restOf 55 = .ok (.iload 7, 2) := by decide +kernel
theorem dX12_restOf_57 : decode cX12_restOf 57 = .ok (.invokevirtual 51, 3) := by decide +kernel
theorem dX12_restOf_60 : decode cX12_restOf 60 = .ok (.aload_n 0, 1) := by decide +kernel
theorem dX12_restOf_61 : decode cX12_restOf 61 = .ok (.getfield 140, 3) := by decide +kernel
theorem dX12_restOf_64 : decode cX12_restOf 64 = .ok (.lmul, 1) := by decide +kernel
theorem dX12_restOf_65 : decode cX12_restOf 65 = .ok (.lload_n 3, 1) := by decide +kernel
theorem dX12_restOf_66 : decode cX12_restOf 66 = .ok (.aload_n 0, 1) := by decide +kernel
theorem dX12_restOf_67 : decode cX12_restOf 67 = .ok (.getfield 143, 3) := by decide +kernel
theorem dX12_restOf_70 : decode cX12_restOf 70 = .ok (.ldiv, 1) := by decide +kernel
theorem dX12_restOf_71 : decode cX12_restOf 71 = .ok (.lmul, 1) := by decide +kernel
theorem dX12_restOf_72 : decode cX12_restOf 72 = .ok (.ladd, 1) := by decide +kernel
theorem dX12_restOf_73 : decode cX12_restOf 73 = .ok (.lstore 5, 2) := by decide +kernel
theorem dX12_restOf_75 : decode cX12_restOf 75 = .ok (.iinc 7 1, 3) := by decide +kernel
theorem dX12_restOf_78 : decode cX12_restOf 78 = .ok (.goto (-56), 3) := by decide +kernel
theorem dX12_restOf_81 : decode cX12_restOf 81 = .ok (.lload 5, 2) := by decide +kernel
theorem dX12_restOf_83 : decode cX12_restOf 83 = .ok (.lload_n 3, 1) := by decide +kernel
theorem dX12_restOf_84 : decode cX12_restOf 84 = .ok (.ldiv, 1) := by decide +kernel
theorem dX12_restOf_85 : decode cX12_restOf 85 = .ok (.lreturn, 1) := by decide +kernel
theorem dX12_power_0 : decode cX12_power 0 = .ok (.lconst 1, 1) := by decide +kernel
theorem dX12_power_1 : decode cX12_power 1 = .ok (.lstore_n 3, 1) := by decide +kernel
theorem dX12_power_2 : decode cX12_power 2 = .ok (.iconst 0, 1) := by decide +kernel
theorem dX12_power_3 : decode cX12_power 3 = .ok (.istore 5, 2) := by decide +kernel
theorem dX12_power_5 : decode cX12_power 5 = .ok (.iload 5, 2) := by decide +kernel
theorem dX12_power_7 : decode cX12_power 7 = .ok (.iload_n 2, 1) := by decide +kernel
theorem dX12_power_8 : decode cX12_power 8 = .ok (.if_icmp .ge 33, 3) := by decide +kernel
theorem dX12_power_11 : decode cX12_power 11 = .ok (.lload_n 3, 1) := by decide +kernel
theorem dX12_power_12 : decode cX12_power 12 = .ok (.lconst 0, 1) := by decide +kernel
theorem dX12_power_13 : decode cX12_power 13 = .ok (.lcmp, 1) := by decide +kernel
theorem dX12_power_14 : decode cX12_power 14 = .ok (.ifCond .le 27, 3) := by decide +kernel
theorem dX12_power_17 : decode cX12_power 17 = .ok (.lload_n 3, 1) := by decide +kernel
theorem dX12_power_18 : decode cX12_power 18 = .ok (.ldc2_w 149, 3) := by decide +kernel
theorem dX12_power_21 : decode cX12_power 21 = .ok (.lload_n 0, 1) := by decide +kernel
theorem dX12_power_22 : decode cX12_power 22 = .ok (.ldiv, 1) := by decide +kernel
theorem dX12_power_23 : decode cX12_power 23 = .ok (.lcmp, 1) := by decide +kernel
theorem dX12_power_24 : decode cX12_power 24 = .ok (.ifCond .le 7, 3) := by decide +kernel
theorem dX12_power_27 : decode cX12_power 27 = .ok (.lconst 0, 1) := by decide +kernel
theorem dX12_power_28 : decode cX12_power 28 = .ok (.goto 6, 3) := by decide +kernel
theorem dX12_power_31 : decode cX12_power 31 = .ok (.lload_n 3, 1) := by decide +kernel
theorem dX12_power_32 : decode cX12_power 32 = .ok (.lload_n 0, 1) := by decide +kernel
theorem dX12_power_33 : decode cX12_power 33 = .ok (.lmul, 1) := by decide +kernel
theorem dX12_power_34 : decode cX12_power 34 = .ok (.lstore_n 3, 1) := by decide +kernel
theorem dX12_power_35 : decode cX12_power 35 = .ok (.iinc 5 1, 3) := by decide +kernel
theorem dX12_power_38 : decode cX12_power 38 = .ok (.goto (-33), 3) := by decide +kernel
theorem dX12_power_41 : decode cX12_power 41 = .ok (.lload_n 3, 1) := by decide +kernel
theorem dX12_power_42 : decode cX12_power 42 = .ok (.lreturn, 1) := by decide +kernel
theorem dX12_halfRoot_0 : decode cX12_halfRoot 0 = .ok (.lconst 0, 1) := by decide +kernel
theorem dX12_halfRoot_1 : decode cX12_halfRoot 1 = .ok (.lstore_n 2, 1) := by decide +kernel
theorem dX12_halfRoot_2 : decode cX12_halfRoot 2 = .ok (.bipush 30, 2) := by decide +kernel
theorem dX12_halfRoot_4 : decode cX12_halfRoot 4 = .ok (.istore 4, 2) := by decide +kernel
theorem dX12_halfRoot_6 : decode cX12_halfRoot 6 = .ok (.iload 4, 2) := by decide +kernel
theorem dX12_halfRoot_8 : decode cX12_halfRoot 8 = .ok (.ifCond .lt 38, 3) := by decide +kernel
theorem dX12_halfRoot_11 : decode cX12_halfRoot 11 = .ok (.lload_n 2, 1) := by decide +kernel
theorem dX12_halfRoot_12 : decode cX12_halfRoot 12 = .ok (.lconst 1, 1) := by decide +kernel
theorem dX12_halfRoot_13 : decode cX12_halfRoot 13 = .ok (.iload 4, 2) := by decide +kernel
theorem dX12_halfRoot_15 : decode cX12_halfRoot 15 = .ok (.lshl, 1) := by decide +kernel
theorem dX12_halfRoot_16 : decode cX12_halfRoot 16 = .ok (.ladd, 1) := by decide +kernel
theorem dX12_halfRoot_17 : decode cX12_halfRoot 17 = .ok (.lstore 5, 2) := by decide +kernel
theorem dX12_halfRoot_19 : decode cX12_halfRoot 19 = .ok (.ldc2_w 151, 3) := by decide +kernel
theorem dX12_halfRoot_22 : decode cX12_halfRoot 22 = .ok (.lload 5, 2) := by decide +kernel
theorem dX12_halfRoot_24 : decode cX12_halfRoot 24 = .ok (.lmul, 1) := by decide +kernel
theorem dX12_halfRoot_25 : decode cX12_halfRoot 25 = .ok (.lload 5, 2) := by decide +kernel
theorem dX12_halfRoot_27 : decode cX12_halfRoot 27 = .ok (.lmul, 1) := by decide +kernel
theorem dX12_halfRoot_28 : decode cX12_halfRoot 28 = .ok (.lload_n 0, 1) := by decide +kernel
theorem dX12_halfRoot_29 : decode cX12_halfRoot 29 = .ok (.lcmp, 1) := by decide +kernel
theorem dX12_halfRoot_30 : decode cX12_halfRoot 30 = .ok (.ifCond .ge 8, 3) := by decide +kernel
theorem dX12_halfRoot_33 : decode cX12_halfRoot 33 = .ok (.lload 5, 2) := by decide +kernel
theorem dX12_halfRoot_35 : decode cX12_halfRoot 35 = .ok (.goto 4, 3) := by decide +kernel
theorem dX12_halfRoot_38 : decode cX12_halfRoot 38 = .ok (.lload_n 2, 1) := by decide +kernel
theorem dX12_halfRoot_39 : decode cX12_halfRoot 39 = .ok (.lstore_n 2, 1) := by decide +kernel
theorem dX12_halfRoot_40 : decode cX12_halfRoot 40 = .ok (.iinc 4 (-1), 3) := by decide +kernel
theorem dX12_halfRoot_43 : decode cX12_halfRoot 43 = .ok (.goto (-37), 3) := by decide +kernel
theorem dX12_halfRoot_46 : decode cX12_halfRoot 46 = .ok (.lload_n 2, 1) := by decide +kernel
theorem dX12_halfRoot_47 : decode cX12_halfRoot 47 = .ok (.lreturn, 1) := by decide +kernel
theorem dX12_firstDigits_0 : decode cX12_firstDigits 0 = .ok (.aload_n 0, 1) := by decide +kernel
theorem dX12_firstDigits_1 : decode cX12_firstDigits 1 = .ok (.invokevirtual 128, 3) := by decide +kernel
theorem dX12_firstDigits_4 : decode cX12_firstDigits 4 = .ok (.i2l, 1) := by decide +kernel
theorem dX12_firstDigits_5 : decode cX12_firstDigits 5 = .ok (.lstore_n 3, 1) := by decide +kernel
theorem dX12_firstDigits_6 : decode cX12_firstDigits 6 = .ok (.aload_n 0, 1) := by decide +kernel
theorem dX12_firstDigits_7 : decode cX12_firstDigits 7 = .ok (.iload_n 1, 1) := by decide +kernel
theorem dX12_firstDigits_8 : decode cX12_firstDigits 8 = .ok (.invokevirtual 137, 3) := by decide +kernel
theorem dX12_firstDigits_11 : decode cX12_firstDigits 11 = .ok (.aload_n 0, 1) := by decide +kernel
theorem dX12_firstDigits_12 : decode cX12_firstDigits 12 = .ok (.getfield 106, 3) := by decide +kernel
theorem dX12_firstDigits_15 : decode cX12_firstDigits 15 = .ok (.lload_n 3, 1) := by decide +kernel
theorem dX12_firstDigits_16 : decode cX12_firstDigits 16 = .ok (.invokestatic 134, 3) := by decide +kernel
theorem dX12_firstDigits_19 : decode cX12_firstDigits 19 = .ok (.lstore 5, 2) := by decide +kernel
theorem dX12_firstDigits_21 : decode cX12_firstDigits 21 = .ok (.aload_n 0, 1) := by decide +kernel
theorem dX12_firstDigits_22 : decode cX12_firstDigits 22 = .ok (.getfield 102, 3) := by decide +kernel
theorem dX12_firstDigits_25 : decode cX12_firstDigits 25 = .ok (.lstore 7, 2) := by decide +kernel
theorem dX12_firstDigits_27 : decode cX12_firstDigits 27 = .ok (.lconst 0, 1) := by decide +kernel
theorem dX12_firstDigits_28 : decode cX12_firstDigits 28 = .ok (.lstore 9, 2) := by decide +kernel
theorem dX12_firstDigits_30 : decode cX12_firstDigits 30 = .ok (.lconst 1, 1) := by decide +kernel
theorem dX12_firstDigits_31 : decode cX12_firstDigits 31 = .ok (.lstore 11, 2) := by decide +kernel
theorem dX12_firstDigits_33 : decode cX12_firstDigits 33 = .ok (.iconst 0, 1) := by decide +kernel
theorem dX12_firstDigits_34 : decode cX12_firstDigits 34 = .ok (.istore 13, 2) := by decide +kernel
theorem dX12_firstDigits_36 : decode cX12_firstDigits 36 = .ok (.iload 13, 2) := by decide +kernel
theorem dX12_firstDigits_38 : decode cX12_firstDigits 38 = .ok (.iload_n 2, 1) := by decide +kernel
theorem dX12_firstDigits_39 : decode cX12_firstDigits 39 = .ok (.if_icmp .ge 52, 3) := by decide +kernel
theorem dX12_firstDigits_42 : decode cX12_firstDigits 42 = .ok (.lload 7, 2) := by decide +kernel
theorem dX12_firstDigits_44 : decode cX12_firstDigits 44 = .ok (.lload_n 3, 1) := by decide +kernel
theorem dX12_firstDigits_45 : decode cX12_firstDigits 45 = .ok (.invokestatic 131, 3) := by decide +kernel
theorem dX12_firstDigits_48 : decode cX12_firstDigits 48 = .ok (.lload 5, 2) := by decide +kernel
theorem dX12_firstDigits_50 : decode cX12_firstDigits 50 = .ok (.lmul, 1) := by decide +kernel
theorem dX12_firstDigits_51 : decode cX12_firstDigits 51 = .ok (.lload_n 3, 1) := by decide +kernel
theorem dX12_firstDigits_52 : decode cX12_firstDigits 52 = .ok (.lrem, 1) := by decide +kernel
theorem dX12_firstDigits_53 : decode cX12_firstDigits 53 = .ok (.lstore 14, 2) := by decide +kernel
theorem dX12_firstDigits_55 : decode cX12_firstDigits 55 = .ok (.lload 7, 2) := by decide +kernel
theorem dX12_firstDigits_57 : decode cX12_firstDigits 57 = .ok (.lload 14, 2) := by decide +kernel
theorem dX12_firstDigits_59 : decode cX12_firstDigits 59 = .ok (.aload_n 0, 1) := by decide +kernel
theorem dX12_firstDigits_60 : decode cX12_firstDigits 60 = .ok (.getfield 106, 3) := by decide +kernel
theorem dX12_firstDigits_63 : decode cX12_firstDigits 63 = .ok (.lmul, 1) := by decide +kernel
theorem dX12_firstDigits_64 : decode cX12_firstDigits 64 = .ok (.lsub, 1) := by decide +kernel
theorem dX12_firstDigits_65 : decode cX12_firstDigits 65 = .ok (.lload_n 3, 1) := by decide +kernel
theorem dX12_firstDigits_66 : decode cX12_firstDigits 66 = .ok (.ldiv, 1) := by decide +kernel
theorem dX12_firstDigits_67 : decode cX12_firstDigits 67 = .ok (.lstore 7, 2) := by decide +kernel
theorem dX12_firstDigits_69 : decode cX12_firstDigits 69 = .ok (.lload 9, 2) := by decide +kernel
theorem dX12_firstDigits_71 : decode cX12_firstDigits 71 = .ok (.lload 14, 2) := by decide +kernel
theorem dX12_firstDigits_73 : decode cX12_firstDigits 73 = .ok (.lload 11, 2) := by decide +kernel
theorem dX12_firstDigits_75 : decode cX12_firstDigits 75 = .ok (.lmul, 1) := by decide +kernel
theorem dX12_firstDigits_76 : decode cX12_firstDigits 76 = .ok (.ladd, 1) := by decide +kernel
theorem dX12_firstDigits_77 : decode cX12_firstDigits 77 = .ok (.lstore 9, 2) := by decide +kernel
theorem dX12_firstDigits_79 : decode cX12_firstDigits 79 = .ok (.lload 11, 2) := by decide +kernel
theorem dX12_firstDigits_81 : decode cX12_firstDigits 81 = .ok (.lload_n 3, 1) := by decide +kernel
theorem dX12_firstDigits_82 : decode cX12_firstDigits 82 = .ok (.lmul, 1) := by decide +kernel
theorem dX12_firstDigits_83 : decode cX12_firstDigits 83 = .ok (.lstore 11, 2) := by decide +kernel
theorem dX12_firstDigits_85 : decode cX12_firstDigits 85 = .ok (.iinc 13 1, 3) := by decide +kernel
theorem dX12_firstDigits_88 : decode cX12_firstDigits 88 = .ok (.goto (-52), 3) := by decide +kernel
theorem dX12_firstDigits_91 : decode cX12_firstDigits 91 = .ok (.lload 9, 2) := by decide +kernel
theorem dX12_firstDigits_93 : decode cX12_firstDigits 93 = .ok (.lreturn, 1) := by decide +kernel
theorem dX12_layGuess_0 : decode cX12_layGuess 0 = .ok (.aload_n 0, 1) := by decide +kernel
theorem dX12_layGuess_1 : decode cX12_layGuess 1 = .ok (.invokevirtual 128, 3) := by decide +kernel
theorem dX12_layGuess_4 : decode cX12_layGuess 4 = .ok (.i2l, 1) := by decide +kernel
theorem dX12_layGuess_5 : decode cX12_layGuess 5 = .ok (.lstore_n 3, 1) := by decide +kernel
theorem dX12_layGuess_6 : decode cX12_layGuess 6 = .ok (.lload_n 3, 1) := by decide +kernel
theorem dX12_layGuess_7 : decode cX12_layGuess 7 = .ok (.iload_n 2, 1) := by decide +kernel
theorem dX12_layGuess_8 : decode cX12_layGuess 8 = .ok (.invokestatic 153, 3) := by decide +kernel
theorem dX12_layGuess_11 : decode cX12_layGuess 11 = .ok (.lstore 5, 2) := by decide +kernel
theorem dX12_layGuess_13 : decode cX12_layGuess 13 = .ok (.lload 5, 2) := by decide +kernel
theorem dX12_layGuess_15 : decode cX12_layGuess 15 = .ok (.invokestatic 157, 3) := by decide +kernel
theorem dX12_layGuess_18 : decode cX12_layGuess 18 = .ok (.lstore 7, 2) := by decide +kernel
theorem dX12_layGuess_20 : decode cX12_layGuess 20 = .ok (.aload_n 0, 1) := by decide +kernel
theorem dX12_layGuess_21 : decode cX12_layGuess 21 = .ok (.iload_n 1, 1) := by decide +kernel
theorem dX12_layGuess_22 : decode cX12_layGuess 22 = .ok (.iload_n 2, 1) := by decide +kernel
theorem dX12_layGuess_23 : decode cX12_layGuess 23 = .ok (.invokevirtual 161, 3) := by decide +kernel
theorem dX12_layGuess_26 : decode cX12_layGuess 26 = .ok (.lstore 9, 2) := by decide +kernel
theorem dX12_layGuess_28 : decode cX12_layGuess 28 = .ok (.lload 9, 2) := by decide +kernel
theorem dX12_layGuess_30 : decode cX12_layGuess 30 = .ok (.lstore 11, 2) := by decide +kernel
theorem dX12_layGuess_32 : decode cX12_layGuess 32 = .ok (.lload 5, 2) := by decide +kernel
theorem dX12_layGuess_34 : decode cX12_layGuess 34 = .ok (.lstore 13, 2) := by decide +kernel
theorem dX12_layGuess_36 : decode cX12_layGuess 36 = .ok (.lconst 1, 1) := by decide +kernel
theorem dX12_layGuess_37 : decode cX12_layGuess 37 = .ok (.lstore 15, 2) := by decide +kernel
theorem dX12_layGuess_39 : decode cX12_layGuess 39 = .ok (.lconst 0, 1) := by decide +kernel
theorem dX12_layGuess_40 : decode cX12_layGuess 40 = .ok (.lstore 17, 2) := by decide +kernel
theorem dX12_layGuess_42 : decode cX12_layGuess 42 = .ok (.lload 9, 2) := by decide +kernel
theorem dX12_layGuess_44 : decode cX12_layGuess 44 = .ok (.lstore 19, 2) := by decide +kernel
theorem dX12_layGuess_46 : decode cX12_layGuess 46 = .ok (.lload 5, 2) := by decide +kernel
theorem dX12_layGuess_48 : decode cX12_layGuess 48 = .ok (.lneg, 1) := by decide +kernel
theorem dX12_layGuess_49 : decode cX12_layGuess 49 = .ok (.lstore 21, 2) := by decide +kernel
theorem dX12_layGuess_51 : decode cX12_layGuess 51 = .ok (.iconst 0, 1) := by decide +kernel
theorem dX12_layGuess_52 : decode cX12_layGuess 52 = .ok (.istore 23, 2) := by decide +kernel
theorem dX12_layGuess_54 : decode cX12_layGuess 54 = .ok (.lload 15, 2) := by decide +kernel
theorem dX12_layGuess_56 : decode cX12_layGuess 56 = .ok (.lload 7, 2) := by decide +kernel
theorem dX12_layGuess_58 : decode cX12_layGuess 58 = .ok (.lcmp, 1) := by decide +kernel
theorem dX12_layGuess_59 : decode cX12_layGuess 59 = .ok (.ifCond .gt 147, 3) := by decide +kernel
theorem dX12_layGuess_62 : decode cX12_layGuess 62 = .ok (.iload 23, 2) := by decide +kernel
theorem dX12_layGuess_64 : decode cX12_layGuess 64 = .ok (.ifCond .ne 142, 3) := by decide +kernel
theorem dX12_layGuess_67 : decode cX12_layGuess 67 = .ok (.lload 19, 2) := by decide +kernel
theorem dX12_layGuess_69 : decode cX12_layGuess 69 = .ok (.lload 7, 2) := by decide +kernel
theorem dX12_layGuess_71 : decode cX12_layGuess 71 = .ok (.lneg, 1) := by decide +kernel
theorem dX12_layGuess_72 : decode cX12_layGuess 72 = .ok (.lload 7, 2) := by decide +kernel
theorem dX12_layGuess_74 : decode cX12_layGuess 74 = .ok (.invokestatic 164, 3) := by decide +kernel
theorem dX12_layGuess_77 : decode cX12_layGuess 77 = .ok (.ifCond .eq 16, 3) := by decide +kernel
theorem dX12_layGuess_80 : decode cX12_layGuess 80 = .ok (.lload 15, 2) := by decide +kernel
theorem dX12_layGuess_82 : decode cX12_layGuess 82 = .ok (.lload_n 3, 1) := by decide +kernel
theorem dX12_layGuess_83 : decode cX12_layGuess 83 = .ok (.lrem, 1) := by decide +kernel
theorem dX12_layGuess_84 : decode cX12_layGuess 84 = .ok (.lconst 0, 1) := by decide +kernel
theorem dX12_layGuess_85 : decode cX12_layGuess 85 = .ok (.lcmp, 1) := by decide +kernel
theorem dX12_layGuess_86 : decode cX12_layGuess 86 = .ok (.ifCond .eq 7, 3) := by decide +kernel
theorem dX12_layGuess_89 : decode cX12_layGuess 89 = .ok (.iconst 1, 1) := by decide +kernel
theorem dX12_layGuess_90 : decode cX12_layGuess 90 = .ok (.goto 4, 3) := by decide +kernel
theorem dX12_layGuess_93 : decode cX12_layGuess 93 = .ok (.iconst 0, 1) := by decide +kernel
theorem dX12_layGuess_94 : decode cX12_layGuess 94 = .ok (.istore 23, 2) := by decide +kernel
theorem dX12_layGuess_96 : decode cX12_layGuess 96 = .ok (.aload_n 0, 1) := by decide +kernel
theorem dX12_layGuess_97 : decode cX12_layGuess 97 = .ok (.lload 19, 2) := by decide +kernel
theorem dX12_layGuess_99 : decode cX12_layGuess 99 = .ok (.putfield 168, 3) := by decide +kernel
theorem dX12_layGuess_102 : decode cX12_layGuess 102 = .ok (.aload_n 0, 1) := by decide +kernel
theorem dX12_layGuess_103 : decode cX12_layGuess 103 = .ok (.lload 15, 2) := by decide +kernel
theorem dX12_layGuess_105 : decode cX12_layGuess 105 = .ok (.putfield 171, 3) := by decide +kernel
theorem dX12_layGuess_108 : decode cX12_layGuess 108 = .ok (.lload 11, 2) := by decide +kernel
theorem dX12_layGuess_110 : decode cX12_layGuess 110 = .ok (.lconst 0, 1) := by decide +kernel
theorem dX12_layGuess_111 : decode cX12_layGuess 111 = .ok (.lcmp, 1) := by decide +kernel
theorem dX12_layGuess_112 : decode cX12_layGuess 112 = .ok (.ifCond .ne 12, 3) := by decide +kernel
theorem dX12_layGuess_115 : decode cX12_layGuess 115 = .ok (.lload 7, 2) := by decide +kernel
theorem dX12_layGuess_117 : decode cX12_layGuess 117 = .ok (.lconst 1, 1) := by decide +kernel
theorem dX12_layGuess_118 : decode cX12_layGuess 118 = .ok (.ladd, 1) := by decide +kernel
theorem dX12_layGuess_119 : decode cX12_layGuess 119 = .ok (.lstore 15, 2) := by decide +kernel
theorem dX12_layGuess_121 : decode cX12_layGuess 121 = .ok (.goto (-67), 3) := by decide +kernel
theorem dX12_layGuess_124 : decode cX12_layGuess 124 = .ok (.lload 13, 2) := by decide +kernel
theorem dX12_layGuess_126 : decode cX12_layGuess 126 = .ok (.lload 11, 2) := by decide +kernel
theorem dX12_layGuess_128 : decode cX12_layGuess 128 = .ok (.ldiv, 1) := by decide +kernel
theorem dX12_layGuess_129 : decode cX12_layGuess 129 = .ok (.lstore 24, 2) := by decide +kernel
theorem dX12_layGuess_131 : decode cX12_layGuess 131 = .ok (.lload 13, 2) := by decide +kernel
theorem dX12_layGuess_133 : decode cX12_layGuess 133 = .ok (.lload 11, 2) := by decide +kernel
theorem dX12_layGuess_135 : decode cX12_layGuess 135 = .ok (.lrem, 1) := by decide +kernel
theorem dX12_layGuess_136 : decode cX12_layGuess 136 = .ok (.lstore 26, 2) := by decide +kernel
theorem dX12_layGuess_138 : decode cX12_layGuess 138 = .ok (.lload 11, 2) := by decide +kernel
theorem dX12_layGuess_140 : decode cX12_layGuess 140 = .ok (.lstore 13, 2) := by decide +kernel
theorem dX12_layGuess_142 : decode cX12_layGuess 142 = .ok (.lload 26, 2) := by decide +kernel
theorem dX12_layGuess_144 : decode cX12_layGuess 144 = .ok (.lstore 11, 2) := by decide +kernel
theorem dX12_layGuess_146 : decode cX12_layGuess 146 = .ok (.lload 24, 2) := by decide +kernel
theorem dX12_layGuess_148 : decode cX12_layGuess 148 = .ok (.lload 7, 2) := by decide +kernel
theorem dX12_layGuess_150 : decode cX12_layGuess 150 = .ok (.lload 17, 2) := by decide +kernel
theorem dX12_layGuess_152 : decode cX12_layGuess 152 = .ok (.lsub, 1) := by decide +kernel
theorem dX12_layGuess_153 : decode cX12_layGuess 153 = .ok (.lload 15, 2) := by decide +kernel
theorem dX12_layGuess_155 : decode cX12_layGuess 155 = .ok (.ldiv, 1) := by decide +kernel
theorem dX12_layGuess_156 : decode cX12_layGuess 156 = .ok (.lcmp, 1) := by decide +kernel
theorem dX12_layGuess_157 : decode cX12_layGuess 157 = .ok (.ifCond .le 10, 3) := by decide +kernel
theorem dX12_layGuess_160 : decode cX12_layGuess 160 = .ok (.lload 7, 2) := by decide +kernel
theorem dX12_layGuess_162 : decode cX12_layGuess 162 = .ok (.lconst 1, 1) := by decide +kernel
theorem dX12_layGuess_163 : decode cX12_layGuess 163 = .ok (.ladd, 1) := by decide +kernel
theorem dX12_layGuess_164 : decode cX12_layGuess 164 = .ok (.goto 11, 3) := by decide +kernel
theorem dX12_layGuess_167 : decode cX12_layGuess 167 = .ok (.lload 24, 2) := by decide +kernel
theorem dX12_layGuess_169 : decode cX12_layGuess 169 = .ok (.lload 15, 2) := by decide +kernel
theorem dX12_layGuess_171 : decode cX12_layGuess 171 = .ok (.lmul, 1) := by decide +kernel
theorem dX12_layGuess_172 : decode cX12_layGuess 172 = .ok (.lload 17, 2) := by decide +kernel
theorem dX12_layGuess_174 : decode cX12_layGuess 174 = .ok (.ladd, 1) := by decide +kernel
theorem dX12_layGuess_175 : decode cX12_layGuess 175 = .ok (.lstore 28, 2) := by decide +kernel
theorem dX12_layGuess_177 : decode cX12_layGuess 177 = .ok (.lload 24, 2) := by decide +kernel
theorem dX12_layGuess_179 : decode cX12_layGuess 179 = .ok (.lload 19, 2) := by decide +kernel
theorem dX12_layGuess_181 : decode cX12_layGuess 181 = .ok (.lmul, 1) := by decide +kernel
theorem dX12_layGuess_182 : decode cX12_layGuess 182 = .ok (.lload 21, 2) := by decide +kernel
theorem dX12_layGuess_184 : decode cX12_layGuess 184 = .ok (.ladd, 1) := by decide +kernel
theorem dX12_layGuess_185 : decode cX12_layGuess 185 = .ok (.lstore 30, 2) := by decide +kernel
theorem dX12_layGuess_187 : decode cX12_layGuess 187 = .ok (.lload 15, 2) := by decide +kernel
theorem dX12_layGuess_189 : decode cX12_layGuess 189 = .ok (.lstore 17, 2) := by decide +kernel
theorem dX12_layGuess_191 : decode cX12_layGuess 191 = .ok (.lload 28, 2) := by decide +kernel
theorem dX12_layGuess_193 : decode cX12_layGuess 193 = .ok (.lstore 15, 2) := by decide +kernel
theorem dX12_layGuess_195 : decode cX12_layGuess 195 = .ok (.lload 19, 2) := by decide +kernel
theorem dX12_layGuess_197 : decode cX12_layGuess 197 = .ok (.lstore 21, 2) := by decide +kernel
theorem dX12_layGuess_199 : decode cX12_layGuess 199 = .ok (.lload 30, 2) := by decide +kernel
theorem dX12_layGuess_201 : decode cX12_layGuess 201 = .ok (.lstore 19, 2) := by decide +kernel
theorem dX12_layGuess_203 : decode cX12_layGuess 203 = .ok (.goto (-149), 3) := by decide +kernel
theorem dX12_layGuess_206 : decode cX12_layGuess 206 = .ok (.iload 23, 2) := by decide +kernel
theorem dX12_layGuess_208 : decode cX12_layGuess 208 = .ok (.ireturn, 1) := by decide +kernel
theorem dX12_sure_0 : decode cX12_sure 0 = .ok (.ldc2_w 151, 3) := by decide +kernel
theorem dX12_sure_3 : decode cX12_sure 3 = .ok (.lstore_n 1, 1) := by decide +kernel
theorem dX12_sure_4 : decode cX12_sure 4 = .ok (.iconst 0, 1) := by decide +kernel
theorem dX12_sure_5 : decode cX12_sure 5 = .ok (.istore_n 3, 1) := by decide +kernel
theorem dX12_sure_6 : decode cX12_sure 6 = .ok (.iload_n 3, 1) := by decide +kernel
theorem dX12_sure_7 : decode cX12_sure 7 = .ok (.aload_n 0, 1) := by decide +kernel
theorem dX12_sure_8 : decode cX12_sure 8 = .ok (.invokevirtual 81, 3) := by decide +kernel
theorem dX12_sure_11 : decode cX12_sure 11 = .ok (.if_icmp .ge 69, 3) := by decide +kernel
theorem dX12_sure_14 : decode cX12_sure 14 = .ok (.lconst 0, 1) := by decide +kernel
theorem dX12_sure_15 : decode cX12_sure 15 = .ok (.lstore 4, 2) := by decide +kernel
theorem dX12_sure_17 : decode cX12_sure 17 = .ok (.iconst 0, 1) := by decide +kernel
theorem dX12_sure_18 : decode cX12_sure 18 = .ok (.istore 6, 2) := by decide +kernel
theorem dX12_sure_20 : decode cX12_sure 20 = .ok (.iload 6, 2) := by decide +kernel
theorem dX12_sure_22 : decode cX12_sure 22 = .ok (.aload_n 0, 1) := by decide +kernel
theorem dX12_sure_23 : decode cX12_sure 23 = .ok (.invokevirtual 81, 3) := by decide +kernel
theorem dX12_sure_26 : decode cX12_sure 26 = .ok (.if_icmp .ge 29, 3) := by decide +kernel
theorem dX12_sure_29 : decode cX12_sure 29 = .ok (.lload 4, 2) := by decide +kernel
theorem dX12_sure_31 : decode cX12_sure 31 = .ok (.aload_n 0, 1) := by decide +kernel
theorem dX12_sure_32 : decode cX12_sure 32 = .ok (.iload_n 3, 1) := by decide +kernel
theorem dX12_sure_33 : decode cX12_sure 33 = .ok (.iload 6, 2) := by decide +kernel
theorem dX12_sure_35 : decode cX12_sure 35 = .ok (.invokevirtual 51, 3) := by decide +kernel
theorem dX12_sure_38 : decode cX12_sure 38 = .ok (.aload_n 0, 1) := by decide +kernel
theorem dX12_sure_39 : decode cX12_sure 39 = .ok (.iload_n 3, 1) := by decide +kernel
theorem dX12_sure_40 : decode cX12_sure 40 = .ok (.iload 6, 2) := by decide +kernel
theorem dX12_sure_42 : decode cX12_sure 42 = .ok (.invokevirtual 51, 3) := by decide +kernel
theorem dX12_sure_45 : decode cX12_sure 45 = .ok (.lmul, 1) := by decide +kernel
theorem dX12_sure_46 : decode cX12_sure 46 = .ok (.ladd, 1) := by decide +kernel
theorem dX12_sure_47 : decode cX12_sure 47 = .ok (.lstore 4, 2) := by decide +kernel
theorem dX12_sure_49 : decode cX12_sure 49 = .ok (.iinc 6 1, 3) := by decide +kernel
theorem dX12_sure_52 : decode cX12_sure 52 = .ok (.goto (-32), 3) := by decide +kernel
theorem dX12_sure_55 : decode cX12_sure 55 = .ok (.lload_n 1, 1) := by decide +kernel
theorem dX12_sure_56 : decode cX12_sure 56 = .ok (.lload 4, 2) := by decide +kernel
theorem dX12_sure_58 : decode cX12_sure 58 = .ok (.aload_n 0, 1) := by decide +kernel
theorem dX12_sure_59 : decode cX12_sure 59 = .ok (.iload_n 3, 1) := by decide +kernel
theorem dX12_sure_60 : decode cX12_sure 60 = .ok (.iconst 4, 1) := by decide +kernel
theorem dX12_sure_61 : decode cX12_sure 61 = .ok (.invokevirtual 51, 3) := by decide +kernel
theorem dX12_sure_64 : decode cX12_sure 64 = .ok (.aload_n 0, 1) := by decide +kernel
theorem dX12_sure_65 : decode cX12_sure 65 = .ok (.iload_n 3, 1) := by decide +kernel
theorem dX12_sure_66 : decode cX12_sure 66 = .ok (.iconst 4, 1) := by decide +kernel
theorem dX12_sure_67 : decode cX12_sure 67 = .ok (.invokevirtual 51, 3) := by decide +kernel
theorem dX12_sure_70 : decode cX12_sure 70 = .ok (.lmul, 1) := by decide +kernel
theorem dX12_sure_71 : decode cX12_sure 71 = .ok (.ladd, 1) := by decide +kernel
theorem dX12_sure_72 : decode cX12_sure 72 = .ok (.lmul, 1) := by decide +kernel
theorem dX12_sure_73 : decode cX12_sure 73 = .ok (.lstore_n 1, 1) := by decide +kernel
theorem dX12_sure_74 : decode cX12_sure 74 = .ok (.iinc 3 1, 3) := by decide +kernel
theorem dX12_sure_77 : decode cX12_sure 77 = .ok (.goto (-71), 3) := by decide +kernel
theorem dX12_sure_80 : decode cX12_sure 80 = .ok (.iconst 1, 1) := by decide +kernel
theorem dX12_sure_81 : decode cX12_sure 81 = .ok (.istore_n 3, 1) := by decide +kernel
theorem dX12_sure_82 : decode cX12_sure 82 = .ok (.aload_n 0, 1) := by decide +kernel
theorem dX12_sure_83 : decode cX12_sure 83 = .ok (.invokevirtual 128, 3) := by decide +kernel
theorem dX12_sure_86 : decode cX12_sure 86 = .ok (.i2l, 1) := by decide +kernel
theorem dX12_sure_87 : decode cX12_sure 87 = .ok (.iload_n 3, 1) := by decide +kernel
theorem dX12_sure_88 : decode cX12_sure 88 = .ok (.invokestatic 153, 3) := by decide +kernel
theorem dX12_sure_91 : decode cX12_sure 91 = .ok (.lload_n 1, 1) := by decide +kernel
theorem dX12_sure_92 : decode cX12_sure 92 = .ok (.lcmp, 1) := by decide +kernel
theorem dX12_sure_93 : decode cX12_sure 93 = .ok (.ifCond .gt 9, 3) := by decide +kernel
theorem dX12_sure_96 : decode cX12_sure 96 = .ok (.iinc 3 1, 3) := by decide +kernel
theorem dX12_sure_99 : decode cX12_sure 99 = .ok (.goto (-17), 3) := by decide +kernel
theorem dX12_sure_102 : decode cX12_sure 102 = .ok (.iload_n 3, 1) := by decide +kernel
theorem dX12_sure_103 : decode cX12_sure 103 = .ok (.ireturn, 1) := by decide +kernel
theorem dX12_allGuessed_0 : decode cX12_allGuessed 0 = .ok (.iconst 1, 1) := by decide +kernel
theorem dX12_allGuessed_1 : decode cX12_allGuessed 1 = .ok (.istore_n 3, 1) := by decide +kernel
theorem dX12_allGuessed_2 : decode cX12_allGuessed 2 = .ok (.iconst 0, 1) := by decide +kernel
theorem dX12_allGuessed_3 : decode cX12_allGuessed 3 = .ok (.istore 4, 2) := by decide +kernel
theorem dX12_allGuessed_5 : decode cX12_allGuessed 5 = .ok (.iload 4, 2) := by decide +kernel
theorem dX12_allGuessed_7 : decode cX12_allGuessed 7 = .ok (.aload_n 0, 1) := by decide +kernel
theorem dX12_allGuessed_8 : decode cX12_allGuessed 8 = .ok (.invokevirtual 81, 3) := by decide +kernel
theorem dX12_allGuessed_11 : decode cX12_allGuessed 11 = .ok (.if_icmp .ge 73, 3) := by decide +kernel
theorem dX12_allGuessed_14 : decode cX12_allGuessed 14 = .ok (.iload_n 3, 1) := by decide +kernel
theorem dX12_allGuessed_15 : decode cX12_allGuessed 15 = .ok (.ifCond .eq 17, 3) := by decide +kernel
theorem dX12_allGuessed_18 : decode cX12_allGuessed 18 = .ok (.aload_n 0, 1) := by decide +kernel
theorem dX12_allGuessed_19 : decode cX12_allGuessed 19 = .ok (.iload 4, 2) := by decide +kernel
theorem dX12_allGuessed_21 : decode cX12_allGuessed 21 = .ok (.iload_n 1, 1) := by decide +kernel
theorem dX12_allGuessed_22 : decode cX12_allGuessed 22 = .ok (.invokevirtual 174, 3) := by decide +kernel
theorem dX12_allGuessed_25 : decode cX12_allGuessed 25 = .ok (.ifCond .eq 7, 3) := by decide +kernel
theorem dX12_allGuessed_28 : decode cX12_allGuessed 28 = .ok (.iconst 1, 1) := by decide +kernel
theorem dX12_allGuessed_29 : decode cX12_allGuessed 29 = .ok (.goto 4, 3) := by decide +kernel
theorem dX12_allGuessed_32 : decode cX12_allGuessed 32 = .ok (.iconst 0, 1) := by decide +kernel
theorem dX12_allGuessed_33 : decode cX12_allGuessed 33 = .ok (.istore_n 3, 1) := by decide +kernel
theorem dX12_allGuessed_34 : decode cX12_allGuessed 34 = .ok (.aload_n 0, 1) := by decide +kernel
theorem dX12_allGuessed_35 : decode cX12_allGuessed 35 = .ok (.iload 4, 2) := by decide +kernel
theorem dX12_allGuessed_37 : decode cX12_allGuessed 37 = .ok (.invokevirtual 137, 3) := by decide +kernel
theorem dX12_allGuessed_40 : decode cX12_allGuessed 40 = .ok (.iload_n 3, 1) := by decide +kernel
theorem dX12_allGuessed_41 : decode cX12_allGuessed 41 = .ok (.ifCond .eq 35, 3) := by decide +kernel
theorem dX12_allGuessed_44 : decode cX12_allGuessed 44 = .ok (.iload_n 2, 1) := by decide +kernel
theorem dX12_allGuessed_45 : decode cX12_allGuessed 45 = .ok (.ifCond .eq 27, 3) := by decide +kernel
theorem dX12_allGuessed_48 : decode cX12_allGuessed 48 = .ok (.aload_n 0, 1) := by decide +kernel
theorem dX12_allGuessed_49 : decode cX12_allGuessed 49 = .ok (.getfield 168, 3) := by decide +kernel
theorem dX12_allGuessed_52 : decode cX12_allGuessed 52 = .ok (.aload_n 0, 1) := by decide +kernel
theorem dX12_allGuessed_53 : decode cX12_allGuessed 53 = .ok (.getfield 102, 3) := by decide +kernel
theorem dX12_allGuessed_56 : decode cX12_allGuessed 56 = .ok (.lcmp, 1) := by decide +kernel
theorem dX12_allGuessed_57 : decode cX12_allGuessed 57 = .ok (.ifCond .ne 19, 3) := by decide +kernel
theorem dX12_allGuessed_60 : decode cX12_allGuessed 60 = .ok (.aload_n 0, 1) := by decide +kernel
theorem dX12_allGuessed_61 : decode cX12_allGuessed 61 = .ok (.getfield 171, 3) := by decide +kernel
theorem dX12_allGuessed_64 : decode cX12_allGuessed 64 = .ok (.aload_n 0, 1) := by decide +kernel
theorem dX12_allGuessed_65 : decode cX12_allGuessed 65 = .ok (.getfield 106, 3) := by decide +kernel
theorem dX12_allGuessed_68 : decode cX12_allGuessed 68 = .ok (.lcmp, 1) := by decide +kernel
theorem dX12_allGuessed_69 : decode cX12_allGuessed 69 = .ok (.ifCond .ne 7, 3) := by decide +kernel
theorem dX12_allGuessed_72 : decode cX12_allGuessed 72 = .ok (.iconst 1, 1) := by decide +kernel
theorem dX12_allGuessed_73 : decode cX12_allGuessed 73 = .ok (.goto 4, 3) := by decide +kernel
theorem dX12_allGuessed_76 : decode cX12_allGuessed 76 = .ok (.iconst 0, 1) := by decide +kernel
theorem dX12_allGuessed_77 : decode cX12_allGuessed 77 = .ok (.istore_n 3, 1) := by decide +kernel
theorem dX12_allGuessed_78 : decode cX12_allGuessed 78 = .ok (.iinc 4 1, 3) := by decide +kernel
theorem dX12_allGuessed_81 : decode cX12_allGuessed 81 = .ok (.goto (-76), 3) := by decide +kernel
theorem dX12_allGuessed_84 : decode cX12_allGuessed 84 = .ok (.iload_n 3, 1) := by decide +kernel
theorem dX12_allGuessed_85 : decode cX12_allGuessed 85 = .ok (.ireturn, 1) := by decide +kernel
theorem dX12_early_0 : decode cX12_early 0 = .ok (.iconst 1, 1) := by decide +kernel
theorem dX12_early_1 : decode cX12_early 1 = .ok (.istore_n 1, 1) := by decide +kernel
theorem dX12_early_2 : decode cX12_early 2 = .ok (.aload_n 0, 1) := by decide +kernel
theorem dX12_early_3 : decode cX12_early 3 = .ok (.iload_n 1, 1) := by decide +kernel
theorem dX12_early_4 : decode cX12_early 4 = .ok (.iconst 1, 1) := by decide +kernel
theorem dX12_early_5 : decode cX12_early 5 = .ok (.invokevirtual 177, 3) := by decide +kernel
theorem dX12_early_8 : decode cX12_early 8 = .ok (.ifCond .ne 9, 3) := by decide +kernel
theorem dX12_early_11 : decode cX12_early 11 = .ok (.iinc 1 1, 3) := by decide +kernel
theorem dX12_early_14 : decode cX12_early 14 = .ok (.goto (-12), 3) := by decide +kernel
theorem dX12_early_17 : decode cX12_early 17 = .ok (.iload_n 1, 1) := by decide +kernel
theorem dX12_early_18 : decode cX12_early 18 = .ok (.ireturn, 1) := by decide +kernel
theorem dX12_tooSoon_0 : decode cX12_tooSoon 0 = .ok (.iconst 0, 1) := by decide +kernel
theorem dX12_tooSoon_1 : decode cX12_tooSoon 1 = .ok (.istore_n 1, 1) := by decide +kernel
theorem dX12_tooSoon_2 : decode cX12_tooSoon 2 = .ok (.aload_n 0, 1) := by decide +kernel
theorem dX12_tooSoon_3 : decode cX12_tooSoon 3 = .ok (.invokevirtual 181, 3) := by decide +kernel
theorem dX12_tooSoon_6 : decode cX12_tooSoon 6 = .ok (.istore_n 2, 1) := by decide +kernel
theorem dX12_tooSoon_7 : decode cX12_tooSoon 7 = .ok (.iconst 1, 1) := by decide +kernel
theorem dX12_tooSoon_8 : decode cX12_tooSoon 8 = .ok (.istore_n 3, 1) := by decide +kernel
theorem dX12_tooSoon_9 : decode cX12_tooSoon 9 = .ok (.iload_n 3, 1) := by decide +kernel
theorem dX12_tooSoon_10 : decode cX12_tooSoon 10 = .ok (.iload_n 2, 1) := by decide +kernel
theorem dX12_tooSoon_11 : decode cX12_tooSoon 11 = .ok (.if_icmp .ge 26, 3) := by decide +kernel
theorem dX12_tooSoon_14 : decode cX12_tooSoon 14 = .ok (.iload_n 1, 1) := by decide +kernel
theorem dX12_tooSoon_15 : decode cX12_tooSoon 15 = .ok (.aload_n 0, 1) := by decide +kernel
theorem dX12_tooSoon_16 : decode cX12_tooSoon 16 = .ok (.iload_n 3, 1) := by decide +kernel
theorem dX12_tooSoon_17 : decode cX12_tooSoon 17 = .ok (.iconst 0, 1) := by decide +kernel
theorem dX12_tooSoon_18 : decode cX12_tooSoon 18 = .ok (.invokevirtual 177, 3) := by decide +kernel
theorem dX12_tooSoon_21 : decode cX12_tooSoon 21 = .ok (.ifCond .eq 7, 3) := by decide +kernel
theorem dX12_tooSoon_24 : decode cX12_tooSoon 24 = .ok (.iconst 1, 1) := by decide +kernel
theorem dX12_tooSoon_25 : decode cX12_tooSoon 25 = .ok (.goto 4, 3) := by decide +kernel
theorem dX12_tooSoon_28 : decode cX12_tooSoon 28 = .ok (.iconst 0, 1) := by decide +kernel
theorem dX12_tooSoon_29 : decode cX12_tooSoon 29 = .ok (.iadd, 1) := by decide +kernel
theorem dX12_tooSoon_30 : decode cX12_tooSoon 30 = .ok (.istore_n 1, 1) := by decide +kernel
theorem dX12_tooSoon_31 : decode cX12_tooSoon 31 = .ok (.iinc 3 1, 3) := by decide +kernel
theorem dX12_tooSoon_34 : decode cX12_tooSoon 34 = .ok (.goto (-25), 3) := by decide +kernel
theorem dX12_tooSoon_37 : decode cX12_tooSoon 37 = .ok (.iload_n 1, 1) := by decide +kernel
theorem dX12_tooSoon_38 : decode cX12_tooSoon 38 = .ok (.ireturn, 1) := by decide +kernel
theorem dX12_layNear_0 : decode cX12_layNear 0 = .ok (.aload_n 0, 1) := by decide +kernel
theorem dX12_layNear_1 : decode cX12_layNear 1 = .ok (.aload_n 0, 1) := by decide +kernel
theorem dX12_layNear_2 : decode cX12_layNear 2 = .ok (.getfield 102, 3) := by decide +kernel
theorem dX12_layNear_5 : decode cX12_layNear 5 = .ok (.lconst 0, 1) := by decide +kernel
theorem dX12_layNear_6 : decode cX12_layNear 6 = .ok (.lcmp, 1) := by decide +kernel
theorem dX12_layNear_7 : decode cX12_layNear 7 = .ok (.ifCond .ge 7, 3) := by decide +kernel
theorem dX12_layNear_10 : decode cX12_layNear 10 = .ok (.iconst 1, 1) := by decide +kernel
theorem dX12_layNear_11 : decode cX12_layNear 11 = .ok (.goto 4, 3) := by decide +kernel
theorem dX12_layNear_14 : decode cX12_layNear 14 = .ok (.iconst 0, 1) := by decide +kernel
theorem dX12_layNear_15 : decode cX12_layNear 15 = .ok (.putfield 184, 3) := by decide +kernel
theorem dX12_layNear_18 : decode cX12_layNear 18 = .ok (.aload_n 0, 1) := by decide +kernel
theorem dX12_layNear_19 : decode cX12_layNear 19 = .ok (.iconst 0, 1) := by decide +kernel
theorem dX12_layNear_20 : decode cX12_layNear 20 = .ok (.putfield 187, 3) := by decide +kernel
theorem dX12_layNear_23 : decode cX12_layNear 23 = .ok (.aload_n 0, 1) := by decide +kernel
theorem dX12_layNear_24 : decode cX12_layNear 24 = .ok (.lconst 0, 1) := by decide +kernel
theorem dX12_layNear_25 : decode cX12_layNear 25 = .ok (.putfield 190, 3) := by decide +kernel
theorem dX12_layNear_28 : decode cX12_layNear 28 = .ok (.aload_n 0, 1) := by decide +kernel
theorem dX12_layNear_29 : decode cX12_layNear 29 = .ok (.getfield 102, 3) := by decide +kernel
theorem dX12_layNear_32 : decode cX12_layNear 32 = .ok (.lconst 0, 1) := by decide +kernel
theorem dX12_layNear_33 : decode cX12_layNear 33 = .ok (.lcmp, 1) := by decide +kernel
theorem dX12_layNear_34 : decode cX12_layNear 34 = .ok (.ifCond .ge 11, 3) := by decide +kernel
theorem dX12_layNear_37 : decode cX12_layNear 37 = .ok (.aload_n 0, 1) := by decide +kernel
theorem dX12_layNear_38 : decode cX12_layNear 38 = .ok (.getfield 102, 3) := by decide +kernel
theorem dX12_layNear_41 : decode cX12_layNear 41 = .ok (.lneg, 1) := by decide +kernel
theorem dX12_layNear_42 : decode cX12_layNear 42 = .ok (.goto 7, 3) := by decide +kernel
theorem dX12_layNear_45 : decode cX12_layNear 45 = .ok (.aload_n 0, 1) := by decide +kernel
theorem dX12_layNear_46 : decode cX12_layNear 46 = .ok (.getfield 102, 3) := by decide +kernel
theorem dX12_layNear_49 : decode cX12_layNear 49 = .ok (.lstore_n 1, 1) := by decide +kernel
theorem dX12_layNear_50 : decode cX12_layNear 50 = .ok (.aload_n 0, 1) := by decide +kernel
theorem dX12_layNear_51 : decode cX12_layNear 51 = .ok (.getfield 106, 3) := by decide +kernel
theorem dX12_layNear_54 : decode cX12_layNear 54 = .ok (.lstore_n 3, 1) := by decide +kernel
theorem dX12_layNear_55 : decode cX12_layNear 55 = .ok (.lload_n 1, 1) := by decide +kernel
theorem dX12_layNear_56 : decode cX12_layNear 56 = .ok (.lconst 0, 1) := by decide +kernel
theorem dX12_layNear_57 : decode cX12_layNear 57 = .ok (.lcmp, 1) := by decide +kernel
theorem dX12_layNear_58 : decode cX12_layNear 58 = .ok (.ifCond .ne 4, 3) := by decide +kernel
theorem dX12_layNear_61 : decode cX12_layNear 61 = .ok (.return_, 1) := by decide +kernel
theorem dX12_layNear_62 : decode cX12_layNear 62 = .ok (.lload_n 1, 1) := by decide +kernel
theorem dX12_layNear_63 : decode cX12_layNear 63 = .ok (.ldc2_w 151, 3) := by decide +kernel
theorem dX12_layNear_66 : decode cX12_layNear 66 = .ok (.lload_n 3, 1) := by decide +kernel
theorem dX12_layNear_67 : decode cX12_layNear 67 = .ok (.lmul, 1) := by decide +kernel
theorem dX12_layNear_68 : decode cX12_layNear 68 = .ok (.lcmp, 1) := by decide +kernel
theorem dX12_layNear_69 : decode cX12_layNear 69 = .ok (.ifCond .lt 22, 3) := by decide +kernel
theorem dX12_layNear_72 : decode cX12_layNear 72 = .ok (.lload_n 3, 1) := by decide +kernel
theorem dX12_layNear_73 : decode cX12_layNear 73 = .ok (.ldc2_w 151, 3) := by decide +kernel
theorem dX12_layNear_76 : decode cX12_layNear 76 = .ok (.lmul, 1) := by decide +kernel
theorem dX12_layNear_77 : decode cX12_layNear 77 = .ok (.lstore_n 3, 1) := by decide +kernel
theorem dX12_layNear_78 : decode cX12_layNear 78 = .ok (.aload_n 0, 1) := by decide +kernel
theorem dX12_layNear_79 : decode cX12_layNear 79 = .ok (.dup, 1) := by decide +kernel
theorem dX12_layNear_80 : decode cX12_layNear 80 = .ok (.getfield 187, 3) := by decide +kernel
theorem dX12_layNear_83 : decode cX12_layNear 83 = .ok (.iconst 1, 1) := by decide +kernel
theorem dX12_layNear_84 : decode cX12_layNear 84 = .ok (.iadd, 1) := by decide +kernel
theorem dX12_layNear_85 : decode cX12_layNear 85 = .ok (.putfield 187, 3) := by decide +kernel
theorem dX12_layNear_88 : decode cX12_layNear 88 = .ok (.goto (-26), 3) := by decide +kernel
theorem dX12_layNear_91 : decode cX12_layNear 91 = .ok (.lload_n 1, 1) := by decide +kernel
theorem dX12_layNear_92 : decode cX12_layNear 92 = .ok (.lload_n 3, 1) := by decide +kernel
theorem dX12_layNear_93 : decode cX12_layNear 93 = .ok (.lcmp, 1) := by decide +kernel
theorem dX12_layNear_94 : decode cX12_layNear 94 = .ok (.ifCond .ge 22, 3) := by decide +kernel
theorem dX12_layNear_97 : decode cX12_layNear 97 = .ok (.lload_n 1, 1) := by decide +kernel
theorem dX12_layNear_98 : decode cX12_layNear 98 = .ok (.ldc2_w 151, 3) := by decide +kernel
theorem dX12_layNear_101 : decode cX12_layNear 101 = .ok (.lmul, 1) := by decide +kernel
theorem dX12_layNear_102 : decode cX12_layNear 102 = .ok (.lstore_n 1, 1) := by decide +kernel
theorem dX12_layNear_103 : decode cX12_layNear 103 = .ok (.aload_n 0, 1) := by decide +kernel
theorem dX12_layNear_104 : decode cX12_layNear 104 = .ok (.dup, 1) := by decide +kernel
theorem dX12_layNear_105 : decode cX12_layNear 105 = .ok (.getfield 187, 3) := by decide +kernel
theorem dX12_layNear_108 : decode cX12_layNear 108 = .ok (.iconst 1, 1) := by decide +kernel
theorem dX12_layNear_109 : decode cX12_layNear 109 = .ok (.isub, 1) := by decide +kernel
theorem dX12_layNear_110 : decode cX12_layNear 110 = .ok (.putfield 187, 3) := by decide +kernel
theorem dX12_layNear_113 : decode cX12_layNear 113 = .ok (.goto (-22), 3) := by decide +kernel
theorem dX12_layNear_116 : decode cX12_layNear 116 = .ok (.iconst 0, 1) := by decide +kernel
theorem dX12_layNear_117 : decode cX12_layNear 117 = .ok (.istore 5, 2) := by decide +kernel
theorem dX12_layNear_119 : decode cX12_layNear 119 = .ok (.iload 5, 2) := by decide +kernel
theorem dX12_layNear_121 : decode cX12_layNear 121 = .ok (.bipush 53, 2) := by decide +kernel
theorem dX12_layNear_123 : decode cX12_layNear 123 = .ok (.if_icmp .ge 62, 3) := by decide +kernel
theorem dX12_layNear_126 : decode cX12_layNear 126 = .ok (.lload_n 1, 1) := by decide +kernel
theorem dX12_layNear_127 : decode cX12_layNear 127 = .ok (.lload_n 3, 1) := by decide +kernel
theorem dX12_layNear_128 : decode cX12_layNear 128 = .ok (.lcmp, 1) := by decide +kernel
theorem dX12_layNear_129 : decode cX12_layNear 129 = .ok (.ifCond .lt 7, 3) := by decide +kernel
theorem dX12_layNear_132 : decode cX12_layNear 132 = .ok (.iconst 1, 1) := by decide +kernel
theorem dX12_layNear_133 : decode cX12_layNear 133 = .ok (.goto 4, 3) := by decide +kernel
theorem dX12_layNear_136 : decode cX12_layNear 136 = .ok (.iconst 0, 1) := by decide +kernel
theorem dX12_layNear_137 : decode cX12_layNear 137 = .ok (.istore 6, 2) := by decide +kernel
theorem dX12_layNear_139 : decode cX12_layNear 139 = .ok (.aload_n 0, 1) := by decide +kernel
theorem dX12_layNear_140 : decode cX12_layNear 140 = .ok (.ldc2_w 151, 3) := by decide +kernel
theorem dX12_layNear_143 : decode cX12_layNear 143 = .ok (.aload_n 0, 1) := by decide +kernel
theorem dX12_layNear_144 : decode cX12_layNear 144 = .ok (.getfield 190, 3) := by decide +kernel
theorem dX12_layNear_147 : decode cX12_layNear 147 = .ok (.lmul, 1) := by decide +kernel
theorem dX12_layNear_148 : decode cX12_layNear 148 = .ok (.iload 6, 2) := by decide +kernel
theorem dX12_layNear_150 : decode cX12_layNear 150 = .ok (.ifCond .eq 7, 3) := by decide +kernel
theorem dX12_layNear_153 : decode cX12_layNear 153 = .ok (.lconst 1, 1) := by decide +kernel
theorem dX12_layNear_154 : decode cX12_layNear 154 = .ok (.goto 4, 3) := by decide +kernel
theorem dX12_layNear_157 : decode cX12_layNear 157 = .ok (.lconst 0, 1) := by decide +kernel
theorem dX12_layNear_158 : decode cX12_layNear 158 = .ok (.ladd, 1) := by decide +kernel
theorem dX12_layNear_159 : decode cX12_layNear 159 = .ok (.putfield 190, 3) := by decide +kernel
theorem dX12_layNear_162 : decode cX12_layNear 162 = .ok (.ldc2_w 151, 3) := by decide +kernel
theorem dX12_layNear_165 : decode cX12_layNear 165 = .ok (.iload 6, 2) := by decide +kernel
theorem dX12_layNear_167 : decode cX12_layNear 167 = .ok (.ifCond .eq 9, 3) := by decide +kernel
theorem dX12_layNear_170 : decode cX12_layNear 170 = .ok (.lload_n 1, 1) := by decide +kernel
theorem dX12_layNear_171 : decode cX12_layNear 171 = .ok (.lload_n 3, 1) := by decide +kernel
theorem dX12_layNear_172 : decode cX12_layNear 172 = .ok (.lsub, 1) := by decide +kernel
theorem dX12_layNear_173 : decode cX12_layNear 173 = .ok (.goto 4, 3) := by decide +kernel
theorem dX12_layNear_176 : decode cX12_layNear 176 = .ok (.lload_n 1, 1) := by decide +kernel
theorem dX12_layNear_177 : decode cX12_layNear 177 = .ok (.lmul, 1) := by decide +kernel
theorem dX12_layNear_178 : decode cX12_layNear 178 = .ok (.lstore_n 1, 1) := by decide +kernel
theorem dX12_layNear_179 : decode cX12_layNear 179 = .ok (.iinc 5 1, 3) := by decide +kernel
theorem dX12_layNear_182 : decode cX12_layNear 182 = .ok (.goto (-63), 3) := by decide +kernel
theorem dX12_layNear_185 : decode cX12_layNear 185 = .ok (.aload_n 0, 1) := by decide +kernel
theorem dX12_layNear_186 : decode cX12_layNear 186 = .ok (.dup, 1) := by decide +kernel
theorem dX12_layNear_187 : decode cX12_layNear 187 = .ok (.getfield 190, 3) := by decide +kernel
theorem dX12_layNear_190 : decode cX12_layNear 190 = .ok (.lload_n 1, 1) := by decide +kernel
theorem dX12_layNear_191 : decode cX12_layNear 191 = .ok (.lload_n 3, 1) := by decide +kernel
theorem dX12_layNear_192 : decode cX12_layNear 192 = .ok (.lcmp, 1) := by decide +kernel
theorem dX12_layNear_193 : decode cX12_layNear 193 = .ok (.ifCond .gt 22, 3) := by decide +kernel
theorem dX12_layNear_196 : decode cX12_layNear 196 = .ok (.lload_n 1, 1) := by decide +kernel
theorem dX12_layNear_197 : decode cX12_layNear 197 = .ok (.lload_n 3, 1) := by decide +kernel
theorem dX12_layNear_198 : decode cX12_layNear 198 = .ok (.lcmp, 1) := by decide +kernel
theorem dX12_layNear_199 : decode cX12_layNear 199 = .ok (.ifCond .ne 20, 3) := by decide +kernel
theorem dX12_layNear_202 : decode cX12_layNear 202 = .ok (.aload_n 0, 1) := by decide +kernel
theorem dX12_layNear_203 : decode cX12_layNear 203 = .ok (.getfield 190, 3) := by decide +kernel
theorem dX12_layNear_206 : decode cX12_layNear 206 = .ok (.ldc2_w 151, 3) := by decide +kernel
theorem dX12_layNear_209 : decode cX12_layNear 209 = .ok (.lrem, 1) := by decide +kernel
theorem dX12_layNear_210 : decode cX12_layNear 210 = .ok (.lconst 1, 1) := by decide +kernel
theorem dX12_layNear_211 : decode cX12_layNear 211 = .ok (.lcmp, 1) := by decide +kernel
theorem dX12_layNear_212 : decode cX12_layNear 212 = .ok (.ifCond .ne 7, 3) := by decide +kernel
theorem dX12_layNear_215 : decode cX12_layNear 215 = .ok (.lconst 1, 1) := by decide +kernel
theorem dX12_layNear_216 : decode cX12_layNear 216 = .ok (.goto 4, 3) := by decide +kernel
theorem dX12_layNear_219 : decode cX12_layNear 219 = .ok (.lconst 0, 1) := by decide +kernel
theorem dX12_layNear_220 : decode cX12_layNear 220 = .ok (.ladd, 1) := by decide +kernel
theorem dX12_layNear_221 : decode cX12_layNear 221 = .ok (.putfield 190, 3) := by decide +kernel
theorem dX12_layNear_224 : decode cX12_layNear 224 = .ok (.aload_n 0, 1) := by decide +kernel
theorem dX12_layNear_225 : decode cX12_layNear 225 = .ok (.bipush 53, 2) := by decide +kernel
theorem dX12_layNear_227 : decode cX12_layNear 227 = .ok (.invokevirtual 193, 3) := by decide +kernel
theorem dX12_layNear_230 : decode cX12_layNear 230 = .ok (.return_, 1) := by decide +kernel
theorem dX12_shorten_0 : decode cX12_shorten 0 = .ok (.aload_n 0, 1) := by decide +kernel
theorem dX12_shorten_1 : decode cX12_shorten 1 = .ok (.getfield 190, 3) := by decide +kernel
theorem dX12_shorten_4 : decode cX12_shorten 4 = .ok (.lconst 1, 1) := by decide +kernel
theorem dX12_shorten_5 : decode cX12_shorten 5 = .ok (.iload_n 1, 1) := by decide +kernel
theorem dX12_shorten_6 : decode cX12_shorten 6 = .ok (.lshl, 1) := by decide +kernel
theorem dX12_shorten_7 : decode cX12_shorten 7 = .ok (.lcmp, 1) := by decide +kernel
theorem dX12_shorten_8 : decode cX12_shorten 8 = .ok (.ifCond .ne 25, 3) := by decide +kernel
theorem dX12_shorten_11 : decode cX12_shorten 11 = .ok (.aload_n 0, 1) := by decide +kernel
theorem dX12_shorten_12 : decode cX12_shorten 12 = .ok (.dup, 1) := by decide +kernel
theorem dX12_shorten_13 : decode cX12_shorten 13 = .ok (.getfield 190, 3) := by decide +kernel
theorem dX12_shorten_16 : decode cX12_shorten 16 = .ok (.ldc2_w 151, 3) := by decide +kernel
theorem dX12_shorten_19 : decode cX12_shorten 19 = .ok (.ldiv, 1) := by decide +kernel
theorem dX12_shorten_20 : decode cX12_shorten 20 = .ok (.putfield 190, 3) := by decide +kernel
theorem dX12_shorten_23 : decode cX12_shorten 23 = .ok (.aload_n 0, 1) := by decide +kernel
theorem dX12_shorten_24 : decode cX12_shorten 24 = .ok (.dup, 1) := by decide +kernel
theorem dX12_shorten_25 : decode cX12_shorten 25 = .ok (.getfield 187, 3) := by decide +kernel
theorem dX12_shorten_28 : decode cX12_shorten 28 = .ok (.iconst 1, 1) := by decide +kernel
theorem dX12_shorten_29 : decode cX12_shorten 29 = .ok (.iadd, 1) := by decide +kernel
theorem dX12_shorten_30 : decode cX12_shorten 30 = .ok (.putfield 187, 3) := by decide +kernel
theorem dX12_shorten_33 : decode cX12_shorten 33 = .ok (.return_, 1) := by decide +kernel
theorem dX12_round_0 : decode cX12_round 0 = .ok (.lconst 1, 1) := by decide +kernel
theorem dX12_round_1 : decode cX12_round 1 = .ok (.iload_n 1, 1) := by decide +kernel
theorem dX12_round_2 : decode cX12_round 2 = .ok (.lshl, 1) := by decide +kernel
theorem dX12_round_3 : decode cX12_round 3 = .ok (.lstore_n 3, 1) := by decide +kernel
theorem dX12_round_4 : decode cX12_round 4 = .ok (.aload_n 0, 1) := by decide +kernel
theorem dX12_round_5 : decode cX12_round 5 = .ok (.getfield 190, 3) := by decide +kernel
theorem dX12_round_8 : decode cX12_round 8 = .ok (.lload_n 3, 1) := by decide +kernel
theorem dX12_round_9 : decode cX12_round 9 = .ok (.lrem, 1) := by decide +kernel
theorem dX12_round_10 : decode cX12_round 10 = .ok (.lstore 5, 2) := by decide +kernel
theorem dX12_round_12 : decode cX12_round 12 = .ok (.aload_n 0, 1) := by decide +kernel
theorem dX12_round_13 : decode cX12_round 13 = .ok (.dup, 1) := by decide +kernel
theorem dX12_round_14 : decode cX12_round 14 = .ok (.getfield 190, 3) := by decide +kernel
theorem dX12_round_17 : decode cX12_round 17 = .ok (.lload_n 3, 1) := by decide +kernel
theorem dX12_round_18 : decode cX12_round 18 = .ok (.ldiv, 1) := by decide +kernel
theorem dX12_round_19 : decode cX12_round 19 = .ok (.putfield 190, 3) := by decide +kernel
theorem dX12_round_22 : decode cX12_round 22 = .ok (.aload_n 0, 1) := by decide +kernel
theorem dX12_round_23 : decode cX12_round 23 = .ok (.dup, 1) := by decide +kernel
theorem dX12_round_24 : decode cX12_round 24 = .ok (.getfield 190, 3) := by decide +kernel
theorem dX12_round_27 : decode cX12_round 27 = .ok (.ldc2_w 151, 3) := by decide +kernel
theorem dX12_round_30 : decode cX12_round 30 = .ok (.lload 5, 2) := by decide +kernel
theorem dX12_round_32 : decode cX12_round 32 = .ok (.lmul, 1) := by decide +kernel
theorem dX12_round_33 : decode cX12_round 33 = .ok (.lload_n 3, 1) := by decide +kernel
theorem dX12_round_34 : decode cX12_round 34 = .ok (.lcmp, 1) := by decide +kernel
theorem dX12_round_35 : decode cX12_round 35 = .ok (.ifCond .gt 27, 3) := by decide +kernel
theorem dX12_round_38 : decode cX12_round 38 = .ok (.ldc2_w 151, 3) := by decide +kernel
theorem dX12_round_41 : decode cX12_round 41 = .ok (.lload 5, 2) := by decide +kernel
theorem dX12_round_43 : decode cX12_round 43 = .ok (.lmul, 1) := by decide +kernel
theorem dX12_round_44 : decode cX12_round 44 = .ok (.lload_n 3, 1) := by decide +kernel
theorem dX12_round_45 : decode cX12_round 45 = .ok (.lcmp, 1) := by decide +kernel
theorem dX12_round_46 : decode cX12_round 46 = .ok (.ifCond .ne 20, 3) := by decide +kernel
theorem dX12_round_49 : decode cX12_round 49 = .ok (.aload_n 0, 1) := by decide +kernel
theorem dX12_round_50 : decode cX12_round 50 = .ok (.getfield 190, 3) := by decide +kernel
theorem dX12_round_53 : decode cX12_round 53 = .ok (.ldc2_w 151, 3) := by decide +kernel
theorem dX12_round_56 : decode cX12_round 56 = .ok (.lrem, 1) := by decide +kernel
theorem dX12_round_57 : decode cX12_round 57 = .ok (.lconst 1, 1) := by decide +kernel
theorem dX12_round_58 : decode cX12_round 58 = .ok (.lcmp, 1) := by decide +kernel
theorem dX12_round_59 : decode cX12_round 59 = .ok (.ifCond .ne 7, 3) := by decide +kernel
theorem dX12_round_62 : decode cX12_round 62 = .ok (.lconst 1, 1) := by decide +kernel
theorem dX12_round_63 : decode cX12_round 63 = .ok (.goto 4, 3) := by decide +kernel
theorem dX12_round_66 : decode cX12_round 66 = .ok (.lconst 0, 1) := by decide +kernel
theorem dX12_round_67 : decode cX12_round 67 = .ok (.ladd, 1) := by decide +kernel
theorem dX12_round_68 : decode cX12_round 68 = .ok (.putfield 190, 3) := by decide +kernel
theorem dX12_round_71 : decode cX12_round 71 = .ok (.aload_n 0, 1) := by decide +kernel
theorem dX12_round_72 : decode cX12_round 72 = .ok (.iload_n 2, 1) := by decide +kernel
theorem dX12_round_73 : decode cX12_round 73 = .ok (.invokevirtual 193, 3) := by decide +kernel
theorem dX12_round_76 : decode cX12_round 76 = .ok (.return_, 1) := by decide +kernel
theorem dX12_nearNow_0 : decode cX12_nearNow 0 = .ok (.aload_n 0, 1) := by decide +kernel
theorem dX12_nearNow_1 : decode cX12_nearNow 1 = .ok (.invokevirtual 196, 3) := by decide +kernel
theorem dX12_nearNow_4 : decode cX12_nearNow 4 = .ok (.aload_n 0, 1) := by decide +kernel
theorem dX12_nearNow_5 : decode cX12_nearNow 5 = .ok (.getfield 190, 3) := by decide +kernel
theorem dX12_nearNow_8 : decode cX12_nearNow 8 = .ok (.lconst 0, 1) := by decide +kernel
theorem dX12_nearNow_9 : decode cX12_nearNow 9 = .ok (.lcmp, 1) := by decide +kernel
theorem dX12_nearNow_10 : decode cX12_nearNow 10 = .ok (.ifCond .ne 5, 3) := by decide +kernel
theorem dX12_nearNow_13 : decode cX12_nearNow 13 = .ok (.lconst 0, 1) := by decide +kernel
theorem dX12_nearNow_14 : decode cX12_nearNow 14 = .ok (.lreturn, 1) := by decide +kernel
theorem dX12_nearNow_15 : decode cX12_nearNow 15 = .ok (.aload_n 0, 1) := by decide +kernel
theorem dX12_nearNow_16 : decode cX12_nearNow 16 = .ok (.getfield 187, 3) := by decide +kernel
theorem dX12_nearNow_19 : decode cX12_nearNow 19 = .ok (.i2l, 1) := by decide +kernel
theorem dX12_nearNow_20 : decode cX12_nearNow 20 = .ok (.ldc2_w 199, 3) := by decide +kernel
theorem dX12_nearNow_23 : decode cX12_nearNow 23 = .ok (.ladd, 1) := by decide +kernel
theorem dX12_nearNow_24 : decode cX12_nearNow 24 = .ok (.bipush 52, 2) := by decide +kernel
theorem dX12_nearNow_26 : decode cX12_nearNow 26 = .ok (.lshl, 1) := by decide +kernel
theorem dX12_nearNow_27 : decode cX12_nearNow 27 = .ok (.aload_n 0, 1) := by decide +kernel
theorem dX12_nearNow_28 : decode cX12_nearNow 28 = .ok (.getfield 190, 3) := by decide +kernel
theorem dX12_nearNow_31 : decode cX12_nearNow 31 = .ok (.ladd, 1) := by decide +kernel
theorem dX12_nearNow_32 : decode cX12_nearNow 32 = .ok (.ldc2_w 201, 3) := by decide +kernel
theorem dX12_nearNow_35 : decode cX12_nearNow 35 = .ok (.lsub, 1) := by decide +kernel
theorem dX12_nearNow_36 : decode cX12_nearNow 36 = .ok (.lstore_n 1, 1) := by decide +kernel
theorem dX12_nearNow_37 : decode cX12_nearNow 37 = .ok (.aload_n 0, 1) := by decide +kernel
theorem dX12_nearNow_38 : decode cX12_nearNow 38 = .ok (.getfield 184, 3) := by decide +kernel
theorem dX12_nearNow_41 : decode cX12_nearNow 41 = .ok (.iconst 1, 1) := by decide +kernel
theorem dX12_nearNow_42 : decode cX12_nearNow 42 = .ok (.if_icmp .ne 11, 3) := by decide +kernel
theorem dX12_nearNow_45 : decode cX12_nearNow 45 = .ok (.lload_n 1, 1) := by decide +kernel
theorem dX12_nearNow_46 : decode cX12_nearNow 46 = .ok (.ldc2_w 203, 3) := by decide +kernel
theorem dX12_nearNow_49 : decode cX12_nearNow 49 = .ok (.ladd, 1) := by decide +kernel
theorem dX12_nearNow_50 : decode cX12_nearNow 50 = .ok (.goto 4, 3) := by decide +kernel
theorem dX12_nearNow_53 : decode cX12_nearNow 53 = .ok (.lload_n 1, 1) := by decide +kernel
theorem dX12_nearNow_54 : decode cX12_nearNow 54 = .ok (.lreturn, 1) := by decide +kernel
theorem dX12_layShort_0 : decode cX12_layShort 0 = .ok (.aload_n 0, 1) := by decide +kernel
theorem dX12_layShort_1 : decode cX12_layShort 1 = .ok (.invokevirtual 196, 3) := by decide +kernel
theorem dX12_layShort_4 : decode cX12_layShort 4 = .ok (.aload_n 0, 1) := by decide +kernel
theorem dX12_layShort_5 : decode cX12_layShort 5 = .ok (.getfield 190, 3) := by decide +kernel
theorem dX12_layShort_8 : decode cX12_layShort 8 = .ok (.lconst 0, 1) := by decide +kernel
theorem dX12_layShort_9 : decode cX12_layShort 9 = .ok (.lcmp, 1) := by decide +kernel
theorem dX12_layShort_10 : decode cX12_layShort 10 = .ok (.ifCond .le 11, 3) := by decide +kernel
theorem dX12_layShort_13 : decode cX12_layShort 13 = .ok (.aload_n 0, 1) := by decide +kernel
theorem dX12_layShort_14 : decode cX12_layShort 14 = .ok (.bipush 29, 2) := by decide +kernel
theorem dX12_layShort_16 : decode cX12_layShort 16 = .ok (.bipush 24, 2) := by decide +kernel
theorem dX12_layShort_18 : decode cX12_layShort 18 = .ok (.invokevirtual 205, 3) := by decide +kernel
theorem dX12_layShort_21 : decode cX12_layShort 21 = .ok (.return_, 1) := by decide +kernel
theorem dX12_shortNow_0 : decode cX12_shortNow 0 = .ok (.aload_n 0, 1) := by decide +kernel
theorem dX12_shortNow_1 : decode cX12_shortNow 1 = .ok (.invokevirtual 208, 3) := by decide +kernel
theorem dX12_shortNow_4 : decode cX12_shortNow 4 = .ok (.aload_n 0, 1) := by decide +kernel
theorem dX12_shortNow_5 : decode cX12_shortNow 5 = .ok (.getfield 190, 3) := by decide +kernel
theorem dX12_shortNow_8 : decode cX12_shortNow 8 = .ok (.lconst 0, 1) := by decide +kernel
theorem dX12_shortNow_9 : decode cX12_shortNow 9 = .ok (.lcmp, 1) := by decide +kernel
theorem dX12_shortNow_10 : decode cX12_shortNow 10 = .ok (.ifCond .ne 5, 3) := by decide +kernel
theorem dX12_shortNow_13 : decode cX12_shortNow 13 = .ok (.lconst 0, 1) := by decide +kernel
theorem dX12_shortNow_14 : decode cX12_shortNow 14 = .ok (.lreturn, 1) := by decide +kernel
theorem dX12_shortNow_15 : decode cX12_shortNow 15 = .ok (.aload_n 0, 1) := by decide +kernel
theorem dX12_shortNow_16 : decode cX12_shortNow 16 = .ok (.getfield 184, 3) := by decide +kernel
theorem dX12_shortNow_19 : decode cX12_shortNow 19 = .ok (.i2l, 1) := by decide +kernel
theorem dX12_shortNow_20 : decode cX12_shortNow 20 = .ok (.bipush 31, 2) := by decide +kernel
theorem dX12_shortNow_22 : decode cX12_shortNow 22 = .ok (.lshl, 1) := by decide +kernel
theorem dX12_shortNow_23 : decode cX12_shortNow 23 = .ok (.aload_n 0, 1) := by decide +kernel
theorem dX12_shortNow_24 : decode cX12_shortNow 24 = .ok (.getfield 187, 3) := by decide +kernel
theorem dX12_shortNow_27 : decode cX12_shortNow 27 = .ok (.i2l, 1) := by decide +kernel
theorem dX12_shortNow_28 : decode cX12_shortNow 28 = .ok (.ldc2_w 211, 3) := by decide +kernel
theorem dX12_shortNow_31 : decode cX12_shortNow 31 = .ok (.ladd, 1) := by decide +kernel
theorem dX12_shortNow_32 : decode cX12_shortNow 32 = .ok (.bipush 23, 2) := by decide +kernel
theorem dX12_shortNow_34 : decode cX12_shortNow 34 = .ok (.lshl, 1) := by decide +kernel
theorem dX12_shortNow_35 : decode cX12_shortNow 35 = .ok (.ladd, 1) := by decide +kernel
theorem dX12_shortNow_36 : decode cX12_shortNow 36 = .ok (.aload_n 0, 1) := by decide +kernel
theorem dX12_shortNow_37 : decode cX12_shortNow 37 = .ok (.getfield 190, 3) := by decide +kernel
theorem dX12_shortNow_40 : decode cX12_shortNow 40 = .ok (.ladd, 1) := by decide +kernel
theorem dX12_shortNow_41 : decode cX12_shortNow 41 = .ok (.ldc2_w 213, 3) := by decide +kernel
theorem dX12_shortNow_44 : decode cX12_shortNow 44 = .ok (.lsub, 1) := by decide +kernel
theorem dX12_shortNow_45 : decode cX12_shortNow 45 = .ok (.lreturn, 1) := by decide +kernel
theorem dX12_cutNow_0 : decode cX12_cutNow 0 = .ok (.aload_n 0, 1) := by decide +kernel
theorem dX12_cutNow_1 : decode cX12_cutNow 1 = .ok (.invokevirtual 208, 3) := by decide +kernel
theorem dX12_cutNow_4 : decode cX12_cutNow 4 = .ok (.aload_n 0, 1) := by decide +kernel
theorem dX12_cutNow_5 : decode cX12_cutNow 5 = .ok (.getfield 190, 3) := by decide +kernel
theorem dX12_cutNow_8 : decode cX12_cutNow 8 = .ok (.lconst 0, 1) := by decide +kernel
theorem dX12_cutNow_9 : decode cX12_cutNow 9 = .ok (.lcmp, 1) := by decide +kernel
theorem dX12_cutNow_10 : decode cX12_cutNow 10 = .ok (.ifCond .ne 5, 3) := by decide +kernel
theorem dX12_cutNow_13 : decode cX12_cutNow 13 = .ok (.lconst 0, 1) := by decide +kernel
theorem dX12_cutNow_14 : decode cX12_cutNow 14 = .ok (.lreturn, 1) := by decide +kernel
theorem dX12_cutNow_15 : decode cX12_cutNow 15 = .ok (.aload_n 0, 1) := by decide +kernel
theorem dX12_cutNow_16 : decode cX12_cutNow 16 = .ok (.dup, 1) := by decide +kernel
theorem dX12_cutNow_17 : decode cX12_cutNow 17 = .ok (.getfield 190, 3) := by decide +kernel
theorem dX12_cutNow_20 : decode cX12_cutNow 20 = .ok (.ldc2_w 215, 3) := by decide +kernel
theorem dX12_cutNow_23 : decode cX12_cutNow 23 = .ok (.lmul, 1) := by decide +kernel
theorem dX12_cutNow_24 : decode cX12_cutNow 24 = .ok (.putfield 190, 3) := by decide +kernel
theorem dX12_cutNow_27 : decode cX12_cutNow 27 = .ok (.iconst 0, 1) := by decide +kernel
theorem dX12_cutNow_28 : decode cX12_cutNow 28 = .ok (.istore_n 1, 1) := by decide +kernel
theorem dX12_cutNow_29 : decode cX12_cutNow 29 = .ok (.aload_n 0, 1) := by decide +kernel
theorem dX12_cutNow_30 : decode cX12_cutNow 30 = .ok (.getfield 190, 3) := by decide +kernel
theorem dX12_cutNow_33 : decode cX12_cutNow 33 = .ok (.iload_n 1, 1) := by decide +kernel
theorem dX12_cutNow_34 : decode cX12_cutNow 34 = .ok (.lshr, 1) := by decide +kernel
theorem dX12_cutNow_35 : decode cX12_cutNow 35 = .ok (.ldc2_w 217, 3) := by decide +kernel
theorem dX12_cutNow_38 : decode cX12_cutNow 38 = .ok (.lcmp, 1) := by decide +kernel
theorem dX12_cutNow_39 : decode cX12_cutNow 39 = .ok (.ifCond .lt 9, 3) := by decide +kernel
theorem dX12_cutNow_42 : decode cX12_cutNow 42 = .ok (.iinc 1 1, 3) := by decide +kernel
theorem dX12_cutNow_45 : decode cX12_cutNow 45 = .ok (.goto (-16), 3) := by decide +kernel
theorem dX12_cutNow_48 : decode cX12_cutNow 48 = .ok (.aload_n 0, 1) := by decide +kernel
theorem dX12_cutNow_49 : decode cX12_cutNow 49 = .ok (.dup, 1) := by decide +kernel
theorem dX12_cutNow_50 : decode cX12_cutNow 50 = .ok (.getfield 187, 3) := by decide +kernel
theorem dX12_cutNow_53 : decode cX12_cutNow 53 = .ok (.iload_n 1, 1) := by decide +kernel
theorem dX12_cutNow_54 : decode cX12_cutNow 54 = .ok (.iadd, 1) := by decide +kernel
theorem dX12_cutNow_55 : decode cX12_cutNow 55 = .ok (.putfield 187, 3) := by decide +kernel
theorem dX12_cutNow_58 : decode cX12_cutNow 58 = .ok (.aload_n 0, 1) := by decide +kernel
theorem dX12_cutNow_59 : decode cX12_cutNow 59 = .ok (.iload_n 1, 1) := by decide +kernel
theorem dX12_cutNow_60 : decode cX12_cutNow 60 = .ok (.bipush 24, 2) := by decide +kernel
theorem dX12_cutNow_62 : decode cX12_cutNow 62 = .ok (.invokevirtual 205, 3) := by decide +kernel
theorem dX12_cutNow_65 : decode cX12_cutNow 65 = .ok (.aload_n 0, 1) := by decide +kernel
theorem dX12_cutNow_66 : decode cX12_cutNow 66 = .ok (.getfield 187, 3) := by decide +kernel
theorem dX12_cutNow_69 : decode cX12_cutNow 69 = .ok (.bipush 23, 2) := by decide +kernel
theorem dX12_cutNow_71 : decode cX12_cutNow 71 = .ok (.isub, 1) := by decide +kernel
theorem dX12_cutNow_72 : decode cX12_cutNow 72 = .ok (.istore_n 2, 1) := by decide +kernel
theorem dX12_cutNow_73 : decode cX12_cutNow 73 = .ok (.aload_n 0, 1) := by decide +kernel
theorem dX12_cutNow_74 : decode cX12_cutNow 74 = .ok (.getfield 190, 3) := by decide +kernel
theorem dX12_cutNow_77 : decode cX12_cutNow 77 = .ok (.lstore_n 3, 1) := by decide +kernel
theorem dX12_cutNow_78 : decode cX12_cutNow 78 = .ok (.iconst 0, 1) := by decide +kernel
theorem dX12_cutNow_79 : decode cX12_cutNow 79 = .ok (.istore 5, 2) := by decide +kernel
theorem dX12_cutNow_81 : decode cX12_cutNow 81 = .ok (.iload 5, 2) := by decide +kernel
theorem dX12_cutNow_83 : decode cX12_cutNow 83 = .ok (.iload_n 2, 1) := by decide +kernel
theorem dX12_cutNow_84 : decode cX12_cutNow 84 = .ok (.if_icmp .ge 23, 3) := by decide +kernel
theorem dX12_cutNow_87 : decode cX12_cutNow 87 = .ok (.lload_n 3, 1) := by decide +kernel
theorem dX12_cutNow_88 : decode cX12_cutNow 88 = .ok (.ldc2_w 219, 3) := by decide +kernel
theorem dX12_cutNow_91 : decode cX12_cutNow 91 = .ok (.lcmp, 1) := by decide +kernel
theorem dX12_cutNow_92 : decode cX12_cutNow 92 = .ok (.ifCond .ge 15, 3) := by decide +kernel
theorem dX12_cutNow_95 : decode cX12_cutNow 95 = .ok (.lload_n 3, 1) := by decide +kernel
theorem dX12_cutNow_96 : decode cX12_cutNow 96 = .ok (.ldc2_w 151, 3) := by decide +kernel
theorem dX12_cutNow_99 : decode cX12_cutNow 99 = .ok (.lmul, 1) := by decide +kernel
theorem dX12_cutNow_100 : decode cX12_cutNow 100 = .ok (.lstore_n 3, 1) := by decide +kernel
theorem dX12_cutNow_101 : decode cX12_cutNow 101 = .ok (.iinc 5 1, 3) := by decide +kernel
theorem dX12_cutNow_104 : decode cX12_cutNow 104 = .ok (.goto (-23), 3) := by decide +kernel
theorem dX12_cutNow_107 : decode cX12_cutNow 107 = .ok (.iload_n 2, 1) := by decide +kernel
theorem dX12_cutNow_108 : decode cX12_cutNow 108 = .ok (.istore 5, 2) := by decide +kernel
theorem dX12_cutNow_110 : decode cX12_cutNow 110 = .ok (.iload 5, 2) := by decide +kernel
theorem dX12_cutNow_112 : decode cX12_cutNow 112 = .ok (.ifCond .ge 15, 3) := by decide +kernel
theorem dX12_cutNow_115 : decode cX12_cutNow 115 = .ok (.lload_n 3, 1) := by decide +kernel
theorem dX12_cutNow_116 : decode cX12_cutNow 116 = .ok (.ldc2_w 151, 3) := by decide +kernel
theorem dX12_cutNow_119 : decode cX12_cutNow 119 = .ok (.ldiv, 1) := by decide +kernel
theorem dX12_cutNow_120 : decode cX12_cutNow 120 = .ok (.lstore_n 3, 1) := by decide +kernel
theorem dX12_cutNow_121 : decode cX12_cutNow 121 = .ok (.iinc 5 1, 3) := by decide +kernel
theorem dX12_cutNow_124 : decode cX12_cutNow 124 = .ok (.goto (-14), 3) := by decide +kernel
theorem dX12_cutNow_127 : decode cX12_cutNow 127 = .ok (.aload_n 0, 1) := by decide +kernel
theorem dX12_cutNow_128 : decode cX12_cutNow 128 = .ok (.getfield 184, 3) := by decide +kernel
theorem dX12_cutNow_131 : decode cX12_cutNow 131 = .ok (.iconst 1, 1) := by decide +kernel
theorem dX12_cutNow_132 : decode cX12_cutNow 132 = .ok (.if_icmp .ne 22, 3) := by decide +kernel
theorem dX12_cutNow_135 : decode cX12_cutNow 135 = .ok (.lload_n 3, 1) := by decide +kernel
theorem dX12_cutNow_136 : decode cX12_cutNow 136 = .ok (.ldc2_w 221, 3) := by decide +kernel
theorem dX12_cutNow_139 : decode cX12_cutNow 139 = .ok (.lcmp, 1) := by decide +kernel
theorem dX12_cutNow_140 : decode cX12_cutNow 140 = .ok (.ifCond .le 9, 3) := by decide +kernel
theorem dX12_cutNow_143 : decode cX12_cutNow 143 = .ok (.ldc2_w 223, 3) := by decide +kernel
theorem dX12_cutNow_146 : decode cX12_cutNow 146 = .ok (.goto 23, 3) := by decide +kernel
theorem dX12_cutNow_149 : decode cX12_cutNow 149 = .ok (.lload_n 3, 1) := by decide +kernel
theorem dX12_cutNow_150 : decode cX12_cutNow 150 = .ok (.lneg, 1) := by decide +kernel
theorem dX12_cutNow_151 : decode cX12_cutNow 151 = .ok (.goto 18, 3) := by decide +kernel
theorem dX12_cutNow_154 : decode cX12_cutNow 154 = .ok (.lload_n 3, 1) := by decide +kernel
theorem dX12_cutNow_155 : decode cX12_cutNow 155 = .ok (.ldc2_w 225, 3) := by decide +kernel
theorem dX12_cutNow_158 : decode cX12_cutNow 158 = .ok (.lcmp, 1) := by decide +kernel
theorem dX12_cutNow_159 : decode cX12_cutNow 159 = .ok (.ifCond .le 9, 3) := by decide +kernel
theorem dX12_cutNow_162 : decode cX12_cutNow 162 = .ok (.ldc2_w 225, 3) := by decide +kernel
theorem dX12_cutNow_165 : decode cX12_cutNow 165 = .ok (.goto 4, 3) := by decide +kernel
theorem dX12_cutNow_168 : decode cX12_cutNow 168 = .ok (.lload_n 3, 1) := by decide +kernel
theorem dX12_cutNow_169 : decode cX12_cutNow 169 = .ok (.lreturn, 1) := by decide +kernel
theorem dX12_toldOfPrime_0 : decode cX12_toldOfPrime 0 = .ok (.iload_n 1, 1) := by decide +kernel
theorem dX12_toldOfPrime_1 : decode cX12_toldOfPrime 1 = .ok (.tableswitch 154 8 17 #[55, 68, 73, 86, 91, 107, 123, 139, 144, 149], 55) := by decide +kernel
theorem dX12_toldOfPrime_56 : decode cX12_toldOfPrime 56 = .ok (.aload_n 0, 1) := by decide +kernel
theorem dX12_toldOfPrime_57 : decode cX12_toldOfPrime 57 = .ok (.invokevirtual 227, 3) := by decide +kernel
theorem dX12_toldOfPrime_60 : decode cX12_toldOfPrime 60 = .ok (.ifCond .eq 7, 3) := by decide +kernel
theorem dX12_toldOfPrime_63 : decode cX12_toldOfPrime 63 = .ok (.iconst 1, 1) := by decide +kernel
theorem dX12_toldOfPrime_64 : decode cX12_toldOfPrime 64 = .ok (.goto 4, 3) := by decide +kernel
theorem dX12_toldOfPrime_67 : decode cX12_toldOfPrime 67 = .ok (.iconst 0, 1) := by decide +kernel
theorem dX12_toldOfPrime_68 : decode cX12_toldOfPrime 68 = .ok (.ireturn, 1) := by decide +kernel
theorem dX12_toldOfPrime_69 : decode cX12_toldOfPrime 69 = .ok (.aload_n 0, 1) := by decide +kernel
theorem dX12_toldOfPrime_70 : decode cX12_toldOfPrime 70 = .ok (.invokevirtual 231, 3) := by decide +kernel
theorem dX12_toldOfPrime_73 : decode cX12_toldOfPrime 73 = .ok (.ireturn, 1) := by decide +kernel
theorem dX12_toldOfPrime_74 : decode cX12_toldOfPrime 74 = .ok (.aload_n 0, 1) := by decide +kernel
theorem dX12_toldOfPrime_75 : decode cX12_toldOfPrime 75 = .ok (.aload_n 0, 1) := by decide +kernel
theorem dX12_toldOfPrime_76 : decode cX12_toldOfPrime 76 = .ok (.invokevirtual 85, 3) := by decide +kernel
theorem dX12_toldOfPrime_79 : decode cX12_toldOfPrime 79 = .ok (.aload_n 0, 1) := by decide +kernel
theorem dX12_toldOfPrime_80 : decode cX12_toldOfPrime 80 = .ok (.invokevirtual 128, 3) := by decide +kernel
theorem dX12_toldOfPrime_83 : decode cX12_toldOfPrime 83 = .ok (.invokevirtual 95, 3) := by decide +kernel
theorem dX12_toldOfPrime_86 : decode cX12_toldOfPrime 86 = .ok (.ireturn, 1) := by decide +kernel
theorem dX12_toldOfPrime_87 : decode cX12_toldOfPrime 87 = .ok (.aload_n 0, 1) := by decide +kernel
theorem dX12_toldOfPrime_88 : decode cX12_toldOfPrime 88 = .ok (.invokevirtual 234, 3) := by decide +kernel
theorem dX12_toldOfPrime_91 : decode cX12_toldOfPrime 91 = .ok (.ireturn, 1) := by decide +kernel
theorem dX12_toldOfPrime_92 : decode cX12_toldOfPrime 92 = .ok (.aload_n 0, 1) := by decide +kernel
theorem dX12_toldOfPrime_93 : decode cX12_toldOfPrime 93 = .ok (.invokevirtual 227, 3) := by decide +kernel
theorem dX12_toldOfPrime_96 : decode cX12_toldOfPrime 96 = .ok (.ifCond .eq 7, 3) := by decide +kernel
theorem dX12_toldOfPrime_99 : decode cX12_toldOfPrime 99 = .ok (.iconst (-1), 1) := by decide +kernel
theorem dX12_toldOfPrime_100 : decode cX12_toldOfPrime 100 = .ok (.goto 7, 3) := by decide +kernel
theorem dX12_toldOfPrime_103 : decode cX12_toldOfPrime 103 = .ok (.aload_n 0, 1) := by decide +kernel
theorem dX12_toldOfPrime_104 : decode cX12_toldOfPrime 104 = .ok (.invokevirtual 237, 3) := by decide +kernel
theorem dX12_toldOfPrime_107 : decode cX12_toldOfPrime 107 = .ok (.ireturn, 1) := by decide +kernel
theorem dX12_toldOfPrime_108 : decode cX12_toldOfPrime 108 = .ok (.aload_n 0, 1) := by decide +kernel
theorem dX12_toldOfPrime_109 : decode cX12_toldOfPrime 109 = .ok (.invokevirtual 227, 3) := by decide +kernel
theorem dX12_toldOfPrime_112 : decode cX12_toldOfPrime 112 = .ok (.ifCond .eq 7, 3) := by decide +kernel
theorem dX12_toldOfPrime_115 : decode cX12_toldOfPrime 115 = .ok (.iconst (-1), 1) := by decide +kernel
theorem dX12_toldOfPrime_116 : decode cX12_toldOfPrime 116 = .ok (.goto 7, 3) := by decide +kernel
theorem dX12_toldOfPrime_119 : decode cX12_toldOfPrime 119 = .ok (.aload_n 0, 1) := by decide +kernel
theorem dX12_toldOfPrime_120 : decode cX12_toldOfPrime 120 = .ok (.invokevirtual 181, 3) := by decide +kernel
theorem dX12_toldOfPrime_123 : decode cX12_toldOfPrime 123 = .ok (.ireturn, 1) := by decide +kernel
theorem dX12_toldOfPrime_124 : decode cX12_toldOfPrime 124 = .ok (.aload_n 0, 1) := by decide +kernel
theorem dX12_toldOfPrime_125 : decode cX12_toldOfPrime 125 = .ok (.invokevirtual 227, 3) := by decide +kernel
theorem dX12_toldOfPrime_128 : decode cX12_toldOfPrime 128 = .ok (.ifCond .eq 7, 3) := by decide +kernel
theorem dX12_toldOfPrime_131 : decode cX12_toldOfPrime 131 = .ok (.iconst (-1), 1) := by decide +kernel
theorem dX12_toldOfPrime_132 : decode cX12_toldOfPrime 132 = .ok (.goto 7, 3) := by decide +kernel
theorem dX12_toldOfPrime_135 : decode cX12_toldOfPrime 135 = .ok (.aload_n 0, 1) := by decide +kernel
theorem dX12_toldOfPrime_136 : decode cX12_toldOfPrime 136 = .ok (.invokevirtual 240, 3) := by decide +kernel
theorem dX12_toldOfPrime_139 : decode cX12_toldOfPrime 139 = .ok (.ireturn, 1) := by decide +kernel
theorem dX12_toldOfPrime_140 : decode cX12_toldOfPrime 140 = .ok (.aload_n 0, 1) := by decide +kernel
theorem dX12_toldOfPrime_141 : decode cX12_toldOfPrime 141 = .ok (.getfield 243, 3) := by decide +kernel
theorem dX12_toldOfPrime_144 : decode cX12_toldOfPrime 144 = .ok (.ireturn, 1) := by decide +kernel
theorem dX12_toldOfPrime_145 : decode cX12_toldOfPrime 145 = .ok (.aload_n 0, 1) := by decide +kernel
theorem dX12_toldOfPrime_146 : decode cX12_toldOfPrime 146 = .ok (.invokevirtual 246, 3) := by decide +kernel
theorem dX12_toldOfPrime_149 : decode cX12_toldOfPrime 149 = .ok (.ireturn, 1) := by decide +kernel
theorem dX12_toldOfPrime_150 : decode cX12_toldOfPrime 150 = .ok (.aload_n 0, 1) := by decide +kernel
theorem dX12_toldOfPrime_151 : decode cX12_toldOfPrime 151 = .ok (.getfield 43, 3) := by decide +kernel
theorem dX12_toldOfPrime_154 : decode cX12_toldOfPrime 154 = .ok (.ireturn, 1) := by decide +kernel
theorem dX12_toldOfPrime_155 : decode cX12_toldOfPrime 155 = .ok (.ldc 249, 2) := by decide +kernel
theorem dX12_toldOfPrime_157 : decode cX12_toldOfPrime 157 = .ok (.ireturn, 1) := by decide +kernel
theorem dX12_told_0 : decode cX12_told 0 = .ok (.iload_n 1, 1) := by decide +kernel
theorem dX12_told_1 : decode cX12_told 1 = .ok (.tableswitch 92 0 7 #[47, 52, 57, 66, 71, 77, 82, 87], 47) := by decide +kernel
theorem dX12_told_48 : decode cX12_told 48 = .ok (.aload_n 0, 1) := by decide +kernel
theorem dX12_told_49 : decode cX12_told 49 = .ok (.invokevirtual 81, 3) := by decide +kernel
theorem dX12_told_52 : decode cX12_told 52 = .ok (.ireturn, 1) := by decide +kernel
theorem dX12_told_53 : decode cX12_told 53 = .ok (.aload_n 0, 1) := by decide +kernel
theorem dX12_told_54 : decode cX12_told 54 = .ok (.invokevirtual 128, 3) := by decide +kernel
theorem dX12_told_57 : decode cX12_told 57 = .ok (.ireturn, 1) := by decide +kernel
theorem dX12_told_58 : decode cX12_told 58 = .ok (.aload_n 0, 1) := by decide +kernel
theorem dX12_told_59 : decode cX12_told 59 = .ok (.invokevirtual 91, 3) := by decide +kernel
theorem dX12_told_62 : decode cX12_told 62 = .ok (.l2i, 1) := by decide +kernel
theorem dX12_told_63 : decode cX12_told 63 = .ok (.ldc 250, 2) := by decide +kernel
theorem dX12_told_65 : decode cX12_told 65 = .ok (.iadd, 1) := by decide +kernel
theorem dX12_told_66 : decode cX12_told 66 = .ok (.ireturn, 1) := by decide +kernel
theorem dX12_told_67 : decode cX12_told 67 = .ok (.aload_n 0, 1) := by decide +kernel
theorem dX12_told_68 : decode cX12_told 68 = .ok (.invokevirtual 119, 3) := by decide +kernel
theorem dX12_told_71 : decode cX12_told 71 = .ok (.ireturn, 1) := by decide +kernel
theorem dX12_told_72 : decode cX12_told 72 = .ok (.aload_n 0, 1) := by decide +kernel
theorem dX12_told_73 : decode cX12_told 73 = .ok (.iconst 0, 1) := by decide +kernel
theorem dX12_told_74 : decode cX12_told 74 = .ok (.invokevirtual 125, 3) := by decide +kernel
theorem dX12_told_77 : decode cX12_told 77 = .ok (.ireturn, 1) := by decide +kernel
theorem dX12_told_78 : decode cX12_told 78 = .ok (.aload_n 0, 1) := by decide +kernel
theorem dX12_told_79 : decode cX12_told 79 = .ok (.invokevirtual 251, 3) := by decide +kernel
theorem dX12_told_82 : decode cX12_told 82 = .ok (.ireturn, 1) := by decide +kernel
theorem dX12_told_83 : decode cX12_told 83 = .ok (.aload_n 0, 1) := by decide +kernel
theorem dX12_told_84 : decode cX12_told 84 = .ok (.invokevirtual 109, 3) := by decide +kernel
theorem dX12_told_87 : decode cX12_told 87 = .ok (.ireturn, 1) := by decide +kernel
theorem dX12_told_88 : decode cX12_told 88 = .ok (.aload_n 0, 1) := by decide +kernel
theorem dX12_told_89 : decode cX12_told 89 = .ok (.invokevirtual 254, 3) := by decide +kernel
theorem dX12_told_92 : decode cX12_told 92 = .ok (.ireturn, 1) := by decide +kernel
theorem dX12_told_93 : decode cX12_told 93 = .ok (.aload_n 0, 1) := by decide +kernel
theorem dX12_told_94 : decode cX12_told 94 = .ok (.iload_n 1, 1) := by decide +kernel
theorem dX12_told_95 : decode cX12_told 95 = .ok (.invokevirtual 257, 3) := by decide +kernel
theorem dX12_told_98 : decode cX12_told 98 = .ok (.ireturn, 1) := by decide +kernel
theorem dX12_isRow_0 : decode cX12_isRow 0 = .ok (.iload_n 1, 1) := by decide +kernel
theorem dX12_isRow_1 : decode cX12_isRow 1 = .ok (.i2l, 1) := by decide +kernel
theorem dX12_isRow_2 : decode cX12_isRow 2 = .ok (.lconst 0, 1) := by decide +kernel
theorem dX12_isRow_3 : decode cX12_isRow 3 = .ok (.aload_n 0, 1) := by decide +kernel
theorem dX12_isRow_4 : decode cX12_isRow 4 = .ok (.invokevirtual 81, 3) := by decide +kernel
theorem dX12_isRow_7 : decode cX12_isRow 7 = .ok (.iconst 1, 1) := by decide +kernel
theorem dX12_isRow_8 : decode cX12_isRow 8 = .ok (.isub, 1) := by decide +kernel
theorem dX12_isRow_9 : decode cX12_isRow 9 = .ok (.i2l, 1) := by decide +kernel
theorem dX12_isRow_10 : decode cX12_isRow 10 = .ok (.invokestatic 164, 3) := by decide +kernel
theorem dX12_isRow_13 : decode cX12_isRow 13 = .ok (.ireturn, 1) := by decide +kernel
theorem dX12_at_0 : decode cX12_at 0 = .ok (.aload_n 0, 1) := by decide +kernel
theorem dX12_at_1 : decode cX12_at 1 = .ok (.iload_n 1, 1) := by decide +kernel
theorem dX12_at_2 : decode cX12_at 2 = .ok (.invokevirtual 260, 3) := by decide +kernel
theorem dX12_at_5 : decode cX12_at 5 = .ok (.ifCond .eq 17, 3) := by decide +kernel
theorem dX12_at_8 : decode cX12_at 8 = .ok (.iload_n 2, 1) := by decide +kernel
theorem dX12_at_9 : decode cX12_at 9 = .ok (.i2l, 1) := by decide +kernel
theorem dX12_at_10 : decode cX12_at 10 = .ok (.lconst 0, 1) := by decide +kernel
theorem dX12_at_11 : decode cX12_at 11 = .ok (.aload_n 0, 1) := by decide +kernel
theorem dX12_at_12 : decode cX12_at 12 = .ok (.invokevirtual 81, 3) := by decide +kernel
theorem dX12_at_15 : decode cX12_at 15 = .ok (.i2l, 1) := by decide +kernel
theorem dX12_at_16 : decode cX12_at 16 = .ok (.invokestatic 164, 3) := by decide +kernel
theorem dX12_at_19 : decode cX12_at 19 = .ok (.ifCond .ne 7, 3) := by decide +kernel
theorem dX12_at_22 : decode cX12_at 22 = .ok (.ldc_w 263, 3) := by decide +kernel
theorem dX12_at_25 : decode cX12_at 25 = .ok (.ireturn, 1) := by decide +kernel
theorem dX12_at_26 : decode cX12_at 26 = .ok (.aload_n 0, 1) := by decide +kernel
theorem dX12_at_27 : decode cX12_at 27 = .ok (.iload_n 1, 1) := by decide +kernel
theorem dX12_at_28 : decode cX12_at 28 = .ok (.iload_n 2, 1) := by decide +kernel
theorem dX12_at_29 : decode cX12_at 29 = .ok (.aload_n 0, 1) := by decide +kernel
theorem dX12_at_30 : decode cX12_at 30 = .ok (.invokevirtual 81, 3) := by decide +kernel
theorem dX12_at_33 : decode cX12_at 33 = .ok (.if_icmp .ne 7, 3) := by decide +kernel
theorem dX12_at_36 : decode cX12_at 36 = .ok (.iconst 4, 1) := by decide +kernel
theorem dX12_at_37 : decode cX12_at 37 = .ok (.goto 4, 3) := by decide +kernel
theorem dX12_at_40 : decode cX12_at 40 = .ok (.iload_n 2, 1) := by decide +kernel
theorem dX12_at_41 : decode cX12_at 41 = .ok (.invokevirtual 51, 3) := by decide +kernel
theorem dX12_at_44 : decode cX12_at 44 = .ok (.l2i, 1) := by decide +kernel
theorem dX12_at_45 : decode cX12_at 45 = .ok (.bipush 100, 2) := by decide +kernel
theorem dX12_at_47 : decode cX12_at 47 = .ok (.iadd, 1) := by decide +kernel
theorem dX12_at_48 : decode cX12_at 48 = .ok (.ireturn, 1) := by decide +kernel
theorem dX12_cleared_0 : decode cX12_cleared 0 = .ok (.iload_n 1, 1) := by decide +kernel
theorem dX12_cleared_1 : decode cX12_cleared 1 = .ok (.i2l, 1) := by decide +kernel
theorem dX12_cleared_2 : decode cX12_cleared 2 = .ok (.lconst 0, 1) := by decide +kernel
theorem dX12_cleared_3 : decode cX12_cleared 3 = .ok (.aload_n 0, 1) := by decide +kernel
theorem dX12_cleared_4 : decode cX12_cleared 4 = .ok (.invokevirtual 119, 3) := by decide +kernel
theorem dX12_cleared_7 : decode cX12_cleared 7 = .ok (.iconst 1, 1) := by decide +kernel
theorem dX12_cleared_8 : decode cX12_cleared 8 = .ok (.isub, 1) := by decide +kernel
theorem dX12_cleared_9 : decode cX12_cleared 9 = .ok (.i2l, 1) := by decide +kernel
theorem dX12_cleared_10 : decode cX12_cleared 10 = .ok (.invokestatic 164, 3) := by decide +kernel
theorem dX12_cleared_13 : decode cX12_cleared 13 = .ok (.ifCond .eq 11, 3) := by decide +kernel
theorem dX12_cleared_16 : decode cX12_cleared 16 = .ok (.aload_n 0, 1) := by decide +kernel
theorem dX12_cleared_17 : decode cX12_cleared 17 = .ok (.iload_n 2, 1) := by decide +kernel
theorem dX12_cleared_18 : decode cX12_cleared 18 = .ok (.invokevirtual 260, 3) := by decide +kernel
theorem dX12_cleared_21 : decode cX12_cleared 21 = .ok (.ifCond .ne 7, 3) := by decide +kernel
theorem dX12_cleared_24 : decode cX12_cleared 24 = .ok (.ldc_w 263, 3) := by decide +kernel
theorem dX12_cleared_27 : decode cX12_cleared 27 = .ok (.ireturn, 1) := by decide +kernel
theorem dX12_cleared_28 : decode cX12_cleared 28 = .ok (.iload_n 3, 1) := by decide +kernel
theorem dX12_cleared_29 : decode cX12_cleared 29 = .ok (.i2l, 1) := by decide +kernel
theorem dX12_cleared_30 : decode cX12_cleared 30 = .ok (.lconst 0, 1) := by decide +kernel
theorem dX12_cleared_31 : decode cX12_cleared 31 = .ok (.lconst 1, 1) := by decide +kernel
theorem dX12_cleared_32 : decode cX12_cleared 32 = .ok (.invokestatic 164, 3) := by decide +kernel
theorem dX12_cleared_35 : decode cX12_cleared 35 = .ok (.ifCond .ne 6, 3) := by decide +kernel
theorem dX12_cleared_38 : decode cX12_cleared 38 = .ok (.ldc 249, 2) := by decide +kernel
theorem dX12_cleared_40 : decode cX12_cleared 40 = .ok (.ireturn, 1) := by decide +kernel
theorem dX12_cleared_41 : decode cX12_cleared 41 = .ok (.aload_n 0, 1) := by decide +kernel
theorem dX12_cleared_42 : decode cX12_cleared 42 = .ok (.iload_n 1, 1) := by decide +kernel
theorem dX12_cleared_43 : decode cX12_cleared 43 = .ok (.iload_n 2, 1) := by decide +kernel
theorem dX12_cleared_44 : decode cX12_cleared 44 = .ok (.invokevirtual 122, 3) := by decide +kernel
theorem dX12_cleared_47 : decode cX12_cleared 47 = .ok (.iload_n 3, 1) := by decide +kernel
theorem dX12_cleared_48 : decode cX12_cleared 48 = .ok (.ifCond .ne 14, 3) := by decide +kernel
theorem dX12_cleared_51 : decode cX12_cleared 51 = .ok (.aload_n 0, 1) := by decide +kernel
theorem dX12_cleared_52 : decode cX12_cleared 52 = .ok (.getfield 102, 3) := by decide +kernel
theorem dX12_cleared_55 : decode cX12_cleared 55 = .ok (.l2i, 1) := by decide +kernel
theorem dX12_cleared_56 : decode cX12_cleared 56 = .ok (.ldc 250, 2) := by decide +kernel
theorem dX12_cleared_58 : decode cX12_cleared 58 = .ok (.iadd, 1) := by decide +kernel
theorem dX12_cleared_59 : decode cX12_cleared 59 = .ok (.goto 8, 3) := by decide +kernel
theorem dX12_cleared_62 : decode cX12_cleared 62 = .ok (.aload_n 0, 1) := by decide +kernel
theorem dX12_cleared_63 : decode cX12_cleared 63 = .ok (.getfield 106, 3) := by decide +kernel
theorem dX12_cleared_66 : decode cX12_cleared 66 = .ok (.l2i, 1) := by decide +kernel
theorem dX12_cleared_67 : decode cX12_cleared 67 = .ok (.ireturn, 1) := by decide +kernel
theorem dX12_solution_0 : decode cX12_solution 0 = .ok (.aload_n 0, 1) := by decide +kernel
theorem dX12_solution_1 : decode cX12_solution 1 = .ok (.iload_n 1, 1) := by decide +kernel
theorem dX12_solution_2 : decode cX12_solution 2 = .ok (.invokevirtual 260, 3) := by decide +kernel
theorem dX12_solution_5 : decode cX12_solution 5 = .ok (.ifCond .ne 7, 3) := by decide +kernel
theorem dX12_solution_8 : decode cX12_solution 8 = .ok (.ldc_w 263, 3) := by decide +kernel
theorem dX12_solution_11 : decode cX12_solution 11 = .ok (.ireturn, 1) := by decide +kernel
theorem dX12_solution_12 : decode cX12_solution 12 = .ok (.iload_n 2, 1) := by decide +kernel
theorem dX12_solution_13 : decode cX12_solution 13 = .ok (.i2l, 1) := by decide +kernel
theorem dX12_solution_14 : decode cX12_solution 14 = .ok (.lconst 0, 1) := by decide +kernel
theorem dX12_solution_15 : decode cX12_solution 15 = .ok (.lconst 1, 1) := by decide +kernel
theorem dX12_solution_16 : decode cX12_solution 16 = .ok (.invokestatic 164, 3) := by decide +kernel
theorem dX12_solution_19 : decode cX12_solution 19 = .ok (.ifCond .ne 6, 3) := by decide +kernel
theorem dX12_solution_22 : decode cX12_solution 22 = .ok (.ldc 249, 2) := by decide +kernel
theorem dX12_solution_24 : decode cX12_solution 24 = .ok (.ireturn, 1) := by decide +kernel
theorem dX12_solution_25 : decode cX12_solution 25 = .ok (.aload_n 0, 1) := by decide +kernel
theorem dX12_solution_26 : decode cX12_solution 26 = .ok (.invokevirtual 251, 3) := by decide +kernel
theorem dX12_solution_29 : decode cX12_solution 29 = .ok (.ifCond .ne 5, 3) := by decide +kernel
theorem dX12_solution_32 : decode cX12_solution 32 = .ok (.iconst (-1), 1) := by decide +kernel
theorem dX12_solution_33 : decode cX12_solution 33 = .ok (.ireturn, 1) := by decide +kernel
theorem dX12_solution_34 : decode cX12_solution 34 = .ok (.aload_n 0, 1) := by decide +kernel
theorem dX12_solution_35 : decode cX12_solution 35 = .ok (.iload_n 1, 1) := by decide +kernel
theorem dX12_solution_36 : decode cX12_solution 36 = .ok (.invokevirtual 137, 3) := by decide +kernel
theorem dX12_solution_39 : decode cX12_solution 39 = .ok (.iload_n 2, 1) := by decide +kernel
theorem dX12_solution_40 : decode cX12_solution 40 = .ok (.ifCond .ne 14, 3) := by decide +kernel
theorem dX12_solution_43 : decode cX12_solution 43 = .ok (.aload_n 0, 1) := by decide +kernel
theorem dX12_solution_44 : decode cX12_solution 44 = .ok (.getfield 102, 3) := by decide +kernel
theorem dX12_solution_47 : decode cX12_solution 47 = .ok (.l2i, 1) := by decide +kernel
theorem dX12_solution_48 : decode cX12_solution 48 = .ok (.ldc 250, 2) := by decide +kernel
theorem dX12_solution_50 : decode cX12_solution 50 = .ok (.iadd, 1) := by decide +kernel
theorem dX12_solution_51 : decode cX12_solution 51 = .ok (.goto 8, 3) := by decide +kernel
theorem dX12_solution_54 : decode cX12_solution 54 = .ok (.aload_n 0, 1) := by decide +kernel
theorem dX12_solution_55 : decode cX12_solution 55 = .ok (.getfield 106, 3) := by decide +kernel
theorem dX12_solution_58 : decode cX12_solution 58 = .ok (.l2i, 1) := by decide +kernel
theorem dX12_solution_59 : decode cX12_solution 59 = .ok (.ireturn, 1) := by decide +kernel
theorem dX12_nothing_0 : decode cX12_nothing 0 = .ok (.aload_n 0, 1) := by decide +kernel
theorem dX12_nothing_1 : decode cX12_nothing 1 = .ok (.iload_n 1, 1) := by decide +kernel
theorem dX12_nothing_2 : decode cX12_nothing 2 = .ok (.invokevirtual 260, 3) := by decide +kernel
theorem dX12_nothing_5 : decode cX12_nothing 5 = .ok (.ifCond .ne 7, 3) := by decide +kernel
theorem dX12_nothing_8 : decode cX12_nothing 8 = .ok (.ldc_w 263, 3) := by decide +kernel
theorem dX12_nothing_11 : decode cX12_nothing 11 = .ok (.ireturn, 1) := by decide +kernel
theorem dX12_nothing_12 : decode cX12_nothing 12 = .ok (.aload_n 0, 1) := by decide +kernel
theorem dX12_nothing_13 : decode cX12_nothing 13 = .ok (.invokevirtual 119, 3) := by decide +kernel
theorem dX12_nothing_16 : decode cX12_nothing 16 = .ok (.aload_n 0, 1) := by decide +kernel
theorem dX12_nothing_17 : decode cX12_nothing 17 = .ok (.invokevirtual 81, 3) := by decide +kernel
theorem dX12_nothing_20 : decode cX12_nothing 20 = .ok (.if_icmp .ne 5, 3) := by decide +kernel
theorem dX12_nothing_23 : decode cX12_nothing 23 = .ok (.iconst (-1), 1) := by decide +kernel
theorem dX12_nothing_24 : decode cX12_nothing 24 = .ok (.ireturn, 1) := by decide +kernel
theorem dX12_nothing_25 : decode cX12_nothing 25 = .ok (.aload_n 0, 1) := by decide +kernel
theorem dX12_nothing_26 : decode cX12_nothing 26 = .ok (.invokevirtual 264, 3) := by decide +kernel
theorem dX12_nothing_29 : decode cX12_nothing 29 = .ok (.aload_n 0, 1) := by decide +kernel
theorem dX12_nothing_30 : decode cX12_nothing 30 = .ok (.getfield 31, 3) := by decide +kernel
theorem dX12_nothing_33 : decode cX12_nothing 33 = .ok (.iload_n 1, 1) := by decide +kernel
theorem dX12_nothing_34 : decode cX12_nothing 34 = .ok (.laload, 1) := by decide +kernel
theorem dX12_nothing_35 : decode cX12_nothing 35 = .ok (.l2i, 1) := by decide +kernel
theorem dX12_nothing_36 : decode cX12_nothing 36 = .ok (.ldc 250, 2) := by decide +kernel
theorem dX12_nothing_38 : decode cX12_nothing 38 = .ok (.iadd, 1) := by decide +kernel
theorem dX12_nothing_39 : decode cX12_nothing 39 = .ok (.ireturn, 1) := by decide +kernel
theorem dX12_back_0 : decode cX12_back 0 = .ok (.aload_n 0, 1) := by decide +kernel
theorem dX12_back_1 : decode cX12_back 1 = .ok (.iload_n 1, 1) := by decide +kernel
theorem dX12_back_2 : decode cX12_back 2 = .ok (.invokevirtual 260, 3) := by decide +kernel
theorem dX12_back_5 : decode cX12_back 5 = .ok (.ifCond .eq 11, 3) := by decide +kernel
theorem dX12_back_8 : decode cX12_back 8 = .ok (.aload_n 0, 1) := by decide +kernel
theorem dX12_back_9 : decode cX12_back 9 = .ok (.iload_n 2, 1) := by decide +kernel
theorem dX12_back_10 : decode cX12_back 10 = .ok (.invokevirtual 260, 3) := by decide +kernel
theorem dX12_back_13 : decode cX12_back 13 = .ok (.ifCond .ne 7, 3) := by decide +kernel
theorem dX12_back_16 : decode cX12_back 16 = .ok (.ldc_w 263, 3) := by decide +kernel
theorem dX12_back_19 : decode cX12_back 19 = .ok (.ireturn, 1) := by decide +kernel
theorem dX12_back_20 : decode cX12_back 20 = .ok (.aload_n 0, 1) := by decide +kernel
theorem dX12_back_21 : decode cX12_back 21 = .ok (.invokevirtual 227, 3) := by decide +kernel
theorem dX12_back_24 : decode cX12_back 24 = .ok (.ifCond .eq 9, 3) := by decide +kernel
theorem dX12_back_27 : decode cX12_back 27 = .ok (.ldc_w 267, 3) := by decide +kernel
theorem dX12_back_30 : decode cX12_back 30 = .ok (.goto 10, 3) := by decide +kernel
theorem dX12_back_33 : decode cX12_back 33 = .ok (.aload_n 0, 1) := by decide +kernel
theorem dX12_back_34 : decode cX12_back 34 = .ok (.iload_n 1, 1) := by decide +kernel
theorem dX12_back_35 : decode cX12_back 35 = .ok (.iload_n 2, 1) := by decide +kernel
theorem dX12_back_36 : decode cX12_back 36 = .ok (.invokevirtual 268, 3) := by decide +kernel
theorem dX12_back_39 : decode cX12_back 39 = .ok (.l2i, 1) := by decide +kernel
theorem dX12_back_40 : decode cX12_back 40 = .ok (.ireturn, 1) := by decide +kernel
theorem dX12_digit_0 : decode cX12_digit 0 = .ok (.aload_n 0, 1) := by decide +kernel
theorem dX12_digit_1 : decode cX12_digit 1 = .ok (.iload_n 1, 1) := by decide +kernel
theorem dX12_digit_2 : decode cX12_digit 2 = .ok (.invokevirtual 260, 3) := by decide +kernel
theorem dX12_digit_5 : decode cX12_digit 5 = .ok (.ifCond .ne 7, 3) := by decide +kernel
theorem dX12_digit_8 : decode cX12_digit 8 = .ok (.ldc_w 263, 3) := by decide +kernel
theorem dX12_digit_11 : decode cX12_digit 11 = .ok (.ireturn, 1) := by decide +kernel
theorem dX12_digit_12 : decode cX12_digit 12 = .ok (.iload_n 2, 1) := by decide +kernel
theorem dX12_digit_13 : decode cX12_digit 13 = .ok (.i2l, 1) := by decide +kernel
theorem dX12_digit_14 : decode cX12_digit 14 = .ok (.lconst 0, 1) := by decide +kernel
theorem dX12_digit_15 : decode cX12_digit 15 = .ok (.ldc2_w 271, 3) := by decide +kernel
theorem dX12_digit_18 : decode cX12_digit 18 = .ok (.invokestatic 164, 3) := by decide +kernel
theorem dX12_digit_21 : decode cX12_digit 21 = .ok (.ifCond .ne 6, 3) := by decide +kernel
theorem dX12_digit_24 : decode cX12_digit 24 = .ok (.ldc 249, 2) := by decide +kernel
theorem dX12_digit_26 : decode cX12_digit 26 = .ok (.ireturn, 1) := by decide +kernel
theorem dX12_digit_27 : decode cX12_digit 27 = .ok (.aload_n 0, 1) := by decide +kernel
theorem dX12_digit_28 : decode cX12_digit 28 = .ok (.invokevirtual 227, 3) := by decide +kernel
theorem dX12_digit_31 : decode cX12_digit 31 = .ok (.ifCond .eq 9, 3) := by decide +kernel
theorem dX12_digit_34 : decode cX12_digit 34 = .ok (.ldc_w 267, 3) := by decide +kernel
theorem dX12_digit_37 : decode cX12_digit 37 = .ok (.goto 9, 3) := by decide +kernel
theorem dX12_digit_40 : decode cX12_digit 40 = .ok (.aload_n 0, 1) := by decide +kernel
theorem dX12_digit_41 : decode cX12_digit 41 = .ok (.iload_n 1, 1) := by decide +kernel
theorem dX12_digit_42 : decode cX12_digit 42 = .ok (.iload_n 2, 1) := by decide +kernel
theorem dX12_digit_43 : decode cX12_digit 43 = .ok (.invokevirtual 146, 3) := by decide +kernel
theorem dX12_digit_46 : decode cX12_digit 46 = .ok (.ireturn, 1) := by decide +kernel
theorem dX12_rest_0 : decode cX12_rest 0 = .ok (.aload_n 0, 1) := by decide +kernel
theorem dX12_rest_1 : decode cX12_rest 1 = .ok (.iload_n 1, 1) := by decide +kernel
theorem dX12_rest_2 : decode cX12_rest 2 = .ok (.invokevirtual 260, 3) := by decide +kernel
theorem dX12_rest_5 : decode cX12_rest 5 = .ok (.ifCond .ne 7, 3) := by decide +kernel
theorem dX12_rest_8 : decode cX12_rest 8 = .ok (.ldc_w 263, 3) := by decide +kernel
theorem dX12_rest_11 : decode cX12_rest 11 = .ok (.ireturn, 1) := by decide +kernel
theorem dX12_rest_12 : decode cX12_rest 12 = .ok (.iload_n 2, 1) := by decide +kernel
theorem dX12_rest_13 : decode cX12_rest 13 = .ok (.i2l, 1) := by decide +kernel
theorem dX12_rest_14 : decode cX12_rest 14 = .ok (.lconst 0, 1) := by decide +kernel
theorem dX12_rest_15 : decode cX12_rest 15 = .ok (.ldc2_w 273, 3) := by decide +kernel
theorem dX12_rest_18 : decode cX12_rest 18 = .ok (.invokestatic 164, 3) := by decide +kernel
theorem dX12_rest_21 : decode cX12_rest 21 = .ok (.ifCond .ne 6, 3) := by decide +kernel
theorem dX12_rest_24 : decode cX12_rest 24 = .ok (.ldc 249, 2) := by decide +kernel
theorem dX12_rest_26 : decode cX12_rest 26 = .ok (.ireturn, 1) := by decide +kernel
theorem dX12_rest_27 : decode cX12_rest 27 = .ok (.aload_n 0, 1) := by decide +kernel
theorem dX12_rest_28 : decode cX12_rest 28 = .ok (.invokevirtual 227, 3) := by decide +kernel
theorem dX12_rest_31 : decode cX12_rest 31 = .ok (.ifCond .eq 9, 3) := by decide +kernel
theorem dX12_rest_34 : decode cX12_rest 34 = .ok (.ldc_w 267, 3) := by decide +kernel
theorem dX12_rest_37 : decode cX12_rest 37 = .ok (.goto 13, 3) := by decide +kernel
theorem dX12_rest_40 : decode cX12_rest 40 = .ok (.aload_n 0, 1) := by decide +kernel
theorem dX12_rest_41 : decode cX12_rest 41 = .ok (.iload_n 1, 1) := by decide +kernel
theorem dX12_rest_42 : decode cX12_rest 42 = .ok (.iload_n 2, 1) := by decide +kernel
theorem dX12_rest_43 : decode cX12_rest 43 = .ok (.invokevirtual 275, 3) := by decide +kernel
theorem dX12_rest_46 : decode cX12_rest 46 = .ok (.l2i, 1) := by decide +kernel
theorem dX12_rest_47 : decode cX12_rest 47 = .ok (.ldc 250, 2) := by decide +kernel
theorem dX12_rest_49 : decode cX12_rest 49 = .ok (.iadd, 1) := by decide +kernel
theorem dX12_rest_50 : decode cX12_rest 50 = .ok (.ireturn, 1) := by decide +kernel
theorem dX12_guess_0 : decode cX12_guess 0 = .ok (.aload_n 0, 1) := by decide +kernel
theorem dX12_guess_1 : decode cX12_guess 1 = .ok (.iload_n 1, 1) := by decide +kernel
theorem dX12_guess_2 : decode cX12_guess 2 = .ok (.invokevirtual 260, 3) := by decide +kernel
theorem dX12_guess_5 : decode cX12_guess 5 = .ok (.ifCond .ne 7, 3) := by decide +kernel
theorem dX12_guess_8 : decode cX12_guess 8 = .ok (.ldc2_w 278, 3) := by decide +kernel
theorem dX12_guess_11 : decode cX12_guess 11 = .ok (.lreturn, 1) := by decide +kernel
theorem dX12_guess_12 : decode cX12_guess 12 = .ok (.iload_n 3, 1) := by decide +kernel
theorem dX12_guess_13 : decode cX12_guess 13 = .ok (.i2l, 1) := by decide +kernel
