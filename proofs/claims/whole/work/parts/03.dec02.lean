theorem dX11_at_23 : decode cX11_at 23 = .ok (.if_icmp .le 6, 3) := by decide +kernel
theorem dX11_at_26 : decode cX11_at 26 = .ok (.ldc 112, 2) := by decide +kernel
theorem dX11_at_28 : decode cX11_at 28 = .ok (.ireturn, 1) := by decide +kernel
theorem dX11_at_29 : decode cX11_at 29 = .ok (.aload_n 0, 1) := by decide +kernel
theorem dX11_at_30 : decode cX11_at 30 = .ok (.getfield 12, 3) := by decide +kernel
theorem dX11_at_33 : decode cX11_at 33 = .ok (.iload_n 1, 1) := by decide +kernel
theorem dX11_at_34 : decode cX11_at 34 = .ok (.iload_n 2, 1) := by decide +kernel
theorem dX11_at_35 : decode cX11_at 35 = .ok (.aload_n 0, 1) := by decide +kernel
theorem dX11_at_36 : decode cX11_at 36 = .ok (.getfield 12, 3) := by decide +kernel
theorem dX11_at_39 : decode cX11_at 39 = .ok (.getfield 82, 3) := by decide +kernel
theorem dX11_at_42 : decode cX11_at 42 = .ok (.if_icmp .ne 7, 3) := by decide +kernel
theorem dX11_at_45 : decode cX11_at 45 = .ok (.iconst 4, 1) := by decide +kernel
theorem dX11_at_46 : decode cX11_at 46 = .ok (.goto 4, 3) := by decide +kernel
theorem dX11_at_49 : decode cX11_at 49 = .ok (.iload_n 2, 1) := by decide +kernel
theorem dX11_at_50 : decode cX11_at 50 = .ok (.invokevirtual 113, 3) := by decide +kernel
theorem dX11_at_53 : decode cX11_at 53 = .ok (.bipush 100, 2) := by decide +kernel
theorem dX11_at_55 : decode cX11_at 55 = .ok (.iadd, 1) := by decide +kernel
theorem dX11_at_56 : decode cX11_at 56 = .ok (.ireturn, 1) := by decide +kernel
theorem dX11_cleared_0 : decode cX11_cleared 0 = .ok (.aload_n 0, 1) := by decide +kernel
theorem dX11_cleared_1 : decode cX11_cleared 1 = .ok (.getfield 19, 3) := by decide +kernel
theorem dX11_cleared_4 : decode cX11_cleared 4 = .ok (.aload_n 0, 1) := by decide +kernel
theorem dX11_cleared_5 : decode cX11_cleared 5 = .ok (.getfield 12, 3) := by decide +kernel
theorem dX11_cleared_8 : decode cX11_cleared 8 = .ok (.invokevirtual 117, 3) := by decide +kernel
theorem dX11_cleared_11 : decode cX11_cleared 11 = .ok (.iload_n 1, 1) := by decide +kernel
theorem dX11_cleared_12 : decode cX11_cleared 12 = .ok (.ifCond .lt 25, 3) := by decide +kernel
theorem dX11_cleared_15 : decode cX11_cleared 15 = .ok (.iload_n 1, 1) := by decide +kernel
theorem dX11_cleared_16 : decode cX11_cleared 16 = .ok (.aload_n 0, 1) := by decide +kernel
theorem dX11_cleared_17 : decode cX11_cleared 17 = .ok (.getfield 19, 3) := by decide +kernel
theorem dX11_cleared_20 : decode cX11_cleared 20 = .ok (.getfield 121, 3) := by decide +kernel
theorem dX11_cleared_23 : decode cX11_cleared 23 = .ok (.if_icmp .ge 14, 3) := by decide +kernel
theorem dX11_cleared_26 : decode cX11_cleared 26 = .ok (.aload_n 0, 1) := by decide +kernel
theorem dX11_cleared_27 : decode cX11_cleared 27 = .ok (.getfield 12, 3) := by decide +kernel
theorem dX11_cleared_30 : decode cX11_cleared 30 = .ok (.iload_n 2, 1) := by decide +kernel
theorem dX11_cleared_31 : decode cX11_cleared 31 = .ok (.invokevirtual 108, 3) := by decide +kernel
theorem dX11_cleared_34 : decode cX11_cleared 34 = .ok (.ifCond .ne 6, 3) := by decide +kernel
theorem dX11_cleared_37 : decode cX11_cleared 37 = .ok (.ldc 112, 2) := by decide +kernel
theorem dX11_cleared_39 : decode cX11_cleared 39 = .ok (.ireturn, 1) := by decide +kernel
theorem dX11_cleared_40 : decode cX11_cleared 40 = .ok (.iload_n 3, 1) := by decide +kernel
theorem dX11_cleared_41 : decode cX11_cleared 41 = .ok (.invokestatic 124, 3) := by decide +kernel
theorem dX11_cleared_44 : decode cX11_cleared 44 = .ok (.ifCond .eq 6, 3) := by decide +kernel
theorem dX11_cleared_47 : decode cX11_cleared 47 = .ok (.ldc 107, 2) := by decide +kernel
theorem dX11_cleared_49 : decode cX11_cleared 49 = .ok (.ireturn, 1) := by decide +kernel
theorem dX11_cleared_50 : decode cX11_cleared 50 = .ok (.aload_n 0, 1) := by decide +kernel
theorem dX11_cleared_51 : decode cX11_cleared 51 = .ok (.getfield 19, 3) := by decide +kernel
theorem dX11_cleared_54 : decode cX11_cleared 54 = .ok (.iload_n 1, 1) := by decide +kernel
theorem dX11_cleared_55 : decode cX11_cleared 55 = .ok (.iload_n 2, 1) := by decide +kernel
theorem dX11_cleared_56 : decode cX11_cleared 56 = .ok (.invokevirtual 127, 3) := by decide +kernel
theorem dX11_cleared_59 : decode cX11_cleared 59 = .ok (.aload_n 0, 1) := by decide +kernel
theorem dX11_cleared_60 : decode cX11_cleared 60 = .ok (.getfield 19, 3) := by decide +kernel
theorem dX11_cleared_63 : decode cX11_cleared 63 = .ok (.iload_n 1, 1) := by decide +kernel
theorem dX11_cleared_64 : decode cX11_cleared 64 = .ok (.iload_n 2, 1) := by decide +kernel
theorem dX11_cleared_65 : decode cX11_cleared 65 = .ok (.invokevirtual 131, 3) := by decide +kernel
theorem dX11_cleared_68 : decode cX11_cleared 68 = .ok (.iload_n 3, 1) := by decide +kernel
theorem dX11_cleared_69 : decode cX11_cleared 69 = .ok (.invokestatic 134, 3) := by decide +kernel
theorem dX11_cleared_72 : decode cX11_cleared 72 = .ok (.ireturn, 1) := by decide +kernel
theorem dX11_solution_0 : decode cX11_solution 0 = .ok (.aload_n 0, 1) := by decide +kernel
theorem dX11_solution_1 : decode cX11_solution 1 = .ok (.getfield 12, 3) := by decide +kernel
theorem dX11_solution_4 : decode cX11_solution 4 = .ok (.iload_n 1, 1) := by decide +kernel
theorem dX11_solution_5 : decode cX11_solution 5 = .ok (.invokevirtual 108, 3) := by decide +kernel
theorem dX11_solution_8 : decode cX11_solution 8 = .ok (.ifCond .ne 6, 3) := by decide +kernel
theorem dX11_solution_11 : decode cX11_solution 11 = .ok (.ldc 112, 2) := by decide +kernel
theorem dX11_solution_13 : decode cX11_solution 13 = .ok (.ireturn, 1) := by decide +kernel
theorem dX11_solution_14 : decode cX11_solution 14 = .ok (.iload_n 2, 1) := by decide +kernel
theorem dX11_solution_15 : decode cX11_solution 15 = .ok (.invokestatic 124, 3) := by decide +kernel
theorem dX11_solution_18 : decode cX11_solution 18 = .ok (.ifCond .eq 6, 3) := by decide +kernel
theorem dX11_solution_21 : decode cX11_solution 21 = .ok (.ldc 107, 2) := by decide +kernel
theorem dX11_solution_23 : decode cX11_solution 23 = .ok (.ireturn, 1) := by decide +kernel
theorem dX11_solution_24 : decode cX11_solution 24 = .ok (.aload_n 0, 1) := by decide +kernel
theorem dX11_solution_25 : decode cX11_solution 25 = .ok (.getfield 19, 3) := by decide +kernel
theorem dX11_solution_28 : decode cX11_solution 28 = .ok (.aload_n 0, 1) := by decide +kernel
theorem dX11_solution_29 : decode cX11_solution 29 = .ok (.getfield 12, 3) := by decide +kernel
theorem dX11_solution_32 : decode cX11_solution 32 = .ok (.invokevirtual 117, 3) := by decide +kernel
theorem dX11_solution_35 : decode cX11_solution 35 = .ok (.aload_n 0, 1) := by decide +kernel
theorem dX11_solution_36 : decode cX11_solution 36 = .ok (.getfield 19, 3) := by decide +kernel
theorem dX11_solution_39 : decode cX11_solution 39 = .ok (.invokevirtual 138, 3) := by decide +kernel
theorem dX11_solution_42 : decode cX11_solution 42 = .ok (.ifCond .ne 5, 3) := by decide +kernel
theorem dX11_solution_45 : decode cX11_solution 45 = .ok (.iconst (-1), 1) := by decide +kernel
theorem dX11_solution_46 : decode cX11_solution 46 = .ok (.ireturn, 1) := by decide +kernel
theorem dX11_solution_47 : decode cX11_solution 47 = .ok (.aload_n 0, 1) := by decide +kernel
theorem dX11_solution_48 : decode cX11_solution 48 = .ok (.getfield 19, 3) := by decide +kernel
theorem dX11_solution_51 : decode cX11_solution 51 = .ok (.iload_n 1, 1) := by decide +kernel
theorem dX11_solution_52 : decode cX11_solution 52 = .ok (.invokevirtual 142, 3) := by decide +kernel
theorem dX11_solution_55 : decode cX11_solution 55 = .ok (.aload_n 0, 1) := by decide +kernel
theorem dX11_solution_56 : decode cX11_solution 56 = .ok (.getfield 19, 3) := by decide +kernel
theorem dX11_solution_59 : decode cX11_solution 59 = .ok (.iload_n 1, 1) := by decide +kernel
theorem dX11_solution_60 : decode cX11_solution 60 = .ok (.invokevirtual 146, 3) := by decide +kernel
theorem dX11_solution_63 : decode cX11_solution 63 = .ok (.iload_n 2, 1) := by decide +kernel
theorem dX11_solution_64 : decode cX11_solution 64 = .ok (.invokestatic 134, 3) := by decide +kernel
theorem dX11_solution_67 : decode cX11_solution 67 = .ok (.ireturn, 1) := by decide +kernel
theorem dX11_nothing_0 : decode cX11_nothing 0 = .ok (.aload_n 0, 1) := by decide +kernel
theorem dX11_nothing_1 : decode cX11_nothing 1 = .ok (.getfield 12, 3) := by decide +kernel
theorem dX11_nothing_4 : decode cX11_nothing 4 = .ok (.iload_n 1, 1) := by decide +kernel
theorem dX11_nothing_5 : decode cX11_nothing 5 = .ok (.invokevirtual 108, 3) := by decide +kernel
theorem dX11_nothing_8 : decode cX11_nothing 8 = .ok (.ifCond .ne 6, 3) := by decide +kernel
theorem dX11_nothing_11 : decode cX11_nothing 11 = .ok (.ldc 112, 2) := by decide +kernel
theorem dX11_nothing_13 : decode cX11_nothing 13 = .ok (.ireturn, 1) := by decide +kernel
theorem dX11_nothing_14 : decode cX11_nothing 14 = .ok (.aload_n 0, 1) := by decide +kernel
theorem dX11_nothing_15 : decode cX11_nothing 15 = .ok (.getfield 19, 3) := by decide +kernel
theorem dX11_nothing_18 : decode cX11_nothing 18 = .ok (.aload_n 0, 1) := by decide +kernel
theorem dX11_nothing_19 : decode cX11_nothing 19 = .ok (.getfield 12, 3) := by decide +kernel
theorem dX11_nothing_22 : decode cX11_nothing 22 = .ok (.invokevirtual 117, 3) := by decide +kernel
theorem dX11_nothing_25 : decode cX11_nothing 25 = .ok (.aload_n 0, 1) := by decide +kernel
theorem dX11_nothing_26 : decode cX11_nothing 26 = .ok (.getfield 19, 3) := by decide +kernel
theorem dX11_nothing_29 : decode cX11_nothing 29 = .ok (.getfield 121, 3) := by decide +kernel
theorem dX11_nothing_32 : decode cX11_nothing 32 = .ok (.aload_n 0, 1) := by decide +kernel
theorem dX11_nothing_33 : decode cX11_nothing 33 = .ok (.getfield 12, 3) := by decide +kernel
theorem dX11_nothing_36 : decode cX11_nothing 36 = .ok (.getfield 82, 3) := by decide +kernel
theorem dX11_nothing_39 : decode cX11_nothing 39 = .ok (.if_icmp .ne 5, 3) := by decide +kernel
theorem dX11_nothing_42 : decode cX11_nothing 42 = .ok (.iconst (-1), 1) := by decide +kernel
theorem dX11_nothing_43 : decode cX11_nothing 43 = .ok (.ireturn, 1) := by decide +kernel
theorem dX11_nothing_44 : decode cX11_nothing 44 = .ok (.aload_n 0, 1) := by decide +kernel
theorem dX11_nothing_45 : decode cX11_nothing 45 = .ok (.getfield 19, 3) := by decide +kernel
theorem dX11_nothing_48 : decode cX11_nothing 48 = .ok (.iload_n 1, 1) := by decide +kernel
theorem dX11_nothing_49 : decode cX11_nothing 49 = .ok (.invokevirtual 149, 3) := by decide +kernel
theorem dX11_nothing_52 : decode cX11_nothing 52 = .ok (.l2i, 1) := by decide +kernel
theorem dX11_nothing_53 : decode cX11_nothing 53 = .ok (.ldc 152, 2) := by decide +kernel
theorem dX11_nothing_55 : decode cX11_nothing 55 = .ok (.iadd, 1) := by decide +kernel
theorem dX11_nothing_56 : decode cX11_nothing 56 = .ok (.ireturn, 1) := by decide +kernel
theorem dX11_back_0 : decode cX11_back 0 = .ok (.aload_n 0, 1) := by decide +kernel
theorem dX11_back_1 : decode cX11_back 1 = .ok (.getfield 12, 3) := by decide +kernel
theorem dX11_back_4 : decode cX11_back 4 = .ok (.iload_n 1, 1) := by decide +kernel
theorem dX11_back_5 : decode cX11_back 5 = .ok (.invokevirtual 108, 3) := by decide +kernel
theorem dX11_back_8 : decode cX11_back 8 = .ok (.ifCond .eq 14, 3) := by decide +kernel
theorem dX11_back_11 : decode cX11_back 11 = .ok (.aload_n 0, 1) := by decide +kernel
theorem dX11_back_12 : decode cX11_back 12 = .ok (.getfield 12, 3) := by decide +kernel
theorem dX11_back_15 : decode cX11_back 15 = .ok (.iload_n 2, 1) := by decide +kernel
theorem dX11_back_16 : decode cX11_back 16 = .ok (.invokevirtual 108, 3) := by decide +kernel
theorem dX11_back_19 : decode cX11_back 19 = .ok (.ifCond .ne 6, 3) := by decide +kernel
theorem dX11_back_22 : decode cX11_back 22 = .ok (.ldc 112, 2) := by decide +kernel
theorem dX11_back_24 : decode cX11_back 24 = .ok (.ireturn, 1) := by decide +kernel
theorem dX11_back_25 : decode cX11_back 25 = .ok (.aload_n 0, 1) := by decide +kernel
theorem dX11_back_26 : decode cX11_back 26 = .ok (.invokevirtual 153, 3) := by decide +kernel
theorem dX11_back_29 : decode cX11_back 29 = .ok (.ifCond .eq 6, 3) := by decide +kernel
theorem dX11_back_32 : decode cX11_back 32 = .ok (.ldc 156, 2) := by decide +kernel
theorem dX11_back_34 : decode cX11_back 34 = .ok (.ireturn, 1) := by decide +kernel
theorem dX11_back_35 : decode cX11_back 35 = .ok (.aload_n 0, 1) := by decide +kernel
theorem dX11_back_36 : decode cX11_back 36 = .ok (.getfield 26, 3) := by decide +kernel
theorem dX11_back_39 : decode cX11_back 39 = .ok (.iload_n 1, 1) := by decide +kernel
theorem dX11_back_40 : decode cX11_back 40 = .ok (.iload_n 2, 1) := by decide +kernel
theorem dX11_back_41 : decode cX11_back 41 = .ok (.invokevirtual 157, 3) := by decide +kernel
theorem dX11_back_44 : decode cX11_back 44 = .ok (.ireturn, 1) := by decide +kernel
theorem dX11_digit_0 : decode cX11_digit 0 = .ok (.aload_n 0, 1) := by decide +kernel
theorem dX11_digit_1 : decode cX11_digit 1 = .ok (.getfield 12, 3) := by decide +kernel
theorem dX11_digit_4 : decode cX11_digit 4 = .ok (.iload_n 1, 1) := by decide +kernel
theorem dX11_digit_5 : decode cX11_digit 5 = .ok (.invokevirtual 108, 3) := by decide +kernel
theorem dX11_digit_8 : decode cX11_digit 8 = .ok (.ifCond .ne 6, 3) := by decide +kernel
theorem dX11_digit_11 : decode cX11_digit 11 = .ok (.ldc 112, 2) := by decide +kernel
theorem dX11_digit_13 : decode cX11_digit 13 = .ok (.ireturn, 1) := by decide +kernel
theorem dX11_digit_14 : decode cX11_digit 14 = .ok (.iload_n 2, 1) := by decide +kernel
theorem dX11_digit_15 : decode cX11_digit 15 = .ok (.invokestatic 160, 3) := by decide +kernel
theorem dX11_digit_18 : decode cX11_digit 18 = .ok (.ifCond .eq 6, 3) := by decide +kernel
theorem dX11_digit_21 : decode cX11_digit 21 = .ok (.ldc 107, 2) := by decide +kernel
theorem dX11_digit_23 : decode cX11_digit 23 = .ok (.ireturn, 1) := by decide +kernel
theorem dX11_digit_24 : decode cX11_digit 24 = .ok (.aload_n 0, 1) := by decide +kernel
theorem dX11_digit_25 : decode cX11_digit 25 = .ok (.invokevirtual 153, 3) := by decide +kernel
theorem dX11_digit_28 : decode cX11_digit 28 = .ok (.ifCond .eq 6, 3) := by decide +kernel
theorem dX11_digit_31 : decode cX11_digit 31 = .ok (.ldc 156, 2) := by decide +kernel
theorem dX11_digit_33 : decode cX11_digit 33 = .ok (.ireturn, 1) := by decide +kernel
theorem dX11_digit_34 : decode cX11_digit 34 = .ok (.aload_n 0, 1) := by decide +kernel
theorem dX11_digit_35 : decode cX11_digit 35 = .ok (.iload_n 2, 1) := by decide +kernel
theorem dX11_digit_36 : decode cX11_digit 36 = .ok (.iconst 1, 1) := by decide +kernel
theorem dX11_digit_37 : decode cX11_digit 37 = .ok (.iadd, 1) := by decide +kernel
theorem dX11_digit_38 : decode cX11_digit 38 = .ok (.invokevirtual 163, 3) := by decide +kernel
theorem dX11_digit_41 : decode cX11_digit 41 = .ok (.aload_n 0, 1) := by decide +kernel
theorem dX11_digit_42 : decode cX11_digit 42 = .ok (.getfield 33, 3) := by decide +kernel
theorem dX11_digit_45 : decode cX11_digit 45 = .ok (.getfield 167, 3) := by decide +kernel
theorem dX11_digit_48 : decode cX11_digit 48 = .ok (.iload_n 1, 1) := by decide +kernel
theorem dX11_digit_49 : decode cX11_digit 49 = .ok (.iaload, 1) := by decide +kernel
theorem dX11_digit_50 : decode cX11_digit 50 = .ok (.ireturn, 1) := by decide +kernel
theorem dX11_rest_0 : decode cX11_rest 0 = .ok (.aload_n 0, 1) := by decide +kernel
theorem dX11_rest_1 : decode cX11_rest 1 = .ok (.getfield 12, 3) := by decide +kernel
theorem dX11_rest_4 : decode cX11_rest 4 = .ok (.iload_n 1, 1) := by decide +kernel
theorem dX11_rest_5 : decode cX11_rest 5 = .ok (.invokevirtual 108, 3) := by decide +kernel
theorem dX11_rest_8 : decode cX11_rest 8 = .ok (.ifCond .ne 6, 3) := by decide +kernel
theorem dX11_rest_11 : decode cX11_rest 11 = .ok (.ldc 112, 2) := by decide +kernel
theorem dX11_rest_13 : decode cX11_rest 13 = .ok (.ireturn, 1) := by decide +kernel
theorem dX11_rest_14 : decode cX11_rest 14 = .ok (.iload_n 2, 1) := by decide +kernel
theorem dX11_rest_15 : decode cX11_rest 15 = .ok (.ifCond .lt 9, 3) := by decide +kernel
theorem dX11_rest_18 : decode cX11_rest 18 = .ok (.iload_n 2, 1) := by decide +kernel
theorem dX11_rest_19 : decode cX11_rest 19 = .ok (.bipush 100, 2) := by decide +kernel
theorem dX11_rest_21 : decode cX11_rest 21 = .ok (.if_icmp .le 6, 3) := by decide +kernel
theorem dX11_rest_24 : decode cX11_rest 24 = .ok (.ldc 107, 2) := by decide +kernel
theorem dX11_rest_26 : decode cX11_rest 26 = .ok (.ireturn, 1) := by decide +kernel
theorem dX11_rest_27 : decode cX11_rest 27 = .ok (.aload_n 0, 1) := by decide +kernel
theorem dX11_rest_28 : decode cX11_rest 28 = .ok (.invokevirtual 153, 3) := by decide +kernel
theorem dX11_rest_31 : decode cX11_rest 31 = .ok (.ifCond .eq 6, 3) := by decide +kernel
theorem dX11_rest_34 : decode cX11_rest 34 = .ok (.ldc 156, 2) := by decide +kernel
theorem dX11_rest_36 : decode cX11_rest 36 = .ok (.ireturn, 1) := by decide +kernel
theorem dX11_rest_37 : decode cX11_rest 37 = .ok (.aload_n 0, 1) := by decide +kernel
theorem dX11_rest_38 : decode cX11_rest 38 = .ok (.iload_n 2, 1) := by decide +kernel
theorem dX11_rest_39 : decode cX11_rest 39 = .ok (.invokevirtual 163, 3) := by decide +kernel
theorem dX11_rest_42 : decode cX11_rest 42 = .ok (.aload_n 0, 1) := by decide +kernel
theorem dX11_rest_43 : decode cX11_rest 43 = .ok (.getfield 33, 3) := by decide +kernel
theorem dX11_rest_46 : decode cX11_rest 46 = .ok (.getfield 171, 3) := by decide +kernel
theorem dX11_rest_49 : decode cX11_rest 49 = .ok (.iload_n 1, 1) := by decide +kernel
theorem dX11_rest_50 : decode cX11_rest 50 = .ok (.iaload, 1) := by decide +kernel
theorem dX11_rest_51 : decode cX11_rest 51 = .ok (.ldc 152, 2) := by decide +kernel
theorem dX11_rest_53 : decode cX11_rest 53 = .ok (.iadd, 1) := by decide +kernel
theorem dX11_rest_54 : decode cX11_rest 54 = .ok (.ireturn, 1) := by decide +kernel
theorem dX11_guess_0 : decode cX11_guess 0 = .ok (.aload_n 0, 1) := by decide +kernel
theorem dX11_guess_1 : decode cX11_guess 1 = .ok (.getfield 12, 3) := by decide +kernel
theorem dX11_guess_4 : decode cX11_guess 4 = .ok (.iload_n 1, 1) := by decide +kernel
theorem dX11_guess_5 : decode cX11_guess 5 = .ok (.invokevirtual 108, 3) := by decide +kernel
theorem dX11_guess_8 : decode cX11_guess 8 = .ok (.ifCond .ne 7, 3) := by decide +kernel
theorem dX11_guess_11 : decode cX11_guess 11 = .ok (.ldc2_w 174, 3) := by decide +kernel
theorem dX11_guess_14 : decode cX11_guess 14 = .ok (.lreturn, 1) := by decide +kernel
theorem dX11_guess_15 : decode cX11_guess 15 = .ok (.aload_n 0, 1) := by decide +kernel
theorem dX11_guess_16 : decode cX11_guess 16 = .ok (.getfield 12, 3) := by decide +kernel
theorem dX11_guess_19 : decode cX11_guess 19 = .ok (.invokevirtual 86, 3) := by decide +kernel
theorem dX11_guess_22 : decode cX11_guess 22 = .ok (.iload_n 2, 1) := by decide +kernel
theorem dX11_guess_23 : decode cX11_guess 23 = .ok (.invokestatic 176, 3) := by decide +kernel
theorem dX11_guess_26 : decode cX11_guess 26 = .ok (.lstore 4, 2) := by decide +kernel
theorem dX11_guess_28 : decode cX11_guess 28 = .ok (.iload_n 3, 1) := by decide +kernel
theorem dX11_guess_29 : decode cX11_guess 29 = .ok (.invokestatic 124, 3) := by decide +kernel
theorem dX11_guess_32 : decode cX11_guess 32 = .ok (.ifCond .ne 12, 3) := by decide +kernel
theorem dX11_guess_35 : decode cX11_guess 35 = .ok (.lload 4, 2) := by decide +kernel
theorem dX11_guess_37 : decode cX11_guess 37 = .ok (.ldc2_w 179, 3) := by decide +kernel
theorem dX11_guess_40 : decode cX11_guess 40 = .ok (.lcmp, 1) := by decide +kernel
theorem dX11_guess_41 : decode cX11_guess 41 = .ok (.ifCond .ne 7, 3) := by decide +kernel
theorem dX11_guess_44 : decode cX11_guess 44 = .ok (.ldc2_w 181, 3) := by decide +kernel
theorem dX11_guess_47 : decode cX11_guess 47 = .ok (.lreturn, 1) := by decide +kernel
theorem dX11_guess_48 : decode cX11_guess 48 = .ok (.aload_n 0, 1) := by decide +kernel
theorem dX11_guess_49 : decode cX11_guess 49 = .ok (.invokevirtual 153, 3) := by decide +kernel
theorem dX11_guess_52 : decode cX11_guess 52 = .ok (.ifCond .eq 7, 3) := by decide +kernel
theorem dX11_guess_55 : decode cX11_guess 55 = .ok (.ldc2_w 183, 3) := by decide +kernel
theorem dX11_guess_58 : decode cX11_guess 58 = .ok (.lreturn, 1) := by decide +kernel
theorem dX11_guess_59 : decode cX11_guess 59 = .ok (.aload_n 0, 1) := by decide +kernel
theorem dX11_guess_60 : decode cX11_guess 60 = .ok (.iload_n 2, 1) := by decide +kernel
theorem dX11_guess_61 : decode cX11_guess 61 = .ok (.invokevirtual 163, 3) := by decide +kernel
theorem dX11_guess_64 : decode cX11_guess 64 = .ok (.aload_n 0, 1) := by decide +kernel
theorem dX11_guess_65 : decode cX11_guess 65 = .ok (.getfield 40, 3) := by decide +kernel
theorem dX11_guess_68 : decode cX11_guess 68 = .ok (.aload_n 0, 1) := by decide +kernel
theorem dX11_guess_69 : decode cX11_guess 69 = .ok (.getfield 33, 3) := by decide +kernel
theorem dX11_guess_72 : decode cX11_guess 72 = .ok (.getfield 185, 3) := by decide +kernel
theorem dX11_guess_75 : decode cX11_guess 75 = .ok (.iload_n 1, 1) := by decide +kernel
theorem dX11_guess_76 : decode cX11_guess 76 = .ok (.laload, 1) := by decide +kernel
theorem dX11_guess_77 : decode cX11_guess 77 = .ok (.lload 4, 2) := by decide +kernel
theorem dX11_guess_79 : decode cX11_guess 79 = .ok (.aload_n 0, 1) := by decide +kernel
theorem dX11_guess_80 : decode cX11_guess 80 = .ok (.getfield 12, 3) := by decide +kernel
theorem dX11_guess_83 : decode cX11_guess 83 = .ok (.invokevirtual 86, 3) := by decide +kernel
theorem dX11_guess_86 : decode cX11_guess 86 = .ok (.invokevirtual 189, 3) := by decide +kernel
theorem dX11_guess_89 : decode cX11_guess 89 = .ok (.aload_n 0, 1) := by decide +kernel
theorem dX11_guess_90 : decode cX11_guess 90 = .ok (.getfield 40, 3) := by decide +kernel
theorem dX11_guess_93 : decode cX11_guess 93 = .ok (.getfield 193, 3) := by decide +kernel
theorem dX11_guess_96 : decode cX11_guess 96 = .ok (.ifCond .ne 7, 3) := by decide +kernel
theorem dX11_guess_99 : decode cX11_guess 99 = .ok (.ldc2_w 179, 3) := by decide +kernel
theorem dX11_guess_102 : decode cX11_guess 102 = .ok (.lreturn, 1) := by decide +kernel
theorem dX11_guess_103 : decode cX11_guess 103 = .ok (.iload_n 3, 1) := by decide +kernel
theorem dX11_guess_104 : decode cX11_guess 104 = .ok (.ifCond .ne 17, 3) := by decide +kernel
theorem dX11_guess_107 : decode cX11_guess 107 = .ok (.aload_n 0, 1) := by decide +kernel
theorem dX11_guess_108 : decode cX11_guess 108 = .ok (.getfield 40, 3) := by decide +kernel
theorem dX11_guess_111 : decode cX11_guess 111 = .ok (.getfield 197, 3) := by decide +kernel
theorem dX11_guess_114 : decode cX11_guess 114 = .ok (.ldc2_w 200, 3) := by decide +kernel
theorem dX11_guess_117 : decode cX11_guess 117 = .ok (.ladd, 1) := by decide +kernel
theorem dX11_guess_118 : decode cX11_guess 118 = .ok (.goto 10, 3) := by decide +kernel
theorem dX11_guess_121 : decode cX11_guess 121 = .ok (.aload_n 0, 1) := by decide +kernel
theorem dX11_guess_122 : decode cX11_guess 122 = .ok (.getfield 40, 3) := by decide +kernel
theorem dX11_guess_125 : decode cX11_guess 125 = .ok (.getfield 202, 3) := by decide +kernel
theorem dX11_guess_128 : decode cX11_guess 128 = .ok (.lreturn, 1) := by decide +kernel
theorem dX11_near_0 : decode cX11_near 0 = .ok (.aload_n 0, 1) := by decide +kernel
theorem dX11_near_1 : decode cX11_near 1 = .ok (.iload_n 1, 1) := by decide +kernel
theorem dX11_near_2 : decode cX11_near 2 = .ok (.invokevirtual 204, 3) := by decide +kernel
theorem dX11_near_5 : decode cX11_near 5 = .ok (.istore_n 2, 1) := by decide +kernel
theorem dX11_near_6 : decode cX11_near 6 = .ok (.iload_n 2, 1) := by decide +kernel
theorem dX11_near_7 : decode cX11_near 7 = .ok (.ifCond .eq 8, 3) := by decide +kernel
theorem dX11_near_10 : decode cX11_near 10 = .ok (.iload_n 2, 1) := by decide +kernel
theorem dX11_near_11 : decode cX11_near 11 = .ok (.i2l, 1) := by decide +kernel
theorem dX11_near_12 : decode cX11_near 12 = .ok (.goto 14, 3) := by decide +kernel
theorem dX11_near_15 : decode cX11_near 15 = .ok (.aload_n 0, 1) := by decide +kernel
theorem dX11_near_16 : decode cX11_near 16 = .ok (.getfield 19, 3) := by decide +kernel
theorem dX11_near_19 : decode cX11_near 19 = .ok (.iload_n 1, 1) := by decide +kernel
theorem dX11_near_20 : decode cX11_near 20 = .ok (.invokevirtual 207, 3) := by decide +kernel
theorem dX11_near_23 : decode cX11_near 23 = .ok (.invokestatic 211, 3) := by decide +kernel
theorem dX11_near_26 : decode cX11_near 26 = .ok (.lreturn, 1) := by decide +kernel
theorem dX11_shortly_0 : decode cX11_shortly 0 = .ok (.aload_n 0, 1) := by decide +kernel
theorem dX11_shortly_1 : decode cX11_shortly 1 = .ok (.iload_n 1, 1) := by decide +kernel
theorem dX11_shortly_2 : decode cX11_shortly 2 = .ok (.invokevirtual 204, 3) := by decide +kernel
theorem dX11_shortly_5 : decode cX11_shortly 5 = .ok (.istore_n 2, 1) := by decide +kernel
theorem dX11_shortly_6 : decode cX11_shortly 6 = .ok (.iload_n 2, 1) := by decide +kernel
theorem dX11_shortly_7 : decode cX11_shortly 7 = .ok (.ifCond .eq 8, 3) := by decide +kernel
theorem dX11_shortly_10 : decode cX11_shortly 10 = .ok (.iload_n 2, 1) := by decide +kernel
theorem dX11_shortly_11 : decode cX11_shortly 11 = .ok (.i2l, 1) := by decide +kernel
theorem dX11_shortly_12 : decode cX11_shortly 12 = .ok (.goto 15, 3) := by decide +kernel
theorem dX11_shortly_15 : decode cX11_shortly 15 = .ok (.aload_n 0, 1) := by decide +kernel
theorem dX11_shortly_16 : decode cX11_shortly 16 = .ok (.getfield 19, 3) := by decide +kernel
theorem dX11_shortly_19 : decode cX11_shortly 19 = .ok (.iload_n 1, 1) := by decide +kernel
theorem dX11_shortly_20 : decode cX11_shortly 20 = .ok (.invokevirtual 207, 3) := by decide +kernel
theorem dX11_shortly_23 : decode cX11_shortly 23 = .ok (.d2f, 1) := by decide +kernel
theorem dX11_shortly_24 : decode cX11_shortly 24 = .ok (.invokestatic 215, 3) := by decide +kernel
theorem dX11_shortly_27 : decode cX11_shortly 27 = .ok (.lreturn, 1) := by decide +kernel
theorem dX11_cut_0 : decode cX11_cut 0 = .ok (.aload_n 0, 1) := by decide +kernel
theorem dX11_cut_1 : decode cX11_cut 1 = .ok (.iload_n 1, 1) := by decide +kernel
theorem dX11_cut_2 : decode cX11_cut 2 = .ok (.invokevirtual 204, 3) := by decide +kernel
theorem dX11_cut_5 : decode cX11_cut 5 = .ok (.istore_n 2, 1) := by decide +kernel
theorem dX11_cut_6 : decode cX11_cut 6 = .ok (.iload_n 2, 1) := by decide +kernel
theorem dX11_cut_7 : decode cX11_cut 7 = .ok (.ifCond .eq 6, 3) := by decide +kernel
theorem dX11_cut_10 : decode cX11_cut 10 = .ok (.iload_n 2, 1) := by decide +kernel
theorem dX11_cut_11 : decode cX11_cut 11 = .ok (.i2l, 1) := by decide +kernel
theorem dX11_cut_12 : decode cX11_cut 12 = .ok (.lreturn, 1) := by decide +kernel
theorem dX11_cut_13 : decode cX11_cut 13 = .ok (.aload_n 0, 1) := by decide +kernel
theorem dX11_cut_14 : decode cX11_cut 14 = .ok (.getfield 19, 3) := by decide +kernel
theorem dX11_cut_17 : decode cX11_cut 17 = .ok (.iload_n 1, 1) := by decide +kernel
theorem dX11_cut_18 : decode cX11_cut 18 = .ok (.invokevirtual 207, 3) := by decide +kernel
theorem dX11_cut_21 : decode cX11_cut 21 = .ok (.d2f, 1) := by decide +kernel
theorem dX11_cut_22 : decode cX11_cut 22 = .ok (.ldc 219, 2) := by decide +kernel
theorem dX11_cut_24 : decode cX11_cut 24 = .ok (.fmul, 1) := by decide +kernel
theorem dX11_cut_25 : decode cX11_cut 25 = .ok (.fstore_n 3, 1) := by decide +kernel
theorem dX11_cut_26 : decode cX11_cut 26 = .ok (.fload_n 3, 1) := by decide +kernel
theorem dX11_cut_27 : decode cX11_cut 27 = .ok (.f2i, 1) := by decide +kernel
theorem dX11_cut_28 : decode cX11_cut 28 = .ok (.i2l, 1) := by decide +kernel
theorem dX11_cut_29 : decode cX11_cut 29 = .ok (.ldc2_w 220, 3) := by decide +kernel
theorem dX11_cut_32 : decode cX11_cut 32 = .ok (.ladd, 1) := by decide +kernel
theorem dX11_cut_33 : decode cX11_cut 33 = .ok (.lreturn, 1) := by decide +kernel
theorem dX11_size_0 : decode cX11_size 0 = .ok (.iload_n 1, 1) := by decide +kernel
theorem dX11_size_1 : decode cX11_size 1 = .ok (.iconst 1, 1) := by decide +kernel
theorem dX11_size_2 : decode cX11_size 2 = .ok (.if_icmp .lt 8, 3) := by decide +kernel
theorem dX11_size_5 : decode cX11_size 5 = .ok (.iload_n 1, 1) := by decide +kernel
theorem dX11_size_6 : decode cX11_size 6 = .ok (.iconst 4, 1) := by decide +kernel
theorem dX11_size_7 : decode cX11_size 7 = .ok (.if_icmp .le 6, 3) := by decide +kernel
theorem dX11_size_10 : decode cX11_size 10 = .ok (.ldc 107, 2) := by decide +kernel
theorem dX11_size_12 : decode cX11_size 12 = .ok (.ireturn, 1) := by decide +kernel
theorem dX11_size_13 : decode cX11_size 13 = .ok (.aload_n 0, 1) := by decide +kernel
theorem dX11_size_14 : decode cX11_size 14 = .ok (.getfield 54, 3) := by decide +kernel
theorem dX11_size_17 : decode cX11_size 17 = .ok (.aload_n 0, 1) := by decide +kernel
theorem dX11_size_18 : decode cX11_size 18 = .ok (.getfield 12, 3) := by decide +kernel
theorem dX11_size_21 : decode cX11_size 21 = .ok (.invokevirtual 222, 3) := by decide +kernel
theorem dX11_size_24 : decode cX11_size 24 = .ok (.aload_n 0, 1) := by decide +kernel
theorem dX11_size_25 : decode cX11_size 25 = .ok (.getfield 12, 3) := by decide +kernel
theorem dX11_size_28 : decode cX11_size 28 = .ok (.getfield 82, 3) := by decide +kernel
theorem dX11_size_31 : decode cX11_size 31 = .ok (.istore_n 2, 1) := by decide +kernel
theorem dX11_size_32 : decode cX11_size 32 = .ok (.aload_n 0, 1) := by decide +kernel
theorem dX11_size_33 : decode cX11_size 33 = .ok (.getfield 12, 3) := by decide +kernel
theorem dX11_size_36 : decode cX11_size 36 = .ok (.iload_n 1, 1) := by decide +kernel
theorem dX11_size_37 : decode cX11_size 37 = .ok (.invokevirtual 225, 3) := by decide +kernel
theorem dX11_size_40 : decode cX11_size 40 = .ok (.iload_n 2, 1) := by decide +kernel
theorem dX11_size_41 : decode cX11_size 41 = .ok (.ireturn, 1) := by decide +kernel
theorem dX11_put_0 : decode cX11_put 0 = .ok (.aload_n 0, 1) := by decide +kernel
theorem dX11_put_1 : decode cX11_put 1 = .ok (.getfield 12, 3) := by decide +kernel
theorem dX11_put_4 : decode cX11_put 4 = .ok (.iload_n 1, 1) := by decide +kernel
theorem dX11_put_5 : decode cX11_put 5 = .ok (.invokevirtual 108, 3) := by decide +kernel
theorem dX11_put_8 : decode cX11_put 8 = .ok (.ifCond .eq 14, 3) := by decide +kernel
theorem dX11_put_11 : decode cX11_put 11 = .ok (.aload_n 0, 1) := by decide +kernel
theorem dX11_put_12 : decode cX11_put 12 = .ok (.getfield 12, 3) := by decide +kernel
theorem dX11_put_15 : decode cX11_put 15 = .ok (.iload_n 2, 1) := by decide +kernel
theorem dX11_put_16 : decode cX11_put 16 = .ok (.invokevirtual 108, 3) := by decide +kernel
theorem dX11_put_19 : decode cX11_put 19 = .ok (.ifCond .ne 6, 3) := by decide +kernel
theorem dX11_put_22 : decode cX11_put 22 = .ok (.ldc 112, 2) := by decide +kernel
theorem dX11_put_24 : decode cX11_put 24 = .ok (.ireturn, 1) := by decide +kernel
theorem dX11_put_25 : decode cX11_put 25 = .ok (.iload_n 3, 1) := by decide +kernel
theorem dX11_put_26 : decode cX11_put 26 = .ok (.bipush (-9), 2) := by decide +kernel
theorem dX11_put_28 : decode cX11_put 28 = .ok (.if_icmp .lt 9, 3) := by decide +kernel
theorem dX11_put_31 : decode cX11_put 31 = .ok (.iload_n 3, 1) := by decide +kernel
theorem dX11_put_32 : decode cX11_put 32 = .ok (.bipush 9, 2) := by decide +kernel
theorem dX11_put_34 : decode cX11_put 34 = .ok (.if_icmp .le 6, 3) := by decide +kernel
theorem dX11_put_37 : decode cX11_put 37 = .ok (.ldc 107, 2) := by decide +kernel
theorem dX11_put_39 : decode cX11_put 39 = .ok (.ireturn, 1) := by decide +kernel
theorem dX11_put_40 : decode cX11_put 40 = .ok (.aload_n 0, 1) := by decide +kernel
theorem dX11_put_41 : decode cX11_put 41 = .ok (.iload_n 1, 1) := by decide +kernel
theorem dX11_put_42 : decode cX11_put 42 = .ok (.iload_n 2, 1) := by decide +kernel
theorem dX11_put_43 : decode cX11_put 43 = .ok (.iload_n 3, 1) := by decide +kernel
theorem dX11_put_44 : decode cX11_put 44 = .ok (.invokevirtual 228, 3) := by decide +kernel
theorem dX11_put_47 : decode cX11_put 47 = .ok (.ireturn, 1) := by decide +kernel
theorem dX11_side_0 : decode cX11_side 0 = .ok (.aload_n 0, 1) := by decide +kernel
theorem dX11_side_1 : decode cX11_side 1 = .ok (.getfield 12, 3) := by decide +kernel
theorem dX11_side_4 : decode cX11_side 4 = .ok (.iload_n 1, 1) := by decide +kernel
theorem dX11_side_5 : decode cX11_side 5 = .ok (.invokevirtual 108, 3) := by decide +kernel
theorem dX11_side_8 : decode cX11_side 8 = .ok (.ifCond .ne 6, 3) := by decide +kernel
theorem dX11_side_11 : decode cX11_side 11 = .ok (.ldc 112, 2) := by decide +kernel
theorem dX11_side_13 : decode cX11_side 13 = .ok (.ireturn, 1) := by decide +kernel
theorem dX11_side_14 : decode cX11_side 14 = .ok (.iload_n 2, 1) := by decide +kernel
theorem dX11_side_15 : decode cX11_side 15 = .ok (.bipush (-99), 2) := by decide +kernel
theorem dX11_side_17 : decode cX11_side 17 = .ok (.if_icmp .lt 9, 3) := by decide +kernel
theorem dX11_side_20 : decode cX11_side 20 = .ok (.iload_n 2, 1) := by decide +kernel
theorem dX11_side_21 : decode cX11_side 21 = .ok (.bipush 99, 2) := by decide +kernel
theorem dX11_side_23 : decode cX11_side 23 = .ok (.if_icmp .le 6, 3) := by decide +kernel
theorem dX11_side_26 : decode cX11_side 26 = .ok (.ldc 107, 2) := by decide +kernel
theorem dX11_side_28 : decode cX11_side 28 = .ok (.ireturn, 1) := by decide +kernel
theorem dX11_side_29 : decode cX11_side 29 = .ok (.aload_n 0, 1) := by decide +kernel
theorem dX11_side_30 : decode cX11_side 30 = .ok (.iload_n 1, 1) := by decide +kernel
theorem dX11_side_31 : decode cX11_side 31 = .ok (.iconst 4, 1) := by decide +kernel
theorem dX11_side_32 : decode cX11_side 32 = .ok (.iload_n 2, 1) := by decide +kernel
theorem dX11_side_33 : decode cX11_side 33 = .ok (.invokevirtual 228, 3) := by decide +kernel
theorem dX11_side_36 : decode cX11_side 36 = .ok (.ireturn, 1) := by decide +kernel
theorem dX11_swap_0 : decode cX11_swap 0 = .ok (.aload_n 0, 1) := by decide +kernel
theorem dX11_swap_1 : decode cX11_swap 1 = .ok (.iload_n 1, 1) := by decide +kernel
theorem dX11_swap_2 : decode cX11_swap 2 = .ok (.iload_n 2, 1) := by decide +kernel
theorem dX11_swap_3 : decode cX11_swap 3 = .ok (.invokevirtual 232, 3) := by decide +kernel
theorem dX11_swap_6 : decode cX11_swap 6 = .ok (.ifCond .eq 6, 3) := by decide +kernel
theorem dX11_swap_9 : decode cX11_swap 9 = .ok (.ldc 112, 2) := by decide +kernel
theorem dX11_swap_11 : decode cX11_swap 11 = .ok (.ireturn, 1) := by decide +kernel
theorem dX11_swap_12 : decode cX11_swap 12 = .ok (.aload_n 0, 1) := by decide +kernel
theorem dX11_swap_13 : decode cX11_swap 13 = .ok (.getfield 54, 3) := by decide +kernel
theorem dX11_swap_16 : decode cX11_swap 16 = .ok (.aload_n 0, 1) := by decide +kernel
theorem dX11_swap_17 : decode cX11_swap 17 = .ok (.getfield 12, 3) := by decide +kernel
theorem dX11_swap_20 : decode cX11_swap 20 = .ok (.invokevirtual 222, 3) := by decide +kernel
theorem dX11_swap_23 : decode cX11_swap 23 = .ok (.aload_n 0, 1) := by decide +kernel
theorem dX11_swap_24 : decode cX11_swap 24 = .ok (.getfield 12, 3) := by decide +kernel
theorem dX11_swap_27 : decode cX11_swap 27 = .ok (.iload_n 1, 1) := by decide +kernel
theorem dX11_swap_28 : decode cX11_swap 28 = .ok (.iload_n 2, 1) := by decide +kernel
theorem dX11_swap_29 : decode cX11_swap 29 = .ok (.invokevirtual 236, 3) := by decide +kernel
theorem dX11_swap_32 : decode cX11_swap 32 = .ok (.iconst 1, 1) := by decide +kernel
theorem dX11_swap_33 : decode cX11_swap 33 = .ok (.ireturn, 1) := by decide +kernel
theorem dX11_mix_0 : decode cX11_mix 0 = .ok (.aload_n 0, 1) := by decide +kernel
theorem dX11_mix_1 : decode cX11_mix 1 = .ok (.iload_n 1, 1) := by decide +kernel
theorem dX11_mix_2 : decode cX11_mix 2 = .ok (.iload_n 2, 1) := by decide +kernel
theorem dX11_mix_3 : decode cX11_mix 3 = .ok (.invokevirtual 232, 3) := by decide +kernel
theorem dX11_mix_6 : decode cX11_mix 6 = .ok (.ifCond .eq 6, 3) := by decide +kernel
theorem dX11_mix_9 : decode cX11_mix 9 = .ok (.ldc 112, 2) := by decide +kernel
theorem dX11_mix_11 : decode cX11_mix 11 = .ok (.ireturn, 1) := by decide +kernel
theorem dX11_mix_12 : decode cX11_mix 12 = .ok (.iload_n 3, 1) := by decide +kernel
theorem dX11_mix_13 : decode cX11_mix 13 = .ok (.bipush (-3), 2) := by decide +kernel
theorem dX11_mix_15 : decode cX11_mix 15 = .ok (.if_icmp .lt 8, 3) := by decide +kernel
theorem dX11_mix_18 : decode cX11_mix 18 = .ok (.iload_n 3, 1) := by decide +kernel
theorem dX11_mix_19 : decode cX11_mix 19 = .ok (.iconst 3, 1) := by decide +kernel
theorem dX11_mix_20 : decode cX11_mix 20 = .ok (.if_icmp .le 6, 3) := by decide +kernel
theorem dX11_mix_23 : decode cX11_mix 23 = .ok (.ldc 107, 2) := by decide +kernel
theorem dX11_mix_25 : decode cX11_mix 25 = .ok (.ireturn, 1) := by decide +kernel
theorem dX11_mix_26 : decode cX11_mix 26 = .ok (.aload_n 0, 1) := by decide +kernel
theorem dX11_mix_27 : decode cX11_mix 27 = .ok (.getfield 12, 3) := by decide +kernel
theorem dX11_mix_30 : decode cX11_mix 30 = .ok (.iload_n 1, 1) := by decide +kernel
theorem dX11_mix_31 : decode cX11_mix 31 = .ok (.iload_n 2, 1) := by decide +kernel
theorem dX11_mix_32 : decode cX11_mix 32 = .ok (.iload_n 3, 1) := by decide +kernel
theorem dX11_mix_33 : decode cX11_mix 33 = .ok (.invokevirtual 240, 3) := by decide +kernel
theorem dX11_mix_36 : decode cX11_mix 36 = .ok (.ifCond .ne 6, 3) := by decide +kernel
theorem dX11_mix_39 : decode cX11_mix 39 = .ok (.ldc 244, 2) := by decide +kernel
theorem dX11_mix_41 : decode cX11_mix 41 = .ok (.ireturn, 1) := by decide +kernel
theorem dX11_mix_42 : decode cX11_mix 42 = .ok (.aload_n 0, 1) := by decide +kernel
theorem dX11_mix_43 : decode cX11_mix 43 = .ok (.getfield 54, 3) := by decide +kernel
theorem dX11_mix_46 : decode cX11_mix 46 = .ok (.aload_n 0, 1) := by decide +kernel
theorem dX11_mix_47 : decode cX11_mix 47 = .ok (.getfield 12, 3) := by decide +kernel
theorem dX11_mix_50 : decode cX11_mix 50 = .ok (.invokevirtual 222, 3) := by decide +kernel
theorem dX11_mix_53 : decode cX11_mix 53 = .ok (.aload_n 0, 1) := by decide +kernel
theorem dX11_mix_54 : decode cX11_mix 54 = .ok (.getfield 12, 3) := by decide +kernel
theorem dX11_mix_57 : decode cX11_mix 57 = .ok (.iload_n 1, 1) := by decide +kernel
theorem dX11_mix_58 : decode cX11_mix 58 = .ok (.iload_n 2, 1) := by decide +kernel
theorem dX11_mix_59 : decode cX11_mix 59 = .ok (.iload_n 3, 1) := by decide +kernel
theorem dX11_mix_60 : decode cX11_mix 60 = .ok (.invokevirtual 245, 3) := by decide +kernel
theorem dX11_mix_63 : decode cX11_mix 63 = .ok (.iconst 1, 1) := by decide +kernel
theorem dX11_mix_64 : decode cX11_mix 64 = .ok (.ireturn, 1) := by decide +kernel
theorem dX11_turn_0 : decode cX11_turn 0 = .ok (.aload_n 0, 1) := by decide +kernel
theorem dX11_turn_1 : decode cX11_turn 1 = .ok (.getfield 54, 3) := by decide +kernel
theorem dX11_turn_4 : decode cX11_turn 4 = .ok (.aload_n 0, 1) := by decide +kernel
theorem dX11_turn_5 : decode cX11_turn 5 = .ok (.getfield 12, 3) := by decide +kernel
theorem dX11_turn_8 : decode cX11_turn 8 = .ok (.invokevirtual 222, 3) := by decide +kernel
theorem dX11_turn_11 : decode cX11_turn 11 = .ok (.aload_n 0, 1) := by decide +kernel
theorem dX11_turn_12 : decode cX11_turn 12 = .ok (.getfield 12, 3) := by decide +kernel
theorem dX11_turn_15 : decode cX11_turn 15 = .ok (.invokevirtual 249, 3) := by decide +kernel
theorem dX11_turn_18 : decode cX11_turn 18 = .ok (.aload_n 0, 1) := by decide +kernel
theorem dX11_turn_19 : decode cX11_turn 19 = .ok (.invokevirtual 252, 3) := by decide +kernel
theorem dX11_turn_22 : decode cX11_turn 22 = .ok (.ireturn, 1) := by decide +kernel
theorem dX11_prime_0 : decode cX11_prime 0 = .ok (.iload_n 1, 1) := by decide +kernel
theorem dX11_prime_1 : decode cX11_prime 1 = .ok (.ifCond .lt 11, 3) := by decide +kernel
theorem dX11_prime_4 : decode cX11_prime 4 = .ok (.iload_n 1, 1) := by decide +kernel
theorem dX11_prime_5 : decode cX11_prime 5 = .ok (.getstatic 254, 3) := by decide +kernel
theorem dX11_prime_8 : decode cX11_prime 8 = .ok (.arraylength, 1) := by decide +kernel
theorem dX11_prime_9 : decode cX11_prime 9 = .ok (.if_icmp .lt 6, 3) := by decide +kernel
theorem dX11_prime_12 : decode cX11_prime 12 = .ok (.ldc 107, 2) := by decide +kernel
theorem dX11_prime_14 : decode cX11_prime 14 = .ok (.ireturn, 1) := by decide +kernel
theorem dX11_prime_15 : decode cX11_prime 15 = .ok (.aload_n 0, 1) := by decide +kernel
theorem dX11_prime_16 : decode cX11_prime 16 = .ok (.getfield 54, 3) := by decide +kernel
theorem dX11_prime_19 : decode cX11_prime 19 = .ok (.aload_n 0, 1) := by decide +kernel
theorem dX11_prime_20 : decode cX11_prime 20 = .ok (.getfield 12, 3) := by decide +kernel
theorem dX11_prime_23 : decode cX11_prime 23 = .ok (.invokevirtual 222, 3) := by decide +kernel
theorem dX11_prime_26 : decode cX11_prime 26 = .ok (.aload_n 0, 1) := by decide +kernel
theorem dX11_prime_27 : decode cX11_prime 27 = .ok (.getfield 12, 3) := by decide +kernel
theorem dX11_prime_30 : decode cX11_prime 30 = .ok (.iload_n 1, 1) := by decide +kernel
theorem dX11_prime_31 : decode cX11_prime 31 = .ok (.putfield 257, 3) := by decide +kernel
theorem dX11_prime_34 : decode cX11_prime 34 = .ok (.aload_n 0, 1) := by decide +kernel
theorem dX11_prime_35 : decode cX11_prime 35 = .ok (.getfield 12, 3) := by decide +kernel
theorem dX11_prime_38 : decode cX11_prime 38 = .ok (.invokevirtual 86, 3) := by decide +kernel
theorem dX11_prime_41 : decode cX11_prime 41 = .ok (.ireturn, 1) := by decide +kernel
theorem dX11_drift_0 : decode cX11_drift 0 = .ok (.iload_n 1, 1) := by decide +kernel
theorem dX11_drift_1 : decode cX11_drift 1 = .ok (.iconst 1, 1) := by decide +kernel
theorem dX11_drift_2 : decode cX11_drift 2 = .ok (.if_icmp .lt 9, 3) := by decide +kernel
theorem dX11_drift_5 : decode cX11_drift 5 = .ok (.iload_n 1, 1) := by decide +kernel
theorem dX11_drift_6 : decode cX11_drift 6 = .ok (.bipush 12, 2) := by decide +kernel
theorem dX11_drift_8 : decode cX11_drift 8 = .ok (.if_icmp .le 6, 3) := by decide +kernel
theorem dX11_drift_11 : decode cX11_drift 11 = .ok (.ldc 107, 2) := by decide +kernel
theorem dX11_drift_13 : decode cX11_drift 13 = .ok (.ireturn, 1) := by decide +kernel
theorem dX11_drift_14 : decode cX11_drift 14 = .ok (.iconst 0, 1) := by decide +kernel
theorem dX11_drift_15 : decode cX11_drift 15 = .ok (.istore_n 2, 1) := by decide +kernel
theorem dX11_drift_16 : decode cX11_drift 16 = .ok (.iload_n 2, 1) := by decide +kernel
theorem dX11_drift_17 : decode cX11_drift 17 = .ok (.iload_n 1, 1) := by decide +kernel
theorem dX11_drift_18 : decode cX11_drift 18 = .ok (.if_icmp .ge 13, 3) := by decide +kernel
theorem dX11_drift_21 : decode cX11_drift 21 = .ok (.aload_n 0, 1) := by decide +kernel
theorem dX11_drift_22 : decode cX11_drift 22 = .ok (.invokevirtual 260, 3) := by decide +kernel
theorem dX11_drift_25 : decode cX11_drift 25 = .ok (.iinc 2 1, 3) := by decide +kernel
theorem dX11_drift_28 : decode cX11_drift 28 = .ok (.goto (-12), 3) := by decide +kernel
theorem dX11_drift_31 : decode cX11_drift 31 = .ok (.aload_n 0, 1) := by decide +kernel
theorem dX11_drift_32 : decode cX11_drift 32 = .ok (.invokevirtual 252, 3) := by decide +kernel
theorem dX11_drift_35 : decode cX11_drift 35 = .ok (.ireturn, 1) := by decide +kernel
theorem dX11_undo_0 : decode cX11_undo 0 = .ok (.iload_n 1, 1) := by decide +kernel
theorem dX11_undo_1 : decode cX11_undo 1 = .ok (.iconst 1, 1) := by decide +kernel
theorem dX11_undo_2 : decode cX11_undo 2 = .ok (.if_icmp .lt 9, 3) := by decide +kernel
theorem dX11_undo_5 : decode cX11_undo 5 = .ok (.iload_n 1, 1) := by decide +kernel
theorem dX11_undo_6 : decode cX11_undo 6 = .ok (.bipush 16, 2) := by decide +kernel
theorem dX11_undo_8 : decode cX11_undo 8 = .ok (.if_icmp .le 6, 3) := by decide +kernel
theorem dX11_undo_11 : decode cX11_undo 11 = .ok (.ldc 107, 2) := by decide +kernel
theorem dX11_undo_13 : decode cX11_undo 13 = .ok (.ireturn, 1) := by decide +kernel
theorem dX11_undo_14 : decode cX11_undo 14 = .ok (.iload_n 1, 1) := by decide +kernel
theorem dX11_undo_15 : decode cX11_undo 15 = .ok (.aload_n 0, 1) := by decide +kernel
theorem dX11_undo_16 : decode cX11_undo 16 = .ok (.getfield 54, 3) := by decide +kernel
theorem dX11_undo_19 : decode cX11_undo 19 = .ok (.getfield 106, 3) := by decide +kernel
theorem dX11_undo_22 : decode cX11_undo 22 = .ok (.if_icmp .le 6, 3) := by decide +kernel
theorem dX11_undo_25 : decode cX11_undo 25 = .ok (.ldc 156, 2) := by decide +kernel
theorem dX11_undo_27 : decode cX11_undo 27 = .ok (.ireturn, 1) := by decide +kernel
theorem dX11_undo_28 : decode cX11_undo 28 = .ok (.aload_n 0, 1) := by decide +kernel
theorem dX11_undo_29 : decode cX11_undo 29 = .ok (.getfield 54, 3) := by decide +kernel
theorem dX11_undo_32 : decode cX11_undo 32 = .ok (.aload_n 0, 1) := by decide +kernel
theorem dX11_undo_33 : decode cX11_undo 33 = .ok (.getfield 12, 3) := by decide +kernel
theorem dX11_undo_36 : decode cX11_undo 36 = .ok (.iload_n 1, 1) := by decide +kernel
theorem dX11_undo_37 : decode cX11_undo 37 = .ok (.invokevirtual 263, 3) := by decide +kernel
theorem dX11_undo_40 : decode cX11_undo 40 = .ok (.aload_n 0, 1) := by decide +kernel
theorem dX11_undo_41 : decode cX11_undo 41 = .ok (.getfield 54, 3) := by decide +kernel
theorem dX11_undo_44 : decode cX11_undo 44 = .ok (.getfield 106, 3) := by decide +kernel
theorem dX11_undo_47 : decode cX11_undo 47 = .ok (.ireturn, 1) := by decide +kernel
theorem dX11_write_0 : decode cX11_write 0 = .ok (.aload_n 0, 1) := by decide +kernel
theorem dX11_write_1 : decode cX11_write 1 = .ok (.getfield 12, 3) := by decide +kernel
theorem dX11_write_4 : decode cX11_write 4 = .ok (.iload_n 1, 1) := by decide +kernel
theorem dX11_write_5 : decode cX11_write 5 = .ok (.invokevirtual 108, 3) := by decide +kernel
theorem dX11_write_8 : decode cX11_write 8 = .ok (.ifCond .ne 6, 3) := by decide +kernel
theorem dX11_write_11 : decode cX11_write 11 = .ok (.ldc 112, 2) := by decide +kernel
theorem dX11_write_13 : decode cX11_write 13 = .ok (.ireturn, 1) := by decide +kernel
theorem dX11_write_14 : decode cX11_write 14 = .ok (.iload_n 2, 1) := by decide +kernel
theorem dX11_write_15 : decode cX11_write 15 = .ok (.invokestatic 160, 3) := by decide +kernel
theorem dX11_write_18 : decode cX11_write 18 = .ok (.ifCond .eq 6, 3) := by decide +kernel
theorem dX11_write_21 : decode cX11_write 21 = .ok (.ldc 107, 2) := by decide +kernel
theorem dX11_write_23 : decode cX11_write 23 = .ok (.ireturn, 1) := by decide +kernel
theorem dX11_write_24 : decode cX11_write 24 = .ok (.aload_n 0, 1) := by decide +kernel
theorem dX11_write_25 : decode cX11_write 25 = .ok (.getfield 61, 3) := by decide +kernel
theorem dX11_write_28 : decode cX11_write 28 = .ok (.getfield 100, 3) := by decide +kernel
theorem dX11_write_31 : decode cX11_write 31 = .ok (.bipush 20, 2) := by decide +kernel
theorem dX11_write_33 : decode cX11_write 33 = .ok (.if_icmp .lt 6, 3) := by decide +kernel
theorem dX11_write_36 : decode cX11_write 36 = .ok (.ldc 244, 2) := by decide +kernel
theorem dX11_write_38 : decode cX11_write 38 = .ok (.ireturn, 1) := by decide +kernel
theorem dX11_write_39 : decode cX11_write 39 = .ok (.aload_n 0, 1) := by decide +kernel
theorem dX11_write_40 : decode cX11_write 40 = .ok (.getfield 61, 3) := by decide +kernel
theorem dX11_write_43 : decode cX11_write 43 = .ok (.iload_n 1, 1) := by decide +kernel
theorem dX11_write_44 : decode cX11_write 44 = .ok (.iload_n 2, 1) := by decide +kernel
theorem dX11_write_45 : decode cX11_write 45 = .ok (.iload_n 3, 1) := by decide +kernel
theorem dX11_write_46 : decode cX11_write 46 = .ok (.invokevirtual 267, 3) := by decide +kernel
theorem dX11_write_49 : decode cX11_write 49 = .ok (.aload_n 0, 1) := by decide +kernel
theorem dX11_write_50 : decode cX11_write 50 = .ok (.getfield 61, 3) := by decide +kernel
theorem dX11_write_53 : decode cX11_write 53 = .ok (.getfield 100, 3) := by decide +kernel
theorem dX11_write_56 : decode cX11_write 56 = .ok (.ireturn, 1) := by decide +kernel
theorem dX11_tear_0 : decode cX11_tear 0 = .ok (.aload_n 0, 1) := by decide +kernel
theorem dX11_tear_1 : decode cX11_tear 1 = .ok (.getfield 61, 3) := by decide +kernel
theorem dX11_tear_4 : decode cX11_tear 4 = .ok (.getfield 100, 3) := by decide +kernel
theorem dX11_tear_7 : decode cX11_tear 7 = .ok (.istore_n 1, 1) := by decide +kernel
theorem dX11_tear_8 : decode cX11_tear 8 = .ok (.aload_n 0, 1) := by decide +kernel
theorem dX11_tear_9 : decode cX11_tear 9 = .ok (.getfield 61, 3) := by decide +kernel
theorem dX11_tear_12 : decode cX11_tear 12 = .ok (.iconst 0, 1) := by decide +kernel
theorem dX11_tear_13 : decode cX11_tear 13 = .ok (.putfield 100, 3) := by decide +kernel
theorem dX11_tear_16 : decode cX11_tear 16 = .ok (.iload_n 1, 1) := by decide +kernel
theorem dX11_tear_17 : decode cX11_tear 17 = .ok (.ireturn, 1) := by decide +kernel
theorem dX11_seed_0 : decode cX11_seed 0 = .ok (.iload_n 1, 1) := by decide +kernel
theorem dX11_seed_1 : decode cX11_seed 1 = .ok (.ifCond .ge 6, 3) := by decide +kernel
theorem dX11_seed_4 : decode cX11_seed 4 = .ok (.ldc 107, 2) := by decide +kernel
theorem dX11_seed_6 : decode cX11_seed 6 = .ok (.ireturn, 1) := by decide +kernel
theorem dX11_seed_7 : decode cX11_seed 7 = .ok (.aload_n 0, 1) := by decide +kernel
theorem dX11_seed_8 : decode cX11_seed 8 = .ok (.getfield 68, 3) := by decide +kernel
theorem dX11_seed_11 : decode cX11_seed 11 = .ok (.getfield 270, 3) := by decide +kernel
theorem dX11_seed_14 : decode cX11_seed 14 = .ok (.l2i, 1) := by decide +kernel
theorem dX11_seed_15 : decode cX11_seed 15 = .ok (.istore_n 2, 1) := by decide +kernel
theorem dX11_seed_16 : decode cX11_seed 16 = .ok (.aload_n 0, 1) := by decide +kernel
theorem dX11_seed_17 : decode cX11_seed 17 = .ok (.getfield 68, 3) := by decide +kernel
theorem dX11_seed_20 : decode cX11_seed 20 = .ok (.iload_n 1, 1) := by decide +kernel
theorem dX11_seed_21 : decode cX11_seed 21 = .ok (.i2l, 1) := by decide +kernel
theorem dX11_seed_22 : decode cX11_seed 22 = .ok (.putfield 270, 3) := by decide +kernel
theorem dX11_seed_25 : decode cX11_seed 25 = .ok (.iload_n 2, 1) := by decide +kernel
theorem dX11_seed_26 : decode cX11_seed 26 = .ok (.ireturn, 1) := by decide +kernel
theorem dX11_keep_0 : decode cX11_keep 0 = .ok (.iload_n 1, 1) := by decide +kernel
theorem dX11_keep_1 : decode cX11_keep 1 = .ok (.invokestatic 273, 3) := by decide +kernel
theorem dX11_keep_4 : decode cX11_keep 4 = .ok (.ifCond .eq 6, 3) := by decide +kernel
theorem dX11_keep_7 : decode cX11_keep 7 = .ok (.ldc 112, 2) := by decide +kernel
theorem dX11_keep_9 : decode cX11_keep 9 = .ok (.ireturn, 1) := by decide +kernel
theorem dX11_keep_10 : decode cX11_keep 10 = .ok (.aload_n 0, 1) := by decide +kernel
theorem dX11_keep_11 : decode cX11_keep 11 = .ok (.iload_n 1, 1) := by decide +kernel
theorem dX11_keep_12 : decode cX11_keep 12 = .ok (.invokevirtual 276, 3) := by decide +kernel
theorem dX11_keep_15 : decode cX11_keep 15 = .ok (.aload_n 0, 1) := by decide +kernel
theorem dX11_keep_16 : decode cX11_keep 16 = .ok (.getfield 12, 3) := by decide +kernel
theorem dX11_keep_19 : decode cX11_keep 19 = .ok (.aload_n 0, 1) := by decide +kernel
theorem dX11_keep_20 : decode cX11_keep 20 = .ok (.getfield 68, 3) := by decide +kernel
theorem dX11_keep_23 : decode cX11_keep 23 = .ok (.invokevirtual 280, 3) := by decide +kernel
theorem dX11_keep_26 : decode cX11_keep 26 = .ok (.aload_n 0, 1) := by decide +kernel
theorem dX11_keep_27 : decode cX11_keep 27 = .ok (.getfield 54, 3) := by decide +kernel
theorem dX11_keep_30 : decode cX11_keep 30 = .ok (.iconst 0, 1) := by decide +kernel
theorem dX11_keep_31 : decode cX11_keep 31 = .ok (.putfield 106, 3) := by decide +kernel
theorem dX11_keep_34 : decode cX11_keep 34 = .ok (.iconst 1, 1) := by decide +kernel
theorem dX11_keep_35 : decode cX11_keep 35 = .ok (.ireturn, 1) := by decide +kernel
theorem dX11_goBack_0 : decode cX11_goBack 0 = .ok (.iload_n 1, 1) := by decide +kernel
theorem dX11_goBack_1 : decode cX11_goBack 1 = .ok (.invokestatic 273, 3) := by decide +kernel
theorem dX11_goBack_4 : decode cX11_goBack 4 = .ok (.ifCond .eq 6, 3) := by decide +kernel
theorem dX11_goBack_7 : decode cX11_goBack 7 = .ok (.ldc 112, 2) := by decide +kernel
theorem dX11_goBack_9 : decode cX11_goBack 9 = .ok (.ireturn, 1) := by decide +kernel
theorem dX11_goBack_10 : decode cX11_goBack 10 = .ok (.aload_n 0, 1) := by decide +kernel
theorem dX11_goBack_11 : decode cX11_goBack 11 = .ok (.iload_n 1, 1) := by decide +kernel
theorem dX11_goBack_12 : decode cX11_goBack 12 = .ok (.invokevirtual 276, 3) := by decide +kernel
theorem dX11_goBack_15 : decode cX11_goBack 15 = .ok (.astore_n 2, 1) := by decide +kernel
theorem dX11_goBack_16 : decode cX11_goBack 16 = .ok (.aload_n 2, 1) := by decide +kernel
theorem dX11_goBack_17 : decode cX11_goBack 17 = .ok (.getfield 284, 3) := by decide +kernel
theorem dX11_goBack_20 : decode cX11_goBack 20 = .ok (.ifCond .ne 6, 3) := by decide +kernel
theorem dX11_goBack_23 : decode cX11_goBack 23 = .ok (.ldc 156, 2) := by decide +kernel
theorem dX11_goBack_25 : decode cX11_goBack 25 = .ok (.ireturn, 1) := by decide +kernel
theorem dX11_goBack_26 : decode cX11_goBack 26 = .ok (.aload_n 2, 1) := by decide +kernel
theorem dX11_goBack_27 : decode cX11_goBack 27 = .ok (.aload_n 0, 1) := by decide +kernel
theorem dX11_goBack_28 : decode cX11_goBack 28 = .ok (.getfield 12, 3) := by decide +kernel
theorem dX11_goBack_31 : decode cX11_goBack 31 = .ok (.aload_n 0, 1) := by decide +kernel
theorem dX11_goBack_32 : decode cX11_goBack 32 = .ok (.getfield 68, 3) := by decide +kernel
theorem dX11_goBack_35 : decode cX11_goBack 35 = .ok (.invokevirtual 287, 3) := by decide +kernel
theorem dX11_goBack_38 : decode cX11_goBack 38 = .ok (.aload_n 0, 1) := by decide +kernel
theorem dX11_goBack_39 : decode cX11_goBack 39 = .ok (.getfield 54, 3) := by decide +kernel
theorem dX11_goBack_42 : decode cX11_goBack 42 = .ok (.iconst 0, 1) := by decide +kernel
theorem dX11_goBack_43 : decode cX11_goBack 43 = .ok (.putfield 106, 3) := by decide +kernel
theorem dX11_goBack_46 : decode cX11_goBack 46 = .ok (.iconst 1, 1) := by decide +kernel
theorem dX11_goBack_47 : decode cX11_goBack 47 = .ok (.ireturn, 1) := by decide +kernel
theorem dX11_toldOfTable_0 : decode cX11_toldOfTable 0 = .ok (.aload_n 0, 1) := by decide +kernel
theorem dX11_toldOfTable_1 : decode cX11_toldOfTable 1 = .ok (.getfield 19, 3) := by decide +kernel
theorem dX11_toldOfTable_4 : decode cX11_toldOfTable 4 = .ok (.aload_n 0, 1) := by decide +kernel
theorem dX11_toldOfTable_5 : decode cX11_toldOfTable 5 = .ok (.getfield 12, 3) := by decide +kernel
theorem dX11_toldOfTable_8 : decode cX11_toldOfTable 8 = .ok (.invokevirtual 117, 3) := by decide +kernel
theorem dX11_toldOfTable_11 : decode cX11_toldOfTable 11 = .ok (.iload_n 1, 1) := by decide +kernel
theorem dX11_toldOfTable_12 : decode cX11_toldOfTable 12 = .ok (.tableswitch 92 2 7 #[40, 52, 60, 68, 76, 84], 40) := by decide +kernel
theorem dX11_toldOfTable_52 : decode cX11_toldOfTable 52 = .ok (.aload_n 0, 1) := by decide +kernel
theorem dX11_toldOfTable_53 : decode cX11_toldOfTable 53 = .ok (.getfield 19, 3) := by decide +kernel
theorem dX11_toldOfTable_56 : decode cX11_toldOfTable 56 = .ok (.invokevirtual 290, 3) := by decide +kernel
theorem dX11_toldOfTable_59 : decode cX11_toldOfTable 59 = .ok (.l2i, 1) := by decide +kernel
theorem dX11_toldOfTable_60 : decode cX11_toldOfTable 60 = .ok (.ldc 152, 2) := by decide +kernel
theorem dX11_toldOfTable_62 : decode cX11_toldOfTable 62 = .ok (.iadd, 1) := by decide +kernel
theorem dX11_toldOfTable_63 : decode cX11_toldOfTable 63 = .ok (.ireturn, 1) := by decide +kernel
theorem dX11_toldOfTable_64 : decode cX11_toldOfTable 64 = .ok (.aload_n 0, 1) := by decide +kernel
theorem dX11_toldOfTable_65 : decode cX11_toldOfTable 65 = .ok (.getfield 19, 3) := by decide +kernel
theorem dX11_toldOfTable_68 : decode cX11_toldOfTable 68 = .ok (.getfield 121, 3) := by decide +kernel
theorem dX11_toldOfTable_71 : decode cX11_toldOfTable 71 = .ok (.ireturn, 1) := by decide +kernel
theorem dX11_toldOfTable_72 : decode cX11_toldOfTable 72 = .ok (.aload_n 0, 1) := by decide +kernel
theorem dX11_toldOfTable_73 : decode cX11_toldOfTable 73 = .ok (.getfield 19, 3) := by decide +kernel
theorem dX11_toldOfTable_76 : decode cX11_toldOfTable 76 = .ok (.invokevirtual 294, 3) := by decide +kernel
theorem dX11_toldOfTable_79 : decode cX11_toldOfTable 79 = .ok (.ireturn, 1) := by decide +kernel
theorem dX11_toldOfTable_80 : decode cX11_toldOfTable 80 = .ok (.aload_n 0, 1) := by decide +kernel
theorem dX11_toldOfTable_81 : decode cX11_toldOfTable 81 = .ok (.getfield 19, 3) := by decide +kernel
theorem dX11_toldOfTable_84 : decode cX11_toldOfTable 84 = .ok (.invokevirtual 297, 3) := by decide +kernel
theorem dX11_toldOfTable_87 : decode cX11_toldOfTable 87 = .ok (.ireturn, 1) := by decide +kernel
theorem dX11_toldOfTable_88 : decode cX11_toldOfTable 88 = .ok (.aload_n 0, 1) := by decide +kernel
theorem dX11_toldOfTable_89 : decode cX11_toldOfTable 89 = .ok (.getfield 19, 3) := by decide +kernel
theorem dX11_toldOfTable_92 : decode cX11_toldOfTable 92 = .ok (.invokevirtual 300, 3) := by decide +kernel
theorem dX11_toldOfTable_95 : decode cX11_toldOfTable 95 = .ok (.ireturn, 1) := by decide +kernel
theorem dX11_toldOfTable_96 : decode cX11_toldOfTable 96 = .ok (.aload_n 0, 1) := by decide +kernel
theorem dX11_toldOfTable_97 : decode cX11_toldOfTable 97 = .ok (.getfield 19, 3) := by decide +kernel
theorem dX11_toldOfTable_100 : decode cX11_toldOfTable 100 = .ok (.invokevirtual 303, 3) := by decide +kernel
theorem dX11_toldOfTable_103 : decode cX11_toldOfTable 103 = .ok (.ireturn, 1) := by decide +kernel
theorem dX11_toldOfTable_104 : decode cX11_toldOfTable 104 = .ok (.aload_n 0, 1) := by decide +kernel
theorem dX11_toldOfTable_105 : decode cX11_toldOfTable 105 = .ok (.getfield 19, 3) := by decide +kernel
theorem dX11_toldOfTable_108 : decode cX11_toldOfTable 108 = .ok (.invokevirtual 290, 3) := by decide +kernel
theorem dX11_toldOfTable_111 : decode cX11_toldOfTable 111 = .ok (.invokestatic 306, 3) := by decide +kernel
theorem dX11_toldOfTable_114 : decode cX11_toldOfTable 114 = .ok (.ireturn, 1) := by decide +kernel
theorem dX11_toldByPrime_0 : decode cX11_toldByPrime 0 = .ok (.aload_n 0, 1) := by decide +kernel
theorem dX11_toldByPrime_1 : decode cX11_toldByPrime 1 = .ok (.invokevirtual 153, 3) := by decide +kernel
theorem dX11_toldByPrime_4 : decode cX11_toldByPrime 4 = .ok (.istore_n 2, 1) := by decide +kernel
theorem dX11_toldByPrime_5 : decode cX11_toldByPrime 5 = .ok (.iload_n 1, 1) := by decide +kernel
theorem dX11_toldByPrime_6 : decode cX11_toldByPrime 6 = .ok (.lookupswitch 44 #[(8, 26), (10, 36)], 26) := by decide +kernel
theorem dX11_toldByPrime_32 : decode cX11_toldByPrime 32 = .ok (.iload_n 2, 1) := by decide +kernel
theorem dX11_toldByPrime_33 : decode cX11_toldByPrime 33 = .ok (.ifCond .eq 7, 3) := by decide +kernel
theorem dX11_toldByPrime_36 : decode cX11_toldByPrime 36 = .ok (.iconst 1, 1) := by decide +kernel
theorem dX11_toldByPrime_37 : decode cX11_toldByPrime 37 = .ok (.goto 4, 3) := by decide +kernel
theorem dX11_toldByPrime_40 : decode cX11_toldByPrime 40 = .ok (.iconst 0, 1) := by decide +kernel
theorem dX11_toldByPrime_41 : decode cX11_toldByPrime 41 = .ok (.ireturn, 1) := by decide +kernel
theorem dX11_toldByPrime_42 : decode cX11_toldByPrime 42 = .ok (.aload_n 0, 1) := by decide +kernel
theorem dX11_toldByPrime_43 : decode cX11_toldByPrime 43 = .ok (.getfield 26, 3) := by decide +kernel
theorem dX11_toldByPrime_46 : decode cX11_toldByPrime 46 = .ok (.getfield 310, 3) := by decide +kernel
theorem dX11_toldByPrime_49 : decode cX11_toldByPrime 49 = .ok (.ireturn, 1) := by decide +kernel
theorem dX11_toldByPrime_50 : decode cX11_toldByPrime 50 = .ok (.aload_n 0, 1) := by decide +kernel
theorem dX11_toldByPrime_51 : decode cX11_toldByPrime 51 = .ok (.getfield 26, 3) := by decide +kernel
theorem dX11_toldByPrime_54 : decode cX11_toldByPrime 54 = .ok (.invokevirtual 311, 3) := by decide +kernel
theorem dX11_toldByPrime_57 : decode cX11_toldByPrime 57 = .ok (.ireturn, 1) := by decide +kernel
theorem dX11_toldOfGuesses_0 : decode cX11_toldOfGuesses 0 = .ok (.aload_n 0, 1) := by decide +kernel
theorem dX11_toldOfGuesses_1 : decode cX11_toldOfGuesses 1 = .ok (.invokevirtual 153, 3) := by decide +kernel
theorem dX11_toldOfGuesses_4 : decode cX11_toldOfGuesses 4 = .ok (.ifCond .eq 5, 3) := by decide +kernel
theorem dX11_toldOfGuesses_7 : decode cX11_toldOfGuesses 7 = .ok (.iconst (-1), 1) := by decide +kernel
theorem dX11_toldOfGuesses_8 : decode cX11_toldOfGuesses 8 = .ok (.ireturn, 1) := by decide +kernel
theorem dX11_toldOfGuesses_9 : decode cX11_toldOfGuesses 9 = .ok (.aload_n 0, 1) := by decide +kernel
theorem dX11_toldOfGuesses_10 : decode cX11_toldOfGuesses 10 = .ok (.invokevirtual 314, 3) := by decide +kernel
theorem dX11_toldOfGuesses_13 : decode cX11_toldOfGuesses 13 = .ok (.istore_n 2, 1) := by decide +kernel
theorem dX11_toldOfGuesses_14 : decode cX11_toldOfGuesses 14 = .ok (.iload_n 1, 1) := by decide +kernel
theorem dX11_toldOfGuesses_15 : decode cX11_toldOfGuesses 15 = .ok (.bipush 12, 2) := by decide +kernel
theorem dX11_toldOfGuesses_17 : decode cX11_toldOfGuesses 17 = .ok (.if_icmp .ne 5, 3) := by decide +kernel
theorem dX11_toldOfGuesses_20 : decode cX11_toldOfGuesses 20 = .ok (.iload_n 2, 1) := by decide +kernel
theorem dX11_toldOfGuesses_21 : decode cX11_toldOfGuesses 21 = .ok (.ireturn, 1) := by decide +kernel
theorem dX11_toldOfGuesses_22 : decode cX11_toldOfGuesses 22 = .ok (.aload_n 0, 1) := by decide +kernel
theorem dX11_toldOfGuesses_23 : decode cX11_toldOfGuesses 23 = .ok (.getfield 19, 3) := by decide +kernel
theorem dX11_toldOfGuesses_26 : decode cX11_toldOfGuesses 26 = .ok (.aload_n 0, 1) := by decide +kernel
theorem dX11_toldOfGuesses_27 : decode cX11_toldOfGuesses 27 = .ok (.getfield 12, 3) := by decide +kernel
theorem dX11_toldOfGuesses_30 : decode cX11_toldOfGuesses 30 = .ok (.invokevirtual 117, 3) := by decide +kernel
theorem dX11_toldOfGuesses_33 : decode cX11_toldOfGuesses 33 = .ok (.aload_n 0, 1) := by decide +kernel
theorem dX11_toldOfGuesses_34 : decode cX11_toldOfGuesses 34 = .ok (.getfield 47, 3) := by decide +kernel
theorem dX11_toldOfGuesses_37 : decode cX11_toldOfGuesses 37 = .ok (.aload_n 0, 1) := by decide +kernel
theorem dX11_toldOfGuesses_38 : decode cX11_toldOfGuesses 38 = .ok (.getfield 12, 3) := by decide +kernel
theorem dX11_toldOfGuesses_41 : decode cX11_toldOfGuesses 41 = .ok (.aload_n 0, 1) := by decide +kernel
theorem dX11_toldOfGuesses_42 : decode cX11_toldOfGuesses 42 = .ok (.getfield 26, 3) := by decide +kernel
theorem dX11_toldOfGuesses_45 : decode cX11_toldOfGuesses 45 = .ok (.aload_n 0, 1) := by decide +kernel
theorem dX11_toldOfGuesses_46 : decode cX11_toldOfGuesses 46 = .ok (.getfield 19, 3) := by decide +kernel
theorem dX11_toldOfGuesses_49 : decode cX11_toldOfGuesses 49 = .ok (.iload_n 2, 1) := by decide +kernel
theorem dX11_toldOfGuesses_50 : decode cX11_toldOfGuesses 50 = .ok (.invokevirtual 317, 3) := by decide +kernel
theorem dX11_toldOfGuesses_53 : decode cX11_toldOfGuesses 53 = .ok (.iload_n 1, 1) := by decide +kernel
theorem dX11_toldOfGuesses_54 : decode cX11_toldOfGuesses 54 = .ok (.bipush 13, 2) := by decide +kernel
theorem dX11_toldOfGuesses_56 : decode cX11_toldOfGuesses 56 = .ok (.if_icmp .ne 13, 3) := by decide +kernel
theorem dX11_toldOfGuesses_59 : decode cX11_toldOfGuesses 59 = .ok (.aload_n 0, 1) := by decide +kernel
theorem dX11_toldOfGuesses_60 : decode cX11_toldOfGuesses 60 = .ok (.getfield 47, 3) := by decide +kernel
theorem dX11_toldOfGuesses_63 : decode cX11_toldOfGuesses 63 = .ok (.getfield 321, 3) := by decide +kernel
theorem dX11_toldOfGuesses_66 : decode cX11_toldOfGuesses 66 = .ok (.goto 10, 3) := by decide +kernel
theorem dX11_toldOfGuesses_69 : decode cX11_toldOfGuesses 69 = .ok (.aload_n 0, 1) := by decide +kernel
theorem dX11_toldOfGuesses_70 : decode cX11_toldOfGuesses 70 = .ok (.getfield 47, 3) := by decide +kernel
theorem dX11_toldOfGuesses_73 : decode cX11_toldOfGuesses 73 = .ok (.getfield 324, 3) := by decide +kernel
theorem dX11_toldOfGuesses_76 : decode cX11_toldOfGuesses 76 = .ok (.ireturn, 1) := by decide +kernel
theorem dX11_sure_0 : decode cX11_sure 0 = .ok (.ldc2_w 327, 3) := by decide +kernel
theorem dX11_sure_3 : decode cX11_sure 3 = .ok (.lstore_n 1, 1) := by decide +kernel
theorem dX11_sure_4 : decode cX11_sure 4 = .ok (.iconst 0, 1) := by decide +kernel
theorem dX11_sure_5 : decode cX11_sure 5 = .ok (.istore_n 3, 1) := by decide +kernel
theorem dX11_sure_6 : decode cX11_sure 6 = .ok (.iload_n 3, 1) := by decide +kernel
theorem dX11_sure_7 : decode cX11_sure 7 = .ok (.aload_n 0, 1) := by decide +kernel
theorem dX11_sure_8 : decode cX11_sure 8 = .ok (.getfield 12, 3) := by decide +kernel
theorem dX11_sure_11 : decode cX11_sure 11 = .ok (.getfield 82, 3) := by decide +kernel
theorem dX11_sure_14 : decode cX11_sure 14 = .ok (.if_icmp .ge 20, 3) := by decide +kernel
theorem dX11_sure_17 : decode cX11_sure 17 = .ok (.lload_n 1, 1) := by decide +kernel
theorem dX11_sure_18 : decode cX11_sure 18 = .ok (.aload_n 0, 1) := by decide +kernel
theorem dX11_sure_19 : decode cX11_sure 19 = .ok (.getfield 12, 3) := by decide +kernel
theorem dX11_sure_22 : decode cX11_sure 22 = .ok (.iload_n 3, 1) := by decide +kernel
theorem dX11_sure_23 : decode cX11_sure 23 = .ok (.invokevirtual 329, 3) := by decide +kernel
theorem dX11_sure_26 : decode cX11_sure 26 = .ok (.lmul, 1) := by decide +kernel
theorem dX11_sure_27 : decode cX11_sure 27 = .ok (.lstore_n 1, 1) := by decide +kernel
theorem dX11_sure_28 : decode cX11_sure 28 = .ok (.iinc 3 1, 3) := by decide +kernel
theorem dX11_sure_31 : decode cX11_sure 31 = .ok (.goto (-25), 3) := by decide +kernel
theorem dX11_sure_34 : decode cX11_sure 34 = .ok (.iconst 0, 1) := by decide +kernel
theorem dX11_sure_35 : decode cX11_sure 35 = .ok (.istore_n 3, 1) := by decide +kernel
theorem dX11_sure_36 : decode cX11_sure 36 = .ok (.lconst 1, 1) := by decide +kernel
theorem dX11_sure_37 : decode cX11_sure 37 = .ok (.lstore 4, 2) := by decide +kernel
theorem dX11_sure_39 : decode cX11_sure 39 = .ok (.lload 4, 2) := by decide +kernel
theorem dX11_sure_41 : decode cX11_sure 41 = .ok (.lload_n 1, 1) := by decide +kernel
theorem dX11_sure_42 : decode cX11_sure 42 = .ok (.lcmp, 1) := by decide +kernel
theorem dX11_sure_43 : decode cX11_sure 43 = .ok (.ifCond .gt 28, 3) := by decide +kernel
theorem dX11_sure_46 : decode cX11_sure 46 = .ok (.iload_n 3, 1) := by decide +kernel
theorem dX11_sure_47 : decode cX11_sure 47 = .ok (.bipush 100, 2) := by decide +kernel
theorem dX11_sure_49 : decode cX11_sure 49 = .ok (.if_icmp .ge 22, 3) := by decide +kernel
theorem dX11_sure_52 : decode cX11_sure 52 = .ok (.iinc 3 1, 3) := by decide +kernel
theorem dX11_sure_55 : decode cX11_sure 55 = .ok (.lload 4, 2) := by decide +kernel
theorem dX11_sure_57 : decode cX11_sure 57 = .ok (.aload_n 0, 1) := by decide +kernel
theorem dX11_sure_58 : decode cX11_sure 58 = .ok (.getfield 12, 3) := by decide +kernel
theorem dX11_sure_61 : decode cX11_sure 61 = .ok (.invokevirtual 86, 3) := by decide +kernel
theorem dX11_sure_64 : decode cX11_sure 64 = .ok (.i2l, 1) := by decide +kernel
theorem dX11_sure_65 : decode cX11_sure 65 = .ok (.lmul, 1) := by decide +kernel
theorem dX11_sure_66 : decode cX11_sure 66 = .ok (.lstore 4, 2) := by decide +kernel
theorem dX11_sure_68 : decode cX11_sure 68 = .ok (.goto (-29), 3) := by decide +kernel
theorem dX11_sure_71 : decode cX11_sure 71 = .ok (.iload_n 3, 1) := by decide +kernel
theorem dX11_sure_72 : decode cX11_sure 72 = .ok (.ireturn, 1) := by decide +kernel
theorem dX11_rank_0 : decode cX11_rank 0 = .ok (.aload_n 0, 1) := by decide +kernel
theorem dX11_rank_1 : decode cX11_rank 1 = .ok (.getfield 19, 3) := by decide +kernel
theorem dX11_rank_4 : decode cX11_rank 4 = .ok (.aload_n 0, 1) := by decide +kernel
theorem dX11_rank_5 : decode cX11_rank 5 = .ok (.getfield 12, 3) := by decide +kernel
theorem dX11_rank_8 : decode cX11_rank 8 = .ok (.invokevirtual 117, 3) := by decide +kernel
theorem dX11_rank_11 : decode cX11_rank 11 = .ok (.aload_n 0, 1) := by decide +kernel
theorem dX11_rank_12 : decode cX11_rank 12 = .ok (.getfield 19, 3) := by decide +kernel
theorem dX11_rank_15 : decode cX11_rank 15 = .ok (.getfield 121, 3) := by decide +kernel
theorem dX11_rank_18 : decode cX11_rank 18 = .ok (.ireturn, 1) := by decide +kernel
theorem dX11_whyNoValue_0 : decode cX11_whyNoValue 0 = .ok (.aload_n 0, 1) := by decide +kernel
theorem dX11_whyNoValue_1 : decode cX11_whyNoValue 1 = .ok (.getfield 12, 3) := by decide +kernel
theorem dX11_whyNoValue_4 : decode cX11_whyNoValue 4 = .ok (.iload_n 1, 1) := by decide +kernel
theorem dX11_whyNoValue_5 : decode cX11_whyNoValue 5 = .ok (.invokevirtual 108, 3) := by decide +kernel
theorem dX11_whyNoValue_8 : decode cX11_whyNoValue 8 = .ok (.ifCond .ne 6, 3) := by decide +kernel
theorem dX11_whyNoValue_11 : decode cX11_whyNoValue 11 = .ok (.ldc 112, 2) := by decide +kernel
theorem dX11_whyNoValue_13 : decode cX11_whyNoValue 13 = .ok (.ireturn, 1) := by decide +kernel
theorem dX11_whyNoValue_14 : decode cX11_whyNoValue 14 = .ok (.aload_n 0, 1) := by decide +kernel
theorem dX11_whyNoValue_15 : decode cX11_whyNoValue 15 = .ok (.getfield 19, 3) := by decide +kernel
theorem dX11_whyNoValue_18 : decode cX11_whyNoValue 18 = .ok (.aload_n 0, 1) := by decide +kernel
theorem dX11_whyNoValue_19 : decode cX11_whyNoValue 19 = .ok (.getfield 12, 3) := by decide +kernel
theorem dX11_whyNoValue_22 : decode cX11_whyNoValue 22 = .ok (.invokevirtual 117, 3) := by decide +kernel
theorem dX11_whyNoValue_25 : decode cX11_whyNoValue 25 = .ok (.aload_n 0, 1) := by decide +kernel
theorem dX11_whyNoValue_26 : decode cX11_whyNoValue 26 = .ok (.getfield 19, 3) := by decide +kernel
theorem dX11_whyNoValue_29 : decode cX11_whyNoValue 29 = .ok (.invokevirtual 138, 3) := by decide +kernel
theorem dX11_whyNoValue_32 : decode cX11_whyNoValue 32 = .ok (.ifCond .eq 7, 3) := by decide +kernel
theorem dX11_whyNoValue_35 : decode cX11_whyNoValue 35 = .ok (.iconst 0, 1) := by decide +kernel
theorem dX11_whyNoValue_36 : decode cX11_whyNoValue 36 = .ok (.goto 4, 3) := by decide +kernel
theorem dX11_whyNoValue_39 : decode cX11_whyNoValue 39 = .ok (.iconst (-1), 1) := by decide +kernel
theorem dX11_whyNoValue_40 : decode cX11_whyNoValue 40 = .ok (.ireturn, 1) := by decide +kernel
theorem dX11_primeIsBad_0 : decode cX11_primeIsBad 0 = .ok (.aload_n 0, 1) := by decide +kernel
theorem dX11_primeIsBad_1 : decode cX11_primeIsBad 1 = .ok (.getfield 26, 3) := by decide +kernel
theorem dX11_primeIsBad_4 : decode cX11_primeIsBad 4 = .ok (.aload_n 0, 1) := by decide +kernel
theorem dX11_primeIsBad_5 : decode cX11_primeIsBad 5 = .ok (.getfield 12, 3) := by decide +kernel
theorem dX11_primeIsBad_8 : decode cX11_primeIsBad 8 = .ok (.invokevirtual 332, 3) := by decide +kernel
theorem dX11_primeIsBad_11 : decode cX11_primeIsBad 11 = .ok (.aload_n 0, 1) := by decide +kernel
theorem dX11_primeIsBad_12 : decode cX11_primeIsBad 12 = .ok (.getfield 26, 3) := by decide +kernel
theorem dX11_primeIsBad_15 : decode cX11_primeIsBad 15 = .ok (.getfield 310, 3) := by decide +kernel
theorem dX11_primeIsBad_18 : decode cX11_primeIsBad 18 = .ok (.aload_n 0, 1) := by decide +kernel
theorem dX11_primeIsBad_19 : decode cX11_primeIsBad 19 = .ok (.getfield 12, 3) := by decide +kernel
theorem dX11_primeIsBad_22 : decode cX11_primeIsBad 22 = .ok (.getfield 82, 3) := by decide +kernel
theorem dX11_primeIsBad_25 : decode cX11_primeIsBad 25 = .ok (.if_icmp .ge 7, 3) := by decide +kernel
theorem dX11_primeIsBad_28 : decode cX11_primeIsBad 28 = .ok (.iconst 1, 1) := by decide +kernel
theorem dX11_primeIsBad_29 : decode cX11_primeIsBad 29 = .ok (.goto 4, 3) := by decide +kernel
theorem dX11_primeIsBad_32 : decode cX11_primeIsBad 32 = .ok (.iconst 0, 1) := by decide +kernel
theorem dX11_primeIsBad_33 : decode cX11_primeIsBad 33 = .ok (.ireturn, 1) := by decide +kernel
theorem dX11_lift_0 : decode cX11_lift 0 = .ok (.aload_n 0, 1) := by decide +kernel
theorem dX11_lift_1 : decode cX11_lift 1 = .ok (.getfield 33, 3) := by decide +kernel
theorem dX11_lift_4 : decode cX11_lift 4 = .ok (.aload_n 0, 1) := by decide +kernel
theorem dX11_lift_5 : decode cX11_lift 5 = .ok (.getfield 12, 3) := by decide +kernel
theorem dX11_lift_8 : decode cX11_lift 8 = .ok (.invokevirtual 333, 3) := by decide +kernel
theorem dX11_lift_11 : decode cX11_lift 11 = .ok (.iconst 0, 1) := by decide +kernel
theorem dX11_lift_12 : decode cX11_lift 12 = .ok (.istore_n 2, 1) := by decide +kernel
theorem dX11_lift_13 : decode cX11_lift 13 = .ok (.iload_n 2, 1) := by decide +kernel
theorem dX11_lift_14 : decode cX11_lift 14 = .ok (.iload_n 1, 1) := by decide +kernel
theorem dX11_lift_15 : decode cX11_lift 15 = .ok (.if_icmp .ge 30, 3) := by decide +kernel
theorem dX11_lift_18 : decode cX11_lift 18 = .ok (.iload_n 2, 1) := by decide +kernel
theorem dX11_lift_19 : decode cX11_lift 19 = .ok (.bipush 100, 2) := by decide +kernel
theorem dX11_lift_21 : decode cX11_lift 21 = .ok (.if_icmp .ge 24, 3) := by decide +kernel
theorem dX11_lift_24 : decode cX11_lift 24 = .ok (.aload_n 0, 1) := by decide +kernel
theorem dX11_lift_25 : decode cX11_lift 25 = .ok (.getfield 33, 3) := by decide +kernel
theorem dX11_lift_28 : decode cX11_lift 28 = .ok (.aload_n 0, 1) := by decide +kernel
theorem dX11_lift_29 : decode cX11_lift 29 = .ok (.getfield 12, 3) := by decide +kernel
theorem dX11_lift_32 : decode cX11_lift 32 = .ok (.aload_n 0, 1) := by decide +kernel
theorem dX11_lift_33 : decode cX11_lift 33 = .ok (.getfield 26, 3) := by decide +kernel
theorem dX11_lift_36 : decode cX11_lift 36 = .ok (.invokevirtual 335, 3) := by decide +kernel
theorem dX11_lift_39 : decode cX11_lift 39 = .ok (.iinc 2 1, 3) := by decide +kernel
theorem dX11_lift_42 : decode cX11_lift 42 = .ok (.goto (-29), 3) := by decide +kernel
theorem dX11_lift_45 : decode cX11_lift 45 = .ok (.return_, 1) := by decide +kernel
theorem dX11_firstWrong_0 : decode cX11_firstWrong 0 = .ok (.aload_n 0, 1) := by decide +kernel
theorem dX11_firstWrong_1 : decode cX11_firstWrong 1 = .ok (.getfield 61, 3) := by decide +kernel
theorem dX11_firstWrong_4 : decode cX11_firstWrong 4 = .ok (.getfield 100, 3) := by decide +kernel
theorem dX11_firstWrong_7 : decode cX11_firstWrong 7 = .ok (.ifCond .ne 5, 3) := by decide +kernel
theorem dX11_firstWrong_10 : decode cX11_firstWrong 10 = .ok (.iconst (-1), 1) := by decide +kernel
theorem dX11_firstWrong_11 : decode cX11_firstWrong 11 = .ok (.ireturn, 1) := by decide +kernel
theorem dX11_firstWrong_12 : decode cX11_firstWrong 12 = .ok (.aload_n 0, 1) := by decide +kernel
theorem dX11_firstWrong_13 : decode cX11_firstWrong 13 = .ok (.invokevirtual 153, 3) := by decide +kernel
theorem dX11_firstWrong_16 : decode cX11_firstWrong 16 = .ok (.ifCond .eq 5, 3) := by decide +kernel
theorem dX11_firstWrong_19 : decode cX11_firstWrong 19 = .ok (.iconst 0, 1) := by decide +kernel
theorem dX11_firstWrong_20 : decode cX11_firstWrong 20 = .ok (.ireturn, 1) := by decide +kernel
theorem dX11_firstWrong_21 : decode cX11_firstWrong 21 = .ok (.aload_n 0, 1) := by decide +kernel
theorem dX11_firstWrong_22 : decode cX11_firstWrong 22 = .ok (.getfield 61, 3) := by decide +kernel
theorem dX11_firstWrong_25 : decode cX11_firstWrong 25 = .ok (.aload_n 0, 1) := by decide +kernel
theorem dX11_firstWrong_26 : decode cX11_firstWrong 26 = .ok (.getfield 12, 3) := by decide +kernel
theorem dX11_firstWrong_29 : decode cX11_firstWrong 29 = .ok (.getfield 82, 3) := by decide +kernel
theorem dX11_firstWrong_32 : decode cX11_firstWrong 32 = .ok (.invokevirtual 339, 3) := by decide +kernel
theorem dX11_firstWrong_35 : decode cX11_firstWrong 35 = .ok (.istore_n 1, 1) := by decide +kernel
theorem dX11_firstWrong_36 : decode cX11_firstWrong 36 = .ok (.aload_n 0, 1) := by decide +kernel
theorem dX11_firstWrong_37 : decode cX11_firstWrong 37 = .ok (.getfield 33, 3) := by decide +kernel
theorem dX11_firstWrong_40 : decode cX11_firstWrong 40 = .ok (.aload_n 0, 1) := by decide +kernel
theorem dX11_firstWrong_41 : decode cX11_firstWrong 41 = .ok (.getfield 12, 3) := by decide +kernel
theorem dX11_firstWrong_44 : decode cX11_firstWrong 44 = .ok (.invokevirtual 333, 3) := by decide +kernel
theorem dX11_firstWrong_47 : decode cX11_firstWrong 47 = .ok (.iconst 0, 1) := by decide +kernel
theorem dX11_firstWrong_48 : decode cX11_firstWrong 48 = .ok (.istore_n 2, 1) := by decide +kernel
theorem dX11_firstWrong_49 : decode cX11_firstWrong 49 = .ok (.iload_n 2, 1) := by decide +kernel
theorem dX11_firstWrong_50 : decode cX11_firstWrong 50 = .ok (.bipush 100, 2) := by decide +kernel
theorem dX11_firstWrong_52 : decode cX11_firstWrong 52 = .ok (.if_icmp .ge 41, 3) := by decide +kernel
theorem dX11_firstWrong_55 : decode cX11_firstWrong 55 = .ok (.aload_n 0, 1) := by decide +kernel
theorem dX11_firstWrong_56 : decode cX11_firstWrong 56 = .ok (.getfield 33, 3) := by decide +kernel
theorem dX11_firstWrong_59 : decode cX11_firstWrong 59 = .ok (.aload_n 0, 1) := by decide +kernel
theorem dX11_firstWrong_60 : decode cX11_firstWrong 60 = .ok (.getfield 12, 3) := by decide +kernel
theorem dX11_firstWrong_63 : decode cX11_firstWrong 63 = .ok (.aload_n 0, 1) := by decide +kernel
theorem dX11_firstWrong_64 : decode cX11_firstWrong 64 = .ok (.getfield 26, 3) := by decide +kernel
theorem dX11_firstWrong_67 : decode cX11_firstWrong 67 = .ok (.invokevirtual 335, 3) := by decide +kernel
theorem dX11_firstWrong_70 : decode cX11_firstWrong 70 = .ok (.aload_n 0, 1) := by decide +kernel
theorem dX11_firstWrong_71 : decode cX11_firstWrong 71 = .ok (.getfield 61, 3) := by decide +kernel
theorem dX11_firstWrong_74 : decode cX11_firstWrong 74 = .ok (.iload_n 2, 1) := by decide +kernel
theorem dX11_firstWrong_75 : decode cX11_firstWrong 75 = .ok (.aload_n 0, 1) := by decide +kernel
theorem dX11_firstWrong_76 : decode cX11_firstWrong 76 = .ok (.getfield 33, 3) := by decide +kernel
theorem dX11_firstWrong_79 : decode cX11_firstWrong 79 = .ok (.getfield 167, 3) := by decide +kernel
theorem dX11_firstWrong_82 : decode cX11_firstWrong 82 = .ok (.iload_n 1, 1) := by decide +kernel
theorem dX11_firstWrong_83 : decode cX11_firstWrong 83 = .ok (.invokevirtual 342, 3) := by decide +kernel
theorem dX11_firstWrong_86 : decode cX11_firstWrong 86 = .ok (.istore_n 1, 1) := by decide +kernel
theorem dX11_firstWrong_87 : decode cX11_firstWrong 87 = .ok (.iinc 2 1, 3) := by decide +kernel
theorem dX11_firstWrong_90 : decode cX11_firstWrong 90 = .ok (.goto (-41), 3) := by decide +kernel
theorem dX11_firstWrong_93 : decode cX11_firstWrong 93 = .ok (.iload_n 1, 1) := by decide +kernel
theorem dX11_firstWrong_94 : decode cX11_firstWrong 94 = .ok (.aload_n 0, 1) := by decide +kernel
theorem dX11_firstWrong_95 : decode cX11_firstWrong 95 = .ok (.getfield 61, 3) := by decide +kernel
theorem dX11_firstWrong_98 : decode cX11_firstWrong 98 = .ok (.getfield 100, 3) := by decide +kernel
theorem dX11_firstWrong_101 : decode cX11_firstWrong 101 = .ok (.if_icmp .ne 7, 3) := by decide +kernel
theorem dX11_firstWrong_104 : decode cX11_firstWrong 104 = .ok (.iconst (-1), 1) := by decide +kernel
theorem dX11_firstWrong_105 : decode cX11_firstWrong 105 = .ok (.goto 4, 3) := by decide +kernel
theorem dX11_firstWrong_108 : decode cX11_firstWrong 108 = .ok (.iload_n 1, 1) := by decide +kernel
theorem dX11_firstWrong_109 : decode cX11_firstWrong 109 = .ok (.ireturn, 1) := by decide +kernel
theorem dX11_change_0 : decode cX11_change 0 = .ok (.aload_n 0, 1) := by decide +kernel
theorem dX11_change_1 : decode cX11_change 1 = .ok (.getfield 54, 3) := by decide +kernel
theorem dX11_change_4 : decode cX11_change 4 = .ok (.aload_n 0, 1) := by decide +kernel
theorem dX11_change_5 : decode cX11_change 5 = .ok (.getfield 12, 3) := by decide +kernel
theorem dX11_change_8 : decode cX11_change 8 = .ok (.invokevirtual 222, 3) := by decide +kernel
theorem dX11_change_11 : decode cX11_change 11 = .ok (.aload_n 0, 1) := by decide +kernel
theorem dX11_change_12 : decode cX11_change 12 = .ok (.getfield 12, 3) := by decide +kernel
theorem dX11_change_15 : decode cX11_change 15 = .ok (.iload_n 1, 1) := by decide +kernel
theorem dX11_change_16 : decode cX11_change 16 = .ok (.iload_n 2, 1) := by decide +kernel
theorem dX11_change_17 : decode cX11_change 17 = .ok (.invokevirtual 113, 3) := by decide +kernel
theorem dX11_change_20 : decode cX11_change 20 = .ok (.istore 4, 2) := by decide +kernel
theorem dX11_change_22 : decode cX11_change 22 = .ok (.aload_n 0, 1) := by decide +kernel
theorem dX11_change_23 : decode cX11_change 23 = .ok (.getfield 12, 3) := by decide +kernel
theorem dX11_change_26 : decode cX11_change 26 = .ok (.iload_n 1, 1) := by decide +kernel
theorem dX11_change_27 : decode cX11_change 27 = .ok (.iload_n 2, 1) := by decide +kernel
theorem dX11_change_28 : decode cX11_change 28 = .ok (.iload_n 3, 1) := by decide +kernel
theorem dX11_change_29 : decode cX11_change 29 = .ok (.invokevirtual 346, 3) := by decide +kernel
theorem dX11_change_32 : decode cX11_change 32 = .ok (.iload 4, 2) := by decide +kernel
theorem dX11_change_34 : decode cX11_change 34 = .ok (.bipush 100, 2) := by decide +kernel
theorem dX11_change_36 : decode cX11_change 36 = .ok (.iadd, 1) := by decide +kernel
theorem dX11_change_37 : decode cX11_change 37 = .ok (.ireturn, 1) := by decide +kernel
theorem dX11_changeByDraws_0 : decode cX11_changeByDraws 0 = .ok (.aload_n 0, 1) := by decide +kernel
theorem dX11_changeByDraws_1 : decode cX11_changeByDraws 1 = .ok (.getfield 68, 3) := by decide +kernel
theorem dX11_changeByDraws_4 : decode cX11_changeByDraws 4 = .ok (.aload_n 0, 1) := by decide +kernel
theorem dX11_changeByDraws_5 : decode cX11_changeByDraws 5 = .ok (.getfield 12, 3) := by decide +kernel
theorem dX11_changeByDraws_8 : decode cX11_changeByDraws 8 = .ok (.getfield 82, 3) := by decide +kernel
theorem dX11_changeByDraws_11 : decode cX11_changeByDraws 11 = .ok (.invokevirtual 349, 3) := by decide +kernel
theorem dX11_changeByDraws_14 : decode cX11_changeByDraws 14 = .ok (.istore_n 1, 1) := by decide +kernel
theorem dX11_changeByDraws_15 : decode cX11_changeByDraws 15 = .ok (.aload_n 0, 1) := by decide +kernel
theorem dX11_changeByDraws_16 : decode cX11_changeByDraws 16 = .ok (.getfield 68, 3) := by decide +kernel
theorem dX11_changeByDraws_19 : decode cX11_changeByDraws 19 = .ok (.aload_n 0, 1) := by decide +kernel
theorem dX11_changeByDraws_20 : decode cX11_changeByDraws 20 = .ok (.getfield 12, 3) := by decide +kernel
theorem dX11_changeByDraws_23 : decode cX11_changeByDraws 23 = .ok (.getfield 82, 3) := by decide +kernel
theorem dX11_changeByDraws_26 : decode cX11_changeByDraws 26 = .ok (.iconst 1, 1) := by decide +kernel
theorem dX11_changeByDraws_27 : decode cX11_changeByDraws 27 = .ok (.iadd, 1) := by decide +kernel
theorem dX11_changeByDraws_28 : decode cX11_changeByDraws 28 = .ok (.invokevirtual 349, 3) := by decide +kernel
theorem dX11_changeByDraws_31 : decode cX11_changeByDraws 31 = .ok (.istore_n 2, 1) := by decide +kernel
theorem dX11_changeByDraws_32 : decode cX11_changeByDraws 32 = .ok (.aload_n 0, 1) := by decide +kernel
theorem dX11_changeByDraws_33 : decode cX11_changeByDraws 33 = .ok (.getfield 68, 3) := by decide +kernel
theorem dX11_changeByDraws_36 : decode cX11_changeByDraws 36 = .ok (.bipush 19, 2) := by decide +kernel
theorem dX11_changeByDraws_38 : decode cX11_changeByDraws 38 = .ok (.invokevirtual 349, 3) := by decide +kernel
theorem dX11_changeByDraws_41 : decode cX11_changeByDraws 41 = .ok (.istore_n 3, 1) := by decide +kernel
theorem dX11_changeByDraws_42 : decode cX11_changeByDraws 42 = .ok (.iload_n 2, 1) := by decide +kernel
theorem dX11_changeByDraws_43 : decode cX11_changeByDraws 43 = .ok (.aload_n 0, 1) := by decide +kernel
theorem dX11_changeByDraws_44 : decode cX11_changeByDraws 44 = .ok (.getfield 12, 3) := by decide +kernel
theorem dX11_changeByDraws_47 : decode cX11_changeByDraws 47 = .ok (.getfield 82, 3) := by decide +kernel
theorem dX11_changeByDraws_50 : decode cX11_changeByDraws 50 = .ok (.if_icmp .ne 20, 3) := by decide +kernel
theorem dX11_changeByDraws_53 : decode cX11_changeByDraws 53 = .ok (.aload_n 0, 1) := by decide +kernel
theorem dX11_changeByDraws_54 : decode cX11_changeByDraws 54 = .ok (.iload_n 1, 1) := by decide +kernel
theorem dX11_changeByDraws_55 : decode cX11_changeByDraws 55 = .ok (.iconst 4, 1) := by decide +kernel
theorem dX11_changeByDraws_56 : decode cX11_changeByDraws 56 = .ok (.bipush 11, 2) := by decide +kernel
theorem dX11_changeByDraws_58 : decode cX11_changeByDraws 58 = .ok (.iload_n 3, 1) := by decide +kernel
theorem dX11_changeByDraws_59 : decode cX11_changeByDraws 59 = .ok (.imul, 1) := by decide +kernel
theorem dX11_changeByDraws_60 : decode cX11_changeByDraws 60 = .ok (.bipush 99, 2) := by decide +kernel
theorem dX11_changeByDraws_62 : decode cX11_changeByDraws 62 = .ok (.isub, 1) := by decide +kernel
theorem dX11_changeByDraws_63 : decode cX11_changeByDraws 63 = .ok (.invokevirtual 228, 3) := by decide +kernel
theorem dX11_changeByDraws_66 : decode cX11_changeByDraws 66 = .ok (.pop, 1) := by decide +kernel
theorem dX11_changeByDraws_67 : decode cX11_changeByDraws 67 = .ok (.goto 14, 3) := by decide +kernel
theorem dX11_changeByDraws_70 : decode cX11_changeByDraws 70 = .ok (.aload_n 0, 1) := by decide +kernel
theorem dX11_changeByDraws_71 : decode cX11_changeByDraws 71 = .ok (.iload_n 1, 1) := by decide +kernel
theorem dX11_changeByDraws_72 : decode cX11_changeByDraws 72 = .ok (.iload_n 2, 1) := by decide +kernel
theorem dX11_changeByDraws_73 : decode cX11_changeByDraws 73 = .ok (.iload_n 3, 1) := by decide +kernel
theorem dX11_changeByDraws_74 : decode cX11_changeByDraws 74 = .ok (.bipush 9, 2) := by decide +kernel
theorem dX11_changeByDraws_76 : decode cX11_changeByDraws 76 = .ok (.isub, 1) := by decide +kernel
theorem dX11_changeByDraws_77 : decode cX11_changeByDraws 77 = .ok (.invokevirtual 228, 3) := by decide +kernel
theorem dX11_changeByDraws_80 : decode cX11_changeByDraws 80 = .ok (.pop, 1) := by decide +kernel
theorem dX11_changeByDraws_81 : decode cX11_changeByDraws 81 = .ok (.return_, 1) := by decide +kernel
theorem dX11_areNotTwoRows_0 : decode cX11_areNotTwoRows 0 = .ok (.aload_n 0, 1) := by decide +kernel
theorem dX11_areNotTwoRows_1 : decode cX11_areNotTwoRows 1 = .ok (.getfield 12, 3) := by decide +kernel
theorem dX11_areNotTwoRows_4 : decode cX11_areNotTwoRows 4 = .ok (.iload_n 1, 1) := by decide +kernel
theorem dX11_areNotTwoRows_5 : decode cX11_areNotTwoRows 5 = .ok (.invokevirtual 108, 3) := by decide +kernel
theorem dX11_areNotTwoRows_8 : decode cX11_areNotTwoRows 8 = .ok (.ifCond .eq 19, 3) := by decide +kernel
theorem dX11_areNotTwoRows_11 : decode cX11_areNotTwoRows 11 = .ok (.aload_n 0, 1) := by decide +kernel
theorem dX11_areNotTwoRows_12 : decode cX11_areNotTwoRows 12 = .ok (.getfield 12, 3) := by decide +kernel
theorem dX11_areNotTwoRows_15 : decode cX11_areNotTwoRows 15 = .ok (.iload_n 2, 1) := by decide +kernel
theorem dX11_areNotTwoRows_16 : decode cX11_areNotTwoRows 16 = .ok (.invokevirtual 108, 3) := by decide +kernel
theorem dX11_areNotTwoRows_19 : decode cX11_areNotTwoRows 19 = .ok (.ifCond .eq 8, 3) := by decide +kernel
theorem dX11_areNotTwoRows_22 : decode cX11_areNotTwoRows 22 = .ok (.iload_n 1, 1) := by decide +kernel
theorem dX11_areNotTwoRows_23 : decode cX11_areNotTwoRows 23 = .ok (.iload_n 2, 1) := by decide +kernel
theorem dX11_areNotTwoRows_24 : decode cX11_areNotTwoRows 24 = .ok (.if_icmp .ne 7, 3) := by decide +kernel
theorem dX11_areNotTwoRows_27 : decode cX11_areNotTwoRows 27 = .ok (.iconst 1, 1) := by decide +kernel
theorem dX11_areNotTwoRows_28 : decode cX11_areNotTwoRows 28 = .ok (.goto 4, 3) := by decide +kernel
theorem dX11_areNotTwoRows_31 : decode cX11_areNotTwoRows 31 = .ok (.iconst 0, 1) := by decide +kernel
theorem dX11_areNotTwoRows_32 : decode cX11_areNotTwoRows 32 = .ok (.ireturn, 1) := by decide +kernel
theorem dX11_imageOf_0 : decode cX11_imageOf 0 = .ok (.iload_n 1, 1) := by decide +kernel
theorem dX11_imageOf_1 : decode cX11_imageOf 1 = .ok (.ifCond .ne 10, 3) := by decide +kernel
theorem dX11_imageOf_4 : decode cX11_imageOf 4 = .ok (.aload_n 0, 1) := by decide +kernel
theorem dX11_imageOf_5 : decode cX11_imageOf 5 = .ok (.getfield 75, 3) := by decide +kernel
theorem dX11_imageOf_8 : decode cX11_imageOf 8 = .ok (.goto 7, 3) := by decide +kernel
theorem dX11_imageOf_11 : decode cX11_imageOf 11 = .ok (.aload_n 0, 1) := by decide +kernel
theorem dX11_imageOf_12 : decode cX11_imageOf 12 = .ok (.getfield 79, 3) := by decide +kernel
theorem dX11_imageOf_15 : decode cX11_imageOf 15 = .ok (.areturn, 1) := by decide +kernel
theorem dX11_isNoImage_0 : decode cX11_isNoImage 0 = .ok (.iload_n 0, 1) := by decide +kernel
theorem dX11_isNoImage_1 : decode cX11_isNoImage 1 = .ok (.ifCond .eq 12, 3) := by decide +kernel
theorem dX11_isNoImage_4 : decode cX11_isNoImage 4 = .ok (.iload_n 0, 1) := by decide +kernel
theorem dX11_isNoImage_5 : decode cX11_isNoImage 5 = .ok (.iconst 1, 1) := by decide +kernel
theorem dX11_isNoImage_6 : decode cX11_isNoImage 6 = .ok (.if_icmp .eq 7, 3) := by decide +kernel
theorem dX11_isNoImage_9 : decode cX11_isNoImage 9 = .ok (.iconst 1, 1) := by decide +kernel
theorem dX11_isNoImage_10 : decode cX11_isNoImage 10 = .ok (.goto 4, 3) := by decide +kernel
theorem dX11_isNoImage_13 : decode cX11_isNoImage 13 = .ok (.iconst 0, 1) := by decide +kernel
theorem dX11_isNoImage_14 : decode cX11_isNoImage 14 = .ok (.ireturn, 1) := by decide +kernel
theorem dX11_isNeitherPart_0 : decode cX11_isNeitherPart 0 = .ok (.iload_n 0, 1) := by decide +kernel
theorem dX11_isNeitherPart_1 : decode cX11_isNeitherPart 1 = .ok (.ifCond .eq 12, 3) := by decide +kernel
theorem dX11_isNeitherPart_4 : decode cX11_isNeitherPart 4 = .ok (.iload_n 0, 1) := by decide +kernel
theorem dX11_isNeitherPart_5 : decode cX11_isNeitherPart 5 = .ok (.iconst 1, 1) := by decide +kernel
theorem dX11_isNeitherPart_6 : decode cX11_isNeitherPart 6 = .ok (.if_icmp .eq 7, 3) := by decide +kernel
theorem dX11_isNeitherPart_9 : decode cX11_isNeitherPart 9 = .ok (.iconst 1, 1) := by decide +kernel
theorem dX11_isNeitherPart_10 : decode cX11_isNeitherPart 10 = .ok (.goto 4, 3) := by decide +kernel
theorem dX11_isNeitherPart_13 : decode cX11_isNeitherPart 13 = .ok (.iconst 0, 1) := by decide +kernel
theorem dX11_isNeitherPart_14 : decode cX11_isNeitherPart 14 = .ok (.ireturn, 1) := by decide +kernel
theorem dX11_isNoDigit_0 : decode cX11_isNoDigit 0 = .ok (.iload_n 0, 1) := by decide +kernel
theorem dX11_isNoDigit_1 : decode cX11_isNoDigit 1 = .ok (.ifCond .lt 9, 3) := by decide +kernel
theorem dX11_isNoDigit_4 : decode cX11_isNoDigit 4 = .ok (.iload_n 0, 1) := by decide +kernel
theorem dX11_isNoDigit_5 : decode cX11_isNoDigit 5 = .ok (.bipush 100, 2) := by decide +kernel
theorem dX11_isNoDigit_7 : decode cX11_isNoDigit 7 = .ok (.if_icmp .lt 7, 3) := by decide +kernel
theorem dX11_isNoDigit_10 : decode cX11_isNoDigit 10 = .ok (.iconst 1, 1) := by decide +kernel
theorem dX11_isNoDigit_11 : decode cX11_isNoDigit 11 = .ok (.goto 4, 3) := by decide +kernel
theorem dX11_isNoDigit_14 : decode cX11_isNoDigit 14 = .ok (.iconst 0, 1) := by decide +kernel
theorem dX11_isNoDigit_15 : decode cX11_isNoDigit 15 = .ok (.ireturn, 1) := by decide +kernel
theorem dX11_shownPart_0 : decode cX11_shownPart 0 = .ok (.iload 4, 2) := by decide +kernel
theorem dX11_shownPart_2 : decode cX11_shownPart 2 = .ok (.ifCond .ne 11, 3) := by decide +kernel
theorem dX11_shownPart_5 : decode cX11_shownPart 5 = .ok (.lload_n 0, 1) := by decide +kernel
theorem dX11_shownPart_6 : decode cX11_shownPart 6 = .ok (.l2i, 1) := by decide +kernel
theorem dX11_shownPart_7 : decode cX11_shownPart 7 = .ok (.ldc 152, 2) := by decide +kernel
theorem dX11_shownPart_9 : decode cX11_shownPart 9 = .ok (.iadd, 1) := by decide +kernel
theorem dX11_shownPart_10 : decode cX11_shownPart 10 = .ok (.goto 5, 3) := by decide +kernel
theorem dX11_shownPart_13 : decode cX11_shownPart 13 = .ok (.lload_n 2, 1) := by decide +kernel
theorem dX11_shownPart_14 : decode cX11_shownPart 14 = .ok (.l2i, 1) := by decide +kernel
theorem dX11_shownPart_15 : decode cX11_shownPart 15 = .ok (.ireturn, 1) := by decide +kernel
theorem dX11_badPrimes_0 : decode cX11_badPrimes 0 = .ok (.iconst 0, 1) := by decide +kernel
theorem dX11_badPrimes_1 : decode cX11_badPrimes 1 = .ok (.istore_n 2, 1) := by decide +kernel
theorem dX11_badPrimes_2 : decode cX11_badPrimes 2 = .ok (.getstatic 254, 3) := by decide +kernel
theorem dX11_badPrimes_5 : decode cX11_badPrimes 5 = .ok (.astore_n 3, 1) := by decide +kernel
theorem dX11_badPrimes_6 : decode cX11_badPrimes 6 = .ok (.aload_n 3, 1) := by decide +kernel
theorem dX11_badPrimes_7 : decode cX11_badPrimes 7 = .ok (.arraylength, 1) := by decide +kernel
theorem dX11_badPrimes_8 : decode cX11_badPrimes 8 = .ok (.istore 4, 2) := by decide +kernel
theorem dX11_badPrimes_10 : decode cX11_badPrimes 10 = .ok (.iconst 0, 1) := by decide +kernel
theorem dX11_badPrimes_11 : decode cX11_badPrimes 11 = .ok (.istore 5, 2) := by decide +kernel
theorem dX11_badPrimes_13 : decode cX11_badPrimes 13 = .ok (.iload 5, 2) := by decide +kernel
theorem dX11_badPrimes_15 : decode cX11_badPrimes 15 = .ok (.iload 4, 2) := by decide +kernel
theorem dX11_badPrimes_17 : decode cX11_badPrimes 17 = .ok (.if_icmp .ge 27, 3) := by decide +kernel
theorem dX11_badPrimes_20 : decode cX11_badPrimes 20 = .ok (.aload_n 3, 1) := by decide +kernel
theorem dX11_badPrimes_21 : decode cX11_badPrimes 21 = .ok (.iload 5, 2) := by decide +kernel
theorem dX11_badPrimes_23 : decode cX11_badPrimes 23 = .ok (.iaload, 1) := by decide +kernel
theorem dX11_badPrimes_24 : decode cX11_badPrimes 24 = .ok (.istore 6, 2) := by decide +kernel
theorem dX11_badPrimes_26 : decode cX11_badPrimes 26 = .ok (.lload_n 0, 1) := by decide +kernel
theorem dX11_badPrimes_27 : decode cX11_badPrimes 27 = .ok (.iload 6, 2) := by decide +kernel
theorem dX11_badPrimes_29 : decode cX11_badPrimes 29 = .ok (.invokestatic 352, 3) := by decide +kernel
theorem dX11_badPrimes_32 : decode cX11_badPrimes 32 = .ok (.ifCond .ne 6, 3) := by decide +kernel
theorem dX11_badPrimes_35 : decode cX11_badPrimes 35 = .ok (.iinc 2 1, 3) := by decide +kernel
theorem dX11_badPrimes_38 : decode cX11_badPrimes 38 = .ok (.iinc 5 1, 3) := by decide +kernel
theorem dX11_badPrimes_41 : decode cX11_badPrimes 41 = .ok (.goto (-28), 3) := by decide +kernel
theorem dX11_badPrimes_44 : decode cX11_badPrimes 44 = .ok (.iload_n 2, 1) := by decide +kernel
theorem dX11_badPrimes_45 : decode cX11_badPrimes 45 = .ok (.ireturn, 1) := by decide +kernel
theorem dX11_powerForGuess_0 : decode cX11_powerForGuess 0 = .ok (.iload_n 1, 1) := by decide +kernel
theorem dX11_powerForGuess_1 : decode cX11_powerForGuess 1 = .ok (.iconst 1, 1) := by decide +kernel
theorem dX11_powerForGuess_2 : decode cX11_powerForGuess 2 = .ok (.if_icmp .ge 7, 3) := by decide +kernel
theorem dX11_powerForGuess_5 : decode cX11_powerForGuess 5 = .ok (.ldc2_w 179, 3) := by decide +kernel
theorem dX11_powerForGuess_8 : decode cX11_powerForGuess 8 = .ok (.lreturn, 1) := by decide +kernel
theorem dX11_powerForGuess_9 : decode cX11_powerForGuess 9 = .ok (.lconst 1, 1) := by decide +kernel
theorem dX11_powerForGuess_10 : decode cX11_powerForGuess 10 = .ok (.lstore_n 2, 1) := by decide +kernel
theorem dX11_powerForGuess_11 : decode cX11_powerForGuess 11 = .ok (.iconst 0, 1) := by decide +kernel
theorem dX11_powerForGuess_12 : decode cX11_powerForGuess 12 = .ok (.istore 4, 2) := by decide +kernel
theorem dX11_powerForGuess_14 : decode cX11_powerForGuess 14 = .ok (.iload 4, 2) := by decide +kernel
theorem dX11_powerForGuess_16 : decode cX11_powerForGuess 16 = .ok (.iload_n 1, 1) := by decide +kernel
theorem dX11_powerForGuess_17 : decode cX11_powerForGuess 17 = .ok (.if_icmp .ge 31, 3) := by decide +kernel
theorem dX11_powerForGuess_20 : decode cX11_powerForGuess 20 = .ok (.lload_n 2, 1) := by decide +kernel
theorem dX11_powerForGuess_21 : decode cX11_powerForGuess 21 = .ok (.ldc2_w 356, 3) := by decide +kernel
theorem dX11_powerForGuess_24 : decode cX11_powerForGuess 24 = .ok (.iload_n 0, 1) := by decide +kernel
theorem dX11_powerForGuess_25 : decode cX11_powerForGuess 25 = .ok (.i2l, 1) := by decide +kernel
theorem dX11_powerForGuess_26 : decode cX11_powerForGuess 26 = .ok (.invokestatic 358, 3) := by decide +kernel
theorem dX11_powerForGuess_29 : decode cX11_powerForGuess 29 = .ok (.lcmp, 1) := by decide +kernel
theorem dX11_powerForGuess_30 : decode cX11_powerForGuess 30 = .ok (.ifCond .le 7, 3) := by decide +kernel
theorem dX11_powerForGuess_33 : decode cX11_powerForGuess 33 = .ok (.ldc2_w 179, 3) := by decide +kernel
theorem dX11_powerForGuess_36 : decode cX11_powerForGuess 36 = .ok (.lreturn, 1) := by decide +kernel
theorem dX11_powerForGuess_37 : decode cX11_powerForGuess 37 = .ok (.lload_n 2, 1) := by decide +kernel
theorem dX11_powerForGuess_38 : decode cX11_powerForGuess 38 = .ok (.iload_n 0, 1) := by decide +kernel
theorem dX11_powerForGuess_39 : decode cX11_powerForGuess 39 = .ok (.i2l, 1) := by decide +kernel
theorem dX11_powerForGuess_40 : decode cX11_powerForGuess 40 = .ok (.lmul, 1) := by decide +kernel
theorem dX11_powerForGuess_41 : decode cX11_powerForGuess 41 = .ok (.lstore_n 2, 1) := by decide +kernel
theorem dX11_powerForGuess_42 : decode cX11_powerForGuess 42 = .ok (.iinc 4 1, 3) := by decide +kernel
theorem dX11_powerForGuess_45 : decode cX11_powerForGuess 45 = .ok (.goto (-31), 3) := by decide +kernel
theorem dX11_powerForGuess_48 : decode cX11_powerForGuess 48 = .ok (.lload_n 2, 1) := by decide +kernel
theorem dX11_powerForGuess_49 : decode cX11_powerForGuess 49 = .ok (.lreturn, 1) := by decide +kernel
theorem dX11_bitsOfDouble_0 : decode cX11_bitsOfDouble 0 = .ok (.dload_n 0, 1) := by decide +kernel
theorem dX11_bitsOfDouble_1 : decode cX11_bitsOfDouble 1 = .ok (.dconst 0, 1) := by decide +kernel
theorem dX11_bitsOfDouble_2 : decode cX11_bitsOfDouble 2 = .ok (.dcmp .g, 1) := by decide +kernel
theorem dX11_bitsOfDouble_3 : decode cX11_bitsOfDouble 3 = .ok (.ifCond .ge 9, 3) := by decide +kernel
theorem dX11_bitsOfDouble_6 : decode cX11_bitsOfDouble 6 = .ok (.dconst 0, 1) := by decide +kernel
theorem dX11_bitsOfDouble_7 : decode cX11_bitsOfDouble 7 = .ok (.dload_n 0, 1) := by decide +kernel
theorem dX11_bitsOfDouble_8 : decode cX11_bitsOfDouble 8 = .ok (.dsub, 1) := by decide +kernel
theorem dX11_bitsOfDouble_9 : decode cX11_bitsOfDouble 9 = .ok (.goto 4, 3) := by decide +kernel
theorem dX11_bitsOfDouble_12 : decode cX11_bitsOfDouble 12 = .ok (.dload_n 0, 1) := by decide +kernel
theorem dX11_bitsOfDouble_13 : decode cX11_bitsOfDouble 13 = .ok (.bipush 52, 2) := by decide +kernel
theorem dX11_bitsOfDouble_15 : decode cX11_bitsOfDouble 15 = .ok (.sipush 1023, 3) := by decide +kernel
theorem dX11_bitsOfDouble_18 : decode cX11_bitsOfDouble 18 = .ok (.invokestatic 362, 3) := by decide +kernel
theorem dX11_bitsOfDouble_21 : decode cX11_bitsOfDouble 21 = .ok (.lstore_n 2, 1) := by decide +kernel
theorem dX11_bitsOfDouble_22 : decode cX11_bitsOfDouble 22 = .ok (.dload_n 0, 1) := by decide +kernel
theorem dX11_bitsOfDouble_23 : decode cX11_bitsOfDouble 23 = .ok (.dconst 0, 1) := by decide +kernel
theorem dX11_bitsOfDouble_24 : decode cX11_bitsOfDouble 24 = .ok (.dcmp .g, 1) := by decide +kernel
theorem dX11_bitsOfDouble_25 : decode cX11_bitsOfDouble 25 = .ok (.ifCond .ge 11, 3) := by decide +kernel
theorem dX11_bitsOfDouble_28 : decode cX11_bitsOfDouble 28 = .ok (.lload_n 2, 1) := by decide +kernel
theorem dX11_bitsOfDouble_29 : decode cX11_bitsOfDouble 29 = .ok (.ldc2_w 366, 3) := by decide +kernel
theorem dX11_bitsOfDouble_32 : decode cX11_bitsOfDouble 32 = .ok (.lor, 1) := by decide +kernel
theorem dX11_bitsOfDouble_33 : decode cX11_bitsOfDouble 33 = .ok (.goto 4, 3) := by decide +kernel
theorem dX11_bitsOfDouble_36 : decode cX11_bitsOfDouble 36 = .ok (.lload_n 2, 1) := by decide +kernel
theorem dX11_bitsOfDouble_37 : decode cX11_bitsOfDouble 37 = .ok (.lreturn, 1) := by decide +kernel
theorem dX11_bitsOfFloat_0 : decode cX11_bitsOfFloat 0 = .ok (.fload_n 0, 1) := by decide +kernel
theorem dX11_bitsOfFloat_1 : decode cX11_bitsOfFloat 1 = .ok (.fconst 0, 1) := by decide +kernel
theorem dX11_bitsOfFloat_2 : decode cX11_bitsOfFloat 2 = .ok (.fcmp .g, 1) := by decide +kernel
theorem dX11_bitsOfFloat_3 : decode cX11_bitsOfFloat 3 = .ok (.ifCond .ge 10, 3) := by decide +kernel
theorem dX11_bitsOfFloat_6 : decode cX11_bitsOfFloat 6 = .ok (.fconst 0, 1) := by decide +kernel
theorem dX11_bitsOfFloat_7 : decode cX11_bitsOfFloat 7 = .ok (.fload_n 0, 1) := by decide +kernel
theorem dX11_bitsOfFloat_8 : decode cX11_bitsOfFloat 8 = .ok (.fsub, 1) := by decide +kernel
theorem dX11_bitsOfFloat_9 : decode cX11_bitsOfFloat 9 = .ok (.f2d, 1) := by decide +kernel
theorem dX11_bitsOfFloat_10 : decode cX11_bitsOfFloat 10 = .ok (.goto 5, 3) := by decide +kernel
theorem dX11_bitsOfFloat_13 : decode cX11_bitsOfFloat 13 = .ok (.fload_n 0, 1) := by decide +kernel
theorem dX11_bitsOfFloat_14 : decode cX11_bitsOfFloat 14 = .ok (.f2d, 1) := by decide +kernel
theorem dX11_bitsOfFloat_15 : decode cX11_bitsOfFloat 15 = .ok (.bipush 23, 2) := by decide +kernel
theorem dX11_bitsOfFloat_17 : decode cX11_bitsOfFloat 17 = .ok (.bipush 127, 2) := by decide +kernel
theorem dX11_bitsOfFloat_19 : decode cX11_bitsOfFloat 19 = .ok (.invokestatic 362, 3) := by decide +kernel
theorem dX11_bitsOfFloat_22 : decode cX11_bitsOfFloat 22 = .ok (.lstore_n 1, 1) := by decide +kernel
theorem dX11_bitsOfFloat_23 : decode cX11_bitsOfFloat 23 = .ok (.fload_n 0, 1) := by decide +kernel
theorem dX11_bitsOfFloat_24 : decode cX11_bitsOfFloat 24 = .ok (.fconst 0, 1) := by decide +kernel
theorem dX11_bitsOfFloat_25 : decode cX11_bitsOfFloat 25 = .ok (.fcmp .g, 1) := by decide +kernel
theorem dX11_bitsOfFloat_26 : decode cX11_bitsOfFloat 26 = .ok (.ifCond .ge 11, 3) := by decide +kernel
theorem dX11_bitsOfFloat_29 : decode cX11_bitsOfFloat 29 = .ok (.lload_n 1, 1) := by decide +kernel
theorem dX11_bitsOfFloat_30 : decode cX11_bitsOfFloat 30 = .ok (.ldc2_w 368, 3) := by decide +kernel
theorem dX11_bitsOfFloat_33 : decode cX11_bitsOfFloat 33 = .ok (.lor, 1) := by decide +kernel
theorem dX11_bitsOfFloat_34 : decode cX11_bitsOfFloat 34 = .ok (.goto 4, 3) := by decide +kernel
theorem dX11_bitsOfFloat_37 : decode cX11_bitsOfFloat 37 = .ok (.lload_n 1, 1) := by decide +kernel
theorem dX11_bitsOfFloat_38 : decode cX11_bitsOfFloat 38 = .ok (.lreturn, 1) := by decide +kernel
theorem dX11_bitsOfSize_0 : decode cX11_bitsOfSize 0 = .ok (.dload_n 0, 1) := by decide +kernel
theorem dX11_bitsOfSize_1 : decode cX11_bitsOfSize 1 = .ok (.dconst 0, 1) := by decide +kernel
theorem dX11_bitsOfSize_2 : decode cX11_bitsOfSize 2 = .ok (.dcmp .l, 1) := by decide +kernel
theorem dX11_bitsOfSize_3 : decode cX11_bitsOfSize 3 = .ok (.ifCond .ne 5, 3) := by decide +kernel
theorem dX11_bitsOfSize_6 : decode cX11_bitsOfSize 6 = .ok (.lconst 0, 1) := by decide +kernel
theorem dX11_bitsOfSize_7 : decode cX11_bitsOfSize 7 = .ok (.lreturn, 1) := by decide +kernel
theorem dX11_bitsOfSize_8 : decode cX11_bitsOfSize 8 = .ok (.lconst 1, 1) := by decide +kernel
theorem dX11_bitsOfSize_9 : decode cX11_bitsOfSize 9 = .ok (.iload_n 2, 1) := by decide +kernel
theorem dX11_bitsOfSize_10 : decode cX11_bitsOfSize 10 = .ok (.lshl, 1) := by decide +kernel
theorem dX11_bitsOfSize_11 : decode cX11_bitsOfSize 11 = .ok (.lstore 4, 2) := by decide +kernel
theorem dX11_bitsOfSize_13 : decode cX11_bitsOfSize 13 = .ok (.dload_n 0, 1) := by decide +kernel
theorem dX11_bitsOfSize_14 : decode cX11_bitsOfSize 14 = .ok (.dstore 6, 2) := by decide +kernel
theorem dX11_bitsOfSize_16 : decode cX11_bitsOfSize 16 = .ok (.iload_n 3, 1) := by decide +kernel
theorem dX11_bitsOfSize_17 : decode cX11_bitsOfSize 17 = .ok (.iload_n 2, 1) := by decide +kernel
theorem dX11_bitsOfSize_18 : decode cX11_bitsOfSize 18 = .ok (.iadd, 1) := by decide +kernel
theorem dX11_bitsOfSize_19 : decode cX11_bitsOfSize 19 = .ok (.i2l, 1) := by decide +kernel
theorem dX11_bitsOfSize_20 : decode cX11_bitsOfSize 20 = .ok (.lstore 8, 2) := by decide +kernel
theorem dX11_bitsOfSize_22 : decode cX11_bitsOfSize 22 = .ok (.iconst 0, 1) := by decide +kernel
theorem dX11_bitsOfSize_23 : decode cX11_bitsOfSize 23 = .ok (.istore 10, 2) := by decide +kernel
theorem dX11_bitsOfSize_25 : decode cX11_bitsOfSize 25 = .ok (.iload 10, 2) := by decide +kernel
theorem dX11_bitsOfSize_27 : decode cX11_bitsOfSize 27 = .ok (.iload_n 2, 1) := by decide +kernel
theorem dX11_bitsOfSize_28 : decode cX11_bitsOfSize 28 = .ok (.iload_n 3, 1) := by decide +kernel
theorem dX11_bitsOfSize_29 : decode cX11_bitsOfSize 29 = .ok (.iadd, 1) := by decide +kernel
theorem dX11_bitsOfSize_30 : decode cX11_bitsOfSize 30 = .ok (.if_icmp .ge 32, 3) := by decide +kernel
theorem dX11_bitsOfSize_33 : decode cX11_bitsOfSize 33 = .ok (.dload 6, 2) := by decide +kernel
theorem dX11_bitsOfSize_35 : decode cX11_bitsOfSize 35 = .ok (.lload 4, 2) := by decide +kernel
theorem dX11_bitsOfSize_37 : decode cX11_bitsOfSize 37 = .ok (.l2d, 1) := by decide +kernel
theorem dX11_bitsOfSize_38 : decode cX11_bitsOfSize 38 = .ok (.dcmp .g, 1) := by decide +kernel
theorem dX11_bitsOfSize_39 : decode cX11_bitsOfSize 39 = .ok (.ifCond .ge 23, 3) := by decide +kernel
theorem dX11_bitsOfSize_42 : decode cX11_bitsOfSize 42 = .ok (.dload 6, 2) := by decide +kernel
theorem dX11_bitsOfSize_44 : decode cX11_bitsOfSize 44 = .ok (.ldc2_w 370, 3) := by decide +kernel
theorem dX11_bitsOfSize_47 : decode cX11_bitsOfSize 47 = .ok (.dmul, 1) := by decide +kernel
theorem dX11_bitsOfSize_48 : decode cX11_bitsOfSize 48 = .ok (.dstore 6, 2) := by decide +kernel
theorem dX11_bitsOfSize_50 : decode cX11_bitsOfSize 50 = .ok (.lload 8, 2) := by decide +kernel
theorem dX11_bitsOfSize_52 : decode cX11_bitsOfSize 52 = .ok (.lconst 1, 1) := by decide +kernel
theorem dX11_bitsOfSize_53 : decode cX11_bitsOfSize 53 = .ok (.lsub, 1) := by decide +kernel
theorem dX11_bitsOfSize_54 : decode cX11_bitsOfSize 54 = .ok (.lstore 8, 2) := by decide +kernel
theorem dX11_bitsOfSize_56 : decode cX11_bitsOfSize 56 = .ok (.iinc 10 1, 3) := by decide +kernel
theorem dX11_bitsOfSize_59 : decode cX11_bitsOfSize 59 = .ok (.goto (-34), 3) := by decide +kernel
theorem dX11_bitsOfSize_62 : decode cX11_bitsOfSize 62 = .ok (.lload 8, 2) := by decide +kernel
theorem dX11_bitsOfSize_64 : decode cX11_bitsOfSize 64 = .ok (.iload_n 2, 1) := by decide +kernel
theorem dX11_bitsOfSize_65 : decode cX11_bitsOfSize 65 = .ok (.lshl, 1) := by decide +kernel
theorem dX11_bitsOfSize_66 : decode cX11_bitsOfSize 66 = .ok (.dload 6, 2) := by decide +kernel
theorem dX11_bitsOfSize_68 : decode cX11_bitsOfSize 68 = .ok (.d2l, 1) := by decide +kernel
theorem dX11_bitsOfSize_69 : decode cX11_bitsOfSize 69 = .ok (.lload 4, 2) := by decide +kernel
theorem dX11_bitsOfSize_71 : decode cX11_bitsOfSize 71 = .ok (.lsub, 1) := by decide +kernel
theorem dX11_bitsOfSize_72 : decode cX11_bitsOfSize 72 = .ok (.ladd, 1) := by decide +kernel
theorem dX11_bitsOfSize_73 : decode cX11_bitsOfSize 73 = .ok (.lreturn, 1) := by decide +kernel
theorem dX11_quotient_0 : decode cX11_quotient 0 = .ok (.lload_n 2, 1) := by decide +kernel
theorem dX11_quotient_1 : decode cX11_quotient 1 = .ok (.lconst 0, 1) := by decide +kernel
theorem dX11_quotient_2 : decode cX11_quotient 2 = .ok (.lcmp, 1) := by decide +kernel
theorem dX11_quotient_3 : decode cX11_quotient 3 = .ok (.ifCond .ne 7, 3) := by decide +kernel
theorem dX11_quotient_6 : decode cX11_quotient 6 = .ok (.lconst 0, 1) := by decide +kernel
theorem dX11_quotient_7 : decode cX11_quotient 7 = .ok (.goto 6, 3) := by decide +kernel
theorem dX11_quotient_10 : decode cX11_quotient 10 = .ok (.lload_n 0, 1) := by decide +kernel
theorem dX11_quotient_11 : decode cX11_quotient 11 = .ok (.lload_n 2, 1) := by decide +kernel
theorem dX11_quotient_12 : decode cX11_quotient 12 = .ok (.ldiv, 1) := by decide +kernel
theorem dX11_quotient_13 : decode cX11_quotient 13 = .ok (.lreturn, 1) := by decide +kernel
theorem dX11_leftOver_0 : decode cX11_leftOver 0 = .ok (.iload_n 2, 1) := by decide +kernel
theorem dX11_leftOver_1 : decode cX11_leftOver 1 = .ok (.ifCond .ne 5, 3) := by decide +kernel
theorem dX11_leftOver_4 : decode cX11_leftOver 4 = .ok (.iconst 0, 1) := by decide +kernel
theorem dX11_leftOver_5 : decode cX11_leftOver 5 = .ok (.ireturn, 1) := by decide +kernel
theorem dX11_leftOver_6 : decode cX11_leftOver 6 = .ok (.lload_n 0, 1) := by decide +kernel
theorem dX11_leftOver_7 : decode cX11_leftOver 7 = .ok (.iload_n 2, 1) := by decide +kernel
theorem dX11_leftOver_8 : decode cX11_leftOver 8 = .ok (.i2l, 1) := by decide +kernel
theorem dX11_leftOver_9 : decode cX11_leftOver 9 = .ok (.lrem, 1) := by decide +kernel
theorem dX11_leftOver_10 : decode cX11_leftOver 10 = .ok (.lstore_n 3, 1) := by decide +kernel
theorem dX11_leftOver_11 : decode cX11_leftOver 11 = .ok (.lload_n 3, 1) := by decide +kernel
theorem dX11_leftOver_12 : decode cX11_leftOver 12 = .ok (.lconst 0, 1) := by decide +kernel
theorem dX11_leftOver_13 : decode cX11_leftOver 13 = .ok (.lcmp, 1) := by decide +kernel
theorem dX11_leftOver_14 : decode cX11_leftOver 14 = .ok (.ifCond .ge 10, 3) := by decide +kernel
theorem dX11_leftOver_17 : decode cX11_leftOver 17 = .ok (.lload_n 3, 1) := by decide +kernel
theorem dX11_leftOver_18 : decode cX11_leftOver 18 = .ok (.iload_n 2, 1) := by decide +kernel
theorem dX11_leftOver_19 : decode cX11_leftOver 19 = .ok (.i2l, 1) := by decide +kernel
theorem dX11_leftOver_20 : decode cX11_leftOver 20 = .ok (.ladd, 1) := by decide +kernel
theorem dX11_leftOver_21 : decode cX11_leftOver 21 = .ok (.goto 4, 3) := by decide +kernel
theorem dX11_leftOver_24 : decode cX11_leftOver 24 = .ok (.lload_n 3, 1) := by decide +kernel
theorem dX11_leftOver_25 : decode cX11_leftOver 25 = .ok (.l2i, 1) := by decide +kernel
theorem dX11_leftOver_26 : decode cX11_leftOver 26 = .ok (.ireturn, 1) := by decide +kernel
theorem dX11_gcd_0 : decode cX11_gcd 0 = .ok (.lload_n 0, 1) := by decide +kernel
theorem dX11_gcd_1 : decode cX11_gcd 1 = .ok (.invokestatic 372, 3) := by decide +kernel
theorem dX11_gcd_4 : decode cX11_gcd 4 = .ok (.lstore 4, 2) := by decide +kernel
theorem dX11_gcd_6 : decode cX11_gcd 6 = .ok (.lload_n 2, 1) := by decide +kernel
theorem dX11_gcd_7 : decode cX11_gcd 7 = .ok (.invokestatic 372, 3) := by decide +kernel
theorem dX11_gcd_10 : decode cX11_gcd 10 = .ok (.lstore 6, 2) := by decide +kernel
theorem dX11_gcd_12 : decode cX11_gcd 12 = .ok (.iconst 0, 1) := by decide +kernel
theorem dX11_gcd_13 : decode cX11_gcd 13 = .ok (.istore 8, 2) := by decide +kernel
theorem dX11_gcd_15 : decode cX11_gcd 15 = .ok (.iload 8, 2) := by decide +kernel
theorem dX11_gcd_17 : decode cX11_gcd 17 = .ok (.sipush 200, 3) := by decide +kernel
theorem dX11_gcd_20 : decode cX11_gcd 20 = .ok (.if_icmp .ge 31, 3) := by decide +kernel
theorem dX11_gcd_23 : decode cX11_gcd 23 = .ok (.lload 6, 2) := by decide +kernel
theorem dX11_gcd_25 : decode cX11_gcd 25 = .ok (.lconst 0, 1) := by decide +kernel
theorem dX11_gcd_26 : decode cX11_gcd 26 = .ok (.lcmp, 1) := by decide +kernel
theorem dX11_gcd_27 : decode cX11_gcd 27 = .ok (.ifCond .eq 24, 3) := by decide +kernel
theorem dX11_gcd_30 : decode cX11_gcd 30 = .ok (.lload 4, 2) := by decide +kernel
theorem dX11_gcd_32 : decode cX11_gcd 32 = .ok (.lload 6, 2) := by decide +kernel
theorem dX11_gcd_34 : decode cX11_gcd 34 = .ok (.lrem, 1) := by decide +kernel
theorem dX11_gcd_35 : decode cX11_gcd 35 = .ok (.lstore 9, 2) := by decide +kernel
theorem dX11_gcd_37 : decode cX11_gcd 37 = .ok (.lload 6, 2) := by decide +kernel
theorem dX11_gcd_39 : decode cX11_gcd 39 = .ok (.lstore 4, 2) := by decide +kernel
theorem dX11_gcd_41 : decode cX11_gcd 41 = .ok (.lload 9, 2) := by decide +kernel
theorem dX11_gcd_43 : decode cX11_gcd 43 = .ok (.lstore 6, 2) := by decide +kernel
theorem dX11_gcd_45 : decode cX11_gcd 45 = .ok (.iinc 8 1, 3) := by decide +kernel
theorem dX11_gcd_48 : decode cX11_gcd 48 = .ok (.goto (-33), 3) := by decide +kernel
theorem dX11_gcd_51 : decode cX11_gcd 51 = .ok (.lload 4, 2) := by decide +kernel
theorem dX11_gcd_53 : decode cX11_gcd 53 = .ok (.lreturn, 1) := by decide +kernel
theorem dX12_init_0 : decode cX12_init 0 = .ok (.aload_n 0, 1) := by decide +kernel
theorem dX12_init_1 : decode cX12_init 1 = .ok (.invokespecial 1, 3) := by decide +kernel
theorem dX12_init_4 : decode cX12_init 4 = .ok (.aload_n 0, 1) := by decide +kernel
theorem dX12_init_5 : decode cX12_init 5 = .ok (.sipush 418, 3) := by decide +kernel
theorem dX12_init_8 : decode cX12_init 8 = .ok (.newarray .int, 2) := by decide +kernel
theorem dX12_init_10 : decode cX12_init 10 = .ok (.putfield 7, 3) := by decide +kernel
theorem dX12_init_13 : decode cX12_init 13 = .ok (.aload_n 0, 1) := by decide +kernel
theorem dX12_init_14 : decode cX12_init 14 = .ok (.iconst 2, 1) := by decide +kernel
theorem dX12_init_15 : decode cX12_init 15 = .ok (.newarray .int, 2) := by decide +kernel
theorem dX12_init_17 : decode cX12_init 17 = .ok (.putfield 13, 3) := by decide +kernel
theorem dX12_init_20 : decode cX12_init 20 = .ok (.aload_n 0, 1) := by decide +kernel
theorem dX12_init_21 : decode cX12_init 21 = .ok (.bipush 20, 2) := by decide +kernel
theorem dX12_init_23 : decode cX12_init 23 = .ok (.newarray .int, 2) := by decide +kernel
theorem dX12_init_25 : decode cX12_init 25 = .ok (.putfield 16, 3) := by decide +kernel
theorem dX12_init_28 : decode cX12_init 28 = .ok (.aload_n 0, 1) := by decide +kernel
theorem dX12_init_29 : decode cX12_init 29 = .ok (.bipush 20, 2) := by decide +kernel
theorem dX12_init_31 : decode cX12_init 31 = .ok (.newarray .int, 2) := by decide +kernel
theorem dX12_init_33 : decode cX12_init 33 = .ok (.putfield 19, 3) := by decide +kernel
theorem dX12_init_36 : decode cX12_init 36 = .ok (.aload_n 0, 1) := by decide +kernel
theorem dX12_init_37 : decode cX12_init 37 = .ok (.bipush 20, 2) := by decide +kernel
theorem dX12_init_39 : decode cX12_init 39 = .ok (.newarray .int, 2) := by decide +kernel
theorem dX12_init_41 : decode cX12_init 41 = .ok (.putfield 22, 3) := by decide +kernel
theorem dX12_init_44 : decode cX12_init 44 = .ok (.aload_n 0, 1) := by decide +kernel
theorem dX12_init_45 : decode cX12_init 45 = .ok (.iconst 4, 1) := by decide +kernel
theorem dX12_init_46 : decode cX12_init 46 = .ok (.newarray .int, 2) := by decide +kernel
theorem dX12_init_48 : decode cX12_init 48 = .ok (.putfield 25, 3) := by decide +kernel
theorem dX12_init_51 : decode cX12_init 51 = .ok (.aload_n 0, 1) := by decide +kernel
theorem dX12_init_52 : decode cX12_init 52 = .ok (.iconst 4, 1) := by decide +kernel
theorem dX12_init_53 : decode cX12_init 53 = .ok (.newarray .int, 2) := by decide +kernel
theorem dX12_init_55 : decode cX12_init 55 = .ok (.putfield 28, 3) := by decide +kernel
theorem dX12_init_58 : decode cX12_init 58 = .ok (.aload_n 0, 1) := by decide +kernel
theorem dX12_init_59 : decode cX12_init 59 = .ok (.iconst 4, 1) := by decide +kernel
theorem dX12_init_60 : decode cX12_init 60 = .ok (.newarray .long, 2) := by decide +kernel
theorem dX12_init_62 : decode cX12_init 62 = .ok (.putfield 31, 3) := by decide +kernel
theorem dX12_init_65 : decode cX12_init 65 = .ok (.aload_n 0, 1) := by decide +kernel
theorem dX12_init_66 : decode cX12_init 66 = .ok (.iconst 2, 1) := by decide +kernel
theorem dX12_init_67 : decode cX12_init 67 = .ok (.invokevirtual 35, 3) := by decide +kernel
theorem dX12_init_70 : decode cX12_init 70 = .ok (.aload_n 0, 1) := by decide +kernel
theorem dX12_init_71 : decode cX12_init 71 = .ok (.getfield 7, 3) := by decide +kernel
theorem dX12_init_74 : decode cX12_init 74 = .ok (.iconst 1, 1) := by decide +kernel
theorem dX12_init_75 : decode cX12_init 75 = .ok (.iconst 3, 1) := by decide +kernel
theorem dX12_init_76 : decode cX12_init 76 = .ok (.iastore, 1) := by decide +kernel
theorem dX12_init_77 : decode cX12_init 77 = .ok (.return_, 1) := by decide +kernel
theorem dX12_in_0 : decode cX12_in 0 = .ok (.lload_n 0, 1) := by decide +kernel
theorem dX12_in_1 : decode cX12_in 1 = .ok (.lload_n 2, 1) := by decide +kernel
theorem dX12_in_2 : decode cX12_in 2 = .ok (.lcmp, 1) := by decide +kernel
theorem dX12_in_3 : decode cX12_in 3 = .ok (.ifCond .lt 14, 3) := by decide +kernel
theorem dX12_in_6 : decode cX12_in 6 = .ok (.lload_n 0, 1) := by decide +kernel
theorem dX12_in_7 : decode cX12_in 7 = .ok (.lload 4, 2) := by decide +kernel
theorem dX12_in_9 : decode cX12_in 9 = .ok (.lcmp, 1) := by decide +kernel
theorem dX12_in_10 : decode cX12_in 10 = .ok (.ifCond .gt 7, 3) := by decide +kernel
theorem dX12_in_13 : decode cX12_in 13 = .ok (.iconst 1, 1) := by decide +kernel
theorem dX12_in_14 : decode cX12_in 14 = .ok (.goto 4, 3) := by decide +kernel
theorem dX12_in_17 : decode cX12_in 17 = .ok (.iconst 0, 1) := by decide +kernel
theorem dX12_in_18 : decode cX12_in 18 = .ok (.ireturn, 1) := by decide +kernel
theorem dX12_has_0 : decode cX12_has 0 = .ok (.iload_n 0, 1) := by decide +kernel
theorem dX12_has_1 : decode cX12_has 1 = .ok (.iload_n 1, 1) := by decide +kernel
theorem dX12_has_2 : decode cX12_has 2 = .ok (.ishr, 1) := by decide +kernel
theorem dX12_has_3 : decode cX12_has 3 = .ok (.iconst 1, 1) := by decide +kernel
theorem dX12_has_4 : decode cX12_has 4 = .ok (.iand, 1) := by decide +kernel
theorem dX12_has_5 : decode cX12_has 5 = .ok (.iconst 1, 1) := by decide +kernel
theorem dX12_has_6 : decode cX12_has 6 = .ok (.if_icmp .ne 7, 3) := by decide +kernel
theorem dX12_has_9 : decode cX12_has 9 = .ok (.iconst 1, 1) := by decide +kernel
theorem dX12_has_10 : decode cX12_has 10 = .ok (.goto 4, 3) := by decide +kernel
theorem dX12_has_13 : decode cX12_has 13 = .ok (.iconst 0, 1) := by decide +kernel
theorem dX12_has_14 : decode cX12_has 14 = .ok (.ireturn, 1) := by decide +kernel
theorem dX12_ones_0 : decode cX12_ones 0 = .ok (.iload_n 0, 1) := by decide +kernel
theorem dX12_ones_1 : decode cX12_ones 1 = .ok (.iconst 1, 1) := by decide +kernel
theorem dX12_ones_2 : decode cX12_ones 2 = .ok (.iand, 1) := by decide +kernel
theorem dX12_ones_3 : decode cX12_ones 3 = .ok (.iload_n 0, 1) := by decide +kernel
theorem dX12_ones_4 : decode cX12_ones 4 = .ok (.iconst 1, 1) := by decide +kernel
theorem dX12_ones_5 : decode cX12_ones 5 = .ok (.ishr, 1) := by decide +kernel
theorem dX12_ones_6 : decode cX12_ones 6 = .ok (.iconst 1, 1) := by decide +kernel
theorem dX12_ones_7 : decode cX12_ones 7 = .ok (.iand, 1) := by decide +kernel
theorem dX12_ones_8 : decode cX12_ones 8 = .ok (.iadd, 1) := by decide +kernel
theorem dX12_ones_9 : decode cX12_ones 9 = .ok (.iload_n 0, 1) := by decide +kernel
theorem dX12_ones_10 : decode cX12_ones 10 = .ok (.iconst 2, 1) := by decide +kernel
theorem dX12_ones_11 : decode cX12_ones 11 = .ok (.ishr, 1) := by decide +kernel
theorem dX12_ones_12 : decode cX12_ones 12 = .ok (.iconst 1, 1) := by decide +kernel
theorem dX12_ones_13 : decode cX12_ones 13 = .ok (.iand, 1) := by decide +kernel
theorem dX12_ones_14 : decode cX12_ones 14 = .ok (.iadd, 1) := by decide +kernel
theorem dX12_ones_15 : decode cX12_ones 15 = .ok (.iload_n 0, 1) := by decide +kernel
theorem dX12_ones_16 : decode cX12_ones 16 = .ok (.iconst 3, 1) := by decide +kernel
theorem dX12_ones_17 : decode cX12_ones 17 = .ok (.ishr, 1) := by decide +kernel
theorem dX12_ones_18 : decode cX12_ones 18 = .ok (.iconst 1, 1) := by decide +kernel
theorem dX12_ones_19 : decode cX12_ones 19 = .ok (.iand, 1) := by decide +kernel
theorem dX12_ones_20 : decode cX12_ones 20 = .ok (.iadd, 1) := by decide +kernel
theorem dX12_ones_21 : decode cX12_ones 21 = .ok (.iload_n 0, 1) := by decide +kernel
theorem dX12_ones_22 : decode cX12_ones 22 = .ok (.iconst 4, 1) := by decide +kernel
theorem dX12_ones_23 : decode cX12_ones 23 = .ok (.ishr, 1) := by decide +kernel
theorem dX12_ones_24 : decode cX12_ones 24 = .ok (.iconst 1, 1) := by decide +kernel
theorem dX12_ones_25 : decode cX12_ones 25 = .ok (.iand, 1) := by decide +kernel
theorem dX12_ones_26 : decode cX12_ones 26 = .ok (.iadd, 1) := by decide +kernel
theorem dX12_ones_27 : decode cX12_ones 27 = .ok (.ireturn, 1) := by decide +kernel
theorem dX12_layOnes_0 : decode cX12_layOnes 0 = .ok (.aload_n 0, 1) := by decide +kernel
theorem dX12_layOnes_1 : decode cX12_layOnes 1 = .ok (.getfield 7, 3) := by decide +kernel
theorem dX12_layOnes_4 : decode cX12_layOnes 4 = .ok (.iconst 0, 1) := by decide +kernel
theorem dX12_layOnes_5 : decode cX12_layOnes 5 = .ok (.iload_n 1, 1) := by decide +kernel
theorem dX12_layOnes_6 : decode cX12_layOnes 6 = .ok (.iastore, 1) := by decide +kernel
theorem dX12_layOnes_7 : decode cX12_layOnes 7 = .ok (.iconst 0, 1) := by decide +kernel
theorem dX12_layOnes_8 : decode cX12_layOnes 8 = .ok (.istore_n 2, 1) := by decide +kernel
theorem dX12_layOnes_9 : decode cX12_layOnes 9 = .ok (.iload_n 2, 1) := by decide +kernel
theorem dX12_layOnes_10 : decode cX12_layOnes 10 = .ok (.bipush 20, 2) := by decide +kernel
theorem dX12_layOnes_12 : decode cX12_layOnes 12 = .ok (.if_icmp .ge 38, 3) := by decide +kernel
theorem dX12_layOnes_15 : decode cX12_layOnes 15 = .ok (.aload_n 0, 1) := by decide +kernel
theorem dX12_layOnes_16 : decode cX12_layOnes 16 = .ok (.getfield 7, 3) := by decide +kernel
theorem dX12_layOnes_19 : decode cX12_layOnes 19 = .ok (.iconst 2, 1) := by decide +kernel
theorem dX12_layOnes_20 : decode cX12_layOnes 20 = .ok (.iload_n 2, 1) := by decide +kernel
theorem dX12_layOnes_21 : decode cX12_layOnes 21 = .ok (.iadd, 1) := by decide +kernel
theorem dX12_layOnes_22 : decode cX12_layOnes 22 = .ok (.iload_n 2, 1) := by decide +kernel
theorem dX12_layOnes_23 : decode cX12_layOnes 23 = .ok (.iconst 5, 1) := by decide +kernel
theorem dX12_layOnes_24 : decode cX12_layOnes 24 = .ok (.irem, 1) := by decide +kernel
theorem dX12_layOnes_25 : decode cX12_layOnes 25 = .ok (.iload_n 2, 1) := by decide +kernel
theorem dX12_layOnes_26 : decode cX12_layOnes 26 = .ok (.iconst 5, 1) := by decide +kernel
theorem dX12_layOnes_27 : decode cX12_layOnes 27 = .ok (.idiv, 1) := by decide +kernel
theorem dX12_layOnes_28 : decode cX12_layOnes 28 = .ok (.if_icmp .ne 14, 3) := by decide +kernel
theorem dX12_layOnes_31 : decode cX12_layOnes 31 = .ok (.iload_n 2, 1) := by decide +kernel
theorem dX12_layOnes_32 : decode cX12_layOnes 32 = .ok (.iconst 5, 1) := by decide +kernel
theorem dX12_layOnes_33 : decode cX12_layOnes 33 = .ok (.idiv, 1) := by decide +kernel
theorem dX12_layOnes_34 : decode cX12_layOnes 34 = .ok (.iload_n 1, 1) := by decide +kernel
theorem dX12_layOnes_35 : decode cX12_layOnes 35 = .ok (.if_icmp .ge 7, 3) := by decide +kernel
theorem dX12_layOnes_38 : decode cX12_layOnes 38 = .ok (.iconst 1, 1) := by decide +kernel
theorem dX12_layOnes_39 : decode cX12_layOnes 39 = .ok (.goto 4, 3) := by decide +kernel
theorem dX12_layOnes_42 : decode cX12_layOnes 42 = .ok (.iconst 0, 1) := by decide +kernel
theorem dX12_layOnes_43 : decode cX12_layOnes 43 = .ok (.iastore, 1) := by decide +kernel
theorem dX12_layOnes_44 : decode cX12_layOnes 44 = .ok (.iinc 2 1, 3) := by decide +kernel
theorem dX12_layOnes_47 : decode cX12_layOnes 47 = .ok (.goto (-38), 3) := by decide +kernel
theorem dX12_layOnes_50 : decode cX12_layOnes 50 = .ok (.return_, 1) := by decide +kernel
theorem dX12_copyRow_0 : decode cX12_copyRow 0 = .ok (.iconst 0, 1) := by decide +kernel
theorem dX12_copyRow_1 : decode cX12_copyRow 1 = .ok (.istore_n 3, 1) := by decide +kernel
theorem dX12_copyRow_2 : decode cX12_copyRow 2 = .ok (.iload_n 3, 1) := by decide +kernel
theorem dX12_copyRow_3 : decode cX12_copyRow 3 = .ok (.bipush 22, 2) := by decide +kernel
theorem dX12_copyRow_5 : decode cX12_copyRow 5 = .ok (.if_icmp .ge 25, 3) := by decide +kernel
theorem dX12_copyRow_8 : decode cX12_copyRow 8 = .ok (.aload_n 0, 1) := by decide +kernel
theorem dX12_copyRow_9 : decode cX12_copyRow 9 = .ok (.getfield 7, 3) := by decide +kernel
theorem dX12_copyRow_12 : decode cX12_copyRow 12 = .ok (.iload_n 2, 1) := by decide +kernel
theorem dX12_copyRow_13 : decode cX12_copyRow 13 = .ok (.iload_n 3, 1) := by decide +kernel
theorem dX12_copyRow_14 : decode cX12_copyRow 14 = .ok (.iadd, 1) := by decide +kernel
theorem dX12_copyRow_15 : decode cX12_copyRow 15 = .ok (.aload_n 0, 1) := by decide +kernel
theorem dX12_copyRow_16 : decode cX12_copyRow 16 = .ok (.getfield 7, 3) := by decide +kernel
theorem dX12_copyRow_19 : decode cX12_copyRow 19 = .ok (.iload_n 1, 1) := by decide +kernel
theorem dX12_copyRow_20 : decode cX12_copyRow 20 = .ok (.iload_n 3, 1) := by decide +kernel
theorem dX12_copyRow_21 : decode cX12_copyRow 21 = .ok (.iadd, 1) := by decide +kernel
theorem dX12_copyRow_22 : decode cX12_copyRow 22 = .ok (.iaload, 1) := by decide +kernel
theorem dX12_copyRow_23 : decode cX12_copyRow 23 = .ok (.iastore, 1) := by decide +kernel
theorem dX12_copyRow_24 : decode cX12_copyRow 24 = .ok (.iinc 3 1, 3) := by decide +kernel
theorem dX12_copyRow_27 : decode cX12_copyRow 27 = .ok (.goto (-25), 3) := by decide +kernel
theorem dX12_copyRow_30 : decode cX12_copyRow 30 = .ok (.return_, 1) := by decide +kernel
theorem dX12_remember_0 : decode cX12_remember 0 = .ok (.bipush 16, 2) := by decide +kernel
theorem dX12_remember_2 : decode cX12_remember 2 = .ok (.istore_n 1, 1) := by decide +kernel
theorem dX12_remember_3 : decode cX12_remember 3 = .ok (.iload_n 1, 1) := by decide +kernel
theorem dX12_remember_4 : decode cX12_remember 4 = .ok (.ifCond .le 23, 3) := by decide +kernel
theorem dX12_remember_7 : decode cX12_remember 7 = .ok (.aload_n 0, 1) := by decide +kernel
theorem dX12_remember_8 : decode cX12_remember 8 = .ok (.bipush 22, 2) := by decide +kernel
theorem dX12_remember_10 : decode cX12_remember 10 = .ok (.iload_n 1, 1) := by decide +kernel
theorem dX12_remember_11 : decode cX12_remember 11 = .ok (.iconst 1, 1) := by decide +kernel
theorem dX12_remember_12 : decode cX12_remember 12 = .ok (.isub, 1) := by decide +kernel
theorem dX12_remember_13 : decode cX12_remember 13 = .ok (.imul, 1) := by decide +kernel
theorem dX12_remember_14 : decode cX12_remember 14 = .ok (.bipush 22, 2) := by decide +kernel
theorem dX12_remember_16 : decode cX12_remember 16 = .ok (.iload_n 1, 1) := by decide +kernel
theorem dX12_remember_17 : decode cX12_remember 17 = .ok (.imul, 1) := by decide +kernel
theorem dX12_remember_18 : decode cX12_remember 18 = .ok (.invokevirtual 39, 3) := by decide +kernel
theorem dX12_remember_21 : decode cX12_remember 21 = .ok (.iinc 1 (-1), 3) := by decide +kernel
theorem dX12_remember_24 : decode cX12_remember 24 = .ok (.goto (-21), 3) := by decide +kernel
theorem dX12_remember_27 : decode cX12_remember 27 = .ok (.aload_n 0, 1) := by decide +kernel
theorem dX12_remember_28 : decode cX12_remember 28 = .ok (.aload_n 0, 1) := by decide +kernel
theorem dX12_remember_29 : decode cX12_remember 29 = .ok (.getfield 43, 3) := by decide +kernel
theorem dX12_remember_32 : decode cX12_remember 32 = .ok (.bipush 16, 2) := by decide +kernel
theorem dX12_remember_34 : decode cX12_remember 34 = .ok (.if_icmp .ge 12, 3) := by decide +kernel
theorem dX12_remember_37 : decode cX12_remember 37 = .ok (.aload_n 0, 1) := by decide +kernel
theorem dX12_remember_38 : decode cX12_remember 38 = .ok (.getfield 43, 3) := by decide +kernel
theorem dX12_remember_41 : decode cX12_remember 41 = .ok (.iconst 1, 1) := by decide +kernel
theorem dX12_remember_42 : decode cX12_remember 42 = .ok (.iadd, 1) := by decide +kernel
theorem dX12_remember_43 : decode cX12_remember 43 = .ok (.goto 5, 3) := by decide +kernel
theorem dX12_remember_46 : decode cX12_remember 46 = .ok (.bipush 16, 2) := by decide +kernel
theorem dX12_remember_48 : decode cX12_remember 48 = .ok (.putfield 43, 3) := by decide +kernel
theorem dX12_remember_51 : decode cX12_remember 51 = .ok (.return_, 1) := by decide +kernel
theorem dX12_n_0 : decode cX12_n 0 = .ok (.aload_n 0, 1) := by decide +kernel
theorem dX12_n_1 : decode cX12_n 1 = .ok (.getfield 7, 3) := by decide +kernel
theorem dX12_n_4 : decode cX12_n 4 = .ok (.iconst 0, 1) := by decide +kernel
theorem dX12_n_5 : decode cX12_n 5 = .ok (.iaload, 1) := by decide +kernel
theorem dX12_n_6 : decode cX12_n 6 = .ok (.ireturn, 1) := by decide +kernel
theorem dX12_cell_0 : decode cX12_cell 0 = .ok (.aload_n 0, 1) := by decide +kernel
theorem dX12_cell_1 : decode cX12_cell 1 = .ok (.getfield 7, 3) := by decide +kernel
theorem dX12_cell_4 : decode cX12_cell 4 = .ok (.iconst 2, 1) := by decide +kernel
theorem dX12_cell_5 : decode cX12_cell 5 = .ok (.iconst 5, 1) := by decide +kernel
theorem dX12_cell_6 : decode cX12_cell 6 = .ok (.iload_n 1, 1) := by decide +kernel
theorem dX12_cell_7 : decode cX12_cell 7 = .ok (.imul, 1) := by decide +kernel
theorem dX12_cell_8 : decode cX12_cell 8 = .ok (.iadd, 1) := by decide +kernel
theorem dX12_cell_9 : decode cX12_cell 9 = .ok (.iload_n 2, 1) := by decide +kernel
theorem dX12_cell_10 : decode cX12_cell 10 = .ok (.iadd, 1) := by decide +kernel
theorem dX12_cell_11 : decode cX12_cell 11 = .ok (.iaload, 1) := by decide +kernel
theorem dX12_cell_12 : decode cX12_cell 12 = .ok (.i2l, 1) := by decide +kernel
theorem dX12_cell_13 : decode cX12_cell 13 = .ok (.lreturn, 1) := by decide +kernel
theorem dX12_set_0 : decode cX12_set 0 = .ok (.aload_n 0, 1) := by decide +kernel
theorem dX12_set_1 : decode cX12_set 1 = .ok (.getfield 7, 3) := by decide +kernel
theorem dX12_set_4 : decode cX12_set 4 = .ok (.iconst 2, 1) := by decide +kernel
theorem dX12_set_5 : decode cX12_set 5 = .ok (.iconst 5, 1) := by decide +kernel
theorem dX12_set_6 : decode cX12_set 6 = .ok (.iload_n 1, 1) := by decide +kernel
theorem dX12_set_7 : decode cX12_set 7 = .ok (.imul, 1) := by decide +kernel
theorem dX12_set_8 : decode cX12_set 8 = .ok (.iadd, 1) := by decide +kernel
theorem dX12_set_9 : decode cX12_set 9 = .ok (.iload_n 2, 1) := by decide +kernel
theorem dX12_set_10 : decode cX12_set 10 = .ok (.iadd, 1) := by decide +kernel
theorem dX12_set_11 : decode cX12_set 11 = .ok (.iload_n 3, 1) := by decide +kernel
theorem dX12_set_12 : decode cX12_set 12 = .ok (.iastore, 1) := by decide +kernel
theorem dX12_set_13 : decode cX12_set 13 = .ok (.return_, 1) := by decide +kernel
theorem dX12_p_0 : decode cX12_p 0 = .ok (.iconst 1, 1) := by decide +kernel
theorem dX12_p_1 : decode cX12_p 1 = .ok (.istore_n 1, 1) := by decide +kernel
theorem dX12_p_2 : decode cX12_p 2 = .ok (.iconst 0, 1) := by decide +kernel
theorem dX12_p_3 : decode cX12_p 3 = .ok (.istore_n 2, 1) := by decide +kernel
theorem dX12_p_4 : decode cX12_p 4 = .ok (.iload_n 2, 1) := by decide +kernel
theorem dX12_p_5 : decode cX12_p 5 = .ok (.aload_n 0, 1) := by decide +kernel
theorem dX12_p_6 : decode cX12_p 6 = .ok (.getfield 7, 3) := by decide +kernel
theorem dX12_p_9 : decode cX12_p 9 = .ok (.iconst 1, 1) := by decide +kernel
theorem dX12_p_10 : decode cX12_p 10 = .ok (.iaload, 1) := by decide +kernel
theorem dX12_p_11 : decode cX12_p 11 = .ok (.if_icmp .gt 25, 3) := by decide +kernel
theorem dX12_p_14 : decode cX12_p 14 = .ok (.iinc 1 1, 3) := by decide +kernel
theorem dX12_p_17 : decode cX12_p 17 = .ok (.iload_n 1, 1) := by decide +kernel
theorem dX12_p_18 : decode cX12_p 18 = .ok (.invokestatic 47, 3) := by decide +kernel
theorem dX12_p_21 : decode cX12_p 21 = .ok (.ifCond .ne 9, 3) := by decide +kernel
theorem dX12_p_24 : decode cX12_p 24 = .ok (.iinc 1 1, 3) := by decide +kernel
theorem dX12_p_27 : decode cX12_p 27 = .ok (.goto (-10), 3) := by decide +kernel
theorem dX12_p_30 : decode cX12_p 30 = .ok (.iinc 2 1, 3) := by decide +kernel
theorem dX12_p_33 : decode cX12_p 33 = .ok (.goto (-29), 3) := by decide +kernel
theorem dX12_p_36 : decode cX12_p 36 = .ok (.iload_n 1, 1) := by decide +kernel
theorem dX12_p_37 : decode cX12_p 37 = .ok (.ireturn, 1) := by decide +kernel
theorem dX12_isPrime_0 : decode cX12_isPrime 0 = .ok (.iconst 1, 1) := by decide +kernel
theorem dX12_isPrime_1 : decode cX12_isPrime 1 = .ok (.istore_n 1, 1) := by decide +kernel
theorem dX12_isPrime_2 : decode cX12_isPrime 2 = .ok (.iconst 2, 1) := by decide +kernel
theorem dX12_isPrime_3 : decode cX12_isPrime 3 = .ok (.istore_n 2, 1) := by decide +kernel
theorem dX12_isPrime_4 : decode cX12_isPrime 4 = .ok (.iload_n 2, 1) := by decide +kernel
theorem dX12_isPrime_5 : decode cX12_isPrime 5 = .ok (.iload_n 0, 1) := by decide +kernel
theorem dX12_isPrime_6 : decode cX12_isPrime 6 = .ok (.if_icmp .ge 25, 3) := by decide +kernel
theorem dX12_isPrime_9 : decode cX12_isPrime 9 = .ok (.iload_n 1, 1) := by decide +kernel
theorem dX12_isPrime_10 : decode cX12_isPrime 10 = .ok (.ifCond .eq 13, 3) := by decide +kernel
theorem dX12_isPrime_13 : decode cX12_isPrime 13 = .ok (.iload_n 0, 1) := by decide +kernel
theorem dX12_isPrime_14 : decode cX12_isPrime 14 = .ok (.iload_n 2, 1) := by decide +kernel
theorem dX12_isPrime_15 : decode cX12_isPrime 15 = .ok (.irem, 1) := by decide +kernel
theorem dX12_isPrime_16 : decode cX12_isPrime 16 = .ok (.ifCond .eq 7, 3) := by decide +kernel
theorem dX12_isPrime_19 : decode cX12_isPrime 19 = .ok (.iconst 1, 1) := by decide +kernel
theorem dX12_isPrime_20 : decode cX12_isPrime 20 = .ok (.goto 4, 3) := by decide +kernel
theorem dX12_isPrime_23 : decode cX12_isPrime 23 = .ok (.iconst 0, 1) := by decide +kernel
theorem dX12_isPrime_24 : decode cX12_isPrime 24 = .ok (.istore_n 1, 1) := by decide +kernel
theorem dX12_isPrime_25 : decode cX12_isPrime 25 = .ok (.iinc 2 1, 3) := by decide +kernel
theorem dX12_isPrime_28 : decode cX12_isPrime 28 = .ok (.goto (-24), 3) := by decide +kernel
theorem dX12_isPrime_31 : decode cX12_isPrime 31 = .ok (.iload_n 1, 1) := by decide +kernel
theorem dX12_isPrime_32 : decode cX12_isPrime 32 = .ok (.ireturn, 1) := by decide +kernel
theorem dX12_e_0 : decode cX12_e 0 = .ok (.aload_n 0, 1) := by decide +kernel
theorem dX12_e_1 : decode cX12_e 1 = .ok (.aload_n 0, 1) := by decide +kernel
theorem dX12_e_2 : decode cX12_e 2 = .ok (.getfield 25, 3) := by decide +kernel
theorem dX12_e_5 : decode cX12_e 5 = .ok (.iload_n 1, 1) := by decide +kernel
theorem dX12_e_6 : decode cX12_e 6 = .ok (.iaload, 1) := by decide +kernel
theorem dX12_e_7 : decode cX12_e 7 = .ok (.aload_n 0, 1) := by decide +kernel
theorem dX12_e_8 : decode cX12_e 8 = .ok (.getfield 28, 3) := by decide +kernel
theorem dX12_e_11 : decode cX12_e 11 = .ok (.iload_n 2, 1) := by decide +kernel
theorem dX12_e_12 : decode cX12_e 12 = .ok (.iaload, 1) := by decide +kernel
theorem dX12_e_13 : decode cX12_e 13 = .ok (.invokevirtual 51, 3) := by decide +kernel
theorem dX12_e_16 : decode cX12_e 16 = .ok (.lreturn, 1) := by decide +kernel
theorem dX12_two_0 : decode cX12_two 0 = .ok (.aload_n 0, 1) := by decide +kernel
theorem dX12_two_1 : decode cX12_two 1 = .ok (.iload_n 1, 1) := by decide +kernel
theorem dX12_two_2 : decode cX12_two 2 = .ok (.iload_n 3, 1) := by decide +kernel
theorem dX12_two_3 : decode cX12_two 3 = .ok (.invokevirtual 55, 3) := by decide +kernel
theorem dX12_two_6 : decode cX12_two 6 = .ok (.aload_n 0, 1) := by decide +kernel
theorem dX12_two_7 : decode cX12_two 7 = .ok (.iload_n 2, 1) := by decide +kernel
theorem dX12_two_8 : decode cX12_two 8 = .ok (.iload 4, 2) := by decide +kernel
theorem dX12_two_10 : decode cX12_two 10 = .ok (.invokevirtual 55, 3) := by decide +kernel
theorem dX12_two_13 : decode cX12_two 13 = .ok (.lmul, 1) := by decide +kernel
theorem dX12_two_14 : decode cX12_two 14 = .ok (.aload_n 0, 1) := by decide +kernel
theorem dX12_two_15 : decode cX12_two 15 = .ok (.iload_n 1, 1) := by decide +kernel
theorem dX12_two_16 : decode cX12_two 16 = .ok (.iload 4, 2) := by decide +kernel
theorem dX12_two_18 : decode cX12_two 18 = .ok (.invokevirtual 55, 3) := by decide +kernel
theorem dX12_two_21 : decode cX12_two 21 = .ok (.aload_n 0, 1) := by decide +kernel
theorem dX12_two_22 : decode cX12_two 22 = .ok (.iload_n 2, 1) := by decide +kernel
theorem dX12_two_23 : decode cX12_two 23 = .ok (.iload_n 3, 1) := by decide +kernel
theorem dX12_two_24 : decode cX12_two 24 = .ok (.invokevirtual 55, 3) := by decide +kernel
theorem dX12_two_27 : decode cX12_two 27 = .ok (.lmul, 1) := by decide +kernel
theorem dX12_two_28 : decode cX12_two 28 = .ok (.lsub, 1) := by decide +kernel
theorem dX12_two_29 : decode cX12_two 29 = .ok (.lreturn, 1) := by decide +kernel
theorem dX12_three_0 : decode cX12_three 0 = .ok (.aload_n 0, 1) := by decide +kernel
theorem dX12_three_1 : decode cX12_three 1 = .ok (.iload_n 1, 1) := by decide +kernel
theorem dX12_three_2 : decode cX12_three 2 = .ok (.iload_n 2, 1) := by decide +kernel
theorem dX12_three_3 : decode cX12_three 3 = .ok (.invokevirtual 55, 3) := by decide +kernel
theorem dX12_three_6 : decode cX12_three 6 = .ok (.aload_n 0, 1) := by decide +kernel
theorem dX12_three_7 : decode cX12_three 7 = .ok (.iload_n 1, 1) := by decide +kernel
theorem dX12_three_8 : decode cX12_three 8 = .ok (.iconst 1, 1) := by decide +kernel
theorem dX12_three_9 : decode cX12_three 9 = .ok (.iadd, 1) := by decide +kernel
theorem dX12_three_10 : decode cX12_three 10 = .ok (.iload_n 1, 1) := by decide +kernel
theorem dX12_three_11 : decode cX12_three 11 = .ok (.iconst 2, 1) := by decide +kernel
theorem dX12_three_12 : decode cX12_three 12 = .ok (.iadd, 1) := by decide +kernel
theorem dX12_three_13 : decode cX12_three 13 = .ok (.iload_n 3, 1) := by decide +kernel
theorem dX12_three_14 : decode cX12_three 14 = .ok (.iload 4, 2) := by decide +kernel
theorem dX12_three_16 : decode cX12_three 16 = .ok (.invokevirtual 58, 3) := by decide +kernel
theorem dX12_three_19 : decode cX12_three 19 = .ok (.lmul, 1) := by decide +kernel
theorem dX12_three_20 : decode cX12_three 20 = .ok (.aload_n 0, 1) := by decide +kernel
theorem dX12_three_21 : decode cX12_three 21 = .ok (.iload_n 1, 1) := by decide +kernel
theorem dX12_three_22 : decode cX12_three 22 = .ok (.iload_n 3, 1) := by decide +kernel
theorem dX12_three_23 : decode cX12_three 23 = .ok (.invokevirtual 55, 3) := by decide +kernel
theorem dX12_three_26 : decode cX12_three 26 = .ok (.aload_n 0, 1) := by decide +kernel
theorem dX12_three_27 : decode cX12_three 27 = .ok (.iload_n 1, 1) := by decide +kernel
theorem dX12_three_28 : decode cX12_three 28 = .ok (.iconst 1, 1) := by decide +kernel
theorem dX12_three_29 : decode cX12_three 29 = .ok (.iadd, 1) := by decide +kernel
theorem dX12_three_30 : decode cX12_three 30 = .ok (.iload_n 1, 1) := by decide +kernel
theorem dX12_three_31 : decode cX12_three 31 = .ok (.iconst 2, 1) := by decide +kernel
theorem dX12_three_32 : decode cX12_three 32 = .ok (.iadd, 1) := by decide +kernel
theorem dX12_three_33 : decode cX12_three 33 = .ok (.iload_n 2, 1) := by decide +kernel
theorem dX12_three_34 : decode cX12_three 34 = .ok (.iload 4, 2) := by decide +kernel
theorem dX12_three_36 : decode cX12_three 36 = .ok (.invokevirtual 58, 3) := by decide +kernel
theorem dX12_three_39 : decode cX12_three 39 = .ok (.lmul, 1) := by decide +kernel
theorem dX12_three_40 : decode cX12_three 40 = .ok (.lsub, 1) := by decide +kernel
theorem dX12_three_41 : decode cX12_three 41 = .ok (.aload_n 0, 1) := by decide +kernel
theorem dX12_three_42 : decode cX12_three 42 = .ok (.iload_n 1, 1) := by decide +kernel
theorem dX12_three_43 : decode cX12_three 43 = .ok (.iload 4, 2) := by decide +kernel
theorem dX12_three_45 : decode cX12_three 45 = .ok (.invokevirtual 55, 3) := by decide +kernel
theorem dX12_three_48 : decode cX12_three 48 = .ok (.aload_n 0, 1) := by decide +kernel
theorem dX12_three_49 : decode cX12_three 49 = .ok (.iload_n 1, 1) := by decide +kernel
theorem dX12_three_50 : decode cX12_three 50 = .ok (.iconst 1, 1) := by decide +kernel
theorem dX12_three_51 : decode cX12_three 51 = .ok (.iadd, 1) := by decide +kernel
theorem dX12_three_52 : decode cX12_three 52 = .ok (.iload_n 1, 1) := by decide +kernel
theorem dX12_three_53 : decode cX12_three 53 = .ok (.iconst 2, 1) := by decide +kernel
theorem dX12_three_54 : decode cX12_three 54 = .ok (.iadd, 1) := by decide +kernel
theorem dX12_three_55 : decode cX12_three 55 = .ok (.iload_n 2, 1) := by decide +kernel
theorem dX12_three_56 : decode cX12_three 56 = .ok (.iload_n 3, 1) := by decide +kernel
theorem dX12_three_57 : decode cX12_three 57 = .ok (.invokevirtual 58, 3) := by decide +kernel
theorem dX12_three_60 : decode cX12_three 60 = .ok (.lmul, 1) := by decide +kernel
theorem dX12_three_61 : decode cX12_three 61 = .ok (.ladd, 1) := by decide +kernel
theorem dX12_three_62 : decode cX12_three 62 = .ok (.lreturn, 1) := by decide +kernel
theorem dX12_det_0 : decode cX12_det 0 = .ok (.iload_n 1, 1) := by decide +kernel
theorem dX12_det_1 : decode cX12_det 1 = .ok (.tableswitch 58 0 3 #[31, 33, 40, 49], 31) := by decide +kernel
theorem dX12_det_32 : decode cX12_det 32 = .ok (.lconst 1, 1) := by decide +kernel
theorem dX12_det_33 : decode cX12_det 33 = .ok (.lreturn, 1) := by decide +kernel
theorem dX12_det_34 : decode cX12_det 34 = .ok (.aload_n 0, 1) := by decide +kernel
theorem dX12_det_35 : decode cX12_det 35 = .ok (.iconst 0, 1) := by decide +kernel
theorem dX12_det_36 : decode cX12_det 36 = .ok (.iconst 0, 1) := by decide +kernel
theorem dX12_det_37 : decode cX12_det 37 = .ok (.invokevirtual 55, 3) := by decide +kernel
theorem dX12_det_40 : decode cX12_det 40 = .ok (.lreturn, 1) := by decide +kernel
theorem dX12_det_41 : decode cX12_det 41 = .ok (.aload_n 0, 1) := by decide +kernel
theorem dX12_det_42 : decode cX12_det 42 = .ok (.iconst 0, 1) := by decide +kernel
theorem dX12_det_43 : decode cX12_det 43 = .ok (.iconst 1, 1) := by decide +kernel
theorem dX12_det_44 : decode cX12_det 44 = .ok (.iconst 0, 1) := by decide +kernel
theorem dX12_det_45 : decode cX12_det 45 = .ok (.iconst 1, 1) := by decide +kernel
theorem dX12_det_46 : decode cX12_det 46 = .ok (.invokevirtual 58, 3) := by decide +kernel
theorem dX12_det_49 : decode cX12_det 49 = .ok (.lreturn, 1) := by decide +kernel
theorem dX12_det_50 : decode cX12_det 50 = .ok (.aload_n 0, 1) := by decide +kernel
theorem dX12_det_51 : decode cX12_det 51 = .ok (.iconst 0, 1) := by decide +kernel
theorem dX12_det_52 : decode cX12_det 52 = .ok (.iconst 0, 1) := by decide +kernel
theorem dX12_det_53 : decode cX12_det 53 = .ok (.iconst 1, 1) := by decide +kernel
theorem dX12_det_54 : decode cX12_det 54 = .ok (.iconst 2, 1) := by decide +kernel
theorem dX12_det_55 : decode cX12_det 55 = .ok (.invokevirtual 62, 3) := by decide +kernel
theorem dX12_det_58 : decode cX12_det 58 = .ok (.lreturn, 1) := by decide +kernel
theorem dX12_det_59 : decode cX12_det 59 = .ok (.aload_n 0, 1) := by decide +kernel
theorem dX12_det_60 : decode cX12_det 60 = .ok (.iconst 0, 1) := by decide +kernel
theorem dX12_det_61 : decode cX12_det 61 = .ok (.iconst 0, 1) := by decide +kernel
theorem dX12_det_62 : decode cX12_det 62 = .ok (.invokevirtual 55, 3) := by decide +kernel
theorem dX12_det_65 : decode cX12_det 65 = .ok (.aload_n 0, 1) := by decide +kernel
theorem dX12_det_66 : decode cX12_det 66 = .ok (.iconst 1, 1) := by decide +kernel
theorem dX12_det_67 : decode cX12_det 67 = .ok (.iconst 1, 1) := by decide +kernel
theorem dX12_det_68 : decode cX12_det 68 = .ok (.iconst 2, 1) := by decide +kernel
theorem dX12_det_69 : decode cX12_det 69 = .ok (.iconst 3, 1) := by decide +kernel
theorem dX12_det_70 : decode cX12_det 70 = .ok (.invokevirtual 62, 3) := by decide +kernel
theorem dX12_det_73 : decode cX12_det 73 = .ok (.lmul, 1) := by decide +kernel
theorem dX12_det_74 : decode cX12_det 74 = .ok (.aload_n 0, 1) := by decide +kernel
theorem dX12_det_75 : decode cX12_det 75 = .ok (.iconst 0, 1) := by decide +kernel
theorem dX12_det_76 : decode cX12_det 76 = .ok (.iconst 1, 1) := by decide +kernel
theorem dX12_det_77 : decode cX12_det 77 = .ok (.invokevirtual 55, 3) := by decide +kernel
theorem dX12_det_80 : decode cX12_det 80 = .ok (.aload_n 0, 1) := by decide +kernel
theorem dX12_det_81 : decode cX12_det 81 = .ok (.iconst 1, 1) := by decide +kernel
theorem dX12_det_82 : decode cX12_det 82 = .ok (.iconst 0, 1) := by decide +kernel
theorem dX12_det_83 : decode cX12_det 83 = .ok (.iconst 2, 1) := by decide +kernel
theorem dX12_det_84 : decode cX12_det 84 = .ok (.iconst 3, 1) := by decide +kernel
theorem dX12_det_85 : decode cX12_det 85 = .ok (.invokevirtual 62, 3) := by decide +kernel
theorem dX12_det_88 : decode cX12_det 88 = .ok (.lmul, 1) := by decide +kernel
theorem dX12_det_89 : decode cX12_det 89 = .ok (.lsub, 1) := by decide +kernel
theorem dX12_det_90 : decode cX12_det 90 = .ok (.aload_n 0, 1) := by decide +kernel
theorem dX12_det_91 : decode cX12_det 91 = .ok (.iconst 0, 1) := by decide +kernel
theorem dX12_det_92 : decode cX12_det 92 = .ok (.iconst 2, 1) := by decide +kernel
theorem dX12_det_93 : decode cX12_det 93 = .ok (.invokevirtual 55, 3) := by decide +kernel
theorem dX12_det_96 : decode cX12_det 96 = .ok (.aload_n 0, 1) := by decide +kernel
theorem dX12_det_97 : decode cX12_det 97 = .ok (.iconst 1, 1) := by decide +kernel
theorem dX12_det_98 : decode cX12_det 98 = .ok (.iconst 0, 1) := by decide +kernel
theorem dX12_det_99 : decode cX12_det 99 = .ok (.iconst 1, 1) := by decide +kernel
theorem dX12_det_100 : decode cX12_det 100 = .ok (.iconst 3, 1) := by decide +kernel
theorem dX12_det_101 : decode cX12_det 101 = .ok (.invokevirtual 62, 3) := by decide +kernel
theorem dX12_det_104 : decode cX12_det 104 = .ok (.lmul, 1) := by decide +kernel
theorem dX12_det_105 : decode cX12_det 105 = .ok (.ladd, 1) := by decide +kernel
theorem dX12_det_106 : decode cX12_det 106 = .ok (.aload_n 0, 1) := by decide +kernel
theorem dX12_det_107 : decode cX12_det 107 = .ok (.iconst 0, 1) := by decide +kernel
theorem dX12_det_108 : decode cX12_det 108 = .ok (.iconst 3, 1) := by decide +kernel
theorem dX12_det_109 : decode cX12_det 109 = .ok (.invokevirtual 55, 3) := by decide +kernel
theorem dX12_det_112 : decode cX12_det 112 = .ok (.aload_n 0, 1) := by decide +kernel
theorem dX12_det_113 : decode cX12_det 113 = .ok (.iconst 1, 1) := by decide +kernel
theorem dX12_det_114 : decode cX12_det 114 = .ok (.iconst 0, 1) := by decide +kernel
theorem dX12_det_115 : decode cX12_det 115 = .ok (.iconst 1, 1) := by decide +kernel
theorem dX12_det_116 : decode cX12_det 116 = .ok (.iconst 2, 1) := by decide +kernel
theorem dX12_det_117 : decode cX12_det 117 = .ok (.invokevirtual 62, 3) := by decide +kernel
theorem dX12_det_120 : decode cX12_det 120 = .ok (.lmul, 1) := by decide +kernel
theorem dX12_det_121 : decode cX12_det 121 = .ok (.lsub, 1) := by decide +kernel
theorem dX12_det_122 : decode cX12_det 122 = .ok (.lreturn, 1) := by decide +kernel
theorem dX12_pick_0 : decode cX12_pick 0 = .ok (.iload_n 1, 1) := by decide +kernel
theorem dX12_pick_1 : decode cX12_pick 1 = .ok (.istore_n 2, 1) := by decide +kernel
theorem dX12_pick_2 : decode cX12_pick 2 = .ok (.iconst 0, 1) := by decide +kernel
theorem dX12_pick_3 : decode cX12_pick 3 = .ok (.istore_n 3, 1) := by decide +kernel
theorem dX12_pick_4 : decode cX12_pick 4 = .ok (.iload_n 3, 1) := by decide +kernel
theorem dX12_pick_5 : decode cX12_pick 5 = .ok (.iconst 5, 1) := by decide +kernel
theorem dX12_pick_6 : decode cX12_pick 6 = .ok (.if_icmp .ge 26, 3) := by decide +kernel
theorem dX12_pick_9 : decode cX12_pick 9 = .ok (.iload_n 0, 1) := by decide +kernel
theorem dX12_pick_10 : decode cX12_pick 10 = .ok (.iload_n 3, 1) := by decide +kernel
theorem dX12_pick_11 : decode cX12_pick 11 = .ok (.invokestatic 65, 3) := by decide +kernel
theorem dX12_pick_14 : decode cX12_pick 14 = .ok (.ifCond .eq 12, 3) := by decide +kernel
theorem dX12_pick_17 : decode cX12_pick 17 = .ok (.iload_n 2, 1) := by decide +kernel
theorem dX12_pick_18 : decode cX12_pick 18 = .ok (.ifCond .ne 5, 3) := by decide +kernel
theorem dX12_pick_21 : decode cX12_pick 21 = .ok (.iload_n 3, 1) := by decide +kernel
theorem dX12_pick_22 : decode cX12_pick 22 = .ok (.ireturn, 1) := by decide +kernel
theorem dX12_pick_23 : decode cX12_pick 23 = .ok (.iinc 2 (-1), 3) := by decide +kernel
theorem dX12_pick_26 : decode cX12_pick 26 = .ok (.iinc 3 1, 3) := by decide +kernel
theorem dX12_pick_29 : decode cX12_pick 29 = .ok (.goto (-25), 3) := by decide +kernel
theorem dX12_pick_32 : decode cX12_pick 32 = .ok (.iconst 0, 1) := by decide +kernel
theorem dX12_pick_33 : decode cX12_pick 33 = .ok (.ireturn, 1) := by decide +kernel
theorem dX12_minor_0 : decode cX12_minor 0 = .ok (.iload_n 1, 1) := by decide +kernel
theorem dX12_minor_1 : decode cX12_minor 1 = .ok (.invokestatic 69, 3) := by decide +kernel
theorem dX12_minor_4 : decode cX12_minor 4 = .ok (.istore_n 3, 1) := by decide +kernel
theorem dX12_minor_5 : decode cX12_minor 5 = .ok (.iconst 0, 1) := by decide +kernel
theorem dX12_minor_6 : decode cX12_minor 6 = .ok (.istore 4, 2) := by decide +kernel
theorem dX12_minor_8 : decode cX12_minor 8 = .ok (.iload 4, 2) := by decide +kernel
theorem dX12_minor_10 : decode cX12_minor 10 = .ok (.iload_n 3, 1) := by decide +kernel
theorem dX12_minor_11 : decode cX12_minor 11 = .ok (.if_icmp .ge 35, 3) := by decide +kernel
theorem dX12_minor_14 : decode cX12_minor 14 = .ok (.aload_n 0, 1) := by decide +kernel
theorem dX12_minor_15 : decode cX12_minor 15 = .ok (.getfield 25, 3) := by decide +kernel
theorem dX12_minor_18 : decode cX12_minor 18 = .ok (.iload 4, 2) := by decide +kernel
theorem dX12_minor_20 : decode cX12_minor 20 = .ok (.iload_n 1, 1) := by decide +kernel
theorem dX12_minor_21 : decode cX12_minor 21 = .ok (.iload 4, 2) := by decide +kernel
theorem dX12_minor_23 : decode cX12_minor 23 = .ok (.invokestatic 73, 3) := by decide +kernel
theorem dX12_minor_26 : decode cX12_minor 26 = .ok (.iastore, 1) := by decide +kernel
theorem dX12_minor_27 : decode cX12_minor 27 = .ok (.aload_n 0, 1) := by decide +kernel
theorem dX12_minor_28 : decode cX12_minor 28 = .ok (.getfield 28, 3) := by decide +kernel
theorem dX12_minor_31 : decode cX12_minor 31 = .ok (.iload 4, 2) := by decide +kernel
theorem dX12_minor_33 : decode cX12_minor 33 = .ok (.iload_n 2, 1) := by decide +kernel
theorem dX12_minor_34 : decode cX12_minor 34 = .ok (.iload 4, 2) := by decide +kernel
theorem dX12_minor_36 : decode cX12_minor 36 = .ok (.invokestatic 73, 3) := by decide +kernel
theorem dX12_minor_39 : decode cX12_minor 39 = .ok (.iastore, 1) := by decide +kernel
theorem dX12_minor_40 : decode cX12_minor 40 = .ok (.iinc 4 1, 3) := by decide +kernel
theorem dX12_minor_43 : decode cX12_minor 43 = .ok (.goto (-35), 3) := by decide +kernel
theorem dX12_minor_46 : decode cX12_minor 46 = .ok (.aload_n 0, 1) := by decide +kernel
theorem dX12_minor_47 : decode cX12_minor 47 = .ok (.iload_n 3, 1) := by decide +kernel
theorem dX12_minor_48 : decode cX12_minor 48 = .ok (.invokevirtual 77, 3) := by decide +kernel
theorem dX12_minor_51 : decode cX12_minor 51 = .ok (.lreturn, 1) := by decide +kernel
theorem dX12_allColumns_0 : decode cX12_allColumns 0 = .ok (.iconst 1, 1) := by decide +kernel
theorem dX12_allColumns_1 : decode cX12_allColumns 1 = .ok (.aload_n 0, 1) := by decide +kernel
theorem dX12_allColumns_2 : decode cX12_allColumns 2 = .ok (.invokevirtual 81, 3) := by decide +kernel
theorem dX12_allColumns_5 : decode cX12_allColumns 5 = .ok (.ishl, 1) := by decide +kernel
theorem dX12_allColumns_6 : decode cX12_allColumns 6 = .ok (.iconst 1, 1) := by decide +kernel
theorem dX12_allColumns_7 : decode cX12_allColumns 7 = .ok (.isub, 1) := by decide +kernel
theorem dX12_allColumns_8 : decode cX12_allColumns 8 = .ok (.ireturn, 1) := by decide +kernel
theorem dX12_determinant_0 : decode cX12_determinant 0 = .ok (.aload_n 0, 1) := by decide +kernel
theorem dX12_determinant_1 : decode cX12_determinant 1 = .ok (.aload_n 0, 1) := by decide +kernel
theorem dX12_determinant_2 : decode cX12_determinant 2 = .ok (.invokevirtual 85, 3) := by decide +kernel
theorem dX12_determinant_5 : decode cX12_determinant 5 = .ok (.aload_n 0, 1) := by decide +kernel
theorem dX12_determinant_6 : decode cX12_determinant 6 = .ok (.invokevirtual 85, 3) := by decide +kernel
theorem dX12_determinant_9 : decode cX12_determinant 9 = .ok (.invokevirtual 88, 3) := by decide +kernel
theorem dX12_determinant_12 : decode cX12_determinant 12 = .ok (.lreturn, 1) := by decide +kernel
theorem dX12_rankOf_0 : decode cX12_rankOf 0 = .ok (.iconst 0, 1) := by decide +kernel
theorem dX12_rankOf_1 : decode cX12_rankOf 1 = .ok (.istore_n 3, 1) := by decide +kernel
theorem dX12_rankOf_2 : decode cX12_rankOf 2 = .ok (.iconst 1, 1) := by decide +kernel
theorem dX12_rankOf_3 : decode cX12_rankOf 3 = .ok (.istore 4, 2) := by decide +kernel
theorem dX12_rankOf_5 : decode cX12_rankOf 5 = .ok (.iload 4, 2) := by decide +kernel
theorem dX12_rankOf_7 : decode cX12_rankOf 7 = .ok (.iconst 1, 1) := by decide +kernel
theorem dX12_rankOf_8 : decode cX12_rankOf 8 = .ok (.aload_n 0, 1) := by decide +kernel
theorem dX12_rankOf_9 : decode cX12_rankOf 9 = .ok (.invokevirtual 81, 3) := by decide +kernel
theorem dX12_rankOf_12 : decode cX12_rankOf 12 = .ok (.ishl, 1) := by decide +kernel
theorem dX12_rankOf_13 : decode cX12_rankOf 13 = .ok (.if_icmp .ge 100, 3) := by decide +kernel
theorem dX12_rankOf_16 : decode cX12_rankOf 16 = .ok (.iconst 1, 1) := by decide +kernel
theorem dX12_rankOf_17 : decode cX12_rankOf 17 = .ok (.istore 5, 2) := by decide +kernel
theorem dX12_rankOf_19 : decode cX12_rankOf 19 = .ok (.iload 5, 2) := by decide +kernel
theorem dX12_rankOf_21 : decode cX12_rankOf 21 = .ok (.bipush 32, 2) := by decide +kernel
theorem dX12_rankOf_23 : decode cX12_rankOf 23 = .ok (.if_icmp .ge 84, 3) := by decide +kernel
theorem dX12_rankOf_26 : decode cX12_rankOf 26 = .ok (.iload 4, 2) := by decide +kernel
theorem dX12_rankOf_28 : decode cX12_rankOf 28 = .ok (.invokestatic 69, 3) := by decide +kernel
theorem dX12_rankOf_31 : decode cX12_rankOf 31 = .ok (.iload_n 3, 1) := by decide +kernel
theorem dX12_rankOf_32 : decode cX12_rankOf 32 = .ok (.if_icmp .le 75, 3) := by decide +kernel
theorem dX12_rankOf_35 : decode cX12_rankOf 35 = .ok (.iload 5, 2) := by decide +kernel
theorem dX12_rankOf_37 : decode cX12_rankOf 37 = .ok (.iload_n 1, 1) := by decide +kernel
theorem dX12_rankOf_38 : decode cX12_rankOf 38 = .ok (.iconst (-1), 1) := by decide +kernel
theorem dX12_rankOf_39 : decode cX12_rankOf 39 = .ok (.ixor, 1) := by decide +kernel
theorem dX12_rankOf_40 : decode cX12_rankOf 40 = .ok (.iand, 1) := by decide +kernel
theorem dX12_rankOf_41 : decode cX12_rankOf 41 = .ok (.ifCond .ne 60, 3) := by decide +kernel
theorem dX12_rankOf_44 : decode cX12_rankOf 44 = .ok (.iload 5, 2) := by decide +kernel
theorem dX12_rankOf_46 : decode cX12_rankOf 46 = .ok (.invokestatic 69, 3) := by decide +kernel
