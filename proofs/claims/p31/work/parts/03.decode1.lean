theorem dX0_init_0 : decode cX0_init 0 = .ok (.aload_n 0, 1) := by decide +kernel
theorem dX0_init_1 : decode cX0_init 1 = .ok (.invokespecial 3, 3) := by decide +kernel
theorem dX0_init_4 : decode cX0_init 4 = .ok (.aload_n 0, 1) := by decide +kernel
theorem dX0_init_5 : decode cX0_init 5 = .ok (.new 9, 3) := by decide +kernel
theorem dX0_init_8 : decode cX0_init 8 = .ok (.dup, 1) := by decide +kernel
theorem dX0_init_9 : decode cX0_init 9 = .ok (.bipush 40, 2) := by decide +kernel
theorem dX0_init_11 : decode cX0_init 11 = .ok (.invokespecial 11, 3) := by decide +kernel
theorem dX0_init_14 : decode cX0_init 14 = .ok (.putfield 14, 3) := by decide +kernel
theorem dX0_init_17 : decode cX0_init 17 = .ok (.aload_n 0, 1) := by decide +kernel
theorem dX0_init_18 : decode cX0_init 18 = .ok (.new 9, 3) := by decide +kernel
theorem dX0_init_21 : decode cX0_init 21 = .ok (.dup, 1) := by decide +kernel
theorem dX0_init_22 : decode cX0_init 22 = .ok (.bipush 40, 2) := by decide +kernel
theorem dX0_init_24 : decode cX0_init 24 = .ok (.invokespecial 11, 3) := by decide +kernel
theorem dX0_init_27 : decode cX0_init 27 = .ok (.putfield 20, 3) := by decide +kernel
theorem dX0_init_30 : decode cX0_init 30 = .ok (.return_, 1) := by decide +kernel
theorem dX0_begin_0 : decode cX0_begin 0 = .ok (.aload_n 0, 1) := by decide +kernel
theorem dX0_begin_1 : decode cX0_begin 1 = .ok (.iload_n 1, 1) := by decide +kernel
theorem dX0_begin_2 : decode cX0_begin 2 = .ok (.putfield 23, 3) := by decide +kernel
theorem dX0_begin_5 : decode cX0_begin 5 = .ok (.aload_n 0, 1) := by decide +kernel
theorem dX0_begin_6 : decode cX0_begin 6 = .ok (.iconst 0, 1) := by decide +kernel
theorem dX0_begin_7 : decode cX0_begin 7 = .ok (.putfield 27, 3) := by decide +kernel
theorem dX0_begin_10 : decode cX0_begin 10 = .ok (.aload_n 0, 1) := by decide +kernel
theorem dX0_begin_11 : decode cX0_begin 11 = .ok (.iconst 1, 1) := by decide +kernel
theorem dX0_begin_12 : decode cX0_begin 12 = .ok (.putfield 30, 3) := by decide +kernel
theorem dX0_begin_15 : decode cX0_begin 15 = .ok (.aload_n 0, 1) := by decide +kernel
theorem dX0_begin_16 : decode cX0_begin 16 = .ok (.getfield 14, 3) := by decide +kernel
theorem dX0_begin_19 : decode cX0_begin 19 = .ok (.bipush (-4), 2) := by decide +kernel
theorem dX0_begin_21 : decode cX0_begin 21 = .ok (.invokevirtual 34, 3) := by decide +kernel
theorem dX0_begin_24 : decode cX0_begin 24 = .ok (.aload_n 0, 1) := by decide +kernel
theorem dX0_begin_25 : decode cX0_begin 25 = .ok (.getfield 20, 3) := by decide +kernel
theorem dX0_begin_28 : decode cX0_begin 28 = .ok (.bipush (-4), 2) := by decide +kernel
theorem dX0_begin_30 : decode cX0_begin 30 = .ok (.invokevirtual 34, 3) := by decide +kernel
theorem dX0_begin_33 : decode cX0_begin 33 = .ok (.return_, 1) := by decide +kernel
theorem dX0_bind_0 : decode cX0_bind 0 = .ok (.aload_n 0, 1) := by decide +kernel
theorem dX0_bind_1 : decode cX0_bind 1 = .ok (.getfield 14, 3) := by decide +kernel
theorem dX0_bind_4 : decode cX0_bind 4 = .ok (.iload_n 1, 1) := by decide +kernel
theorem dX0_bind_5 : decode cX0_bind 5 = .ok (.invokevirtual 37, 3) := by decide +kernel
theorem dX0_bind_8 : decode cX0_bind 8 = .ok (.istore_n 3, 1) := by decide +kernel
theorem dX0_bind_9 : decode cX0_bind 9 = .ok (.aload_n 0, 1) := by decide +kernel
theorem dX0_bind_10 : decode cX0_bind 10 = .ok (.getfield 20, 3) := by decide +kernel
theorem dX0_bind_13 : decode cX0_bind 13 = .ok (.iload_n 2, 1) := by decide +kernel
theorem dX0_bind_14 : decode cX0_bind 14 = .ok (.invokevirtual 37, 3) := by decide +kernel
theorem dX0_bind_17 : decode cX0_bind 17 = .ok (.istore 4, 2) := by decide +kernel
theorem dX0_bind_19 : decode cX0_bind 19 = .ok (.iload_n 3, 1) := by decide +kernel
theorem dX0_bind_20 : decode cX0_bind 20 = .ok (.bipush (-4), 2) := by decide +kernel
theorem dX0_bind_22 : decode cX0_bind 22 = .ok (.if_icmp .ne 41, 3) := by decide +kernel
theorem dX0_bind_25 : decode cX0_bind 25 = .ok (.iload 4, 2) := by decide +kernel
theorem dX0_bind_27 : decode cX0_bind 27 = .ok (.bipush (-4), 2) := by decide +kernel
theorem dX0_bind_29 : decode cX0_bind 29 = .ok (.if_icmp .ne 34, 3) := by decide +kernel
theorem dX0_bind_32 : decode cX0_bind 32 = .ok (.aload_n 0, 1) := by decide +kernel
theorem dX0_bind_33 : decode cX0_bind 33 = .ok (.getfield 14, 3) := by decide +kernel
theorem dX0_bind_36 : decode cX0_bind 36 = .ok (.iload_n 1, 1) := by decide +kernel
theorem dX0_bind_37 : decode cX0_bind 37 = .ok (.iload_n 2, 1) := by decide +kernel
theorem dX0_bind_38 : decode cX0_bind 38 = .ok (.invokevirtual 41, 3) := by decide +kernel
theorem dX0_bind_41 : decode cX0_bind 41 = .ok (.aload_n 0, 1) := by decide +kernel
theorem dX0_bind_42 : decode cX0_bind 42 = .ok (.getfield 20, 3) := by decide +kernel
theorem dX0_bind_45 : decode cX0_bind 45 = .ok (.iload_n 2, 1) := by decide +kernel
theorem dX0_bind_46 : decode cX0_bind 46 = .ok (.iload_n 1, 1) := by decide +kernel
theorem dX0_bind_47 : decode cX0_bind 47 = .ok (.invokevirtual 41, 3) := by decide +kernel
theorem dX0_bind_50 : decode cX0_bind 50 = .ok (.aload_n 0, 1) := by decide +kernel
theorem dX0_bind_51 : decode cX0_bind 51 = .ok (.dup, 1) := by decide +kernel
theorem dX0_bind_52 : decode cX0_bind 52 = .ok (.getfield 27, 3) := by decide +kernel
theorem dX0_bind_55 : decode cX0_bind 55 = .ok (.iconst 1, 1) := by decide +kernel
theorem dX0_bind_56 : decode cX0_bind 56 = .ok (.iadd, 1) := by decide +kernel
theorem dX0_bind_57 : decode cX0_bind 57 = .ok (.putfield 27, 3) := by decide +kernel
theorem dX0_bind_60 : decode cX0_bind 60 = .ok (.goto 13, 3) := by decide +kernel
theorem dX0_bind_63 : decode cX0_bind 63 = .ok (.iload_n 3, 1) := by decide +kernel
theorem dX0_bind_64 : decode cX0_bind 64 = .ok (.iload_n 2, 1) := by decide +kernel
theorem dX0_bind_65 : decode cX0_bind 65 = .ok (.if_icmp .eq 8, 3) := by decide +kernel
theorem dX0_bind_68 : decode cX0_bind 68 = .ok (.aload_n 0, 1) := by decide +kernel
theorem dX0_bind_69 : decode cX0_bind 69 = .ok (.iconst 0, 1) := by decide +kernel
theorem dX0_bind_70 : decode cX0_bind 70 = .ok (.putfield 30, 3) := by decide +kernel
theorem dX0_bind_73 : decode cX0_bind 73 = .ok (.return_, 1) := by decide +kernel
theorem dX0_holds_0 : decode cX0_holds 0 = .ok (.aload_n 0, 1) := by decide +kernel
theorem dX0_holds_1 : decode cX0_holds 1 = .ok (.getfield 30, 3) := by decide +kernel
theorem dX0_holds_4 : decode cX0_holds 4 = .ok (.ireturn, 1) := by decide +kernel
theorem dX0_isAllButOne_0 : decode cX0_isAllButOne 0 = .ok (.aload_n 0, 1) := by decide +kernel
theorem dX0_isAllButOne_1 : decode cX0_isAllButOne 1 = .ok (.getfield 27, 3) := by decide +kernel
theorem dX0_isAllButOne_4 : decode cX0_isAllButOne 4 = .ok (.aload_n 0, 1) := by decide +kernel
theorem dX0_isAllButOne_5 : decode cX0_isAllButOne 5 = .ok (.getfield 23, 3) := by decide +kernel
theorem dX0_isAllButOne_8 : decode cX0_isAllButOne 8 = .ok (.iconst 1, 1) := by decide +kernel
theorem dX0_isAllButOne_9 : decode cX0_isAllButOne 9 = .ok (.isub, 1) := by decide +kernel
theorem dX0_isAllButOne_10 : decode cX0_isAllButOne 10 = .ok (.if_icmp .ne 7, 3) := by decide +kernel
theorem dX0_isAllButOne_13 : decode cX0_isAllButOne 13 = .ok (.iconst 1, 1) := by decide +kernel
theorem dX0_isAllButOne_14 : decode cX0_isAllButOne 14 = .ok (.goto 4, 3) := by decide +kernel
theorem dX0_isAllButOne_17 : decode cX0_isAllButOne 17 = .ok (.iconst 0, 1) := by decide +kernel
theorem dX0_isAllButOne_18 : decode cX0_isAllButOne 18 = .ok (.ireturn, 1) := by decide +kernel
theorem dX0_leafAt_0 : decode cX0_leafAt 0 = .ok (.aload_n 0, 1) := by decide +kernel
theorem dX0_leafAt_1 : decode cX0_leafAt 1 = .ok (.getfield 14, 3) := by decide +kernel
theorem dX0_leafAt_4 : decode cX0_leafAt 4 = .ok (.iload_n 1, 1) := by decide +kernel
theorem dX0_leafAt_5 : decode cX0_leafAt 5 = .ok (.invokevirtual 37, 3) := by decide +kernel
theorem dX0_leafAt_8 : decode cX0_leafAt 8 = .ok (.ireturn, 1) := by decide +kernel
theorem dX0_fillUp_0 : decode cX0_fillUp 0 = .ok (.iconst 0, 1) := by decide +kernel
theorem dX0_fillUp_1 : decode cX0_fillUp 1 = .ok (.istore_n 1, 1) := by decide +kernel
theorem dX0_fillUp_2 : decode cX0_fillUp 2 = .ok (.iconst 0, 1) := by decide +kernel
theorem dX0_fillUp_3 : decode cX0_fillUp 3 = .ok (.istore_n 2, 1) := by decide +kernel
theorem dX0_fillUp_4 : decode cX0_fillUp 4 = .ok (.iload_n 2, 1) := by decide +kernel
theorem dX0_fillUp_5 : decode cX0_fillUp 5 = .ok (.aload_n 0, 1) := by decide +kernel
theorem dX0_fillUp_6 : decode cX0_fillUp 6 = .ok (.getfield 23, 3) := by decide +kernel
theorem dX0_fillUp_9 : decode cX0_fillUp 9 = .ok (.if_icmp .ge 55, 3) := by decide +kernel
theorem dX0_fillUp_12 : decode cX0_fillUp 12 = .ok (.aload_n 0, 1) := by decide +kernel
theorem dX0_fillUp_13 : decode cX0_fillUp 13 = .ok (.getfield 20, 3) := by decide +kernel
theorem dX0_fillUp_16 : decode cX0_fillUp 16 = .ok (.iload_n 2, 1) := by decide +kernel
theorem dX0_fillUp_17 : decode cX0_fillUp 17 = .ok (.invokevirtual 37, 3) := by decide +kernel
theorem dX0_fillUp_20 : decode cX0_fillUp 20 = .ok (.bipush (-4), 2) := by decide +kernel
theorem dX0_fillUp_22 : decode cX0_fillUp 22 = .ok (.if_icmp .ne 36, 3) := by decide +kernel
theorem dX0_fillUp_25 : decode cX0_fillUp 25 = .ok (.iload_n 1, 1) := by decide +kernel
theorem dX0_fillUp_26 : decode cX0_fillUp 26 = .ok (.aload_n 0, 1) := by decide +kernel
theorem dX0_fillUp_27 : decode cX0_fillUp 27 = .ok (.getfield 23, 3) := by decide +kernel
theorem dX0_fillUp_30 : decode cX0_fillUp 30 = .ok (.if_icmp .ge 22, 3) := by decide +kernel
theorem dX0_fillUp_33 : decode cX0_fillUp 33 = .ok (.aload_n 0, 1) := by decide +kernel
theorem dX0_fillUp_34 : decode cX0_fillUp 34 = .ok (.getfield 14, 3) := by decide +kernel
theorem dX0_fillUp_37 : decode cX0_fillUp 37 = .ok (.iload_n 1, 1) := by decide +kernel
theorem dX0_fillUp_38 : decode cX0_fillUp 38 = .ok (.invokevirtual 37, 3) := by decide +kernel
theorem dX0_fillUp_41 : decode cX0_fillUp 41 = .ok (.bipush (-4), 2) := by decide +kernel
theorem dX0_fillUp_43 : decode cX0_fillUp 43 = .ok (.if_icmp .eq 9, 3) := by decide +kernel
theorem dX0_fillUp_46 : decode cX0_fillUp 46 = .ok (.iinc 1 1, 3) := by decide +kernel
theorem dX0_fillUp_49 : decode cX0_fillUp 49 = .ok (.goto (-24), 3) := by decide +kernel
theorem dX0_fillUp_52 : decode cX0_fillUp 52 = .ok (.aload_n 0, 1) := by decide +kernel
theorem dX0_fillUp_53 : decode cX0_fillUp 53 = .ok (.iload_n 1, 1) := by decide +kernel
theorem dX0_fillUp_54 : decode cX0_fillUp 54 = .ok (.iload_n 2, 1) := by decide +kernel
theorem dX0_fillUp_55 : decode cX0_fillUp 55 = .ok (.invokevirtual 45, 3) := by decide +kernel
theorem dX0_fillUp_58 : decode cX0_fillUp 58 = .ok (.iinc 2 1, 3) := by decide +kernel
theorem dX0_fillUp_61 : decode cX0_fillUp 61 = .ok (.goto (-57), 3) := by decide +kernel
theorem dX0_fillUp_64 : decode cX0_fillUp 64 = .ok (.return_, 1) := by decide +kernel
theorem dX1_init_0 : decode cX1_init 0 = .ok (.aload_n 0, 1) := by decide +kernel
theorem dX1_init_1 : decode cX1_init 1 = .ok (.invokespecial 3, 3) := by decide +kernel
theorem dX1_init_4 : decode cX1_init 4 = .ok (.aload_n 0, 1) := by decide +kernel
theorem dX1_init_5 : decode cX1_init 5 = .ok (.new 9, 3) := by decide +kernel
theorem dX1_init_8 : decode cX1_init 8 = .ok (.dup, 1) := by decide +kernel
theorem dX1_init_9 : decode cX1_init 9 = .ok (.bipush 40, 2) := by decide +kernel
theorem dX1_init_11 : decode cX1_init 11 = .ok (.invokespecial 11, 3) := by decide +kernel
theorem dX1_init_14 : decode cX1_init 14 = .ok (.putfield 14, 3) := by decide +kernel
theorem dX1_init_17 : decode cX1_init 17 = .ok (.aload_n 0, 1) := by decide +kernel
theorem dX1_init_18 : decode cX1_init 18 = .ok (.new 9, 3) := by decide +kernel
theorem dX1_init_21 : decode cX1_init 21 = .ok (.dup, 1) := by decide +kernel
theorem dX1_init_22 : decode cX1_init 22 = .ok (.bipush 40, 2) := by decide +kernel
theorem dX1_init_24 : decode cX1_init 24 = .ok (.invokespecial 11, 3) := by decide +kernel
theorem dX1_init_27 : decode cX1_init 27 = .ok (.putfield 20, 3) := by decide +kernel
theorem dX1_init_30 : decode cX1_init 30 = .ok (.return_, 1) := by decide +kernel
theorem dX1_number_0 : decode cX1_number 0 = .ok (.aload_n 0, 1) := by decide +kernel
theorem dX1_number_1 : decode cX1_number 1 = .ok (.iload_n 1, 1) := by decide +kernel
theorem dX1_number_2 : decode cX1_number 2 = .ok (.putfield 23, 3) := by decide +kernel
theorem dX1_number_5 : decode cX1_number 5 = .ok (.iconst 0, 1) := by decide +kernel
theorem dX1_number_6 : decode cX1_number 6 = .ok (.istore_n 2, 1) := by decide +kernel
theorem dX1_number_7 : decode cX1_number 7 = .ok (.iload_n 2, 1) := by decide +kernel
theorem dX1_number_8 : decode cX1_number 8 = .ok (.iload_n 1, 1) := by decide +kernel
theorem dX1_number_9 : decode cX1_number 9 = .ok (.if_icmp .ge 18, 3) := by decide +kernel
theorem dX1_number_12 : decode cX1_number 12 = .ok (.aload_n 0, 1) := by decide +kernel
theorem dX1_number_13 : decode cX1_number 13 = .ok (.getfield 14, 3) := by decide +kernel
theorem dX1_number_16 : decode cX1_number 16 = .ok (.iload_n 2, 1) := by decide +kernel
theorem dX1_number_17 : decode cX1_number 17 = .ok (.iload_n 2, 1) := by decide +kernel
theorem dX1_number_18 : decode cX1_number 18 = .ok (.invokevirtual 27, 3) := by decide +kernel
theorem dX1_number_21 : decode cX1_number 21 = .ok (.iinc 2 1, 3) := by decide +kernel
theorem dX1_number_24 : decode cX1_number 24 = .ok (.goto (-17), 3) := by decide +kernel
theorem dX1_number_27 : decode cX1_number 27 = .ok (.return_, 1) := by decide +kernel
theorem dX1_leafAt_0 : decode cX1_leafAt 0 = .ok (.aload_n 0, 1) := by decide +kernel
theorem dX1_leafAt_1 : decode cX1_leafAt 1 = .ok (.getfield 14, 3) := by decide +kernel
theorem dX1_leafAt_4 : decode cX1_leafAt 4 = .ok (.iload_n 1, 1) := by decide +kernel
theorem dX1_leafAt_5 : decode cX1_leafAt 5 = .ok (.invokevirtual 31, 3) := by decide +kernel
theorem dX1_leafAt_8 : decode cX1_leafAt 8 = .ok (.ireturn, 1) := by decide +kernel
theorem dX1_placeOf_0 : decode cX1_placeOf 0 = .ok (.iconst 0, 1) := by decide +kernel
theorem dX1_placeOf_1 : decode cX1_placeOf 1 = .ok (.istore_n 2, 1) := by decide +kernel
theorem dX1_placeOf_2 : decode cX1_placeOf 2 = .ok (.iload_n 2, 1) := by decide +kernel
theorem dX1_placeOf_3 : decode cX1_placeOf 3 = .ok (.aload_n 0, 1) := by decide +kernel
theorem dX1_placeOf_4 : decode cX1_placeOf 4 = .ok (.getfield 23, 3) := by decide +kernel
theorem dX1_placeOf_7 : decode cX1_placeOf 7 = .ok (.if_icmp .ge 23, 3) := by decide +kernel
theorem dX1_placeOf_10 : decode cX1_placeOf 10 = .ok (.aload_n 0, 1) := by decide +kernel
theorem dX1_placeOf_11 : decode cX1_placeOf 11 = .ok (.getfield 14, 3) := by decide +kernel
theorem dX1_placeOf_14 : decode cX1_placeOf 14 = .ok (.iload_n 2, 1) := by decide +kernel
theorem dX1_placeOf_15 : decode cX1_placeOf 15 = .ok (.invokevirtual 31, 3) := by decide +kernel
theorem dX1_placeOf_18 : decode cX1_placeOf 18 = .ok (.iload_n 1, 1) := by decide +kernel
theorem dX1_placeOf_19 : decode cX1_placeOf 19 = .ok (.if_icmp .ne 5, 3) := by decide +kernel
theorem dX1_placeOf_22 : decode cX1_placeOf 22 = .ok (.iload_n 2, 1) := by decide +kernel
theorem dX1_placeOf_23 : decode cX1_placeOf 23 = .ok (.ireturn, 1) := by decide +kernel
theorem dX1_placeOf_24 : decode cX1_placeOf 24 = .ok (.iinc 2 1, 3) := by decide +kernel
theorem dX1_placeOf_27 : decode cX1_placeOf 27 = .ok (.goto (-25), 3) := by decide +kernel
theorem dX1_placeOf_30 : decode cX1_placeOf 30 = .ok (.bipush (-4), 2) := by decide +kernel
theorem dX1_placeOf_32 : decode cX1_placeOf 32 = .ok (.ireturn, 1) := by decide +kernel
theorem dX1_swap_0 : decode cX1_swap 0 = .ok (.aload_n 0, 1) := by decide +kernel
theorem dX1_swap_1 : decode cX1_swap 1 = .ok (.getfield 14, 3) := by decide +kernel
theorem dX1_swap_4 : decode cX1_swap 4 = .ok (.iload_n 1, 1) := by decide +kernel
theorem dX1_swap_5 : decode cX1_swap 5 = .ok (.invokevirtual 31, 3) := by decide +kernel
theorem dX1_swap_8 : decode cX1_swap 8 = .ok (.istore_n 3, 1) := by decide +kernel
theorem dX1_swap_9 : decode cX1_swap 9 = .ok (.aload_n 0, 1) := by decide +kernel
theorem dX1_swap_10 : decode cX1_swap 10 = .ok (.getfield 14, 3) := by decide +kernel
theorem dX1_swap_13 : decode cX1_swap 13 = .ok (.iload_n 1, 1) := by decide +kernel
theorem dX1_swap_14 : decode cX1_swap 14 = .ok (.aload_n 0, 1) := by decide +kernel
theorem dX1_swap_15 : decode cX1_swap 15 = .ok (.getfield 14, 3) := by decide +kernel
theorem dX1_swap_18 : decode cX1_swap 18 = .ok (.iload_n 2, 1) := by decide +kernel
theorem dX1_swap_19 : decode cX1_swap 19 = .ok (.invokevirtual 31, 3) := by decide +kernel
theorem dX1_swap_22 : decode cX1_swap 22 = .ok (.invokevirtual 27, 3) := by decide +kernel
theorem dX1_swap_25 : decode cX1_swap 25 = .ok (.aload_n 0, 1) := by decide +kernel
theorem dX1_swap_26 : decode cX1_swap 26 = .ok (.getfield 14, 3) := by decide +kernel
theorem dX1_swap_29 : decode cX1_swap 29 = .ok (.iload_n 2, 1) := by decide +kernel
theorem dX1_swap_30 : decode cX1_swap 30 = .ok (.iload_n 3, 1) := by decide +kernel
theorem dX1_swap_31 : decode cX1_swap 31 = .ok (.invokevirtual 27, 3) := by decide +kernel
theorem dX1_swap_34 : decode cX1_swap 34 = .ok (.return_, 1) := by decide +kernel
theorem dX1_copyFrom_0 : decode cX1_copyFrom 0 = .ok (.aload_n 0, 1) := by decide +kernel
theorem dX1_copyFrom_1 : decode cX1_copyFrom 1 = .ok (.aload_n 1, 1) := by decide +kernel
theorem dX1_copyFrom_2 : decode cX1_copyFrom 2 = .ok (.getfield 23, 3) := by decide +kernel
theorem dX1_copyFrom_5 : decode cX1_copyFrom 5 = .ok (.putfield 23, 3) := by decide +kernel
theorem dX1_copyFrom_8 : decode cX1_copyFrom 8 = .ok (.aload_n 0, 1) := by decide +kernel
theorem dX1_copyFrom_9 : decode cX1_copyFrom 9 = .ok (.getfield 14, 3) := by decide +kernel
theorem dX1_copyFrom_12 : decode cX1_copyFrom 12 = .ok (.aload_n 1, 1) := by decide +kernel
theorem dX1_copyFrom_13 : decode cX1_copyFrom 13 = .ok (.getfield 14, 3) := by decide +kernel
theorem dX1_copyFrom_16 : decode cX1_copyFrom 16 = .ok (.invokevirtual 35, 3) := by decide +kernel
theorem dX1_copyFrom_19 : decode cX1_copyFrom 19 = .ok (.return_, 1) := by decide +kernel
theorem dX1_readTop_0 : decode cX1_readTop 0 = .ok (.aload_n 0, 1) := by decide +kernel
theorem dX1_readTop_1 : decode cX1_readTop 1 = .ok (.getfield 14, 3) := by decide +kernel
theorem dX1_readTop_4 : decode cX1_readTop 4 = .ok (.iconst 0, 1) := by decide +kernel
theorem dX1_readTop_5 : decode cX1_readTop 5 = .ok (.invokevirtual 31, 3) := by decide +kernel
theorem dX1_readTop_8 : decode cX1_readTop 8 = .ok (.istore 4, 2) := by decide +kernel
theorem dX1_readTop_10 : decode cX1_readTop 10 = .ok (.iload_n 1, 1) := by decide +kernel
theorem dX1_readTop_11 : decode cX1_readTop 11 = .ok (.iconst 3, 1) := by decide +kernel
theorem dX1_readTop_12 : decode cX1_readTop 12 = .ok (.if_icmp .ne 10, 3) := by decide +kernel
theorem dX1_readTop_15 : decode cX1_readTop 15 = .ok (.aload_n 0, 1) := by decide +kernel
theorem dX1_readTop_16 : decode cX1_readTop 16 = .ok (.invokevirtual 39, 3) := by decide +kernel
theorem dX1_readTop_19 : decode cX1_readTop 19 = .ok (.goto 46, 3) := by decide +kernel
theorem dX1_readTop_22 : decode cX1_readTop 22 = .ok (.iload_n 1, 1) := by decide +kernel
theorem dX1_readTop_23 : decode cX1_readTop 23 = .ok (.iconst 1, 1) := by decide +kernel
theorem dX1_readTop_24 : decode cX1_readTop 24 = .ok (.if_icmp .eq 14, 3) := by decide +kernel
theorem dX1_readTop_27 : decode cX1_readTop 27 = .ok (.iload_n 1, 1) := by decide +kernel
theorem dX1_readTop_28 : decode cX1_readTop 28 = .ok (.iconst 2, 1) := by decide +kernel
theorem dX1_readTop_29 : decode cX1_readTop 29 = .ok (.if_icmp .ne 22, 3) := by decide +kernel
theorem dX1_readTop_32 : decode cX1_readTop 32 = .ok (.iload_n 3, 1) := by decide +kernel
theorem dX1_readTop_33 : decode cX1_readTop 33 = .ok (.iconst 2, 1) := by decide +kernel
theorem dX1_readTop_34 : decode cX1_readTop 34 = .ok (.irem, 1) := by decide +kernel
theorem dX1_readTop_35 : decode cX1_readTop 35 = .ok (.ifCond .eq 16, 3) := by decide +kernel
theorem dX1_readTop_38 : decode cX1_readTop 38 = .ok (.aload_n 0, 1) := by decide +kernel
theorem dX1_readTop_39 : decode cX1_readTop 39 = .ok (.aload_n 0, 1) := by decide +kernel
theorem dX1_readTop_40 : decode cX1_readTop 40 = .ok (.getfield 23, 3) := by decide +kernel
theorem dX1_readTop_43 : decode cX1_readTop 43 = .ok (.iconst 1, 1) := by decide +kernel
theorem dX1_readTop_44 : decode cX1_readTop 44 = .ok (.isub, 1) := by decide +kernel
theorem dX1_readTop_45 : decode cX1_readTop 45 = .ok (.invokevirtual 42, 3) := by decide +kernel
theorem dX1_readTop_48 : decode cX1_readTop 48 = .ok (.goto 17, 3) := by decide +kernel
theorem dX1_readTop_51 : decode cX1_readTop 51 = .ok (.aload_n 0, 1) := by decide +kernel
theorem dX1_readTop_52 : decode cX1_readTop 52 = .ok (.iload_n 2, 1) := by decide +kernel
theorem dX1_readTop_53 : decode cX1_readTop 53 = .ok (.aload_n 0, 1) := by decide +kernel
theorem dX1_readTop_54 : decode cX1_readTop 54 = .ok (.getfield 23, 3) := by decide +kernel
theorem dX1_readTop_57 : decode cX1_readTop 57 = .ok (.iconst 1, 1) := by decide +kernel
theorem dX1_readTop_58 : decode cX1_readTop 58 = .ok (.isub, 1) := by decide +kernel
theorem dX1_readTop_59 : decode cX1_readTop 59 = .ok (.invokestatic 45, 3) := by decide +kernel
theorem dX1_readTop_62 : decode cX1_readTop 62 = .ok (.invokevirtual 42, 3) := by decide +kernel
theorem dX1_readTop_65 : decode cX1_readTop 65 = .ok (.iload 4, 2) := by decide +kernel
theorem dX1_readTop_67 : decode cX1_readTop 67 = .ok (.ireturn, 1) := by decide +kernel
theorem dX1_layTop_0 : decode cX1_layTop 0 = .ok (.aload_n 0, 1) := by decide +kernel
theorem dX1_layTop_1 : decode cX1_layTop 1 = .ok (.getfield 14, 3) := by decide +kernel
theorem dX1_layTop_4 : decode cX1_layTop 4 = .ok (.iconst 0, 1) := by decide +kernel
theorem dX1_layTop_5 : decode cX1_layTop 5 = .ok (.invokevirtual 31, 3) := by decide +kernel
theorem dX1_layTop_8 : decode cX1_layTop 8 = .ok (.istore_n 2, 1) := by decide +kernel
theorem dX1_layTop_9 : decode cX1_layTop 9 = .ok (.iconst 0, 1) := by decide +kernel
theorem dX1_layTop_10 : decode cX1_layTop 10 = .ok (.istore_n 3, 1) := by decide +kernel
theorem dX1_layTop_11 : decode cX1_layTop 11 = .ok (.iload_n 3, 1) := by decide +kernel
theorem dX1_layTop_12 : decode cX1_layTop 12 = .ok (.iload_n 1, 1) := by decide +kernel
theorem dX1_layTop_13 : decode cX1_layTop 13 = .ok (.if_icmp .ge 27, 3) := by decide +kernel
theorem dX1_layTop_16 : decode cX1_layTop 16 = .ok (.aload_n 0, 1) := by decide +kernel
theorem dX1_layTop_17 : decode cX1_layTop 17 = .ok (.getfield 14, 3) := by decide +kernel
theorem dX1_layTop_20 : decode cX1_layTop 20 = .ok (.iload_n 3, 1) := by decide +kernel
theorem dX1_layTop_21 : decode cX1_layTop 21 = .ok (.aload_n 0, 1) := by decide +kernel
theorem dX1_layTop_22 : decode cX1_layTop 22 = .ok (.getfield 14, 3) := by decide +kernel
theorem dX1_layTop_25 : decode cX1_layTop 25 = .ok (.iload_n 3, 1) := by decide +kernel
theorem dX1_layTop_26 : decode cX1_layTop 26 = .ok (.iconst 1, 1) := by decide +kernel
theorem dX1_layTop_27 : decode cX1_layTop 27 = .ok (.iadd, 1) := by decide +kernel
theorem dX1_layTop_28 : decode cX1_layTop 28 = .ok (.invokevirtual 31, 3) := by decide +kernel
theorem dX1_layTop_31 : decode cX1_layTop 31 = .ok (.invokevirtual 27, 3) := by decide +kernel
theorem dX1_layTop_34 : decode cX1_layTop 34 = .ok (.iinc 3 1, 3) := by decide +kernel
theorem dX1_layTop_37 : decode cX1_layTop 37 = .ok (.goto (-26), 3) := by decide +kernel
theorem dX1_layTop_40 : decode cX1_layTop 40 = .ok (.aload_n 0, 1) := by decide +kernel
theorem dX1_layTop_41 : decode cX1_layTop 41 = .ok (.getfield 14, 3) := by decide +kernel
theorem dX1_layTop_44 : decode cX1_layTop 44 = .ok (.iload_n 1, 1) := by decide +kernel
theorem dX1_layTop_45 : decode cX1_layTop 45 = .ok (.iload_n 2, 1) := by decide +kernel
theorem dX1_layTop_46 : decode cX1_layTop 46 = .ok (.invokevirtual 27, 3) := by decide +kernel
theorem dX1_layTop_49 : decode cX1_layTop 49 = .ok (.return_, 1) := by decide +kernel
theorem dX1_cut_0 : decode cX1_cut 0 = .ok (.aload_n 0, 1) := by decide +kernel
theorem dX1_cut_1 : decode cX1_cut 1 = .ok (.getfield 23, 3) := by decide +kernel
theorem dX1_cut_4 : decode cX1_cut 4 = .ok (.iconst 2, 1) := by decide +kernel
theorem dX1_cut_5 : decode cX1_cut 5 = .ok (.idiv, 1) := by decide +kernel
theorem dX1_cut_6 : decode cX1_cut 6 = .ok (.istore_n 1, 1) := by decide +kernel
theorem dX1_cut_7 : decode cX1_cut 7 = .ok (.aload_n 0, 1) := by decide +kernel
theorem dX1_cut_8 : decode cX1_cut 8 = .ok (.getfield 20, 3) := by decide +kernel
theorem dX1_cut_11 : decode cX1_cut 11 = .ok (.aload_n 0, 1) := by decide +kernel
theorem dX1_cut_12 : decode cX1_cut 12 = .ok (.getfield 14, 3) := by decide +kernel
theorem dX1_cut_15 : decode cX1_cut 15 = .ok (.invokevirtual 35, 3) := by decide +kernel
theorem dX1_cut_18 : decode cX1_cut 18 = .ok (.iconst 0, 1) := by decide +kernel
theorem dX1_cut_19 : decode cX1_cut 19 = .ok (.istore_n 2, 1) := by decide +kernel
theorem dX1_cut_20 : decode cX1_cut 20 = .ok (.iload_n 2, 1) := by decide +kernel
theorem dX1_cut_21 : decode cX1_cut 21 = .ok (.aload_n 0, 1) := by decide +kernel
theorem dX1_cut_22 : decode cX1_cut 22 = .ok (.getfield 23, 3) := by decide +kernel
theorem dX1_cut_25 : decode cX1_cut 25 = .ok (.if_icmp .ge 46, 3) := by decide +kernel
theorem dX1_cut_28 : decode cX1_cut 28 = .ok (.iload_n 2, 1) := by decide +kernel
theorem dX1_cut_29 : decode cX1_cut 29 = .ok (.iload_n 1, 1) := by decide +kernel
theorem dX1_cut_30 : decode cX1_cut 30 = .ok (.iadd, 1) := by decide +kernel
theorem dX1_cut_31 : decode cX1_cut 31 = .ok (.istore_n 3, 1) := by decide +kernel
theorem dX1_cut_32 : decode cX1_cut 32 = .ok (.aload_n 0, 1) := by decide +kernel
theorem dX1_cut_33 : decode cX1_cut 33 = .ok (.getfield 14, 3) := by decide +kernel
theorem dX1_cut_36 : decode cX1_cut 36 = .ok (.iload_n 2, 1) := by decide +kernel
theorem dX1_cut_37 : decode cX1_cut 37 = .ok (.aload_n 0, 1) := by decide +kernel
theorem dX1_cut_38 : decode cX1_cut 38 = .ok (.getfield 20, 3) := by decide +kernel
theorem dX1_cut_41 : decode cX1_cut 41 = .ok (.iload_n 3, 1) := by decide +kernel
theorem dX1_cut_42 : decode cX1_cut 42 = .ok (.aload_n 0, 1) := by decide +kernel
theorem dX1_cut_43 : decode cX1_cut 43 = .ok (.getfield 23, 3) := by decide +kernel
theorem dX1_cut_46 : decode cX1_cut 46 = .ok (.if_icmp .ge 7, 3) := by decide +kernel
theorem dX1_cut_49 : decode cX1_cut 49 = .ok (.iload_n 3, 1) := by decide +kernel
theorem dX1_cut_50 : decode cX1_cut 50 = .ok (.goto 9, 3) := by decide +kernel
theorem dX1_cut_53 : decode cX1_cut 53 = .ok (.iload_n 3, 1) := by decide +kernel
theorem dX1_cut_54 : decode cX1_cut 54 = .ok (.aload_n 0, 1) := by decide +kernel
theorem dX1_cut_55 : decode cX1_cut 55 = .ok (.getfield 23, 3) := by decide +kernel
theorem dX1_cut_58 : decode cX1_cut 58 = .ok (.isub, 1) := by decide +kernel
theorem dX1_cut_59 : decode cX1_cut 59 = .ok (.invokevirtual 31, 3) := by decide +kernel
theorem dX1_cut_62 : decode cX1_cut 62 = .ok (.invokevirtual 27, 3) := by decide +kernel
theorem dX1_cut_65 : decode cX1_cut 65 = .ok (.iinc 2 1, 3) := by decide +kernel
theorem dX1_cut_68 : decode cX1_cut 68 = .ok (.goto (-48), 3) := by decide +kernel
theorem dX1_cut_71 : decode cX1_cut 71 = .ok (.return_, 1) := by decide +kernel
theorem dX2_init_0 : decode cX2_init 0 = .ok (.aload_n 0, 1) := by decide +kernel
theorem dX2_init_1 : decode cX2_init 1 = .ok (.invokespecial 1, 3) := by decide +kernel
theorem dX2_init_4 : decode cX2_init 4 = .ok (.aload_n 0, 1) := by decide +kernel
theorem dX2_init_5 : decode cX2_init 5 = .ok (.new 7, 3) := by decide +kernel
theorem dX2_init_8 : decode cX2_init 8 = .ok (.dup, 1) := by decide +kernel
theorem dX2_init_9 : decode cX2_init 9 = .ok (.invokespecial 9, 3) := by decide +kernel
theorem dX2_init_12 : decode cX2_init 12 = .ok (.putfield 10, 3) := by decide +kernel
theorem dX2_init_15 : decode cX2_init 15 = .ok (.return_, 1) := by decide +kernel
theorem dX2_startWith_0 : decode cX2_startWith 0 = .ok (.aload_n 0, 1) := by decide +kernel
theorem dX2_startWith_1 : decode cX2_startWith 1 = .ok (.getfield 10, 3) := by decide +kernel
theorem dX2_startWith_4 : decode cX2_startWith 4 = .ok (.aload_n 1, 1) := by decide +kernel
theorem dX2_startWith_5 : decode cX2_startWith 5 = .ok (.invokevirtual 16, 3) := by decide +kernel
theorem dX2_startWith_8 : decode cX2_startWith 8 = .ok (.aload_n 0, 1) := by decide +kernel
theorem dX2_startWith_9 : decode cX2_startWith 9 = .ok (.iconst 0, 1) := by decide +kernel
theorem dX2_startWith_10 : decode cX2_startWith 10 = .ok (.putfield 20, 3) := by decide +kernel
theorem dX2_startWith_13 : decode cX2_startWith 13 = .ok (.aload_n 0, 1) := by decide +kernel
theorem dX2_startWith_14 : decode cX2_startWith 14 = .ok (.iconst 0, 1) := by decide +kernel
theorem dX2_startWith_15 : decode cX2_startWith 15 = .ok (.putfield 24, 3) := by decide +kernel
theorem dX2_startWith_18 : decode cX2_startWith 18 = .ok (.return_, 1) := by decide +kernel
theorem dX2_copyFrom_0 : decode cX2_copyFrom 0 = .ok (.aload_n 0, 1) := by decide +kernel
theorem dX2_copyFrom_1 : decode cX2_copyFrom 1 = .ok (.getfield 10, 3) := by decide +kernel
theorem dX2_copyFrom_4 : decode cX2_copyFrom 4 = .ok (.aload_n 1, 1) := by decide +kernel
theorem dX2_copyFrom_5 : decode cX2_copyFrom 5 = .ok (.getfield 10, 3) := by decide +kernel
theorem dX2_copyFrom_8 : decode cX2_copyFrom 8 = .ok (.invokevirtual 16, 3) := by decide +kernel
theorem dX2_copyFrom_11 : decode cX2_copyFrom 11 = .ok (.aload_n 0, 1) := by decide +kernel
theorem dX2_copyFrom_12 : decode cX2_copyFrom 12 = .ok (.aload_n 1, 1) := by decide +kernel
theorem dX2_copyFrom_13 : decode cX2_copyFrom 13 = .ok (.getfield 20, 3) := by decide +kernel
theorem dX2_copyFrom_16 : decode cX2_copyFrom 16 = .ok (.putfield 20, 3) := by decide +kernel
theorem dX2_copyFrom_19 : decode cX2_copyFrom 19 = .ok (.aload_n 0, 1) := by decide +kernel
theorem dX2_copyFrom_20 : decode cX2_copyFrom 20 = .ok (.aload_n 1, 1) := by decide +kernel
theorem dX2_copyFrom_21 : decode cX2_copyFrom 21 = .ok (.getfield 24, 3) := by decide +kernel
theorem dX2_copyFrom_24 : decode cX2_copyFrom 24 = .ok (.putfield 24, 3) := by decide +kernel
theorem dX2_copyFrom_27 : decode cX2_copyFrom 27 = .ok (.return_, 1) := by decide +kernel
theorem dX2_readOne_0 : decode cX2_readOne 0 = .ok (.aload_n 0, 1) := by decide +kernel
theorem dX2_readOne_1 : decode cX2_readOne 1 = .ok (.getfield 10, 3) := by decide +kernel
theorem dX2_readOne_4 : decode cX2_readOne 4 = .ok (.aload_n 1, 1) := by decide +kernel
theorem dX2_readOne_5 : decode cX2_readOne 5 = .ok (.getfield 27, 3) := by decide +kernel
theorem dX2_readOne_8 : decode cX2_readOne 8 = .ok (.aload_n 1, 1) := by decide +kernel
theorem dX2_readOne_9 : decode cX2_readOne 9 = .ok (.getfield 32, 3) := by decide +kernel
theorem dX2_readOne_12 : decode cX2_readOne 12 = .ok (.aload_n 0, 1) := by decide +kernel
theorem dX2_readOne_13 : decode cX2_readOne 13 = .ok (.getfield 20, 3) := by decide +kernel
theorem dX2_readOne_16 : decode cX2_readOne 16 = .ok (.invokevirtual 35, 3) := by decide +kernel
theorem dX2_readOne_19 : decode cX2_readOne 19 = .ok (.istore_n 2, 1) := by decide +kernel
theorem dX2_readOne_20 : decode cX2_readOne 20 = .ok (.aload_n 0, 1) := by decide +kernel
theorem dX2_readOne_21 : decode cX2_readOne 21 = .ok (.dup, 1) := by decide +kernel
theorem dX2_readOne_22 : decode cX2_readOne 22 = .ok (.getfield 20, 3) := by decide +kernel
theorem dX2_readOne_25 : decode cX2_readOne 25 = .ok (.iconst 1, 1) := by decide +kernel
theorem dX2_readOne_26 : decode cX2_readOne 26 = .ok (.iadd, 1) := by decide +kernel
theorem dX2_readOne_27 : decode cX2_readOne 27 = .ok (.putfield 20, 3) := by decide +kernel
theorem dX2_readOne_30 : decode cX2_readOne 30 = .ok (.aload_n 0, 1) := by decide +kernel
theorem dX2_readOne_31 : decode cX2_readOne 31 = .ok (.getfield 20, 3) := by decide +kernel
theorem dX2_readOne_34 : decode cX2_readOne 34 = .ok (.aload_n 1, 1) := by decide +kernel
theorem dX2_readOne_35 : decode cX2_readOne 35 = .ok (.getfield 39, 3) := by decide +kernel
theorem dX2_readOne_38 : decode cX2_readOne 38 = .ok (.if_icmp .lt 18, 3) := by decide +kernel
theorem dX2_readOne_41 : decode cX2_readOne 41 = .ok (.aload_n 0, 1) := by decide +kernel
theorem dX2_readOne_42 : decode cX2_readOne 42 = .ok (.iconst 0, 1) := by decide +kernel
theorem dX2_readOne_43 : decode cX2_readOne 43 = .ok (.putfield 20, 3) := by decide +kernel
theorem dX2_readOne_46 : decode cX2_readOne 46 = .ok (.aload_n 0, 1) := by decide +kernel
theorem dX2_readOne_47 : decode cX2_readOne 47 = .ok (.dup, 1) := by decide +kernel
theorem dX2_readOne_48 : decode cX2_readOne 48 = .ok (.getfield 24, 3) := by decide +kernel
theorem dX2_readOne_51 : decode cX2_readOne 51 = .ok (.iconst 1, 1) := by decide +kernel
theorem dX2_readOne_52 : decode cX2_readOne 52 = .ok (.iadd, 1) := by decide +kernel
theorem dX2_readOne_53 : decode cX2_readOne 53 = .ok (.putfield 24, 3) := by decide +kernel
theorem dX2_readOne_56 : decode cX2_readOne 56 = .ok (.iload_n 2, 1) := by decide +kernel
theorem dX2_readOne_57 : decode cX2_readOne 57 = .ok (.ireturn, 1) := by decide +kernel
theorem dX2_fall_0 : decode cX2_fall 0 = .ok (.aload_n 0, 1) := by decide +kernel
theorem dX2_fall_1 : decode cX2_fall 1 = .ok (.getfield 10, 3) := by decide +kernel
theorem dX2_fall_4 : decode cX2_fall 4 = .ok (.getfield 42, 3) := by decide +kernel
theorem dX2_fall_7 : decode cX2_fall 7 = .ok (.iconst 1, 1) := by decide +kernel
theorem dX2_fall_8 : decode cX2_fall 8 = .ok (.isub, 1) := by decide +kernel
theorem dX2_fall_9 : decode cX2_fall 9 = .ok (.istore_n 2, 1) := by decide +kernel
theorem dX2_fall_10 : decode cX2_fall 10 = .ok (.iload_n 2, 1) := by decide +kernel
theorem dX2_fall_11 : decode cX2_fall 11 = .ok (.iconst 1, 1) := by decide +kernel
theorem dX2_fall_12 : decode cX2_fall 12 = .ok (.if_icmp .lt 46, 3) := by decide +kernel
theorem dX2_fall_15 : decode cX2_fall 15 = .ok (.ldc2_w 45, 3) := by decide +kernel
theorem dX2_fall_18 : decode cX2_fall 18 = .ok (.iload_n 1, 1) := by decide +kernel
theorem dX2_fall_19 : decode cX2_fall 19 = .ok (.i2l, 1) := by decide +kernel
theorem dX2_fall_20 : decode cX2_fall 20 = .ok (.lmul, 1) := by decide +kernel
theorem dX2_fall_21 : decode cX2_fall 21 = .ok (.ldc2_w 47, 3) := by decide +kernel
theorem dX2_fall_24 : decode cX2_fall 24 = .ok (.iload_n 2, 1) := by decide +kernel
theorem dX2_fall_25 : decode cX2_fall 25 = .ok (.i2l, 1) := by decide +kernel
theorem dX2_fall_26 : decode cX2_fall 26 = .ok (.lmul, 1) := by decide +kernel
theorem dX2_fall_27 : decode cX2_fall 27 = .ok (.ladd, 1) := by decide +kernel
theorem dX2_fall_28 : decode cX2_fall 28 = .ok (.lconst 1, 1) := by decide +kernel
theorem dX2_fall_29 : decode cX2_fall 29 = .ok (.ladd, 1) := by decide +kernel
theorem dX2_fall_30 : decode cX2_fall 30 = .ok (.lstore_n 3, 1) := by decide +kernel
theorem dX2_fall_31 : decode cX2_fall 31 = .ok (.aload_n 0, 1) := by decide +kernel
theorem dX2_fall_32 : decode cX2_fall 32 = .ok (.getfield 10, 3) := by decide +kernel
theorem dX2_fall_35 : decode cX2_fall 35 = .ok (.iload_n 2, 1) := by decide +kernel
theorem dX2_fall_36 : decode cX2_fall 36 = .ok (.lload_n 3, 1) := by decide +kernel
theorem dX2_fall_37 : decode cX2_fall 37 = .ok (.lload_n 3, 1) := by decide +kernel
theorem dX2_fall_38 : decode cX2_fall 38 = .ok (.lmul, 1) := by decide +kernel
theorem dX2_fall_39 : decode cX2_fall 39 = .ok (.ldc2_w 49, 3) := by decide +kernel
theorem dX2_fall_42 : decode cX2_fall 42 = .ok (.lrem, 1) := by decide +kernel
theorem dX2_fall_43 : decode cX2_fall 43 = .ok (.iload_n 2, 1) := by decide +kernel
theorem dX2_fall_44 : decode cX2_fall 44 = .ok (.iconst 1, 1) := by decide +kernel
theorem dX2_fall_45 : decode cX2_fall 45 = .ok (.iadd, 1) := by decide +kernel
theorem dX2_fall_46 : decode cX2_fall 46 = .ok (.i2l, 1) := by decide +kernel
theorem dX2_fall_47 : decode cX2_fall 47 = .ok (.lrem, 1) := by decide +kernel
theorem dX2_fall_48 : decode cX2_fall 48 = .ok (.l2i, 1) := by decide +kernel
theorem dX2_fall_49 : decode cX2_fall 49 = .ok (.invokevirtual 51, 3) := by decide +kernel
theorem dX2_fall_52 : decode cX2_fall 52 = .ok (.iinc 2 (-1), 3) := by decide +kernel
theorem dX2_fall_55 : decode cX2_fall 55 = .ok (.goto (-45), 3) := by decide +kernel
theorem dX2_fall_58 : decode cX2_fall 58 = .ok (.aload_n 0, 1) := by decide +kernel
theorem dX2_fall_59 : decode cX2_fall 59 = .ok (.iconst 0, 1) := by decide +kernel
theorem dX2_fall_60 : decode cX2_fall 60 = .ok (.putfield 20, 3) := by decide +kernel
theorem dX2_fall_63 : decode cX2_fall 63 = .ok (.return_, 1) := by decide +kernel
theorem dX3_init_0 : decode cX3_init 0 = .ok (.aload_n 0, 1) := by decide +kernel
theorem dX3_init_1 : decode cX3_init 1 = .ok (.invokespecial 3, 3) := by decide +kernel
theorem dX3_init_4 : decode cX3_init 4 = .ok (.aload_n 0, 1) := by decide +kernel
theorem dX3_init_5 : decode cX3_init 5 = .ok (.new 9, 3) := by decide +kernel
theorem dX3_init_8 : decode cX3_init 8 = .ok (.dup, 1) := by decide +kernel
theorem dX3_init_9 : decode cX3_init 9 = .ok (.invokespecial 11, 3) := by decide +kernel
theorem dX3_init_12 : decode cX3_init 12 = .ok (.putfield 12, 3) := by decide +kernel
theorem dX3_init_15 : decode cX3_init 15 = .ok (.aload_n 0, 1) := by decide +kernel
theorem dX3_init_16 : decode cX3_init 16 = .ok (.new 18, 3) := by decide +kernel
theorem dX3_init_19 : decode cX3_init 19 = .ok (.dup, 1) := by decide +kernel
theorem dX3_init_20 : decode cX3_init 20 = .ok (.bipush 40, 2) := by decide +kernel
theorem dX3_init_22 : decode cX3_init 22 = .ok (.invokespecial 20, 3) := by decide +kernel
theorem dX3_init_25 : decode cX3_init 25 = .ok (.putfield 23, 3) := by decide +kernel
theorem dX3_init_28 : decode cX3_init 28 = .ok (.aload_n 0, 1) := by decide +kernel
theorem dX3_init_29 : decode cX3_init 29 = .ok (.new 18, 3) := by decide +kernel
theorem dX3_init_32 : decode cX3_init 32 = .ok (.dup, 1) := by decide +kernel
theorem dX3_init_33 : decode cX3_init 33 = .ok (.bipush 40, 2) := by decide +kernel
theorem dX3_init_35 : decode cX3_init 35 = .ok (.invokespecial 20, 3) := by decide +kernel
theorem dX3_init_38 : decode cX3_init 38 = .ok (.putfield 27, 3) := by decide +kernel
theorem dX3_init_41 : decode cX3_init 41 = .ok (.aload_n 0, 1) := by decide +kernel
theorem dX3_init_42 : decode cX3_init 42 = .ok (.new 18, 3) := by decide +kernel
theorem dX3_init_45 : decode cX3_init 45 = .ok (.dup, 1) := by decide +kernel
theorem dX3_init_46 : decode cX3_init 46 = .ok (.bipush 40, 2) := by decide +kernel
theorem dX3_init_48 : decode cX3_init 48 = .ok (.invokespecial 20, 3) := by decide +kernel
theorem dX3_init_51 : decode cX3_init 51 = .ok (.putfield 30, 3) := by decide +kernel
theorem dX3_init_54 : decode cX3_init 54 = .ok (.aload_n 0, 1) := by decide +kernel
theorem dX3_init_55 : decode cX3_init 55 = .ok (.new 18, 3) := by decide +kernel
theorem dX3_init_58 : decode cX3_init 58 = .ok (.dup, 1) := by decide +kernel
theorem dX3_init_59 : decode cX3_init 59 = .ok (.bipush 40, 2) := by decide +kernel
theorem dX3_init_61 : decode cX3_init 61 = .ok (.invokespecial 20, 3) := by decide +kernel
theorem dX3_init_64 : decode cX3_init 64 = .ok (.putfield 33, 3) := by decide +kernel
theorem dX3_init_67 : decode cX3_init 67 = .ok (.aload_n 0, 1) := by decide +kernel
theorem dX3_init_68 : decode cX3_init 68 = .ok (.new 18, 3) := by decide +kernel
theorem dX3_init_71 : decode cX3_init 71 = .ok (.dup, 1) := by decide +kernel
theorem dX3_init_72 : decode cX3_init 72 = .ok (.bipush 40, 2) := by decide +kernel
theorem dX3_init_74 : decode cX3_init 74 = .ok (.invokespecial 20, 3) := by decide +kernel
theorem dX3_init_77 : decode cX3_init 77 = .ok (.putfield 36, 3) := by decide +kernel
theorem dX3_init_80 : decode cX3_init 80 = .ok (.aload_n 0, 1) := by decide +kernel
theorem dX3_init_81 : decode cX3_init 81 = .ok (.new 18, 3) := by decide +kernel
theorem dX3_init_84 : decode cX3_init 84 = .ok (.dup, 1) := by decide +kernel
theorem dX3_init_85 : decode cX3_init 85 = .ok (.bipush 40, 2) := by decide +kernel
theorem dX3_init_87 : decode cX3_init 87 = .ok (.invokespecial 20, 3) := by decide +kernel
theorem dX3_init_90 : decode cX3_init 90 = .ok (.putfield 39, 3) := by decide +kernel
theorem dX3_init_93 : decode cX3_init 93 = .ok (.aload_n 0, 1) := by decide +kernel
theorem dX3_init_94 : decode cX3_init 94 = .ok (.new 18, 3) := by decide +kernel
theorem dX3_init_97 : decode cX3_init 97 = .ok (.dup, 1) := by decide +kernel
theorem dX3_init_98 : decode cX3_init 98 = .ok (.bipush 40, 2) := by decide +kernel
theorem dX3_init_100 : decode cX3_init 100 = .ok (.invokespecial 20, 3) := by decide +kernel
theorem dX3_init_103 : decode cX3_init 103 = .ok (.putfield 42, 3) := by decide +kernel
theorem dX3_init_106 : decode cX3_init 106 = .ok (.return_, 1) := by decide +kernel
theorem dX3_follow_0 : decode cX3_follow 0 = .ok (.aload_n 0, 1) := by decide +kernel
theorem dX3_follow_1 : decode cX3_follow 1 = .ok (.aload_n 1, 1) := by decide +kernel
theorem dX3_follow_2 : decode cX3_follow 2 = .ok (.getfield 45, 3) := by decide +kernel
theorem dX3_follow_5 : decode cX3_follow 5 = .ok (.putfield 51, 3) := by decide +kernel
theorem dX3_follow_8 : decode cX3_follow 8 = .ok (.aload_n 0, 1) := by decide +kernel
theorem dX3_follow_9 : decode cX3_follow 9 = .ok (.aload_n 1, 1) := by decide +kernel
theorem dX3_follow_10 : decode cX3_follow 10 = .ok (.invokevirtual 54, 3) := by decide +kernel
theorem dX3_follow_13 : decode cX3_follow 13 = .ok (.aload_n 0, 1) := by decide +kernel
theorem dX3_follow_14 : decode cX3_follow 14 = .ok (.invokevirtual 58, 3) := by decide +kernel
theorem dX3_follow_17 : decode cX3_follow 17 = .ok (.aload_n 0, 1) := by decide +kernel
theorem dX3_follow_18 : decode cX3_follow 18 = .ok (.aload_n 1, 1) := by decide +kernel
theorem dX3_follow_19 : decode cX3_follow 19 = .ok (.invokevirtual 61, 3) := by decide +kernel
theorem dX3_follow_22 : decode cX3_follow 22 = .ok (.return_, 1) := by decide +kernel
theorem dX3_readOneReader_0 : decode cX3_readOneReader 0 = .ok (.aload_n 0, 1) := by decide +kernel
theorem dX3_readOneReader_1 : decode cX3_readOneReader 1 = .ok (.getfield 12, 3) := by decide +kernel
theorem dX3_readOneReader_4 : decode cX3_readOneReader 4 = .ok (.aload_n 0, 1) := by decide +kernel
theorem dX3_readOneReader_5 : decode cX3_readOneReader 5 = .ok (.getfield 51, 3) := by decide +kernel
theorem dX3_readOneReader_8 : decode cX3_readOneReader 8 = .ok (.invokevirtual 64, 3) := by decide +kernel
theorem dX3_readOneReader_11 : decode cX3_readOneReader 11 = .ok (.aload_n 0, 1) := by decide +kernel
theorem dX3_readOneReader_12 : decode cX3_readOneReader 12 = .ok (.getfield 27, 3) := by decide +kernel
theorem dX3_readOneReader_15 : decode cX3_readOneReader 15 = .ok (.bipush (-4), 2) := by decide +kernel
theorem dX3_readOneReader_17 : decode cX3_readOneReader 17 = .ok (.invokevirtual 67, 3) := by decide +kernel
theorem dX3_readOneReader_20 : decode cX3_readOneReader 20 = .ok (.iconst 0, 1) := by decide +kernel
theorem dX3_readOneReader_21 : decode cX3_readOneReader 21 = .ok (.istore_n 2, 1) := by decide +kernel
theorem dX3_readOneReader_22 : decode cX3_readOneReader 22 = .ok (.iload_n 2, 1) := by decide +kernel
theorem dX3_readOneReader_23 : decode cX3_readOneReader 23 = .ok (.aload_n 1, 1) := by decide +kernel
theorem dX3_readOneReader_24 : decode cX3_readOneReader 24 = .ok (.getfield 70, 3) := by decide +kernel
theorem dX3_readOneReader_27 : decode cX3_readOneReader 27 = .ok (.if_icmp .ge 57, 3) := by decide +kernel
theorem dX3_readOneReader_30 : decode cX3_readOneReader 30 = .ok (.aload_n 0, 1) := by decide +kernel
theorem dX3_readOneReader_31 : decode cX3_readOneReader 31 = .ok (.getfield 12, 3) := by decide +kernel
theorem dX3_readOneReader_34 : decode cX3_readOneReader 34 = .ok (.aload_n 1, 1) := by decide +kernel
theorem dX3_readOneReader_35 : decode cX3_readOneReader 35 = .ok (.getfield 73, 3) := by decide +kernel
theorem dX3_readOneReader_38 : decode cX3_readOneReader 38 = .ok (.aload_n 1, 1) := by decide +kernel
theorem dX3_readOneReader_39 : decode cX3_readOneReader 39 = .ok (.getfield 76, 3) := by decide +kernel
theorem dX3_readOneReader_42 : decode cX3_readOneReader 42 = .ok (.iload_n 2, 1) := by decide +kernel
theorem dX3_readOneReader_43 : decode cX3_readOneReader 43 = .ok (.invokevirtual 79, 3) := by decide +kernel
theorem dX3_readOneReader_46 : decode cX3_readOneReader 46 = .ok (.istore_n 3, 1) := by decide +kernel
theorem dX3_readOneReader_47 : decode cX3_readOneReader 47 = .ok (.aload_n 0, 1) := by decide +kernel
theorem dX3_readOneReader_48 : decode cX3_readOneReader 48 = .ok (.getfield 23, 3) := by decide +kernel
theorem dX3_readOneReader_51 : decode cX3_readOneReader 51 = .ok (.iload_n 2, 1) := by decide +kernel
theorem dX3_readOneReader_52 : decode cX3_readOneReader 52 = .ok (.iload_n 3, 1) := by decide +kernel
theorem dX3_readOneReader_53 : decode cX3_readOneReader 53 = .ok (.invokevirtual 83, 3) := by decide +kernel
theorem dX3_readOneReader_56 : decode cX3_readOneReader 56 = .ok (.aload_n 0, 1) := by decide +kernel
theorem dX3_readOneReader_57 : decode cX3_readOneReader 57 = .ok (.getfield 27, 3) := by decide +kernel
theorem dX3_readOneReader_60 : decode cX3_readOneReader 60 = .ok (.iload_n 3, 1) := by decide +kernel
theorem dX3_readOneReader_61 : decode cX3_readOneReader 61 = .ok (.invokevirtual 87, 3) := by decide +kernel
theorem dX3_readOneReader_64 : decode cX3_readOneReader 64 = .ok (.bipush (-4), 2) := by decide +kernel
theorem dX3_readOneReader_66 : decode cX3_readOneReader 66 = .ok (.if_icmp .ne 12, 3) := by decide +kernel
theorem dX3_readOneReader_69 : decode cX3_readOneReader 69 = .ok (.aload_n 0, 1) := by decide +kernel
theorem dX3_readOneReader_70 : decode cX3_readOneReader 70 = .ok (.getfield 27, 3) := by decide +kernel
theorem dX3_readOneReader_73 : decode cX3_readOneReader 73 = .ok (.iload_n 3, 1) := by decide +kernel
theorem dX3_readOneReader_74 : decode cX3_readOneReader 74 = .ok (.iload_n 2, 1) := by decide +kernel
theorem dX3_readOneReader_75 : decode cX3_readOneReader 75 = .ok (.invokevirtual 83, 3) := by decide +kernel
theorem dX3_readOneReader_78 : decode cX3_readOneReader 78 = .ok (.iinc 2 1, 3) := by decide +kernel
theorem dX3_readOneReader_81 : decode cX3_readOneReader 81 = .ok (.goto (-59), 3) := by decide +kernel
theorem dX3_readOneReader_84 : decode cX3_readOneReader 84 = .ok (.return_, 1) := by decide +kernel
theorem dX3_readWithoutFirst_0 : decode cX3_readWithoutFirst 0 = .ok (.aload_n 0, 1) := by decide +kernel
theorem dX3_readWithoutFirst_1 : decode cX3_readWithoutFirst 1 = .ok (.getfield 12, 3) := by decide +kernel
theorem dX3_readWithoutFirst_4 : decode cX3_readWithoutFirst 4 = .ok (.aload_n 0, 1) := by decide +kernel
theorem dX3_readWithoutFirst_5 : decode cX3_readWithoutFirst 5 = .ok (.getfield 51, 3) := by decide +kernel
theorem dX3_readWithoutFirst_8 : decode cX3_readWithoutFirst 8 = .ok (.invokevirtual 64, 3) := by decide +kernel
theorem dX3_readWithoutFirst_11 : decode cX3_readWithoutFirst 11 = .ok (.iconst 1, 1) := by decide +kernel
theorem dX3_readWithoutFirst_12 : decode cX3_readWithoutFirst 12 = .ok (.istore_n 2, 1) := by decide +kernel
theorem dX3_readWithoutFirst_13 : decode cX3_readWithoutFirst 13 = .ok (.iload_n 2, 1) := by decide +kernel
theorem dX3_readWithoutFirst_14 : decode cX3_readWithoutFirst 14 = .ok (.aload_n 1, 1) := by decide +kernel
theorem dX3_readWithoutFirst_15 : decode cX3_readWithoutFirst 15 = .ok (.getfield 70, 3) := by decide +kernel
theorem dX3_readWithoutFirst_18 : decode cX3_readWithoutFirst 18 = .ok (.if_icmp .ge 26, 3) := by decide +kernel
theorem dX3_readWithoutFirst_21 : decode cX3_readWithoutFirst 21 = .ok (.aload_n 0, 1) := by decide +kernel
theorem dX3_readWithoutFirst_22 : decode cX3_readWithoutFirst 22 = .ok (.getfield 12, 3) := by decide +kernel
theorem dX3_readWithoutFirst_25 : decode cX3_readWithoutFirst 25 = .ok (.aload_n 1, 1) := by decide +kernel
theorem dX3_readWithoutFirst_26 : decode cX3_readWithoutFirst 26 = .ok (.getfield 73, 3) := by decide +kernel
theorem dX3_readWithoutFirst_29 : decode cX3_readWithoutFirst 29 = .ok (.aload_n 1, 1) := by decide +kernel
theorem dX3_readWithoutFirst_30 : decode cX3_readWithoutFirst 30 = .ok (.getfield 76, 3) := by decide +kernel
theorem dX3_readWithoutFirst_33 : decode cX3_readWithoutFirst 33 = .ok (.iload_n 2, 1) := by decide +kernel
theorem dX3_readWithoutFirst_34 : decode cX3_readWithoutFirst 34 = .ok (.invokevirtual 79, 3) := by decide +kernel
theorem dX3_readWithoutFirst_37 : decode cX3_readWithoutFirst 37 = .ok (.pop, 1) := by decide +kernel
theorem dX3_readWithoutFirst_38 : decode cX3_readWithoutFirst 38 = .ok (.iinc 2 1, 3) := by decide +kernel
theorem dX3_readWithoutFirst_41 : decode cX3_readWithoutFirst 41 = .ok (.goto (-28), 3) := by decide +kernel
theorem dX3_readWithoutFirst_44 : decode cX3_readWithoutFirst 44 = .ok (.iconst 0, 1) := by decide +kernel
theorem dX3_readWithoutFirst_45 : decode cX3_readWithoutFirst 45 = .ok (.istore_n 2, 1) := by decide +kernel
theorem dX3_readWithoutFirst_46 : decode cX3_readWithoutFirst 46 = .ok (.iload_n 2, 1) := by decide +kernel
theorem dX3_readWithoutFirst_47 : decode cX3_readWithoutFirst 47 = .ok (.aload_n 0, 1) := by decide +kernel
theorem dX3_readWithoutFirst_48 : decode cX3_readWithoutFirst 48 = .ok (.getfield 51, 3) := by decide +kernel
theorem dX3_readWithoutFirst_51 : decode cX3_readWithoutFirst 51 = .ok (.if_icmp .ge 25, 3) := by decide +kernel
theorem dX3_readWithoutFirst_54 : decode cX3_readWithoutFirst 54 = .ok (.aload_n 0, 1) := by decide +kernel
theorem dX3_readWithoutFirst_55 : decode cX3_readWithoutFirst 55 = .ok (.getfield 30, 3) := by decide +kernel
theorem dX3_readWithoutFirst_58 : decode cX3_readWithoutFirst 58 = .ok (.iload_n 2, 1) := by decide +kernel
theorem dX3_readWithoutFirst_59 : decode cX3_readWithoutFirst 59 = .ok (.aload_n 0, 1) := by decide +kernel
theorem dX3_readWithoutFirst_60 : decode cX3_readWithoutFirst 60 = .ok (.getfield 12, 3) := by decide +kernel
theorem dX3_readWithoutFirst_63 : decode cX3_readWithoutFirst 63 = .ok (.iload_n 2, 1) := by decide +kernel
theorem dX3_readWithoutFirst_64 : decode cX3_readWithoutFirst 64 = .ok (.invokevirtual 91, 3) := by decide +kernel
theorem dX3_readWithoutFirst_67 : decode cX3_readWithoutFirst 67 = .ok (.invokevirtual 83, 3) := by decide +kernel
theorem dX3_readWithoutFirst_70 : decode cX3_readWithoutFirst 70 = .ok (.iinc 2 1, 3) := by decide +kernel
theorem dX3_readWithoutFirst_73 : decode cX3_readWithoutFirst 73 = .ok (.goto (-27), 3) := by decide +kernel
theorem dX3_readWithoutFirst_76 : decode cX3_readWithoutFirst 76 = .ok (.return_, 1) := by decide +kernel
theorem dX3_layRings_0 : decode cX3_layRings 0 = .ok (.aload_n 0, 1) := by decide +kernel
theorem dX3_layRings_1 : decode cX3_layRings 1 = .ok (.getfield 39, 3) := by decide +kernel
theorem dX3_layRings_4 : decode cX3_layRings 4 = .ok (.iconst 0, 1) := by decide +kernel
theorem dX3_layRings_5 : decode cX3_layRings 5 = .ok (.invokevirtual 67, 3) := by decide +kernel
theorem dX3_layRings_8 : decode cX3_layRings 8 = .ok (.iconst 0, 1) := by decide +kernel
theorem dX3_layRings_9 : decode cX3_layRings 9 = .ok (.istore_n 1, 1) := by decide +kernel
theorem dX3_layRings_10 : decode cX3_layRings 10 = .ok (.iconst 0, 1) := by decide +kernel
theorem dX3_layRings_11 : decode cX3_layRings 11 = .ok (.istore_n 2, 1) := by decide +kernel
theorem dX3_layRings_12 : decode cX3_layRings 12 = .ok (.iload_n 2, 1) := by decide +kernel
theorem dX3_layRings_13 : decode cX3_layRings 13 = .ok (.aload_n 0, 1) := by decide +kernel
theorem dX3_layRings_14 : decode cX3_layRings 14 = .ok (.getfield 51, 3) := by decide +kernel
theorem dX3_layRings_17 : decode cX3_layRings 17 = .ok (.if_icmp .ge 29, 3) := by decide +kernel
theorem dX3_layRings_20 : decode cX3_layRings 20 = .ok (.aload_n 0, 1) := by decide +kernel
theorem dX3_layRings_21 : decode cX3_layRings 21 = .ok (.getfield 39, 3) := by decide +kernel
theorem dX3_layRings_24 : decode cX3_layRings 24 = .ok (.iload_n 2, 1) := by decide +kernel
theorem dX3_layRings_25 : decode cX3_layRings 25 = .ok (.invokevirtual 87, 3) := by decide +kernel
theorem dX3_layRings_28 : decode cX3_layRings 28 = .ok (.ifCond .ne 12, 3) := by decide +kernel
theorem dX3_layRings_31 : decode cX3_layRings 31 = .ok (.iload_n 1, 1) := by decide +kernel
theorem dX3_layRings_32 : decode cX3_layRings 32 = .ok (.aload_n 0, 1) := by decide +kernel
theorem dX3_layRings_33 : decode cX3_layRings 33 = .ok (.iload_n 2, 1) := by decide +kernel
theorem dX3_layRings_34 : decode cX3_layRings 34 = .ok (.iload_n 1, 1) := by decide +kernel
theorem dX3_layRings_35 : decode cX3_layRings 35 = .ok (.invokevirtual 94, 3) := by decide +kernel
theorem dX3_layRings_38 : decode cX3_layRings 38 = .ok (.iadd, 1) := by decide +kernel
theorem dX3_layRings_39 : decode cX3_layRings 39 = .ok (.istore_n 1, 1) := by decide +kernel
theorem dX3_layRings_40 : decode cX3_layRings 40 = .ok (.iinc 2 1, 3) := by decide +kernel
theorem dX3_layRings_43 : decode cX3_layRings 43 = .ok (.goto (-31), 3) := by decide +kernel
theorem dX3_layRings_46 : decode cX3_layRings 46 = .ok (.return_, 1) := by decide +kernel
theorem dX3_layRing_0 : decode cX3_layRing 0 = .ok (.iconst 0, 1) := by decide +kernel
theorem dX3_layRing_1 : decode cX3_layRing 1 = .ok (.istore_n 3, 1) := by decide +kernel
theorem dX3_layRing_2 : decode cX3_layRing 2 = .ok (.iload_n 1, 1) := by decide +kernel
theorem dX3_layRing_3 : decode cX3_layRing 3 = .ok (.istore 4, 2) := by decide +kernel
theorem dX3_layRing_5 : decode cX3_layRing 5 = .ok (.aload_n 0, 1) := by decide +kernel
theorem dX3_layRing_6 : decode cX3_layRing 6 = .ok (.getfield 33, 3) := by decide +kernel
theorem dX3_layRing_9 : decode cX3_layRing 9 = .ok (.iload_n 2, 1) := by decide +kernel
theorem dX3_layRing_10 : decode cX3_layRing 10 = .ok (.iload_n 3, 1) := by decide +kernel
theorem dX3_layRing_11 : decode cX3_layRing 11 = .ok (.iadd, 1) := by decide +kernel
theorem dX3_layRing_12 : decode cX3_layRing 12 = .ok (.iload 4, 2) := by decide +kernel
theorem dX3_layRing_14 : decode cX3_layRing 14 = .ok (.invokevirtual 83, 3) := by decide +kernel
theorem dX3_layRing_17 : decode cX3_layRing 17 = .ok (.aload_n 0, 1) := by decide +kernel
theorem dX3_layRing_18 : decode cX3_layRing 18 = .ok (.getfield 36, 3) := by decide +kernel
theorem dX3_layRing_21 : decode cX3_layRing 21 = .ok (.iload 4, 2) := by decide +kernel
theorem dX3_layRing_23 : decode cX3_layRing 23 = .ok (.iload_n 2, 1) := by decide +kernel
theorem dX3_layRing_24 : decode cX3_layRing 24 = .ok (.invokevirtual 83, 3) := by decide +kernel
theorem dX3_layRing_27 : decode cX3_layRing 27 = .ok (.aload_n 0, 1) := by decide +kernel
theorem dX3_layRing_28 : decode cX3_layRing 28 = .ok (.getfield 42, 3) := by decide +kernel
theorem dX3_layRing_31 : decode cX3_layRing 31 = .ok (.iload 4, 2) := by decide +kernel
theorem dX3_layRing_33 : decode cX3_layRing 33 = .ok (.iload_n 3, 1) := by decide +kernel
theorem dX3_layRing_34 : decode cX3_layRing 34 = .ok (.invokevirtual 83, 3) := by decide +kernel
theorem dX3_layRing_37 : decode cX3_layRing 37 = .ok (.iinc 3 1, 3) := by decide +kernel
theorem dX3_layRing_40 : decode cX3_layRing 40 = .ok (.aload_n 0, 1) := by decide +kernel
theorem dX3_layRing_41 : decode cX3_layRing 41 = .ok (.getfield 12, 3) := by decide +kernel
theorem dX3_layRing_44 : decode cX3_layRing 44 = .ok (.iload 4, 2) := by decide +kernel
theorem dX3_layRing_46 : decode cX3_layRing 46 = .ok (.invokevirtual 91, 3) := by decide +kernel
theorem dX3_layRing_49 : decode cX3_layRing 49 = .ok (.istore 4, 2) := by decide +kernel
theorem dX3_layRing_51 : decode cX3_layRing 51 = .ok (.iload 4, 2) := by decide +kernel
theorem dX3_layRing_53 : decode cX3_layRing 53 = .ok (.iload_n 1, 1) := by decide +kernel
theorem dX3_layRing_54 : decode cX3_layRing 54 = .ok (.if_icmp .eq 11, 3) := by decide +kernel
theorem dX3_layRing_57 : decode cX3_layRing 57 = .ok (.iload_n 3, 1) := by decide +kernel
theorem dX3_layRing_58 : decode cX3_layRing 58 = .ok (.aload_n 0, 1) := by decide +kernel
theorem dX3_layRing_59 : decode cX3_layRing 59 = .ok (.getfield 51, 3) := by decide +kernel
theorem dX3_layRing_62 : decode cX3_layRing 62 = .ok (.if_icmp .lt (-57), 3) := by decide +kernel
theorem dX3_layRing_65 : decode cX3_layRing 65 = .ok (.iconst 0, 1) := by decide +kernel
theorem dX3_layRing_66 : decode cX3_layRing 66 = .ok (.istore 5, 2) := by decide +kernel
theorem dX3_layRing_68 : decode cX3_layRing 68 = .ok (.iload 5, 2) := by decide +kernel
theorem dX3_layRing_70 : decode cX3_layRing 70 = .ok (.iload_n 3, 1) := by decide +kernel
theorem dX3_layRing_71 : decode cX3_layRing 71 = .ok (.if_icmp .ge 28, 3) := by decide +kernel
theorem dX3_layRing_74 : decode cX3_layRing 74 = .ok (.aload_n 0, 1) := by decide +kernel
theorem dX3_layRing_75 : decode cX3_layRing 75 = .ok (.getfield 39, 3) := by decide +kernel
theorem dX3_layRing_78 : decode cX3_layRing 78 = .ok (.aload_n 0, 1) := by decide +kernel
theorem dX3_layRing_79 : decode cX3_layRing 79 = .ok (.getfield 33, 3) := by decide +kernel
theorem dX3_layRing_82 : decode cX3_layRing 82 = .ok (.iload_n 2, 1) := by decide +kernel
theorem dX3_layRing_83 : decode cX3_layRing 83 = .ok (.iload 5, 2) := by decide +kernel
theorem dX3_layRing_85 : decode cX3_layRing 85 = .ok (.iadd, 1) := by decide +kernel
theorem dX3_layRing_86 : decode cX3_layRing 86 = .ok (.invokevirtual 87, 3) := by decide +kernel
theorem dX3_layRing_89 : decode cX3_layRing 89 = .ok (.iload_n 3, 1) := by decide +kernel
theorem dX3_layRing_90 : decode cX3_layRing 90 = .ok (.invokevirtual 83, 3) := by decide +kernel
theorem dX3_layRing_93 : decode cX3_layRing 93 = .ok (.iinc 5 1, 3) := by decide +kernel
theorem dX3_layRing_96 : decode cX3_layRing 96 = .ok (.goto (-28), 3) := by decide +kernel
theorem dX3_layRing_99 : decode cX3_layRing 99 = .ok (.iload_n 3, 1) := by decide +kernel
theorem dX3_layRing_100 : decode cX3_layRing 100 = .ok (.ireturn, 1) := by decide +kernel
theorem dX3_placeInRing_0 : decode cX3_placeInRing 0 = .ok (.aload_n 0, 1) := by decide +kernel
theorem dX3_placeInRing_1 : decode cX3_placeInRing 1 = .ok (.getfield 39, 3) := by decide +kernel
theorem dX3_placeInRing_4 : decode cX3_placeInRing 4 = .ok (.iload_n 1, 1) := by decide +kernel
theorem dX3_placeInRing_5 : decode cX3_placeInRing 5 = .ok (.invokevirtual 87, 3) := by decide +kernel
theorem dX3_placeInRing_8 : decode cX3_placeInRing 8 = .ok (.istore 4, 2) := by decide +kernel
theorem dX3_placeInRing_10 : decode cX3_placeInRing 10 = .ok (.iload 4, 2) := by decide +kernel
theorem dX3_placeInRing_12 : decode cX3_placeInRing 12 = .ok (.ifCond .gt 5, 3) := by decide +kernel
theorem dX3_placeInRing_15 : decode cX3_placeInRing 15 = .ok (.iload_n 1, 1) := by decide +kernel
theorem dX3_placeInRing_16 : decode cX3_placeInRing 16 = .ok (.ireturn, 1) := by decide +kernel
theorem dX3_placeInRing_17 : decode cX3_placeInRing 17 = .ok (.aload_n 0, 1) := by decide +kernel
theorem dX3_placeInRing_18 : decode cX3_placeInRing 18 = .ok (.getfield 42, 3) := by decide +kernel
theorem dX3_placeInRing_21 : decode cX3_placeInRing 21 = .ok (.iload_n 1, 1) := by decide +kernel
theorem dX3_placeInRing_22 : decode cX3_placeInRing 22 = .ok (.invokevirtual 87, 3) := by decide +kernel
theorem dX3_placeInRing_25 : decode cX3_placeInRing 25 = .ok (.i2l, 1) := by decide +kernel
theorem dX3_placeInRing_26 : decode cX3_placeInRing 26 = .ok (.lload_n 2, 1) := by decide +kernel
theorem dX3_placeInRing_27 : decode cX3_placeInRing 27 = .ok (.ladd, 1) := by decide +kernel
theorem dX3_placeInRing_28 : decode cX3_placeInRing 28 = .ok (.iload 4, 2) := by decide +kernel
theorem dX3_placeInRing_30 : decode cX3_placeInRing 30 = .ok (.i2l, 1) := by decide +kernel
theorem dX3_placeInRing_31 : decode cX3_placeInRing 31 = .ok (.invokestatic 98, 3) := by decide +kernel
theorem dX3_placeInRing_34 : decode cX3_placeInRing 34 = .ok (.l2i, 1) := by decide +kernel
theorem dX3_placeInRing_35 : decode cX3_placeInRing 35 = .ok (.istore 5, 2) := by decide +kernel
theorem dX3_placeInRing_37 : decode cX3_placeInRing 37 = .ok (.aload_n 0, 1) := by decide +kernel
theorem dX3_placeInRing_38 : decode cX3_placeInRing 38 = .ok (.getfield 33, 3) := by decide +kernel
theorem dX3_placeInRing_41 : decode cX3_placeInRing 41 = .ok (.aload_n 0, 1) := by decide +kernel
theorem dX3_placeInRing_42 : decode cX3_placeInRing 42 = .ok (.getfield 36, 3) := by decide +kernel
theorem dX3_placeInRing_45 : decode cX3_placeInRing 45 = .ok (.iload_n 1, 1) := by decide +kernel
theorem dX3_placeInRing_46 : decode cX3_placeInRing 46 = .ok (.invokevirtual 87, 3) := by decide +kernel
theorem dX3_placeInRing_49 : decode cX3_placeInRing 49 = .ok (.iload 5, 2) := by decide +kernel
theorem dX3_placeInRing_51 : decode cX3_placeInRing 51 = .ok (.iadd, 1) := by decide +kernel
theorem dX3_placeInRing_52 : decode cX3_placeInRing 52 = .ok (.invokevirtual 87, 3) := by decide +kernel
theorem dX3_placeInRing_55 : decode cX3_placeInRing 55 = .ok (.ireturn, 1) := by decide +kernel
theorem dX3_placeRead_0 : decode cX3_placeRead 0 = .ok (.aload_n 0, 1) := by decide +kernel
theorem dX3_placeRead_1 : decode cX3_placeRead 1 = .ok (.aload_n 0, 1) := by decide +kernel
theorem dX3_placeRead_2 : decode cX3_placeRead 2 = .ok (.getfield 23, 3) := by decide +kernel
theorem dX3_placeRead_5 : decode cX3_placeRead 5 = .ok (.iload_n 3, 1) := by decide +kernel
theorem dX3_placeRead_6 : decode cX3_placeRead 6 = .ok (.invokevirtual 87, 3) := by decide +kernel
theorem dX3_placeRead_9 : decode cX3_placeRead 9 = .ok (.lload_n 1, 1) := by decide +kernel
theorem dX3_placeRead_10 : decode cX3_placeRead 10 = .ok (.invokevirtual 104, 3) := by decide +kernel
theorem dX3_placeRead_13 : decode cX3_placeRead 13 = .ok (.ireturn, 1) := by decide +kernel
theorem dX3_placeFoundBy_0 : decode cX3_placeFoundBy 0 = .ok (.aload_n 0, 1) := by decide +kernel
theorem dX3_placeFoundBy_1 : decode cX3_placeFoundBy 1 = .ok (.iload_n 3, 1) := by decide +kernel
theorem dX3_placeFoundBy_2 : decode cX3_placeFoundBy 2 = .ok (.lload_n 1, 1) := by decide +kernel
theorem dX3_placeFoundBy_3 : decode cX3_placeFoundBy 3 = .ok (.lneg, 1) := by decide +kernel
theorem dX3_placeFoundBy_4 : decode cX3_placeFoundBy 4 = .ok (.invokevirtual 104, 3) := by decide +kernel
theorem dX3_placeFoundBy_7 : decode cX3_placeFoundBy 7 = .ok (.ireturn, 1) := by decide +kernel
theorem dX3_placeAfterFirstReading_0 : decode cX3_placeAfterFirstReading 0 = .ok (.aload_n 0, 1) := by decide +kernel
theorem dX3_placeAfterFirstReading_1 : decode cX3_placeAfterFirstReading 1 = .ok (.getfield 30, 3) := by decide +kernel
theorem dX3_placeAfterFirstReading_4 : decode cX3_placeAfterFirstReading 4 = .ok (.aload_n 0, 1) := by decide +kernel
theorem dX3_placeAfterFirstReading_5 : decode cX3_placeAfterFirstReading 5 = .ok (.aload_n 0, 1) := by decide +kernel
theorem dX3_placeAfterFirstReading_6 : decode cX3_placeAfterFirstReading 6 = .ok (.getfield 23, 3) := by decide +kernel
theorem dX3_placeAfterFirstReading_9 : decode cX3_placeAfterFirstReading 9 = .ok (.iload_n 3, 1) := by decide +kernel
theorem dX3_placeAfterFirstReading_10 : decode cX3_placeAfterFirstReading 10 = .ok (.invokevirtual 87, 3) := by decide +kernel
theorem dX3_placeAfterFirstReading_13 : decode cX3_placeAfterFirstReading 13 = .ok (.lload_n 1, 1) := by decide +kernel
theorem dX3_placeAfterFirstReading_14 : decode cX3_placeAfterFirstReading 14 = .ok (.lconst 1, 1) := by decide +kernel
theorem dX3_placeAfterFirstReading_15 : decode cX3_placeAfterFirstReading 15 = .ok (.lsub, 1) := by decide +kernel
theorem dX3_placeAfterFirstReading_16 : decode cX3_placeAfterFirstReading 16 = .ok (.invokevirtual 104, 3) := by decide +kernel
theorem dX3_placeAfterFirstReading_19 : decode cX3_placeAfterFirstReading 19 = .ok (.invokevirtual 87, 3) := by decide +kernel
theorem dX3_placeAfterFirstReading_22 : decode cX3_placeAfterFirstReading 22 = .ok (.ireturn, 1) := by decide +kernel
theorem dX3_turnAt_0 : decode cX3_turnAt 0 = .ok (.aload_n 0, 1) := by decide +kernel
theorem dX3_turnAt_1 : decode cX3_turnAt 1 = .ok (.getfield 27, 3) := by decide +kernel
theorem dX3_turnAt_4 : decode cX3_turnAt 4 = .ok (.iload_n 1, 1) := by decide +kernel
theorem dX3_turnAt_5 : decode cX3_turnAt 5 = .ok (.invokevirtual 87, 3) := by decide +kernel
theorem dX3_turnAt_8 : decode cX3_turnAt 8 = .ok (.ireturn, 1) := by decide +kernel
theorem dX3_isNeverRead_0 : decode cX3_isNeverRead 0 = .ok (.aload_n 0, 1) := by decide +kernel
theorem dX3_isNeverRead_1 : decode cX3_isNeverRead 1 = .ok (.iload_n 1, 1) := by decide +kernel
theorem dX3_isNeverRead_2 : decode cX3_isNeverRead 2 = .ok (.invokevirtual 108, 3) := by decide +kernel
theorem dX3_isNeverRead_5 : decode cX3_isNeverRead 5 = .ok (.ifCond .ne 7, 3) := by decide +kernel
theorem dX3_isNeverRead_8 : decode cX3_isNeverRead 8 = .ok (.iconst 1, 1) := by decide +kernel
theorem dX3_isNeverRead_9 : decode cX3_isNeverRead 9 = .ok (.goto 4, 3) := by decide +kernel
theorem dX3_isNeverRead_12 : decode cX3_isNeverRead 12 = .ok (.iconst 0, 1) := by decide +kernel
theorem dX3_isNeverRead_13 : decode cX3_isNeverRead 13 = .ok (.ireturn, 1) := by decide +kernel
theorem dX3_isAlwaysRead_0 : decode cX3_isAlwaysRead 0 = .ok (.aload_n 0, 1) := by decide +kernel
theorem dX3_isAlwaysRead_1 : decode cX3_isAlwaysRead 1 = .ok (.iload_n 1, 1) := by decide +kernel
theorem dX3_isAlwaysRead_2 : decode cX3_isAlwaysRead 2 = .ok (.invokevirtual 108, 3) := by decide +kernel
theorem dX3_isAlwaysRead_5 : decode cX3_isAlwaysRead 5 = .ok (.aload_n 0, 1) := by decide +kernel
theorem dX3_isAlwaysRead_6 : decode cX3_isAlwaysRead 6 = .ok (.getfield 39, 3) := by decide +kernel
theorem dX3_isAlwaysRead_9 : decode cX3_isAlwaysRead 9 = .ok (.iload_n 1, 1) := by decide +kernel
theorem dX3_isAlwaysRead_10 : decode cX3_isAlwaysRead 10 = .ok (.invokevirtual 87, 3) := by decide +kernel
theorem dX3_isAlwaysRead_13 : decode cX3_isAlwaysRead 13 = .ok (.if_icmp .ne 7, 3) := by decide +kernel
theorem dX3_isAlwaysRead_16 : decode cX3_isAlwaysRead 16 = .ok (.iconst 1, 1) := by decide +kernel
theorem dX3_isAlwaysRead_17 : decode cX3_isAlwaysRead 17 = .ok (.goto 4, 3) := by decide +kernel
theorem dX3_isAlwaysRead_20 : decode cX3_isAlwaysRead 20 = .ok (.iconst 0, 1) := by decide +kernel
theorem dX3_isAlwaysRead_21 : decode cX3_isAlwaysRead 21 = .ok (.ireturn, 1) := by decide +kernel
theorem dX3_readInRing_0 : decode cX3_readInRing 0 = .ok (.iconst 0, 1) := by decide +kernel
theorem dX3_readInRing_1 : decode cX3_readInRing 1 = .ok (.istore_n 2, 1) := by decide +kernel
theorem dX3_readInRing_2 : decode cX3_readInRing 2 = .ok (.iconst 0, 1) := by decide +kernel
theorem dX3_readInRing_3 : decode cX3_readInRing 3 = .ok (.istore_n 3, 1) := by decide +kernel
theorem dX3_readInRing_4 : decode cX3_readInRing 4 = .ok (.iload_n 3, 1) := by decide +kernel
theorem dX3_readInRing_5 : decode cX3_readInRing 5 = .ok (.aload_n 0, 1) := by decide +kernel
theorem dX3_readInRing_6 : decode cX3_readInRing 6 = .ok (.getfield 39, 3) := by decide +kernel
theorem dX3_readInRing_9 : decode cX3_readInRing 9 = .ok (.iload_n 1, 1) := by decide +kernel
theorem dX3_readInRing_10 : decode cX3_readInRing 10 = .ok (.invokevirtual 87, 3) := by decide +kernel
theorem dX3_readInRing_13 : decode cX3_readInRing 13 = .ok (.if_icmp .ge 38, 3) := by decide +kernel
theorem dX3_readInRing_16 : decode cX3_readInRing 16 = .ok (.aload_n 0, 1) := by decide +kernel
theorem dX3_readInRing_17 : decode cX3_readInRing 17 = .ok (.aload_n 0, 1) := by decide +kernel
theorem dX3_readInRing_18 : decode cX3_readInRing 18 = .ok (.getfield 33, 3) := by decide +kernel
theorem dX3_readInRing_21 : decode cX3_readInRing 21 = .ok (.aload_n 0, 1) := by decide +kernel
theorem dX3_readInRing_22 : decode cX3_readInRing 22 = .ok (.getfield 36, 3) := by decide +kernel
theorem dX3_readInRing_25 : decode cX3_readInRing 25 = .ok (.iload_n 1, 1) := by decide +kernel
theorem dX3_readInRing_26 : decode cX3_readInRing 26 = .ok (.invokevirtual 87, 3) := by decide +kernel
theorem dX3_readInRing_29 : decode cX3_readInRing 29 = .ok (.iload_n 3, 1) := by decide +kernel
theorem dX3_readInRing_30 : decode cX3_readInRing 30 = .ok (.iadd, 1) := by decide +kernel
theorem dX3_readInRing_31 : decode cX3_readInRing 31 = .ok (.invokevirtual 87, 3) := by decide +kernel
theorem dX3_readInRing_34 : decode cX3_readInRing 34 = .ok (.invokevirtual 111, 3) := by decide +kernel
theorem dX3_readInRing_37 : decode cX3_readInRing 37 = .ok (.bipush (-4), 2) := by decide +kernel
theorem dX3_readInRing_39 : decode cX3_readInRing 39 = .ok (.if_icmp .eq 6, 3) := by decide +kernel
theorem dX3_readInRing_42 : decode cX3_readInRing 42 = .ok (.iinc 2 1, 3) := by decide +kernel
theorem dX3_readInRing_45 : decode cX3_readInRing 45 = .ok (.iinc 3 1, 3) := by decide +kernel
theorem dX3_readInRing_48 : decode cX3_readInRing 48 = .ok (.goto (-44), 3) := by decide +kernel
theorem dX3_readInRing_51 : decode cX3_readInRing 51 = .ok (.iload_n 2, 1) := by decide +kernel
theorem dX3_readInRing_52 : decode cX3_readInRing 52 = .ok (.ireturn, 1) := by decide +kernel
theorem dX3_roundsTogether_0 : decode cX3_roundsTogether 0 = .ok (.iconst 1, 1) := by decide +kernel
theorem dX3_roundsTogether_1 : decode cX3_roundsTogether 1 = .ok (.istore_n 1, 1) := by decide +kernel
theorem dX3_roundsTogether_2 : decode cX3_roundsTogether 2 = .ok (.iconst 0, 1) := by decide +kernel
theorem dX3_roundsTogether_3 : decode cX3_roundsTogether 3 = .ok (.istore_n 2, 1) := by decide +kernel
theorem dX3_roundsTogether_4 : decode cX3_roundsTogether 4 = .ok (.iload_n 2, 1) := by decide +kernel
theorem dX3_roundsTogether_5 : decode cX3_roundsTogether 5 = .ok (.aload_n 0, 1) := by decide +kernel
theorem dX3_roundsTogether_6 : decode cX3_roundsTogether 6 = .ok (.getfield 51, 3) := by decide +kernel
theorem dX3_roundsTogether_9 : decode cX3_roundsTogether 9 = .ok (.if_icmp .ge 22, 3) := by decide +kernel
theorem dX3_roundsTogether_12 : decode cX3_roundsTogether 12 = .ok (.iload_n 1, 1) := by decide +kernel
theorem dX3_roundsTogether_13 : decode cX3_roundsTogether 13 = .ok (.aload_n 0, 1) := by decide +kernel
theorem dX3_roundsTogether_14 : decode cX3_roundsTogether 14 = .ok (.getfield 39, 3) := by decide +kernel
theorem dX3_roundsTogether_17 : decode cX3_roundsTogether 17 = .ok (.iload_n 2, 1) := by decide +kernel
theorem dX3_roundsTogether_18 : decode cX3_roundsTogether 18 = .ok (.invokevirtual 87, 3) := by decide +kernel
theorem dX3_roundsTogether_21 : decode cX3_roundsTogether 21 = .ok (.invokestatic 114, 3) := by decide +kernel
theorem dX3_roundsTogether_24 : decode cX3_roundsTogether 24 = .ok (.istore_n 1, 1) := by decide +kernel
theorem dX3_roundsTogether_25 : decode cX3_roundsTogether 25 = .ok (.iinc 2 1, 3) := by decide +kernel
theorem dX3_roundsTogether_28 : decode cX3_roundsTogether 28 = .ok (.goto (-24), 3) := by decide +kernel
theorem dX3_roundsTogether_31 : decode cX3_roundsTogether 31 = .ok (.iload_n 1, 1) := by decide +kernel
theorem dX3_roundsTogether_32 : decode cX3_roundsTogether 32 = .ok (.ireturn, 1) := by decide +kernel
theorem dX3_commonMultiple_0 : decode cX3_commonMultiple 0 = .ok (.iconst 1, 1) := by decide +kernel
theorem dX3_commonMultiple_1 : decode cX3_commonMultiple 1 = .ok (.istore_n 2, 1) := by decide +kernel
theorem dX3_commonMultiple_2 : decode cX3_commonMultiple 2 = .ok (.iload_n 2, 1) := by decide +kernel
theorem dX3_commonMultiple_3 : decode cX3_commonMultiple 3 = .ok (.iload_n 1, 1) := by decide +kernel
theorem dX3_commonMultiple_4 : decode cX3_commonMultiple 4 = .ok (.if_icmp .ge 21, 3) := by decide +kernel
theorem dX3_commonMultiple_7 : decode cX3_commonMultiple 7 = .ok (.iload_n 0, 1) := by decide +kernel
theorem dX3_commonMultiple_8 : decode cX3_commonMultiple 8 = .ok (.iload_n 2, 1) := by decide +kernel
theorem dX3_commonMultiple_9 : decode cX3_commonMultiple 9 = .ok (.imul, 1) := by decide +kernel
theorem dX3_commonMultiple_10 : decode cX3_commonMultiple 10 = .ok (.iload_n 1, 1) := by decide +kernel
theorem dX3_commonMultiple_11 : decode cX3_commonMultiple 11 = .ok (.irem, 1) := by decide +kernel
theorem dX3_commonMultiple_12 : decode cX3_commonMultiple 12 = .ok (.ifCond .ne 7, 3) := by decide +kernel
theorem dX3_commonMultiple_15 : decode cX3_commonMultiple 15 = .ok (.iload_n 0, 1) := by decide +kernel
theorem dX3_commonMultiple_16 : decode cX3_commonMultiple 16 = .ok (.iload_n 2, 1) := by decide +kernel
theorem dX3_commonMultiple_17 : decode cX3_commonMultiple 17 = .ok (.imul, 1) := by decide +kernel
theorem dX3_commonMultiple_18 : decode cX3_commonMultiple 18 = .ok (.ireturn, 1) := by decide +kernel
theorem dX3_commonMultiple_19 : decode cX3_commonMultiple 19 = .ok (.iinc 2 1, 3) := by decide +kernel
theorem dX3_commonMultiple_22 : decode cX3_commonMultiple 22 = .ok (.goto (-20), 3) := by decide +kernel
theorem dX3_commonMultiple_25 : decode cX3_commonMultiple 25 = .ok (.iload_n 0, 1) := by decide +kernel
theorem dX3_commonMultiple_26 : decode cX3_commonMultiple 26 = .ok (.iload_n 1, 1) := by decide +kernel
theorem dX3_commonMultiple_27 : decode cX3_commonMultiple 27 = .ok (.imul, 1) := by decide +kernel
theorem dX3_commonMultiple_28 : decode cX3_commonMultiple 28 = .ok (.ireturn, 1) := by decide +kernel
theorem dX4_init_0 : decode cX4_init 0 = .ok (.aload_n 0, 1) := by decide +kernel
theorem dX4_init_1 : decode cX4_init 1 = .ok (.invokespecial 3, 3) := by decide +kernel
theorem dX4_init_4 : decode cX4_init 4 = .ok (.aload_n 0, 1) := by decide +kernel
theorem dX4_init_5 : decode cX4_init 5 = .ok (.iload_n 1, 1) := by decide +kernel
theorem dX4_init_6 : decode cX4_init 6 = .ok (.iconst 0, 1) := by decide +kernel
theorem dX4_init_7 : decode cX4_init 7 = .ok (.invokestatic 9, 3) := by decide +kernel
theorem dX4_init_10 : decode cX4_init 10 = .ok (.newarray .int, 2) := by decide +kernel
theorem dX4_init_12 : decode cX4_init 12 = .ok (.putfield 15, 3) := by decide +kernel
theorem dX4_init_15 : decode cX4_init 15 = .ok (.return_, 1) := by decide +kernel
theorem dX4_at_0 : decode cX4_at 0 = .ok (.iload_n 1, 1) := by decide +kernel
theorem dX4_at_1 : decode cX4_at 1 = .ok (.ifCond .lt 21, 3) := by decide +kernel
theorem dX4_at_4 : decode cX4_at 4 = .ok (.iload_n 1, 1) := by decide +kernel
theorem dX4_at_5 : decode cX4_at 5 = .ok (.aload_n 0, 1) := by decide +kernel
theorem dX4_at_6 : decode cX4_at 6 = .ok (.getfield 15, 3) := by decide +kernel
theorem dX4_at_9 : decode cX4_at 9 = .ok (.arraylength, 1) := by decide +kernel
theorem dX4_at_10 : decode cX4_at 10 = .ok (.if_icmp .ge 12, 3) := by decide +kernel
theorem dX4_at_13 : decode cX4_at 13 = .ok (.aload_n 0, 1) := by decide +kernel
theorem dX4_at_14 : decode cX4_at 14 = .ok (.getfield 15, 3) := by decide +kernel
theorem dX4_at_17 : decode cX4_at 17 = .ok (.iload_n 1, 1) := by decide +kernel
theorem dX4_at_18 : decode cX4_at 18 = .ok (.iaload, 1) := by decide +kernel
theorem dX4_at_19 : decode cX4_at 19 = .ok (.goto 5, 3) := by decide +kernel
theorem dX4_at_22 : decode cX4_at 22 = .ok (.bipush (-4), 2) := by decide +kernel
theorem dX4_at_24 : decode cX4_at 24 = .ok (.ireturn, 1) := by decide +kernel
theorem dX4_put_0 : decode cX4_put 0 = .ok (.iload_n 1, 1) := by decide +kernel
theorem dX4_put_1 : decode cX4_put 1 = .ok (.ifCond .lt 19, 3) := by decide +kernel
theorem dX4_put_4 : decode cX4_put 4 = .ok (.iload_n 1, 1) := by decide +kernel
theorem dX4_put_5 : decode cX4_put 5 = .ok (.aload_n 0, 1) := by decide +kernel
theorem dX4_put_6 : decode cX4_put 6 = .ok (.getfield 15, 3) := by decide +kernel
theorem dX4_put_9 : decode cX4_put 9 = .ok (.arraylength, 1) := by decide +kernel
theorem dX4_put_10 : decode cX4_put 10 = .ok (.if_icmp .ge 10, 3) := by decide +kernel
theorem dX4_put_13 : decode cX4_put 13 = .ok (.aload_n 0, 1) := by decide +kernel
theorem dX4_put_14 : decode cX4_put 14 = .ok (.getfield 15, 3) := by decide +kernel
theorem dX4_put_17 : decode cX4_put 17 = .ok (.iload_n 1, 1) := by decide +kernel
theorem dX4_put_18 : decode cX4_put 18 = .ok (.iload_n 2, 1) := by decide +kernel
theorem dX4_put_19 : decode cX4_put 19 = .ok (.iastore, 1) := by decide +kernel
theorem dX4_put_20 : decode cX4_put 20 = .ok (.return_, 1) := by decide +kernel
theorem dX4_copyFrom_0 : decode cX4_copyFrom 0 = .ok (.iconst 0, 1) := by decide +kernel
theorem dX4_copyFrom_1 : decode cX4_copyFrom 1 = .ok (.istore_n 2, 1) := by decide +kernel
theorem dX4_copyFrom_2 : decode cX4_copyFrom 2 = .ok (.iload_n 2, 1) := by decide +kernel
theorem dX4_copyFrom_3 : decode cX4_copyFrom 3 = .ok (.aload_n 0, 1) := by decide +kernel
theorem dX4_copyFrom_4 : decode cX4_copyFrom 4 = .ok (.getfield 15, 3) := by decide +kernel
theorem dX4_copyFrom_7 : decode cX4_copyFrom 7 = .ok (.arraylength, 1) := by decide +kernel
theorem dX4_copyFrom_8 : decode cX4_copyFrom 8 = .ok (.if_icmp .ge 20, 3) := by decide +kernel
theorem dX4_copyFrom_11 : decode cX4_copyFrom 11 = .ok (.aload_n 0, 1) := by decide +kernel
theorem dX4_copyFrom_12 : decode cX4_copyFrom 12 = .ok (.getfield 15, 3) := by decide +kernel
theorem dX4_copyFrom_15 : decode cX4_copyFrom 15 = .ok (.iload_n 2, 1) := by decide +kernel
theorem dX4_copyFrom_16 : decode cX4_copyFrom 16 = .ok (.aload_n 1, 1) := by decide +kernel
theorem dX4_copyFrom_17 : decode cX4_copyFrom 17 = .ok (.iload_n 2, 1) := by decide +kernel
theorem dX4_copyFrom_18 : decode cX4_copyFrom 18 = .ok (.invokevirtual 21, 3) := by decide +kernel
theorem dX4_copyFrom_21 : decode cX4_copyFrom 21 = .ok (.iastore, 1) := by decide +kernel
theorem dX4_copyFrom_22 : decode cX4_copyFrom 22 = .ok (.iinc 2 1, 3) := by decide +kernel
theorem dX4_copyFrom_25 : decode cX4_copyFrom 25 = .ok (.goto (-23), 3) := by decide +kernel
theorem dX4_copyFrom_28 : decode cX4_copyFrom 28 = .ok (.return_, 1) := by decide +kernel
theorem dX4_fill_0 : decode cX4_fill 0 = .ok (.iconst 0, 1) := by decide +kernel
theorem dX4_fill_1 : decode cX4_fill 1 = .ok (.istore_n 2, 1) := by decide +kernel
theorem dX4_fill_2 : decode cX4_fill 2 = .ok (.iload_n 2, 1) := by decide +kernel
theorem dX4_fill_3 : decode cX4_fill 3 = .ok (.aload_n 0, 1) := by decide +kernel
theorem dX4_fill_4 : decode cX4_fill 4 = .ok (.getfield 15, 3) := by decide +kernel
theorem dX4_fill_7 : decode cX4_fill 7 = .ok (.arraylength, 1) := by decide +kernel
theorem dX4_fill_8 : decode cX4_fill 8 = .ok (.if_icmp .ge 16, 3) := by decide +kernel
theorem dX4_fill_11 : decode cX4_fill 11 = .ok (.aload_n 0, 1) := by decide +kernel
theorem dX4_fill_12 : decode cX4_fill 12 = .ok (.getfield 15, 3) := by decide +kernel
theorem dX4_fill_15 : decode cX4_fill 15 = .ok (.iload_n 2, 1) := by decide +kernel
theorem dX4_fill_16 : decode cX4_fill 16 = .ok (.iload_n 1, 1) := by decide +kernel
theorem dX4_fill_17 : decode cX4_fill 17 = .ok (.iastore, 1) := by decide +kernel
theorem dX4_fill_18 : decode cX4_fill 18 = .ok (.iinc 2 1, 3) := by decide +kernel
theorem dX4_fill_21 : decode cX4_fill 21 = .ok (.goto (-19), 3) := by decide +kernel
theorem dX4_fill_24 : decode cX4_fill 24 = .ok (.return_, 1) := by decide +kernel
theorem dX5_init_0 : decode cX5_init 0 = .ok (.aload_n 0, 1) := by decide +kernel
theorem dX5_init_1 : decode cX5_init 1 = .ok (.invokespecial 3, 3) := by decide +kernel
theorem dX5_init_4 : decode cX5_init 4 = .ok (.aload_n 0, 1) := by decide +kernel
theorem dX5_init_5 : decode cX5_init 5 = .ok (.new 9, 3) := by decide +kernel
theorem dX5_init_8 : decode cX5_init 8 = .ok (.dup, 1) := by decide +kernel
theorem dX5_init_9 : decode cX5_init 9 = .ok (.sipush 300, 3) := by decide +kernel
theorem dX5_init_12 : decode cX5_init 12 = .ok (.invokespecial 11, 3) := by decide +kernel
theorem dX5_init_15 : decode cX5_init 15 = .ok (.putfield 14, 3) := by decide +kernel
theorem dX5_init_18 : decode cX5_init 18 = .ok (.return_, 1) := by decide +kernel
theorem dX5_size_0 : decode cX5_size 0 = .ok (.aload_n 0, 1) := by decide +kernel
theorem dX5_size_1 : decode cX5_size 1 = .ok (.getfield 20, 3) := by decide +kernel
theorem dX5_size_4 : decode cX5_size 4 = .ok (.ireturn, 1) := by decide +kernel
theorem dX5_byteAt_0 : decode cX5_byteAt 0 = .ok (.iload_n 1, 1) := by decide +kernel
theorem dX5_byteAt_1 : decode cX5_byteAt 1 = .ok (.aload_n 0, 1) := by decide +kernel
theorem dX5_byteAt_2 : decode cX5_byteAt 2 = .ok (.getfield 20, 3) := by decide +kernel
theorem dX5_byteAt_5 : decode cX5_byteAt 5 = .ok (.if_icmp .ge 14, 3) := by decide +kernel
theorem dX5_byteAt_8 : decode cX5_byteAt 8 = .ok (.aload_n 0, 1) := by decide +kernel
theorem dX5_byteAt_9 : decode cX5_byteAt 9 = .ok (.getfield 14, 3) := by decide +kernel
theorem dX5_byteAt_12 : decode cX5_byteAt 12 = .ok (.iload_n 1, 1) := by decide +kernel
theorem dX5_byteAt_13 : decode cX5_byteAt 13 = .ok (.invokevirtual 24, 3) := by decide +kernel
theorem dX5_byteAt_16 : decode cX5_byteAt 16 = .ok (.goto 5, 3) := by decide +kernel
theorem dX5_byteAt_19 : decode cX5_byteAt 19 = .ok (.bipush (-4), 2) := by decide +kernel
theorem dX5_byteAt_21 : decode cX5_byteAt 21 = .ok (.ireturn, 1) := by decide +kernel
theorem dX5_append_0 : decode cX5_append 0 = .ok (.iload_n 1, 1) := by decide +kernel
theorem dX5_append_1 : decode cX5_append 1 = .ok (.iconst 1, 1) := by decide +kernel
theorem dX5_append_2 : decode cX5_append 2 = .ok (.isub, 1) := by decide +kernel
theorem dX5_append_3 : decode cX5_append 3 = .ok (.istore 4, 2) := by decide +kernel
theorem dX5_append_5 : decode cX5_append 5 = .ok (.iload 4, 2) := by decide +kernel
theorem dX5_append_7 : decode cX5_append 7 = .ok (.ifCond .lt 42, 3) := by decide +kernel
theorem dX5_append_10 : decode cX5_append 10 = .ok (.aload_n 0, 1) := by decide +kernel
theorem dX5_append_11 : decode cX5_append 11 = .ok (.getfield 14, 3) := by decide +kernel
theorem dX5_append_14 : decode cX5_append 14 = .ok (.aload_n 0, 1) := by decide +kernel
theorem dX5_append_15 : decode cX5_append 15 = .ok (.getfield 20, 3) := by decide +kernel
theorem dX5_append_18 : decode cX5_append 18 = .ok (.lload_n 2, 1) := by decide +kernel
theorem dX5_append_19 : decode cX5_append 19 = .ok (.bipush 8, 2) := by decide +kernel
theorem dX5_append_21 : decode cX5_append 21 = .ok (.iload 4, 2) := by decide +kernel
theorem dX5_append_23 : decode cX5_append 23 = .ok (.imul, 1) := by decide +kernel
theorem dX5_append_24 : decode cX5_append 24 = .ok (.lushr, 1) := by decide +kernel
theorem dX5_append_25 : decode cX5_append 25 = .ok (.ldc2_w 28, 3) := by decide +kernel
theorem dX5_append_28 : decode cX5_append 28 = .ok (.land, 1) := by decide +kernel
theorem dX5_append_29 : decode cX5_append 29 = .ok (.l2i, 1) := by decide +kernel
theorem dX5_append_30 : decode cX5_append 30 = .ok (.invokevirtual 30, 3) := by decide +kernel
theorem dX5_append_33 : decode cX5_append 33 = .ok (.aload_n 0, 1) := by decide +kernel
theorem dX5_append_34 : decode cX5_append 34 = .ok (.dup, 1) := by decide +kernel
theorem dX5_append_35 : decode cX5_append 35 = .ok (.getfield 20, 3) := by decide +kernel
theorem dX5_append_38 : decode cX5_append 38 = .ok (.iconst 1, 1) := by decide +kernel
theorem dX5_append_39 : decode cX5_append 39 = .ok (.iadd, 1) := by decide +kernel
theorem dX5_append_40 : decode cX5_append 40 = .ok (.putfield 20, 3) := by decide +kernel
theorem dX5_append_43 : decode cX5_append 43 = .ok (.iinc 4 (-1), 3) := by decide +kernel
theorem dX5_append_46 : decode cX5_append 46 = .ok (.goto (-41), 3) := by decide +kernel
theorem dX5_append_49 : decode cX5_append 49 = .ok (.return_, 1) := by decide +kernel
theorem dX5_clear_0 : decode cX5_clear 0 = .ok (.aload_n 0, 1) := by decide +kernel
theorem dX5_clear_1 : decode cX5_clear 1 = .ok (.getfield 20, 3) := by decide +kernel
theorem dX5_clear_4 : decode cX5_clear 4 = .ok (.istore_n 1, 1) := by decide +kernel
theorem dX5_clear_5 : decode cX5_clear 5 = .ok (.aload_n 0, 1) := by decide +kernel
theorem dX5_clear_6 : decode cX5_clear 6 = .ok (.iconst 0, 1) := by decide +kernel
theorem dX5_clear_7 : decode cX5_clear 7 = .ok (.putfield 20, 3) := by decide +kernel
theorem dX5_clear_10 : decode cX5_clear 10 = .ok (.iload_n 1, 1) := by decide +kernel
theorem dX5_clear_11 : decode cX5_clear 11 = .ok (.ireturn, 1) := by decide +kernel
theorem dX5_figuresFrom_0 : decode cX5_figuresFrom 0 = .ok (.aload_n 0, 1) := by decide +kernel
theorem dX5_figuresFrom_1 : decode cX5_figuresFrom 1 = .ok (.iload_n 1, 1) := by decide +kernel
theorem dX5_figuresFrom_2 : decode cX5_figuresFrom 2 = .ok (.invokevirtual 34, 3) := by decide +kernel
theorem dX5_figuresFrom_5 : decode cX5_figuresFrom 5 = .ok (.invokestatic 37, 3) := by decide +kernel
theorem dX5_figuresFrom_8 : decode cX5_figuresFrom 8 = .ok (.ifCond .ne 5, 3) := by decide +kernel
theorem dX5_figuresFrom_11 : decode cX5_figuresFrom 11 = .ok (.iconst 0, 1) := by decide +kernel
theorem dX5_figuresFrom_12 : decode cX5_figuresFrom 12 = .ok (.ireturn, 1) := by decide +kernel
theorem dX5_figuresFrom_13 : decode cX5_figuresFrom 13 = .ok (.aload_n 0, 1) := by decide +kernel
theorem dX5_figuresFrom_14 : decode cX5_figuresFrom 14 = .ok (.iload_n 1, 1) := by decide +kernel
theorem dX5_figuresFrom_15 : decode cX5_figuresFrom 15 = .ok (.iconst 1, 1) := by decide +kernel
theorem dX5_figuresFrom_16 : decode cX5_figuresFrom 16 = .ok (.iadd, 1) := by decide +kernel
theorem dX5_figuresFrom_17 : decode cX5_figuresFrom 17 = .ok (.invokevirtual 34, 3) := by decide +kernel
theorem dX5_figuresFrom_20 : decode cX5_figuresFrom 20 = .ok (.invokestatic 37, 3) := by decide +kernel
theorem dX5_figuresFrom_23 : decode cX5_figuresFrom 23 = .ok (.ifCond .eq 7, 3) := by decide +kernel
theorem dX5_figuresFrom_26 : decode cX5_figuresFrom 26 = .ok (.iconst 2, 1) := by decide +kernel
theorem dX5_figuresFrom_27 : decode cX5_figuresFrom 27 = .ok (.goto 4, 3) := by decide +kernel
theorem dX5_figuresFrom_30 : decode cX5_figuresFrom 30 = .ok (.iconst 1, 1) := by decide +kernel
theorem dX5_figuresFrom_31 : decode cX5_figuresFrom 31 = .ok (.ireturn, 1) := by decide +kernel
theorem dX5_numberAt_0 : decode cX5_numberAt 0 = .ok (.iconst 0, 1) := by decide +kernel
theorem dX5_numberAt_1 : decode cX5_numberAt 1 = .ok (.istore_n 3, 1) := by decide +kernel
theorem dX5_numberAt_2 : decode cX5_numberAt 2 = .ok (.iconst 0, 1) := by decide +kernel
theorem dX5_numberAt_3 : decode cX5_numberAt 3 = .ok (.istore 4, 2) := by decide +kernel
theorem dX5_numberAt_5 : decode cX5_numberAt 5 = .ok (.iload 4, 2) := by decide +kernel
theorem dX5_numberAt_7 : decode cX5_numberAt 7 = .ok (.iload_n 2, 1) := by decide +kernel
theorem dX5_numberAt_8 : decode cX5_numberAt 8 = .ok (.if_icmp .ge 26, 3) := by decide +kernel
theorem dX5_numberAt_11 : decode cX5_numberAt 11 = .ok (.bipush 10, 2) := by decide +kernel
theorem dX5_numberAt_13 : decode cX5_numberAt 13 = .ok (.iload_n 3, 1) := by decide +kernel
theorem dX5_numberAt_14 : decode cX5_numberAt 14 = .ok (.imul, 1) := by decide +kernel
theorem dX5_numberAt_15 : decode cX5_numberAt 15 = .ok (.aload_n 0, 1) := by decide +kernel
theorem dX5_numberAt_16 : decode cX5_numberAt 16 = .ok (.iload_n 1, 1) := by decide +kernel
theorem dX5_numberAt_17 : decode cX5_numberAt 17 = .ok (.iload 4, 2) := by decide +kernel
theorem dX5_numberAt_19 : decode cX5_numberAt 19 = .ok (.iadd, 1) := by decide +kernel
theorem dX5_numberAt_20 : decode cX5_numberAt 20 = .ok (.invokevirtual 34, 3) := by decide +kernel
theorem dX5_numberAt_23 : decode cX5_numberAt 23 = .ok (.iadd, 1) := by decide +kernel
theorem dX5_numberAt_24 : decode cX5_numberAt 24 = .ok (.bipush 48, 2) := by decide +kernel
theorem dX5_numberAt_26 : decode cX5_numberAt 26 = .ok (.isub, 1) := by decide +kernel
theorem dX5_numberAt_27 : decode cX5_numberAt 27 = .ok (.istore_n 3, 1) := by decide +kernel
theorem dX5_numberAt_28 : decode cX5_numberAt 28 = .ok (.iinc 4 1, 3) := by decide +kernel
theorem dX5_numberAt_31 : decode cX5_numberAt 31 = .ok (.goto (-26), 3) := by decide +kernel
theorem dX5_numberAt_34 : decode cX5_numberAt 34 = .ok (.iload_n 3, 1) := by decide +kernel
theorem dX5_numberAt_35 : decode cX5_numberAt 35 = .ok (.ireturn, 1) := by decide +kernel
theorem dX5_isFigure_0 : decode cX5_isFigure 0 = .ok (.iload_n 0, 1) := by decide +kernel
theorem dX5_isFigure_1 : decode cX5_isFigure 1 = .ok (.bipush 48, 2) := by decide +kernel
theorem dX5_isFigure_3 : decode cX5_isFigure 3 = .ok (.bipush 57, 2) := by decide +kernel
theorem dX5_isFigure_5 : decode cX5_isFigure 5 = .ok (.invokestatic 41, 3) := by decide +kernel
theorem dX5_isFigure_8 : decode cX5_isFigure 8 = .ok (.ireturn, 1) := by decide +kernel
theorem dX6_init_0 : decode cX6_init 0 = .ok (.aload_n 0, 1) := by decide +kernel
theorem dX6_init_1 : decode cX6_init 1 = .ok (.invokespecial 3, 3) := by decide +kernel
theorem dX6_init_4 : decode cX6_init 4 = .ok (.aload_n 0, 1) := by decide +kernel
theorem dX6_init_5 : decode cX6_init 5 = .ok (.new 9, 3) := by decide +kernel
theorem dX6_init_8 : decode cX6_init 8 = .ok (.dup, 1) := by decide +kernel
theorem dX6_init_9 : decode cX6_init 9 = .ok (.bipush 20, 2) := by decide +kernel
theorem dX6_init_11 : decode cX6_init 11 = .ok (.invokespecial 11, 3) := by decide +kernel
theorem dX6_init_14 : decode cX6_init 14 = .ok (.putfield 14, 3) := by decide +kernel
theorem dX6_init_17 : decode cX6_init 17 = .ok (.aload_n 0, 1) := by decide +kernel
theorem dX6_init_18 : decode cX6_init 18 = .ok (.new 9, 3) := by decide +kernel
theorem dX6_init_21 : decode cX6_init 21 = .ok (.dup, 1) := by decide +kernel
theorem dX6_init_22 : decode cX6_init 22 = .ok (.bipush 20, 2) := by decide +kernel
theorem dX6_init_24 : decode cX6_init 24 = .ok (.invokespecial 11, 3) := by decide +kernel
theorem dX6_init_27 : decode cX6_init 27 = .ok (.putfield 20, 3) := by decide +kernel
theorem dX6_init_30 : decode cX6_init 30 = .ok (.aload_n 0, 1) := by decide +kernel
theorem dX6_init_31 : decode cX6_init 31 = .ok (.new 9, 3) := by decide +kernel
theorem dX6_init_34 : decode cX6_init 34 = .ok (.dup, 1) := by decide +kernel
theorem dX6_init_35 : decode cX6_init 35 = .ok (.bipush 20, 2) := by decide +kernel
theorem dX6_init_37 : decode cX6_init 37 = .ok (.invokespecial 11, 3) := by decide +kernel
theorem dX6_init_40 : decode cX6_init 40 = .ok (.putfield 23, 3) := by decide +kernel
theorem dX6_init_43 : decode cX6_init 43 = .ok (.aload_n 0, 1) := by decide +kernel
theorem dX6_init_44 : decode cX6_init 44 = .ok (.new 9, 3) := by decide +kernel
theorem dX6_init_47 : decode cX6_init 47 = .ok (.dup, 1) := by decide +kernel
theorem dX6_init_48 : decode cX6_init 48 = .ok (.iconst 2, 1) := by decide +kernel
theorem dX6_init_49 : decode cX6_init 49 = .ok (.invokespecial 11, 3) := by decide +kernel
theorem dX6_init_52 : decode cX6_init 52 = .ok (.putfield 26, 3) := by decide +kernel
theorem dX6_init_55 : decode cX6_init 55 = .ok (.aload_n 0, 1) := by decide +kernel
theorem dX6_init_56 : decode cX6_init 56 = .ok (.invokevirtual 29, 3) := by decide +kernel
theorem dX6_init_59 : decode cX6_init 59 = .ok (.return_, 1) := by decide +kernel
theorem dX6_tellNothing_0 : decode cX6_tellNothing 0 = .ok (.aload_n 0, 1) := by decide +kernel
theorem dX6_tellNothing_1 : decode cX6_tellNothing 1 = .ok (.bipush 10, 2) := by decide +kernel
theorem dX6_tellNothing_3 : decode cX6_tellNothing 3 = .ok (.putfield 32, 3) := by decide +kernel
theorem dX6_tellNothing_6 : decode cX6_tellNothing 6 = .ok (.aload_n 0, 1) := by decide +kernel
theorem dX6_tellNothing_7 : decode cX6_tellNothing 7 = .ok (.bipush 9, 2) := by decide +kernel
theorem dX6_tellNothing_9 : decode cX6_tellNothing 9 = .ok (.putfield 36, 3) := by decide +kernel
theorem dX6_tellNothing_12 : decode cX6_tellNothing 12 = .ok (.aload_n 0, 1) := by decide +kernel
theorem dX6_tellNothing_13 : decode cX6_tellNothing 13 = .ok (.iconst 0, 1) := by decide +kernel
theorem dX6_tellNothing_14 : decode cX6_tellNothing 14 = .ok (.putfield 39, 3) := by decide +kernel
theorem dX6_tellNothing_17 : decode cX6_tellNothing 17 = .ok (.aload_n 0, 1) := by decide +kernel
theorem dX6_tellNothing_18 : decode cX6_tellNothing 18 = .ok (.iconst 2, 1) := by decide +kernel
theorem dX6_tellNothing_19 : decode cX6_tellNothing 19 = .ok (.putfield 42, 3) := by decide +kernel
theorem dX6_tellNothing_22 : decode cX6_tellNothing 22 = .ok (.aload_n 0, 1) := by decide +kernel
theorem dX6_tellNothing_23 : decode cX6_tellNothing 23 = .ok (.iconst 0, 1) := by decide +kernel
theorem dX6_tellNothing_24 : decode cX6_tellNothing 24 = .ok (.putfield 45, 3) := by decide +kernel
theorem dX6_tellNothing_27 : decode cX6_tellNothing 27 = .ok (.aload_n 0, 1) := by decide +kernel
theorem dX6_tellNothing_28 : decode cX6_tellNothing 28 = .ok (.iconst 0, 1) := by decide +kernel
theorem dX6_tellNothing_29 : decode cX6_tellNothing 29 = .ok (.putfield 48, 3) := by decide +kernel
theorem dX6_tellNothing_32 : decode cX6_tellNothing 32 = .ok (.return_, 1) := by decide +kernel
theorem dX6_scan_0 : decode cX6_scan 0 = .ok (.aload_n 0, 1) := by decide +kernel
theorem dX6_scan_1 : decode cX6_scan 1 = .ok (.invokevirtual 29, 3) := by decide +kernel
theorem dX6_scan_4 : decode cX6_scan 4 = .ok (.iconst 0, 1) := by decide +kernel
theorem dX6_scan_5 : decode cX6_scan 5 = .ok (.istore_n 2, 1) := by decide +kernel
theorem dX6_scan_6 : decode cX6_scan 6 = .ok (.iload_n 2, 1) := by decide +kernel
theorem dX6_scan_7 : decode cX6_scan 7 = .ok (.aload_n 1, 1) := by decide +kernel
theorem dX6_scan_8 : decode cX6_scan 8 = .ok (.invokevirtual 51, 3) := by decide +kernel
theorem dX6_scan_11 : decode cX6_scan 11 = .ok (.if_icmp .ge 22, 3) := by decide +kernel
theorem dX6_scan_14 : decode cX6_scan 14 = .ok (.aload_n 0, 1) := by decide +kernel
theorem dX6_scan_15 : decode cX6_scan 15 = .ok (.aload_n 1, 1) := by decide +kernel
theorem dX6_scan_16 : decode cX6_scan 16 = .ok (.iload_n 2, 1) := by decide +kernel
theorem dX6_scan_17 : decode cX6_scan 17 = .ok (.invokevirtual 57, 3) := by decide +kernel
theorem dX6_scan_20 : decode cX6_scan 20 = .ok (.istore_n 3, 1) := by decide +kernel
theorem dX6_scan_21 : decode cX6_scan 21 = .ok (.iload_n 3, 1) := by decide +kernel
theorem dX6_scan_22 : decode cX6_scan 22 = .ok (.iload_n 2, 1) := by decide +kernel
theorem dX6_scan_23 : decode cX6_scan 23 = .ok (.if_icmp .gt 5, 3) := by decide +kernel
theorem dX6_scan_26 : decode cX6_scan 26 = .ok (.iload_n 2, 1) := by decide +kernel
theorem dX6_scan_27 : decode cX6_scan 27 = .ok (.ireturn, 1) := by decide +kernel
theorem dX6_scan_28 : decode cX6_scan 28 = .ok (.iload_n 3, 1) := by decide +kernel
theorem dX6_scan_29 : decode cX6_scan 29 = .ok (.istore_n 2, 1) := by decide +kernel
theorem dX6_scan_30 : decode cX6_scan 30 = .ok (.goto (-24), 3) := by decide +kernel
theorem dX6_scan_33 : decode cX6_scan 33 = .ok (.bipush (-4), 2) := by decide +kernel
theorem dX6_scan_35 : decode cX6_scan 35 = .ok (.ireturn, 1) := by decide +kernel
theorem dX6_scanItem_0 : decode cX6_scanItem 0 = .ok (.aload_n 1, 1) := by decide +kernel
theorem dX6_scanItem_1 : decode cX6_scanItem 1 = .ok (.iload_n 2, 1) := by decide +kernel
theorem dX6_scanItem_2 : decode cX6_scanItem 2 = .ok (.invokevirtual 61, 3) := by decide +kernel
theorem dX6_scanItem_5 : decode cX6_scanItem 5 = .ok (.istore_n 3, 1) := by decide +kernel
theorem dX6_scanItem_6 : decode cX6_scanItem 6 = .ok (.iload_n 3, 1) := by decide +kernel
theorem dX6_scanItem_7 : decode cX6_scanItem 7 = .ok (.invokestatic 65, 3) := by decide +kernel
theorem dX6_scanItem_10 : decode cX6_scanItem 10 = .ok (.istore 4, 2) := by decide +kernel
theorem dX6_scanItem_12 : decode cX6_scanItem 12 = .ok (.iload_n 2, 1) := by decide +kernel
theorem dX6_scanItem_13 : decode cX6_scanItem 13 = .ok (.iconst 1, 1) := by decide +kernel
theorem dX6_scanItem_14 : decode cX6_scanItem 14 = .ok (.iadd, 1) := by decide +kernel
theorem dX6_scanItem_15 : decode cX6_scanItem 15 = .ok (.istore 5, 2) := by decide +kernel
theorem dX6_scanItem_17 : decode cX6_scanItem 17 = .ok (.iconst 0, 1) := by decide +kernel
theorem dX6_scanItem_18 : decode cX6_scanItem 18 = .ok (.istore 6, 2) := by decide +kernel
theorem dX6_scanItem_20 : decode cX6_scanItem 20 = .ok (.iload 6, 2) := by decide +kernel
theorem dX6_scanItem_22 : decode cX6_scanItem 22 = .ok (.iload 4, 2) := by decide +kernel
theorem dX6_scanItem_24 : decode cX6_scanItem 24 = .ok (.if_icmp .ge 80, 3) := by decide +kernel
theorem dX6_scanItem_27 : decode cX6_scanItem 27 = .ok (.aload_n 1, 1) := by decide +kernel
theorem dX6_scanItem_28 : decode cX6_scanItem 28 = .ok (.iload 5, 2) := by decide +kernel
theorem dX6_scanItem_30 : decode cX6_scanItem 30 = .ok (.invokevirtual 68, 3) := by decide +kernel
theorem dX6_scanItem_33 : decode cX6_scanItem 33 = .ok (.istore 7, 2) := by decide +kernel
theorem dX6_scanItem_35 : decode cX6_scanItem 35 = .ok (.iload 7, 2) := by decide +kernel
theorem dX6_scanItem_37 : decode cX6_scanItem 37 = .ok (.ifCond .ne 6, 3) := by decide +kernel
theorem dX6_scanItem_40 : decode cX6_scanItem 40 = .ok (.bipush (-4), 2) := by decide +kernel
theorem dX6_scanItem_42 : decode cX6_scanItem 42 = .ok (.ireturn, 1) := by decide +kernel
theorem dX6_scanItem_43 : decode cX6_scanItem 43 = .ok (.aload_n 0, 1) := by decide +kernel
theorem dX6_scanItem_44 : decode cX6_scanItem 44 = .ok (.getfield 26, 3) := by decide +kernel
theorem dX6_scanItem_47 : decode cX6_scanItem 47 = .ok (.iload 6, 2) := by decide +kernel
theorem dX6_scanItem_49 : decode cX6_scanItem 49 = .ok (.aload_n 1, 1) := by decide +kernel
theorem dX6_scanItem_50 : decode cX6_scanItem 50 = .ok (.iload 5, 2) := by decide +kernel
theorem dX6_scanItem_52 : decode cX6_scanItem 52 = .ok (.iload 7, 2) := by decide +kernel
theorem dX6_scanItem_54 : decode cX6_scanItem 54 = .ok (.invokevirtual 71, 3) := by decide +kernel
theorem dX6_scanItem_57 : decode cX6_scanItem 57 = .ok (.invokevirtual 75, 3) := by decide +kernel
theorem dX6_scanItem_60 : decode cX6_scanItem 60 = .ok (.iload 5, 2) := by decide +kernel
theorem dX6_scanItem_62 : decode cX6_scanItem 62 = .ok (.iload 7, 2) := by decide +kernel
theorem dX6_scanItem_64 : decode cX6_scanItem 64 = .ok (.iadd, 1) := by decide +kernel
theorem dX6_scanItem_65 : decode cX6_scanItem 65 = .ok (.istore 5, 2) := by decide +kernel
theorem dX6_scanItem_67 : decode cX6_scanItem 67 = .ok (.aload_n 1, 1) := by decide +kernel
theorem dX6_scanItem_68 : decode cX6_scanItem 68 = .ok (.iload 5, 2) := by decide +kernel
theorem dX6_scanItem_70 : decode cX6_scanItem 70 = .ok (.invokevirtual 61, 3) := by decide +kernel
theorem dX6_scanItem_73 : decode cX6_scanItem 73 = .ok (.iload 6, 2) := by decide +kernel
theorem dX6_scanItem_75 : decode cX6_scanItem 75 = .ok (.iconst 1, 1) := by decide +kernel
theorem dX6_scanItem_76 : decode cX6_scanItem 76 = .ok (.iadd, 1) := by decide +kernel
theorem dX6_scanItem_77 : decode cX6_scanItem 77 = .ok (.iload 4, 2) := by decide +kernel
theorem dX6_scanItem_79 : decode cX6_scanItem 79 = .ok (.if_icmp .ge 8, 3) := by decide +kernel
theorem dX6_scanItem_82 : decode cX6_scanItem 82 = .ok (.bipush 44, 2) := by decide +kernel
theorem dX6_scanItem_84 : decode cX6_scanItem 84 = .ok (.goto 5, 3) := by decide +kernel
theorem dX6_scanItem_87 : decode cX6_scanItem 87 = .ok (.bipush 59, 2) := by decide +kernel
theorem dX6_scanItem_89 : decode cX6_scanItem 89 = .ok (.if_icmp .eq 6, 3) := by decide +kernel
theorem dX6_scanItem_92 : decode cX6_scanItem 92 = .ok (.bipush (-4), 2) := by decide +kernel
theorem dX6_scanItem_94 : decode cX6_scanItem 94 = .ok (.ireturn, 1) := by decide +kernel
theorem dX6_scanItem_95 : decode cX6_scanItem 95 = .ok (.iinc 5 1, 3) := by decide +kernel
theorem dX6_scanItem_98 : decode cX6_scanItem 98 = .ok (.iinc 6 1, 3) := by decide +kernel
theorem dX6_scanItem_101 : decode cX6_scanItem 101 = .ok (.goto (-81), 3) := by decide +kernel
theorem dX6_scanItem_104 : decode cX6_scanItem 104 = .ok (.aload_n 0, 1) := by decide +kernel
theorem dX6_scanItem_105 : decode cX6_scanItem 105 = .ok (.iload_n 3, 1) := by decide +kernel
theorem dX6_scanItem_106 : decode cX6_scanItem 106 = .ok (.aload_n 0, 1) := by decide +kernel
theorem dX6_scanItem_107 : decode cX6_scanItem 107 = .ok (.getfield 26, 3) := by decide +kernel
theorem dX6_scanItem_110 : decode cX6_scanItem 110 = .ok (.iconst 0, 1) := by decide +kernel
theorem dX6_scanItem_111 : decode cX6_scanItem 111 = .ok (.invokevirtual 79, 3) := by decide +kernel
theorem dX6_scanItem_114 : decode cX6_scanItem 114 = .ok (.aload_n 0, 1) := by decide +kernel
theorem dX6_scanItem_115 : decode cX6_scanItem 115 = .ok (.getfield 26, 3) := by decide +kernel
theorem dX6_scanItem_118 : decode cX6_scanItem 118 = .ok (.iconst 1, 1) := by decide +kernel
theorem dX6_scanItem_119 : decode cX6_scanItem 119 = .ok (.invokevirtual 79, 3) := by decide +kernel
theorem dX6_scanItem_122 : decode cX6_scanItem 122 = .ok (.invokevirtual 82, 3) := by decide +kernel
theorem dX6_scanItem_125 : decode cX6_scanItem 125 = .ok (.ifCond .eq 8, 3) := by decide +kernel
theorem dX6_scanItem_128 : decode cX6_scanItem 128 = .ok (.iload 5, 2) := by decide +kernel
theorem dX6_scanItem_130 : decode cX6_scanItem 130 = .ok (.goto 5, 3) := by decide +kernel
theorem dX6_scanItem_133 : decode cX6_scanItem 133 = .ok (.bipush (-4), 2) := by decide +kernel
theorem dX6_scanItem_135 : decode cX6_scanItem 135 = .ok (.ireturn, 1) := by decide +kernel
theorem dX6_numbersWanted_0 : decode cX6_numbersWanted 0 = .ok (.iload_n 0, 1) := by decide +kernel
theorem dX6_numbersWanted_1 : decode cX6_numbersWanted 1 = .ok (.tableswitch 55 108 116 #[53, 55, 51, 55, 55, 55, 51, 53, 51], 51) := by decide +kernel
theorem dX6_numbersWanted_52 : decode cX6_numbersWanted 52 = .ok (.iconst 1, 1) := by decide +kernel
theorem dX6_numbersWanted_53 : decode cX6_numbersWanted 53 = .ok (.ireturn, 1) := by decide +kernel
theorem dX6_numbersWanted_54 : decode cX6_numbersWanted 54 = .ok (.iconst 2, 1) := by decide +kernel
theorem dX6_numbersWanted_55 : decode cX6_numbersWanted 55 = .ok (.ireturn, 1) := by decide +kernel
theorem dX6_numbersWanted_56 : decode cX6_numbersWanted 56 = .ok (.iconst 0, 1) := by decide +kernel
theorem dX6_numbersWanted_57 : decode cX6_numbersWanted 57 = .ok (.ireturn, 1) := by decide +kernel
theorem dX6_takeIn_0 : decode cX6_takeIn 0 = .ok (.iload_n 1, 1) := by decide +kernel
theorem dX6_takeIn_1 : decode cX6_takeIn 1 = .ok (.tableswitch 83 108 116 #[63, 83, 51, 83, 83, 83, 57, 70, 77], 51) := by decide +kernel
theorem dX6_takeIn_52 : decode cX6_takeIn 52 = .ok (.aload_n 0, 1) := by decide +kernel
theorem dX6_takeIn_53 : decode cX6_takeIn 53 = .ok (.iload_n 2, 1) := by decide +kernel
theorem dX6_takeIn_54 : decode cX6_takeIn 54 = .ok (.invokevirtual 86, 3) := by decide +kernel
theorem dX6_takeIn_57 : decode cX6_takeIn 57 = .ok (.ireturn, 1) := by decide +kernel
theorem dX6_takeIn_58 : decode cX6_takeIn 58 = .ok (.aload_n 0, 1) := by decide +kernel
theorem dX6_takeIn_59 : decode cX6_takeIn 59 = .ok (.iload_n 2, 1) := by decide +kernel
theorem dX6_takeIn_60 : decode cX6_takeIn 60 = .ok (.invokevirtual 90, 3) := by decide +kernel
theorem dX6_takeIn_63 : decode cX6_takeIn 63 = .ok (.ireturn, 1) := by decide +kernel
theorem dX6_takeIn_64 : decode cX6_takeIn 64 = .ok (.aload_n 0, 1) := by decide +kernel
theorem dX6_takeIn_65 : decode cX6_takeIn 65 = .ok (.iload_n 2, 1) := by decide +kernel
theorem dX6_takeIn_66 : decode cX6_takeIn 66 = .ok (.iload_n 3, 1) := by decide +kernel
theorem dX6_takeIn_67 : decode cX6_takeIn 67 = .ok (.invokevirtual 93, 3) := by decide +kernel
theorem dX6_takeIn_70 : decode cX6_takeIn 70 = .ok (.ireturn, 1) := by decide +kernel
theorem dX6_takeIn_71 : decode cX6_takeIn 71 = .ok (.aload_n 0, 1) := by decide +kernel
theorem dX6_takeIn_72 : decode cX6_takeIn 72 = .ok (.iload_n 2, 1) := by decide +kernel
theorem dX6_takeIn_73 : decode cX6_takeIn 73 = .ok (.iload_n 3, 1) := by decide +kernel
theorem dX6_takeIn_74 : decode cX6_takeIn 74 = .ok (.invokevirtual 97, 3) := by decide +kernel
theorem dX6_takeIn_77 : decode cX6_takeIn 77 = .ok (.ireturn, 1) := by decide +kernel
theorem dX6_takeIn_78 : decode cX6_takeIn 78 = .ok (.aload_n 0, 1) := by decide +kernel
theorem dX6_takeIn_79 : decode cX6_takeIn 79 = .ok (.iload_n 2, 1) := by decide +kernel
theorem dX6_takeIn_80 : decode cX6_takeIn 80 = .ok (.invokevirtual 100, 3) := by decide +kernel
theorem dX6_takeIn_83 : decode cX6_takeIn 83 = .ok (.ireturn, 1) := by decide +kernel
theorem dX6_takeIn_84 : decode cX6_takeIn 84 = .ok (.iconst 0, 1) := by decide +kernel
theorem dX6_takeIn_85 : decode cX6_takeIn 85 = .ok (.ireturn, 1) := by decide +kernel
theorem dX6_takeLeafCount_0 : decode cX6_takeLeafCount 0 = .ok (.aload_n 0, 1) := by decide +kernel
theorem dX6_takeLeafCount_1 : decode cX6_takeLeafCount 1 = .ok (.iload_n 1, 1) := by decide +kernel
theorem dX6_takeLeafCount_2 : decode cX6_takeLeafCount 2 = .ok (.putfield 32, 3) := by decide +kernel
theorem dX6_takeLeafCount_5 : decode cX6_takeLeafCount 5 = .ok (.iload_n 1, 1) := by decide +kernel
theorem dX6_takeLeafCount_6 : decode cX6_takeLeafCount 6 = .ok (.iconst 2, 1) := by decide +kernel
theorem dX6_takeLeafCount_7 : decode cX6_takeLeafCount 7 = .ok (.bipush 40, 2) := by decide +kernel
theorem dX6_takeLeafCount_9 : decode cX6_takeLeafCount 9 = .ok (.invokestatic 103, 3) := by decide +kernel
theorem dX6_takeLeafCount_12 : decode cX6_takeLeafCount 12 = .ok (.ireturn, 1) := by decide +kernel
theorem dX6_takePerReader_0 : decode cX6_takePerReader 0 = .ok (.aload_n 0, 1) := by decide +kernel
theorem dX6_takePerReader_1 : decode cX6_takePerReader 1 = .ok (.iload_n 1, 1) := by decide +kernel
theorem dX6_takePerReader_2 : decode cX6_takePerReader 2 = .ok (.putfield 36, 3) := by decide +kernel
theorem dX6_takePerReader_5 : decode cX6_takePerReader 5 = .ok (.iload_n 1, 1) := by decide +kernel
theorem dX6_takePerReader_6 : decode cX6_takePerReader 6 = .ok (.iconst 1, 1) := by decide +kernel
theorem dX6_takePerReader_7 : decode cX6_takePerReader 7 = .ok (.bipush 40, 2) := by decide +kernel
theorem dX6_takePerReader_9 : decode cX6_takePerReader 9 = .ok (.invokestatic 103, 3) := by decide +kernel
theorem dX6_takePerReader_12 : decode cX6_takePerReader 12 = .ok (.ireturn, 1) := by decide +kernel
theorem dX6_takeLaw_0 : decode cX6_takeLaw 0 = .ok (.aload_n 0, 1) := by decide +kernel
theorem dX6_takeLaw_1 : decode cX6_takeLaw 1 = .ok (.iload_n 1, 1) := by decide +kernel
theorem dX6_takeLaw_2 : decode cX6_takeLaw 2 = .ok (.putfield 39, 3) := by decide +kernel
theorem dX6_takeLaw_5 : decode cX6_takeLaw 5 = .ok (.aload_n 0, 1) := by decide +kernel
theorem dX6_takeLaw_6 : decode cX6_takeLaw 6 = .ok (.iload_n 2, 1) := by decide +kernel
theorem dX6_takeLaw_7 : decode cX6_takeLaw 7 = .ok (.putfield 42, 3) := by decide +kernel
theorem dX6_takeLaw_10 : decode cX6_takeLaw 10 = .ok (.iload_n 1, 1) := by decide +kernel
theorem dX6_takeLaw_11 : decode cX6_takeLaw 11 = .ok (.iconst 0, 1) := by decide +kernel
theorem dX6_takeLaw_12 : decode cX6_takeLaw 12 = .ok (.iconst 3, 1) := by decide +kernel
theorem dX6_takeLaw_13 : decode cX6_takeLaw 13 = .ok (.invokestatic 103, 3) := by decide +kernel
theorem dX6_takeLaw_16 : decode cX6_takeLaw 16 = .ok (.ifCond .eq 17, 3) := by decide +kernel
theorem dX6_takeLaw_19 : decode cX6_takeLaw 19 = .ok (.iload_n 2, 1) := by decide +kernel
theorem dX6_takeLaw_20 : decode cX6_takeLaw 20 = .ok (.iconst 0, 1) := by decide +kernel
theorem dX6_takeLaw_21 : decode cX6_takeLaw 21 = .ok (.bipush 39, 2) := by decide +kernel
theorem dX6_takeLaw_23 : decode cX6_takeLaw 23 = .ok (.invokestatic 103, 3) := by decide +kernel
theorem dX6_takeLaw_26 : decode cX6_takeLaw 26 = .ok (.ifCond .eq 7, 3) := by decide +kernel
theorem dX6_takeLaw_29 : decode cX6_takeLaw 29 = .ok (.iconst 1, 1) := by decide +kernel
theorem dX6_takeLaw_30 : decode cX6_takeLaw 30 = .ok (.goto 4, 3) := by decide +kernel
theorem dX6_takeLaw_33 : decode cX6_takeLaw 33 = .ok (.iconst 0, 1) := by decide +kernel
theorem dX6_takeLaw_34 : decode cX6_takeLaw 34 = .ok (.ireturn, 1) := by decide +kernel
theorem dX6_takeSwap_0 : decode cX6_takeSwap 0 = .ok (.aload_n 0, 1) := by decide +kernel
theorem dX6_takeSwap_1 : decode cX6_takeSwap 1 = .ok (.getfield 45, 3) := by decide +kernel
theorem dX6_takeSwap_4 : decode cX6_takeSwap 4 = .ok (.bipush 20, 2) := by decide +kernel
theorem dX6_takeSwap_6 : decode cX6_takeSwap 6 = .ok (.if_icmp .lt 5, 3) := by decide +kernel
theorem dX6_takeSwap_9 : decode cX6_takeSwap 9 = .ok (.iconst 0, 1) := by decide +kernel
theorem dX6_takeSwap_10 : decode cX6_takeSwap 10 = .ok (.ireturn, 1) := by decide +kernel
theorem dX6_takeSwap_11 : decode cX6_takeSwap 11 = .ok (.aload_n 0, 1) := by decide +kernel
theorem dX6_takeSwap_12 : decode cX6_takeSwap 12 = .ok (.getfield 14, 3) := by decide +kernel
theorem dX6_takeSwap_15 : decode cX6_takeSwap 15 = .ok (.aload_n 0, 1) := by decide +kernel
theorem dX6_takeSwap_16 : decode cX6_takeSwap 16 = .ok (.getfield 45, 3) := by decide +kernel
theorem dX6_takeSwap_19 : decode cX6_takeSwap 19 = .ok (.iload_n 1, 1) := by decide +kernel
theorem dX6_takeSwap_20 : decode cX6_takeSwap 20 = .ok (.invokevirtual 75, 3) := by decide +kernel
theorem dX6_takeSwap_23 : decode cX6_takeSwap 23 = .ok (.aload_n 0, 1) := by decide +kernel
theorem dX6_takeSwap_24 : decode cX6_takeSwap 24 = .ok (.getfield 20, 3) := by decide +kernel
theorem dX6_takeSwap_27 : decode cX6_takeSwap 27 = .ok (.aload_n 0, 1) := by decide +kernel
theorem dX6_takeSwap_28 : decode cX6_takeSwap 28 = .ok (.getfield 45, 3) := by decide +kernel
theorem dX6_takeSwap_31 : decode cX6_takeSwap 31 = .ok (.iload_n 2, 1) := by decide +kernel
theorem dX6_takeSwap_32 : decode cX6_takeSwap 32 = .ok (.invokevirtual 75, 3) := by decide +kernel
theorem dX6_takeSwap_35 : decode cX6_takeSwap 35 = .ok (.aload_n 0, 1) := by decide +kernel
theorem dX6_takeSwap_36 : decode cX6_takeSwap 36 = .ok (.dup, 1) := by decide +kernel
theorem dX6_takeSwap_37 : decode cX6_takeSwap 37 = .ok (.getfield 45, 3) := by decide +kernel
theorem dX6_takeSwap_40 : decode cX6_takeSwap 40 = .ok (.iconst 1, 1) := by decide +kernel
theorem dX6_takeSwap_41 : decode cX6_takeSwap 41 = .ok (.iadd, 1) := by decide +kernel
theorem dX6_takeSwap_42 : decode cX6_takeSwap 42 = .ok (.putfield 45, 3) := by decide +kernel
theorem dX6_takeSwap_45 : decode cX6_takeSwap 45 = .ok (.iload_n 1, 1) := by decide +kernel
theorem dX6_takeSwap_46 : decode cX6_takeSwap 46 = .ok (.iconst 0, 1) := by decide +kernel
theorem dX6_takeSwap_47 : decode cX6_takeSwap 47 = .ok (.bipush 39, 2) := by decide +kernel
theorem dX6_takeSwap_49 : decode cX6_takeSwap 49 = .ok (.invokestatic 103, 3) := by decide +kernel
theorem dX6_takeSwap_52 : decode cX6_takeSwap 52 = .ok (.ifCond .eq 17, 3) := by decide +kernel
theorem dX6_takeSwap_55 : decode cX6_takeSwap 55 = .ok (.iload_n 2, 1) := by decide +kernel
theorem dX6_takeSwap_56 : decode cX6_takeSwap 56 = .ok (.iconst 0, 1) := by decide +kernel
theorem dX6_takeSwap_57 : decode cX6_takeSwap 57 = .ok (.bipush 39, 2) := by decide +kernel
theorem dX6_takeSwap_59 : decode cX6_takeSwap 59 = .ok (.invokestatic 103, 3) := by decide +kernel
theorem dX6_takeSwap_62 : decode cX6_takeSwap 62 = .ok (.ifCond .eq 7, 3) := by decide +kernel
theorem dX6_takeSwap_65 : decode cX6_takeSwap 65 = .ok (.iconst 1, 1) := by decide +kernel
theorem dX6_takeSwap_66 : decode cX6_takeSwap 66 = .ok (.goto 4, 3) := by decide +kernel
theorem dX6_takeSwap_69 : decode cX6_takeSwap 69 = .ok (.iconst 0, 1) := by decide +kernel
theorem dX6_takeSwap_70 : decode cX6_takeSwap 70 = .ok (.ireturn, 1) := by decide +kernel
theorem dX6_takeTaleLeaf_0 : decode cX6_takeTaleLeaf 0 = .ok (.aload_n 0, 1) := by decide +kernel
theorem dX6_takeTaleLeaf_1 : decode cX6_takeTaleLeaf 1 = .ok (.getfield 48, 3) := by decide +kernel
theorem dX6_takeTaleLeaf_4 : decode cX6_takeTaleLeaf 4 = .ok (.bipush 20, 2) := by decide +kernel
theorem dX6_takeTaleLeaf_6 : decode cX6_takeTaleLeaf 6 = .ok (.if_icmp .lt 5, 3) := by decide +kernel
theorem dX6_takeTaleLeaf_9 : decode cX6_takeTaleLeaf 9 = .ok (.iconst 0, 1) := by decide +kernel
theorem dX6_takeTaleLeaf_10 : decode cX6_takeTaleLeaf 10 = .ok (.ireturn, 1) := by decide +kernel
theorem dX6_takeTaleLeaf_11 : decode cX6_takeTaleLeaf 11 = .ok (.aload_n 0, 1) := by decide +kernel
theorem dX6_takeTaleLeaf_12 : decode cX6_takeTaleLeaf 12 = .ok (.getfield 23, 3) := by decide +kernel
theorem dX6_takeTaleLeaf_15 : decode cX6_takeTaleLeaf 15 = .ok (.aload_n 0, 1) := by decide +kernel
theorem dX6_takeTaleLeaf_16 : decode cX6_takeTaleLeaf 16 = .ok (.getfield 48, 3) := by decide +kernel
theorem dX6_takeTaleLeaf_19 : decode cX6_takeTaleLeaf 19 = .ok (.iload_n 1, 1) := by decide +kernel
theorem dX6_takeTaleLeaf_20 : decode cX6_takeTaleLeaf 20 = .ok (.invokevirtual 75, 3) := by decide +kernel
theorem dX6_takeTaleLeaf_23 : decode cX6_takeTaleLeaf 23 = .ok (.aload_n 0, 1) := by decide +kernel
theorem dX6_takeTaleLeaf_24 : decode cX6_takeTaleLeaf 24 = .ok (.dup, 1) := by decide +kernel
theorem dX6_takeTaleLeaf_25 : decode cX6_takeTaleLeaf 25 = .ok (.getfield 48, 3) := by decide +kernel
theorem dX6_takeTaleLeaf_28 : decode cX6_takeTaleLeaf 28 = .ok (.iconst 1, 1) := by decide +kernel
theorem dX6_takeTaleLeaf_29 : decode cX6_takeTaleLeaf 29 = .ok (.iadd, 1) := by decide +kernel
theorem dX6_takeTaleLeaf_30 : decode cX6_takeTaleLeaf 30 = .ok (.putfield 48, 3) := by decide +kernel
theorem dX6_takeTaleLeaf_33 : decode cX6_takeTaleLeaf 33 = .ok (.iload_n 1, 1) := by decide +kernel
theorem dX6_takeTaleLeaf_34 : decode cX6_takeTaleLeaf 34 = .ok (.iconst 0, 1) := by decide +kernel
theorem dX6_takeTaleLeaf_35 : decode cX6_takeTaleLeaf 35 = .ok (.bipush 39, 2) := by decide +kernel
theorem dX6_takeTaleLeaf_37 : decode cX6_takeTaleLeaf 37 = .ok (.invokestatic 103, 3) := by decide +kernel
theorem dX6_takeTaleLeaf_40 : decode cX6_takeTaleLeaf 40 = .ok (.ireturn, 1) := by decide +kernel
theorem dX6_fitsItsLeaves_0 : decode cX6_fitsItsLeaves 0 = .ok (.iconst 0, 1) := by decide +kernel
theorem dX6_fitsItsLeaves_1 : decode cX6_fitsItsLeaves 1 = .ok (.istore_n 1, 1) := by decide +kernel
theorem dX6_fitsItsLeaves_2 : decode cX6_fitsItsLeaves 2 = .ok (.iload_n 1, 1) := by decide +kernel
theorem dX6_fitsItsLeaves_3 : decode cX6_fitsItsLeaves 3 = .ok (.aload_n 0, 1) := by decide +kernel
theorem dX6_fitsItsLeaves_4 : decode cX6_fitsItsLeaves 4 = .ok (.getfield 45, 3) := by decide +kernel
theorem dX6_fitsItsLeaves_7 : decode cX6_fitsItsLeaves 7 = .ok (.if_icmp .ge 41, 3) := by decide +kernel
theorem dX6_fitsItsLeaves_10 : decode cX6_fitsItsLeaves 10 = .ok (.aload_n 0, 1) := by decide +kernel
theorem dX6_fitsItsLeaves_11 : decode cX6_fitsItsLeaves 11 = .ok (.getfield 14, 3) := by decide +kernel
theorem dX6_fitsItsLeaves_14 : decode cX6_fitsItsLeaves 14 = .ok (.iload_n 1, 1) := by decide +kernel
theorem dX6_fitsItsLeaves_15 : decode cX6_fitsItsLeaves 15 = .ok (.invokevirtual 79, 3) := by decide +kernel
theorem dX6_fitsItsLeaves_18 : decode cX6_fitsItsLeaves 18 = .ok (.aload_n 0, 1) := by decide +kernel
theorem dX6_fitsItsLeaves_19 : decode cX6_fitsItsLeaves 19 = .ok (.getfield 32, 3) := by decide +kernel
theorem dX6_fitsItsLeaves_22 : decode cX6_fitsItsLeaves 22 = .ok (.if_icmp .ge 18, 3) := by decide +kernel
theorem dX6_fitsItsLeaves_25 : decode cX6_fitsItsLeaves 25 = .ok (.aload_n 0, 1) := by decide +kernel
theorem dX6_fitsItsLeaves_26 : decode cX6_fitsItsLeaves 26 = .ok (.getfield 20, 3) := by decide +kernel
theorem dX6_fitsItsLeaves_29 : decode cX6_fitsItsLeaves 29 = .ok (.iload_n 1, 1) := by decide +kernel
theorem dX6_fitsItsLeaves_30 : decode cX6_fitsItsLeaves 30 = .ok (.invokevirtual 79, 3) := by decide +kernel
theorem dX6_fitsItsLeaves_33 : decode cX6_fitsItsLeaves 33 = .ok (.aload_n 0, 1) := by decide +kernel
theorem dX6_fitsItsLeaves_34 : decode cX6_fitsItsLeaves 34 = .ok (.getfield 32, 3) := by decide +kernel
theorem dX6_fitsItsLeaves_37 : decode cX6_fitsItsLeaves 37 = .ok (.if_icmp .lt 5, 3) := by decide +kernel
theorem dX6_fitsItsLeaves_40 : decode cX6_fitsItsLeaves 40 = .ok (.iconst 0, 1) := by decide +kernel
theorem dX6_fitsItsLeaves_41 : decode cX6_fitsItsLeaves 41 = .ok (.ireturn, 1) := by decide +kernel
theorem dX6_fitsItsLeaves_42 : decode cX6_fitsItsLeaves 42 = .ok (.iinc 1 1, 3) := by decide +kernel
theorem dX6_fitsItsLeaves_45 : decode cX6_fitsItsLeaves 45 = .ok (.goto (-43), 3) := by decide +kernel
theorem dX6_fitsItsLeaves_48 : decode cX6_fitsItsLeaves 48 = .ok (.iconst 0, 1) := by decide +kernel
theorem dX6_fitsItsLeaves_49 : decode cX6_fitsItsLeaves 49 = .ok (.istore_n 1, 1) := by decide +kernel
theorem dX6_fitsItsLeaves_50 : decode cX6_fitsItsLeaves 50 = .ok (.iload_n 1, 1) := by decide +kernel
theorem dX6_fitsItsLeaves_51 : decode cX6_fitsItsLeaves 51 = .ok (.aload_n 0, 1) := by decide +kernel
theorem dX6_fitsItsLeaves_52 : decode cX6_fitsItsLeaves 52 = .ok (.getfield 48, 3) := by decide +kernel
theorem dX6_fitsItsLeaves_55 : decode cX6_fitsItsLeaves 55 = .ok (.if_icmp .ge 26, 3) := by decide +kernel
theorem dX6_fitsItsLeaves_58 : decode cX6_fitsItsLeaves 58 = .ok (.aload_n 0, 1) := by decide +kernel
theorem dX6_fitsItsLeaves_59 : decode cX6_fitsItsLeaves 59 = .ok (.getfield 23, 3) := by decide +kernel
theorem dX6_fitsItsLeaves_62 : decode cX6_fitsItsLeaves 62 = .ok (.iload_n 1, 1) := by decide +kernel
theorem dX6_fitsItsLeaves_63 : decode cX6_fitsItsLeaves 63 = .ok (.invokevirtual 79, 3) := by decide +kernel
theorem dX6_fitsItsLeaves_66 : decode cX6_fitsItsLeaves 66 = .ok (.aload_n 0, 1) := by decide +kernel
theorem dX6_fitsItsLeaves_67 : decode cX6_fitsItsLeaves 67 = .ok (.getfield 32, 3) := by decide +kernel
theorem dX6_fitsItsLeaves_70 : decode cX6_fitsItsLeaves 70 = .ok (.if_icmp .lt 5, 3) := by decide +kernel
theorem dX6_fitsItsLeaves_73 : decode cX6_fitsItsLeaves 73 = .ok (.iconst 0, 1) := by decide +kernel
theorem dX6_fitsItsLeaves_74 : decode cX6_fitsItsLeaves 74 = .ok (.ireturn, 1) := by decide +kernel
theorem dX6_fitsItsLeaves_75 : decode cX6_fitsItsLeaves 75 = .ok (.iinc 1 1, 3) := by decide +kernel
theorem dX6_fitsItsLeaves_78 : decode cX6_fitsItsLeaves 78 = .ok (.goto (-28), 3) := by decide +kernel
theorem dX6_fitsItsLeaves_81 : decode cX6_fitsItsLeaves 81 = .ok (.iconst 1, 1) := by decide +kernel
theorem dX6_fitsItsLeaves_82 : decode cX6_fitsItsLeaves 82 = .ok (.ireturn, 1) := by decide +kernel
theorem dX6_orderFirst_0 : decode cX6_orderFirst 0 = .ok (.aload_n 1, 1) := by decide +kernel
theorem dX6_orderFirst_1 : decode cX6_orderFirst 1 = .ok (.aload_n 0, 1) := by decide +kernel
theorem dX6_orderFirst_2 : decode cX6_orderFirst 2 = .ok (.getfield 32, 3) := by decide +kernel
theorem dX6_orderFirst_5 : decode cX6_orderFirst 5 = .ok (.invokevirtual 106, 3) := by decide +kernel
theorem dX6_orderFirst_8 : decode cX6_orderFirst 8 = .ok (.iconst 0, 1) := by decide +kernel
theorem dX6_orderFirst_9 : decode cX6_orderFirst 9 = .ok (.istore_n 2, 1) := by decide +kernel
theorem dX6_orderFirst_10 : decode cX6_orderFirst 10 = .ok (.iload_n 2, 1) := by decide +kernel
theorem dX6_orderFirst_11 : decode cX6_orderFirst 11 = .ok (.aload_n 0, 1) := by decide +kernel
theorem dX6_orderFirst_12 : decode cX6_orderFirst 12 = .ok (.getfield 45, 3) := by decide +kernel
theorem dX6_orderFirst_15 : decode cX6_orderFirst 15 = .ok (.if_icmp .ge 29, 3) := by decide +kernel
theorem dX6_orderFirst_18 : decode cX6_orderFirst 18 = .ok (.aload_n 1, 1) := by decide +kernel
theorem dX6_orderFirst_19 : decode cX6_orderFirst 19 = .ok (.aload_n 0, 1) := by decide +kernel
theorem dX6_orderFirst_20 : decode cX6_orderFirst 20 = .ok (.getfield 14, 3) := by decide +kernel
theorem dX6_orderFirst_23 : decode cX6_orderFirst 23 = .ok (.iload_n 2, 1) := by decide +kernel
theorem dX6_orderFirst_24 : decode cX6_orderFirst 24 = .ok (.invokevirtual 79, 3) := by decide +kernel
theorem dX6_orderFirst_27 : decode cX6_orderFirst 27 = .ok (.aload_n 0, 1) := by decide +kernel
theorem dX6_orderFirst_28 : decode cX6_orderFirst 28 = .ok (.getfield 20, 3) := by decide +kernel
theorem dX6_orderFirst_31 : decode cX6_orderFirst 31 = .ok (.iload_n 2, 1) := by decide +kernel
theorem dX6_orderFirst_32 : decode cX6_orderFirst 32 = .ok (.invokevirtual 79, 3) := by decide +kernel
theorem dX6_orderFirst_35 : decode cX6_orderFirst 35 = .ok (.invokevirtual 111, 3) := by decide +kernel
theorem dX6_orderFirst_38 : decode cX6_orderFirst 38 = .ok (.iinc 2 1, 3) := by decide +kernel
theorem dX6_orderFirst_41 : decode cX6_orderFirst 41 = .ok (.goto (-31), 3) := by decide +kernel
theorem dX6_orderFirst_44 : decode cX6_orderFirst 44 = .ok (.return_, 1) := by decide +kernel
theorem dX6_toldTurns_0 : decode cX6_toldTurns 0 = .ok (.aload_n 0, 1) := by decide +kernel
theorem dX6_toldTurns_1 : decode cX6_toldTurns 1 = .ok (.getfield 36, 3) := by decide +kernel
theorem dX6_toldTurns_4 : decode cX6_toldTurns 4 = .ok (.aload_n 0, 1) := by decide +kernel
theorem dX6_toldTurns_5 : decode cX6_toldTurns 5 = .ok (.getfield 48, 3) := by decide +kernel
theorem dX6_toldTurns_8 : decode cX6_toldTurns 8 = .ok (.invokestatic 114, 3) := by decide +kernel
theorem dX6_toldTurns_11 : decode cX6_toldTurns 11 = .ok (.ireturn, 1) := by decide +kernel
theorem dX6_taleLeaf_0 : decode cX6_taleLeaf 0 = .ok (.aload_n 0, 1) := by decide +kernel
theorem dX6_taleLeaf_1 : decode cX6_taleLeaf 1 = .ok (.getfield 23, 3) := by decide +kernel
theorem dX6_taleLeaf_4 : decode cX6_taleLeaf 4 = .ok (.iload_n 1, 1) := by decide +kernel
theorem dX6_taleLeaf_5 : decode cX6_taleLeaf 5 = .ok (.invokevirtual 79, 3) := by decide +kernel
theorem dX6_taleLeaf_8 : decode cX6_taleLeaf 8 = .ok (.ireturn, 1) := by decide +kernel
theorem dX7_init_0 : decode cX7_init 0 = .ok (.aload_n 0, 1) := by decide +kernel
theorem dX7_init_1 : decode cX7_init 1 = .ok (.invokespecial 1, 3) := by decide +kernel
theorem dX7_init_4 : decode cX7_init 4 = .ok (.aload_n 0, 1) := by decide +kernel
theorem dX7_init_5 : decode cX7_init 5 = .ok (.new 7, 3) := by decide +kernel
theorem dX7_init_8 : decode cX7_init 8 = .ok (.dup, 1) := by decide +kernel
theorem dX7_init_9 : decode cX7_init 9 = .ok (.invokespecial 9, 3) := by decide +kernel
theorem dX7_init_12 : decode cX7_init 12 = .ok (.putfield 10, 3) := by decide +kernel
theorem dX7_init_15 : decode cX7_init 15 = .ok (.aload_n 0, 1) := by decide +kernel
theorem dX7_init_16 : decode cX7_init 16 = .ok (.new 16, 3) := by decide +kernel
theorem dX7_init_19 : decode cX7_init 19 = .ok (.dup, 1) := by decide +kernel
theorem dX7_init_20 : decode cX7_init 20 = .ok (.invokespecial 18, 3) := by decide +kernel
theorem dX7_init_23 : decode cX7_init 23 = .ok (.putfield 19, 3) := by decide +kernel
theorem dX7_init_26 : decode cX7_init 26 = .ok (.aload_n 0, 1) := by decide +kernel
theorem dX7_init_27 : decode cX7_init 27 = .ok (.new 16, 3) := by decide +kernel
theorem dX7_init_30 : decode cX7_init 30 = .ok (.dup, 1) := by decide +kernel
theorem dX7_init_31 : decode cX7_init 31 = .ok (.invokespecial 18, 3) := by decide +kernel
theorem dX7_init_34 : decode cX7_init 34 = .ok (.putfield 23, 3) := by decide +kernel
theorem dX7_init_37 : decode cX7_init 37 = .ok (.aload_n 0, 1) := by decide +kernel
theorem dX7_init_38 : decode cX7_init 38 = .ok (.new 26, 3) := by decide +kernel
theorem dX7_init_41 : decode cX7_init 41 = .ok (.dup, 1) := by decide +kernel
theorem dX7_init_42 : decode cX7_init 42 = .ok (.invokespecial 28, 3) := by decide +kernel
theorem dX7_init_45 : decode cX7_init 45 = .ok (.putfield 29, 3) := by decide +kernel
theorem dX7_init_48 : decode cX7_init 48 = .ok (.aload_n 0, 1) := by decide +kernel
theorem dX7_init_49 : decode cX7_init 49 = .ok (.new 26, 3) := by decide +kernel
theorem dX7_init_52 : decode cX7_init 52 = .ok (.dup, 1) := by decide +kernel
theorem dX7_init_53 : decode cX7_init 53 = .ok (.invokespecial 28, 3) := by decide +kernel
theorem dX7_init_56 : decode cX7_init 56 = .ok (.putfield 33, 3) := by decide +kernel
theorem dX7_init_59 : decode cX7_init 59 = .ok (.aload_n 0, 1) := by decide +kernel
theorem dX7_init_60 : decode cX7_init 60 = .ok (.new 36, 3) := by decide +kernel
theorem dX7_init_63 : decode cX7_init 63 = .ok (.dup, 1) := by decide +kernel
theorem dX7_init_64 : decode cX7_init 64 = .ok (.invokespecial 38, 3) := by decide +kernel
theorem dX7_init_67 : decode cX7_init 67 = .ok (.putfield 39, 3) := by decide +kernel
theorem dX7_init_70 : decode cX7_init 70 = .ok (.aload_n 0, 1) := by decide +kernel
theorem dX7_init_71 : decode cX7_init 71 = .ok (.new 43, 3) := by decide +kernel
theorem dX7_init_74 : decode cX7_init 74 = .ok (.dup, 1) := by decide +kernel
theorem dX7_init_75 : decode cX7_init 75 = .ok (.invokespecial 45, 3) := by decide +kernel
theorem dX7_init_78 : decode cX7_init 78 = .ok (.putfield 46, 3) := by decide +kernel
theorem dX7_init_81 : decode cX7_init 81 = .ok (.aload_n 0, 1) := by decide +kernel
theorem dX7_init_82 : decode cX7_init 82 = .ok (.new 50, 3) := by decide +kernel
theorem dX7_init_85 : decode cX7_init 85 = .ok (.dup, 1) := by decide +kernel
theorem dX7_init_86 : decode cX7_init 86 = .ok (.bipush 12, 2) := by decide +kernel
theorem dX7_init_88 : decode cX7_init 88 = .ok (.invokespecial 52, 3) := by decide +kernel
theorem dX7_init_91 : decode cX7_init 91 = .ok (.putfield 55, 3) := by decide +kernel
theorem dX7_init_94 : decode cX7_init 94 = .ok (.aload_n 0, 1) := by decide +kernel
theorem dX7_init_95 : decode cX7_init 95 = .ok (.new 50, 3) := by decide +kernel
theorem dX7_init_98 : decode cX7_init 98 = .ok (.dup, 1) := by decide +kernel
theorem dX7_init_99 : decode cX7_init 99 = .ok (.bipush 12, 2) := by decide +kernel
theorem dX7_init_101 : decode cX7_init 101 = .ok (.invokespecial 52, 3) := by decide +kernel
theorem dX7_init_104 : decode cX7_init 104 = .ok (.putfield 59, 3) := by decide +kernel
theorem dX7_init_107 : decode cX7_init 107 = .ok (.aload_n 0, 1) := by decide +kernel
theorem dX7_init_108 : decode cX7_init 108 = .ok (.new 62, 3) := by decide +kernel
theorem dX7_init_111 : decode cX7_init 111 = .ok (.dup, 1) := by decide +kernel
theorem dX7_init_112 : decode cX7_init 112 = .ok (.invokespecial 64, 3) := by decide +kernel
theorem dX7_init_115 : decode cX7_init 115 = .ok (.putfield 65, 3) := by decide +kernel
theorem dX7_init_118 : decode cX7_init 118 = .ok (.aload_n 0, 1) := by decide +kernel
theorem dX7_init_119 : decode cX7_init 119 = .ok (.new 62, 3) := by decide +kernel
theorem dX7_init_122 : decode cX7_init 122 = .ok (.dup, 1) := by decide +kernel
theorem dX7_init_123 : decode cX7_init 123 = .ok (.invokespecial 64, 3) := by decide +kernel
theorem dX7_init_126 : decode cX7_init 126 = .ok (.putfield 69, 3) := by decide +kernel
theorem dX7_init_129 : decode cX7_init 129 = .ok (.aload_n 0, 1) := by decide +kernel
theorem dX7_init_130 : decode cX7_init 130 = .ok (.new 62, 3) := by decide +kernel
theorem dX7_init_133 : decode cX7_init 133 = .ok (.dup, 1) := by decide +kernel
theorem dX7_init_134 : decode cX7_init 134 = .ok (.invokespecial 64, 3) := by decide +kernel
theorem dX7_init_137 : decode cX7_init 137 = .ok (.putfield 72, 3) := by decide +kernel
theorem dX7_init_140 : decode cX7_init 140 = .ok (.aload_n 0, 1) := by decide +kernel
theorem dX7_init_141 : decode cX7_init 141 = .ok (.invokevirtual 75, 3) := by decide +kernel
theorem dX7_init_144 : decode cX7_init 144 = .ok (.return_, 1) := by decide +kernel
theorem dX7_write_0 : decode cX7_write 0 = .ok (.iload_n 1, 1) := by decide +kernel
theorem dX7_write_1 : decode cX7_write 1 = .ok (.iconst 1, 1) := by decide +kernel
theorem dX7_write_2 : decode cX7_write 2 = .ok (.bipush 8, 2) := by decide +kernel
theorem dX7_write_4 : decode cX7_write 4 = .ok (.invokestatic 78, 3) := by decide +kernel
theorem dX7_write_7 : decode cX7_write 7 = .ok (.ifCond .ne 5, 3) := by decide +kernel
theorem dX7_write_10 : decode cX7_write 10 = .ok (.iconst (-1), 1) := by decide +kernel
theorem dX7_write_11 : decode cX7_write 11 = .ok (.ireturn, 1) := by decide +kernel
theorem dX7_write_12 : decode cX7_write 12 = .ok (.aload_n 0, 1) := by decide +kernel
theorem dX7_write_13 : decode cX7_write 13 = .ok (.getfield 10, 3) := by decide +kernel
theorem dX7_write_16 : decode cX7_write 16 = .ok (.invokevirtual 82, 3) := by decide +kernel
theorem dX7_write_19 : decode cX7_write 19 = .ok (.iload_n 1, 1) := by decide +kernel
theorem dX7_write_20 : decode cX7_write 20 = .ok (.iadd, 1) := by decide +kernel
theorem dX7_write_21 : decode cX7_write 21 = .ok (.sipush 300, 3) := by decide +kernel
theorem dX7_write_24 : decode cX7_write 24 = .ok (.if_icmp .le 6, 3) := by decide +kernel
theorem dX7_write_27 : decode cX7_write 27 = .ok (.bipush (-3), 2) := by decide +kernel
theorem dX7_write_29 : decode cX7_write 29 = .ok (.ireturn, 1) := by decide +kernel
theorem dX7_write_30 : decode cX7_write 30 = .ok (.aload_n 0, 1) := by decide +kernel
theorem dX7_write_31 : decode cX7_write 31 = .ok (.getfield 10, 3) := by decide +kernel
theorem dX7_write_34 : decode cX7_write 34 = .ok (.iload_n 1, 1) := by decide +kernel
theorem dX7_write_35 : decode cX7_write 35 = .ok (.lload_n 2, 1) := by decide +kernel
theorem dX7_write_36 : decode cX7_write 36 = .ok (.invokevirtual 86, 3) := by decide +kernel
theorem dX7_write_39 : decode cX7_write 39 = .ok (.aload_n 0, 1) := by decide +kernel
theorem dX7_write_40 : decode cX7_write 40 = .ok (.getfield 10, 3) := by decide +kernel
theorem dX7_write_43 : decode cX7_write 43 = .ok (.invokevirtual 82, 3) := by decide +kernel
theorem dX7_write_46 : decode cX7_write 46 = .ok (.ireturn, 1) := by decide +kernel
theorem dX7_wipe_0 : decode cX7_wipe 0 = .ok (.aload_n 0, 1) := by decide +kernel
theorem dX7_wipe_1 : decode cX7_wipe 1 = .ok (.getfield 10, 3) := by decide +kernel
theorem dX7_wipe_4 : decode cX7_wipe 4 = .ok (.invokevirtual 90, 3) := by decide +kernel
theorem dX7_wipe_7 : decode cX7_wipe 7 = .ok (.ireturn, 1) := by decide +kernel
theorem dX7_fault_0 : decode cX7_fault 0 = .ok (.aload_n 0, 1) := by decide +kernel
theorem dX7_fault_1 : decode cX7_fault 1 = .ok (.getfield 19, 3) := by decide +kernel
theorem dX7_fault_4 : decode cX7_fault 4 = .ok (.aload_n 0, 1) := by decide +kernel
theorem dX7_fault_5 : decode cX7_fault 5 = .ok (.getfield 10, 3) := by decide +kernel
theorem dX7_fault_8 : decode cX7_fault 8 = .ok (.invokevirtual 93, 3) := by decide +kernel
theorem dX7_fault_11 : decode cX7_fault 11 = .ok (.ireturn, 1) := by decide +kernel
theorem dX7_lay_0 : decode cX7_lay 0 = .ok (.aload_n 0, 1) := by decide +kernel
theorem dX7_lay_1 : decode cX7_lay 1 = .ok (.getfield 19, 3) := by decide +kernel
theorem dX7_lay_4 : decode cX7_lay 4 = .ok (.aload_n 0, 1) := by decide +kernel
theorem dX7_lay_5 : decode cX7_lay 5 = .ok (.getfield 10, 3) := by decide +kernel
theorem dX7_lay_8 : decode cX7_lay 8 = .ok (.invokevirtual 93, 3) := by decide +kernel
theorem dX7_lay_11 : decode cX7_lay 11 = .ok (.bipush (-4), 2) := by decide +kernel
theorem dX7_lay_13 : decode cX7_lay 13 = .ok (.if_icmp .ne 13, 3) := by decide +kernel
theorem dX7_lay_16 : decode cX7_lay 16 = .ok (.aload_n 0, 1) := by decide +kernel
theorem dX7_lay_17 : decode cX7_lay 17 = .ok (.getfield 19, 3) := by decide +kernel
theorem dX7_lay_20 : decode cX7_lay 20 = .ok (.invokevirtual 97, 3) := by decide +kernel
theorem dX7_lay_23 : decode cX7_lay 23 = .ok (.ifCond .ne 6, 3) := by decide +kernel
theorem dX7_lay_26 : decode cX7_lay 26 = .ok (.bipush (-2), 2) := by decide +kernel
theorem dX7_lay_28 : decode cX7_lay 28 = .ok (.ireturn, 1) := by decide +kernel
theorem dX7_lay_29 : decode cX7_lay 29 = .ok (.aload_n 0, 1) := by decide +kernel
theorem dX7_lay_30 : decode cX7_lay 30 = .ok (.getfield 23, 3) := by decide +kernel
theorem dX7_lay_33 : decode cX7_lay 33 = .ok (.astore_n 1, 1) := by decide +kernel
theorem dX7_lay_34 : decode cX7_lay 34 = .ok (.aload_n 0, 1) := by decide +kernel
theorem dX7_lay_35 : decode cX7_lay 35 = .ok (.aload_n 0, 1) := by decide +kernel
theorem dX7_lay_36 : decode cX7_lay 36 = .ok (.getfield 19, 3) := by decide +kernel
theorem dX7_lay_39 : decode cX7_lay 39 = .ok (.putfield 23, 3) := by decide +kernel
theorem dX7_lay_42 : decode cX7_lay 42 = .ok (.aload_n 0, 1) := by decide +kernel
theorem dX7_lay_43 : decode cX7_lay 43 = .ok (.aload_n 1, 1) := by decide +kernel
theorem dX7_lay_44 : decode cX7_lay 44 = .ok (.putfield 19, 3) := by decide +kernel
theorem dX7_lay_47 : decode cX7_lay 47 = .ok (.aload_n 0, 1) := by decide +kernel
theorem dX7_lay_48 : decode cX7_lay 48 = .ok (.invokevirtual 75, 3) := by decide +kernel
theorem dX7_lay_51 : decode cX7_lay 51 = .ok (.aload_n 0, 1) := by decide +kernel
theorem dX7_lay_52 : decode cX7_lay 52 = .ok (.getfield 23, 3) := by decide +kernel
theorem dX7_lay_55 : decode cX7_lay 55 = .ok (.getfield 101, 3) := by decide +kernel
theorem dX7_lay_58 : decode cX7_lay 58 = .ok (.ireturn, 1) := by decide +kernel
theorem dX7_leaf_0 : decode cX7_leaf 0 = .ok (.aload_n 0, 1) := by decide +kernel
theorem dX7_leaf_1 : decode cX7_leaf 1 = .ok (.iload_n 1, 1) := by decide +kernel
theorem dX7_leaf_2 : decode cX7_leaf 2 = .ok (.invokevirtual 105, 3) := by decide +kernel
theorem dX7_leaf_5 : decode cX7_leaf 5 = .ok (.ifCond .eq 12, 3) := by decide +kernel
theorem dX7_leaf_8 : decode cX7_leaf 8 = .ok (.iload_n 2, 1) := by decide +kernel
theorem dX7_leaf_9 : decode cX7_leaf 9 = .ok (.iconst 0, 1) := by decide +kernel
theorem dX7_leaf_10 : decode cX7_leaf 10 = .ok (.iconst 1, 1) := by decide +kernel
theorem dX7_leaf_11 : decode cX7_leaf 11 = .ok (.invokestatic 78, 3) := by decide +kernel
theorem dX7_leaf_14 : decode cX7_leaf 14 = .ok (.ifCond .ne 5, 3) := by decide +kernel
theorem dX7_leaf_17 : decode cX7_leaf 17 = .ok (.iconst (-1), 1) := by decide +kernel
theorem dX7_leaf_18 : decode cX7_leaf 18 = .ok (.ireturn, 1) := by decide +kernel
theorem dX7_leaf_19 : decode cX7_leaf 19 = .ok (.iload_n 2, 1) := by decide +kernel
theorem dX7_leaf_20 : decode cX7_leaf 20 = .ok (.ifCond .ne 17, 3) := by decide +kernel
theorem dX7_leaf_23 : decode cX7_leaf 23 = .ok (.aload_n 0, 1) := by decide +kernel
theorem dX7_leaf_24 : decode cX7_leaf 24 = .ok (.getfield 65, 3) := by decide +kernel
theorem dX7_leaf_27 : decode cX7_leaf 27 = .ok (.getfield 109, 3) := by decide +kernel
theorem dX7_leaf_30 : decode cX7_leaf 30 = .ok (.iload_n 1, 1) := by decide +kernel
theorem dX7_leaf_31 : decode cX7_leaf 31 = .ok (.invokevirtual 112, 3) := by decide +kernel
theorem dX7_leaf_34 : decode cX7_leaf 34 = .ok (.goto 11, 3) := by decide +kernel
theorem dX7_leaf_37 : decode cX7_leaf 37 = .ok (.aload_n 0, 1) := by decide +kernel
theorem dX7_leaf_38 : decode cX7_leaf 38 = .ok (.getfield 29, 3) := by decide +kernel
theorem dX7_leaf_41 : decode cX7_leaf 41 = .ok (.iload_n 1, 1) := by decide +kernel
theorem dX7_leaf_42 : decode cX7_leaf 42 = .ok (.invokevirtual 112, 3) := by decide +kernel
theorem dX7_leaf_45 : decode cX7_leaf 45 = .ok (.ireturn, 1) := by decide +kernel
theorem dX7_where_0 : decode cX7_where 0 = .ok (.aload_n 0, 1) := by decide +kernel
theorem dX7_where_1 : decode cX7_where 1 = .ok (.iload_n 1, 1) := by decide +kernel
theorem dX7_where_2 : decode cX7_where 2 = .ok (.invokevirtual 105, 3) := by decide +kernel
theorem dX7_where_5 : decode cX7_where 5 = .ok (.ifCond .eq 17, 3) := by decide +kernel
theorem dX7_where_8 : decode cX7_where 8 = .ok (.aload_n 0, 1) := by decide +kernel
theorem dX7_where_9 : decode cX7_where 9 = .ok (.getfield 65, 3) := by decide +kernel
theorem dX7_where_12 : decode cX7_where 12 = .ok (.getfield 109, 3) := by decide +kernel
theorem dX7_where_15 : decode cX7_where 15 = .ok (.iload_n 1, 1) := by decide +kernel
theorem dX7_where_16 : decode cX7_where 16 = .ok (.invokevirtual 116, 3) := by decide +kernel
theorem dX7_where_19 : decode cX7_where 19 = .ok (.goto 4, 3) := by decide +kernel
theorem dX7_where_22 : decode cX7_where 22 = .ok (.iconst (-1), 1) := by decide +kernel
theorem dX7_where_23 : decode cX7_where 23 = .ok (.ireturn, 1) := by decide +kernel
theorem dX7_read_0 : decode cX7_read 0 = .ok (.aload_n 0, 1) := by decide +kernel
theorem dX7_read_1 : decode cX7_read 1 = .ok (.getfield 65, 3) := by decide +kernel
theorem dX7_read_4 : decode cX7_read 4 = .ok (.aload_n 0, 1) := by decide +kernel
theorem dX7_read_5 : decode cX7_read 5 = .ok (.getfield 23, 3) := by decide +kernel
theorem dX7_read_8 : decode cX7_read 8 = .ok (.invokevirtual 119, 3) := by decide +kernel
theorem dX7_read_11 : decode cX7_read 11 = .ok (.ireturn, 1) := by decide +kernel
theorem dX7_finish_0 : decode cX7_finish 0 = .ok (.aload_n 0, 1) := by decide +kernel
theorem dX7_finish_1 : decode cX7_finish 1 = .ok (.getfield 23, 3) := by decide +kernel
theorem dX7_finish_4 : decode cX7_finish 4 = .ok (.getfield 123, 3) := by decide +kernel
theorem dX7_finish_7 : decode cX7_finish 7 = .ok (.aload_n 0, 1) := by decide +kernel
theorem dX7_finish_8 : decode cX7_finish 8 = .ok (.getfield 65, 3) := by decide +kernel
theorem dX7_finish_11 : decode cX7_finish 11 = .ok (.getfield 126, 3) := by decide +kernel
theorem dX7_finish_14 : decode cX7_finish 14 = .ok (.isub, 1) := by decide +kernel
theorem dX7_finish_15 : decode cX7_finish 15 = .ok (.istore_n 1, 1) := by decide +kernel
theorem dX7_finish_16 : decode cX7_finish 16 = .ok (.iconst 0, 1) := by decide +kernel
theorem dX7_finish_17 : decode cX7_finish 17 = .ok (.istore_n 2, 1) := by decide +kernel
theorem dX7_finish_18 : decode cX7_finish 18 = .ok (.iload_n 2, 1) := by decide +kernel
theorem dX7_finish_19 : decode cX7_finish 19 = .ok (.iload_n 1, 1) := by decide +kernel
theorem dX7_finish_20 : decode cX7_finish 20 = .ok (.if_icmp .ge 21, 3) := by decide +kernel
theorem dX7_finish_23 : decode cX7_finish 23 = .ok (.aload_n 0, 1) := by decide +kernel
theorem dX7_finish_24 : decode cX7_finish 24 = .ok (.getfield 65, 3) := by decide +kernel
theorem dX7_finish_27 : decode cX7_finish 27 = .ok (.aload_n 0, 1) := by decide +kernel
theorem dX7_finish_28 : decode cX7_finish 28 = .ok (.getfield 23, 3) := by decide +kernel
theorem dX7_finish_31 : decode cX7_finish 31 = .ok (.invokevirtual 119, 3) := by decide +kernel
theorem dX7_finish_34 : decode cX7_finish 34 = .ok (.pop, 1) := by decide +kernel
theorem dX7_finish_35 : decode cX7_finish 35 = .ok (.iinc 2 1, 3) := by decide +kernel
theorem dX7_finish_38 : decode cX7_finish 38 = .ok (.goto (-20), 3) := by decide +kernel
theorem dX7_finish_41 : decode cX7_finish 41 = .ok (.iload_n 1, 1) := by decide +kernel
theorem dX7_finish_42 : decode cX7_finish 42 = .ok (.ireturn, 1) := by decide +kernel
theorem dX7_change_0 : decode cX7_change 0 = .ok (.aload_n 0, 1) := by decide +kernel
theorem dX7_change_1 : decode cX7_change 1 = .ok (.iload_n 1, 1) := by decide +kernel
theorem dX7_change_2 : decode cX7_change 2 = .ok (.invokevirtual 105, 3) := by decide +kernel
theorem dX7_change_5 : decode cX7_change 5 = .ok (.ifCond .eq 11, 3) := by decide +kernel
theorem dX7_change_8 : decode cX7_change 8 = .ok (.aload_n 0, 1) := by decide +kernel
theorem dX7_change_9 : decode cX7_change 9 = .ok (.iload_n 2, 1) := by decide +kernel
theorem dX7_change_10 : decode cX7_change 10 = .ok (.invokevirtual 105, 3) := by decide +kernel
theorem dX7_change_13 : decode cX7_change 13 = .ok (.ifCond .ne 5, 3) := by decide +kernel
theorem dX7_change_16 : decode cX7_change 16 = .ok (.iconst (-1), 1) := by decide +kernel
theorem dX7_change_17 : decode cX7_change 17 = .ok (.ireturn, 1) := by decide +kernel
theorem dX7_change_18 : decode cX7_change 18 = .ok (.aload_n 0, 1) := by decide +kernel
theorem dX7_change_19 : decode cX7_change 19 = .ok (.getfield 65, 3) := by decide +kernel
theorem dX7_change_22 : decode cX7_change 22 = .ok (.getfield 109, 3) := by decide +kernel
theorem dX7_change_25 : decode cX7_change 25 = .ok (.iload_n 1, 1) := by decide +kernel
theorem dX7_change_26 : decode cX7_change 26 = .ok (.iload_n 2, 1) := by decide +kernel
theorem dX7_change_27 : decode cX7_change 27 = .ok (.invokevirtual 129, 3) := by decide +kernel
theorem dX7_change_30 : decode cX7_change 30 = .ok (.aload_n 0, 1) := by decide +kernel
theorem dX7_change_31 : decode cX7_change 31 = .ok (.getfield 65, 3) := by decide +kernel
theorem dX7_change_34 : decode cX7_change 34 = .ok (.getfield 109, 3) := by decide +kernel
theorem dX7_change_37 : decode cX7_change 37 = .ok (.iload_n 1, 1) := by decide +kernel
theorem dX7_change_38 : decode cX7_change 38 = .ok (.invokevirtual 112, 3) := by decide +kernel
theorem dX7_change_41 : decode cX7_change 41 = .ok (.ireturn, 1) := by decide +kernel
theorem dX7_drop_0 : decode cX7_drop 0 = .ok (.iload_n 1, 1) := by decide +kernel
theorem dX7_drop_1 : decode cX7_drop 1 = .ok (.iconst 0, 1) := by decide +kernel
theorem dX7_drop_2 : decode cX7_drop 2 = .ok (.sipush 9999, 3) := by decide +kernel
theorem dX7_drop_5 : decode cX7_drop 5 = .ok (.invokestatic 78, 3) := by decide +kernel
theorem dX7_drop_8 : decode cX7_drop 8 = .ok (.ifCond .ne 5, 3) := by decide +kernel
theorem dX7_drop_11 : decode cX7_drop 11 = .ok (.iconst (-1), 1) := by decide +kernel
theorem dX7_drop_12 : decode cX7_drop 12 = .ok (.ireturn, 1) := by decide +kernel
theorem dX7_drop_13 : decode cX7_drop 13 = .ok (.aload_n 0, 1) := by decide +kernel
theorem dX7_drop_14 : decode cX7_drop 14 = .ok (.getfield 65, 3) := by decide +kernel
theorem dX7_drop_17 : decode cX7_drop 17 = .ok (.iload_n 1, 1) := by decide +kernel
theorem dX7_drop_18 : decode cX7_drop 18 = .ok (.invokevirtual 133, 3) := by decide +kernel
theorem dX7_drop_21 : decode cX7_drop 21 = .ok (.aload_n 0, 1) := by decide +kernel
theorem dX7_drop_22 : decode cX7_drop 22 = .ok (.getfield 65, 3) := by decide +kernel
theorem dX7_drop_25 : decode cX7_drop 25 = .ok (.getfield 109, 3) := by decide +kernel
theorem dX7_drop_28 : decode cX7_drop 28 = .ok (.iconst 0, 1) := by decide +kernel
theorem dX7_drop_29 : decode cX7_drop 29 = .ok (.invokevirtual 112, 3) := by decide +kernel
theorem dX7_drop_32 : decode cX7_drop 32 = .ok (.ireturn, 1) := by decide +kernel
theorem dX7_has_0 : decode cX7_has 0 = .ok (.lload_n 1, 1) := by decide +kernel
theorem dX7_has_1 : decode cX7_has 1 = .ok (.invokestatic 136, 3) := by decide +kernel
theorem dX7_has_4 : decode cX7_has 4 = .ok (.ifCond .eq 11, 3) := by decide +kernel
theorem dX7_has_7 : decode cX7_has 7 = .ok (.aload_n 0, 1) := by decide +kernel
theorem dX7_has_8 : decode cX7_has 8 = .ok (.iload_n 3, 1) := by decide +kernel
theorem dX7_has_9 : decode cX7_has 9 = .ok (.invokevirtual 140, 3) := by decide +kernel
theorem dX7_has_12 : decode cX7_has 12 = .ok (.ifCond .ne 5, 3) := by decide +kernel
theorem dX7_has_15 : decode cX7_has 15 = .ok (.iconst (-1), 1) := by decide +kernel
theorem dX7_has_16 : decode cX7_has 16 = .ok (.ireturn, 1) := by decide +kernel
theorem dX7_has_17 : decode cX7_has 17 = .ok (.aload_n 0, 1) := by decide +kernel
theorem dX7_has_18 : decode cX7_has 18 = .ok (.lload_n 1, 1) := by decide +kernel
theorem dX7_has_19 : decode cX7_has 19 = .ok (.iload_n 3, 1) := by decide +kernel
theorem dX7_has_20 : decode cX7_has 20 = .ok (.invokevirtual 143, 3) := by decide +kernel
theorem dX7_has_23 : decode cX7_has 23 = .ok (.ireturn, 1) := by decide +kernel
theorem dX7_leaves_0 : decode cX7_leaves 0 = .ok (.lload_n 1, 1) := by decide +kernel
theorem dX7_leaves_1 : decode cX7_leaves 1 = .ok (.invokestatic 136, 3) := by decide +kernel
theorem dX7_leaves_4 : decode cX7_leaves 4 = .ok (.ifCond .eq 11, 3) := by decide +kernel
theorem dX7_leaves_7 : decode cX7_leaves 7 = .ok (.aload_n 0, 1) := by decide +kernel
theorem dX7_leaves_8 : decode cX7_leaves 8 = .ok (.lload_n 1, 1) := by decide +kernel
theorem dX7_leaves_9 : decode cX7_leaves 9 = .ok (.invokevirtual 147, 3) := by decide +kernel
theorem dX7_leaves_12 : decode cX7_leaves 12 = .ok (.goto 6, 3) := by decide +kernel
theorem dX7_leaves_15 : decode cX7_leaves 15 = .ok (.ldc2_w 151, 3) := by decide +kernel
theorem dX7_leaves_18 : decode cX7_leaves 18 = .ok (.lreturn, 1) := by decide +kernel
theorem dX7_period_0 : decode cX7_period 0 = .ok (.aload_n 0, 1) := by decide +kernel
theorem dX7_period_1 : decode cX7_period 1 = .ok (.getfield 39, 3) := by decide +kernel
theorem dX7_period_4 : decode cX7_period 4 = .ok (.invokevirtual 153, 3) := by decide +kernel
theorem dX7_period_7 : decode cX7_period 7 = .ok (.ireturn, 1) := by decide +kernel
theorem dX7_ever_0 : decode cX7_ever 0 = .ok (.iload_n 1, 1) := by decide +kernel
theorem dX7_ever_1 : decode cX7_ever 1 = .ok (.iconst 0, 1) := by decide +kernel
theorem dX7_ever_2 : decode cX7_ever 2 = .ok (.iconst 1, 1) := by decide +kernel
theorem dX7_ever_3 : decode cX7_ever 3 = .ok (.invokestatic 78, 3) := by decide +kernel
theorem dX7_ever_6 : decode cX7_ever 6 = .ok (.ifCond .ne 7, 3) := by decide +kernel
theorem dX7_ever_9 : decode cX7_ever 9 = .ok (.ldc2_w 151, 3) := by decide +kernel
theorem dX7_ever_12 : decode cX7_ever 12 = .ok (.lreturn, 1) := by decide +kernel
theorem dX7_ever_13 : decode cX7_ever 13 = .ok (.lconst 0, 1) := by decide +kernel
theorem dX7_ever_14 : decode cX7_ever 14 = .ok (.lstore_n 2, 1) := by decide +kernel
theorem dX7_ever_15 : decode cX7_ever 15 = .ok (.iconst 0, 1) := by decide +kernel
theorem dX7_ever_16 : decode cX7_ever 16 = .ok (.istore 4, 2) := by decide +kernel
theorem dX7_ever_18 : decode cX7_ever 18 = .ok (.iload 4, 2) := by decide +kernel
theorem dX7_ever_20 : decode cX7_ever 20 = .ok (.aload_n 0, 1) := by decide +kernel
theorem dX7_ever_21 : decode cX7_ever 21 = .ok (.getfield 23, 3) := by decide +kernel
theorem dX7_ever_24 : decode cX7_ever 24 = .ok (.getfield 101, 3) := by decide +kernel
theorem dX7_ever_27 : decode cX7_ever 27 = .ok (.if_icmp .ge 56, 3) := by decide +kernel
theorem dX7_ever_30 : decode cX7_ever 30 = .ok (.iload_n 1, 1) := by decide +kernel
theorem dX7_ever_31 : decode cX7_ever 31 = .ok (.ifCond .ne 15, 3) := by decide +kernel
theorem dX7_ever_34 : decode cX7_ever 34 = .ok (.aload_n 0, 1) := by decide +kernel
theorem dX7_ever_35 : decode cX7_ever 35 = .ok (.getfield 39, 3) := by decide +kernel
theorem dX7_ever_38 : decode cX7_ever 38 = .ok (.iload 4, 2) := by decide +kernel
theorem dX7_ever_40 : decode cX7_ever 40 = .ok (.invokevirtual 156, 3) := by decide +kernel
theorem dX7_ever_43 : decode cX7_ever 43 = .ok (.goto 12, 3) := by decide +kernel
theorem dX7_ever_46 : decode cX7_ever 46 = .ok (.aload_n 0, 1) := by decide +kernel
theorem dX7_ever_47 : decode cX7_ever 47 = .ok (.getfield 39, 3) := by decide +kernel
theorem dX7_ever_50 : decode cX7_ever 50 = .ok (.iload 4, 2) := by decide +kernel
theorem dX7_ever_52 : decode cX7_ever 52 = .ok (.invokevirtual 159, 3) := by decide +kernel
theorem dX7_ever_55 : decode cX7_ever 55 = .ok (.istore 5, 2) := by decide +kernel
theorem dX7_ever_57 : decode cX7_ever 57 = .ok (.iload 5, 2) := by decide +kernel
theorem dX7_ever_59 : decode cX7_ever 59 = .ok (.ifCond .eq 18, 3) := by decide +kernel
theorem dX7_ever_62 : decode cX7_ever 62 = .ok (.lload_n 2, 1) := by decide +kernel
theorem dX7_ever_63 : decode cX7_ever 63 = .ok (.aload_n 0, 1) := by decide +kernel
theorem dX7_ever_64 : decode cX7_ever 64 = .ok (.getfield 29, 3) := by decide +kernel
theorem dX7_ever_67 : decode cX7_ever 67 = .ok (.iload 4, 2) := by decide +kernel
theorem dX7_ever_69 : decode cX7_ever 69 = .ok (.invokevirtual 112, 3) := by decide +kernel
theorem dX7_ever_72 : decode cX7_ever 72 = .ok (.invokestatic 162, 3) := by decide +kernel
theorem dX7_ever_75 : decode cX7_ever 75 = .ok (.lor, 1) := by decide +kernel
theorem dX7_ever_76 : decode cX7_ever 76 = .ok (.lstore_n 2, 1) := by decide +kernel
theorem dX7_ever_77 : decode cX7_ever 77 = .ok (.iinc 4 1, 3) := by decide +kernel
theorem dX7_ever_80 : decode cX7_ever 80 = .ok (.goto (-62), 3) := by decide +kernel
theorem dX7_ever_83 : decode cX7_ever 83 = .ok (.lload_n 2, 1) := by decide +kernel
theorem dX7_ever_84 : decode cX7_ever 84 = .ok (.lreturn, 1) := by decide +kernel
theorem dX7_right_0 : decode cX7_right 0 = .ok (.lload_n 1, 1) := by decide +kernel
theorem dX7_right_1 : decode cX7_right 1 = .ok (.invokestatic 136, 3) := by decide +kernel
theorem dX7_right_4 : decode cX7_right 4 = .ok (.ifCond .ne 5, 3) := by decide +kernel
theorem dX7_right_7 : decode cX7_right 7 = .ok (.iconst (-1), 1) := by decide +kernel
theorem dX7_right_8 : decode cX7_right 8 = .ok (.ireturn, 1) := by decide +kernel
theorem dX7_right_9 : decode cX7_right 9 = .ok (.iconst 0, 1) := by decide +kernel
theorem dX7_right_10 : decode cX7_right 10 = .ok (.istore_n 3, 1) := by decide +kernel
theorem dX7_right_11 : decode cX7_right 11 = .ok (.iconst 0, 1) := by decide +kernel
theorem dX7_right_12 : decode cX7_right 12 = .ok (.istore 4, 2) := by decide +kernel
theorem dX7_right_14 : decode cX7_right 14 = .ok (.iload 4, 2) := by decide +kernel
theorem dX7_right_16 : decode cX7_right 16 = .ok (.aload_n 0, 1) := by decide +kernel
theorem dX7_right_17 : decode cX7_right 17 = .ok (.getfield 23, 3) := by decide +kernel
theorem dX7_right_20 : decode cX7_right 20 = .ok (.invokevirtual 166, 3) := by decide +kernel
theorem dX7_right_23 : decode cX7_right 23 = .ok (.if_icmp .ge 31, 3) := by decide +kernel
theorem dX7_right_26 : decode cX7_right 26 = .ok (.aload_n 0, 1) := by decide +kernel
theorem dX7_right_27 : decode cX7_right 27 = .ok (.lload_n 1, 1) := by decide +kernel
theorem dX7_right_28 : decode cX7_right 28 = .ok (.iload 4, 2) := by decide +kernel
theorem dX7_right_30 : decode cX7_right 30 = .ok (.invokevirtual 143, 3) := by decide +kernel
theorem dX7_right_33 : decode cX7_right 33 = .ok (.aload_n 0, 1) := by decide +kernel
theorem dX7_right_34 : decode cX7_right 34 = .ok (.getfield 23, 3) := by decide +kernel
theorem dX7_right_37 : decode cX7_right 37 = .ok (.iload 4, 2) := by decide +kernel
theorem dX7_right_39 : decode cX7_right 39 = .ok (.invokevirtual 169, 3) := by decide +kernel
theorem dX7_right_42 : decode cX7_right 42 = .ok (.if_icmp .ne 6, 3) := by decide +kernel
theorem dX7_right_45 : decode cX7_right 45 = .ok (.iinc 3 1, 3) := by decide +kernel
theorem dX7_right_48 : decode cX7_right 48 = .ok (.iinc 4 1, 3) := by decide +kernel
theorem dX7_right_51 : decode cX7_right 51 = .ok (.goto (-37), 3) := by decide +kernel
theorem dX7_right_54 : decode cX7_right 54 = .ok (.iload_n 3, 1) := by decide +kernel
theorem dX7_right_55 : decode cX7_right 55 = .ok (.ireturn, 1) := by decide +kernel
theorem dX7_order_0 : decode cX7_order 0 = .ok (.lload_n 1, 1) := by decide +kernel
theorem dX7_order_1 : decode cX7_order 1 = .ok (.invokestatic 136, 3) := by decide +kernel
theorem dX7_order_4 : decode cX7_order 4 = .ok (.ifCond .eq 11, 3) := by decide +kernel
theorem dX7_order_7 : decode cX7_order 7 = .ok (.aload_n 0, 1) := by decide +kernel
theorem dX7_order_8 : decode cX7_order 8 = .ok (.iload_n 3, 1) := by decide +kernel
theorem dX7_order_9 : decode cX7_order 9 = .ok (.invokevirtual 105, 3) := by decide +kernel
theorem dX7_order_12 : decode cX7_order 12 = .ok (.ifCond .ne 5, 3) := by decide +kernel
theorem dX7_order_15 : decode cX7_order 15 = .ok (.iconst (-1), 1) := by decide +kernel
theorem dX7_order_16 : decode cX7_order 16 = .ok (.ireturn, 1) := by decide +kernel
theorem dX7_order_17 : decode cX7_order 17 = .ok (.aload_n 0, 1) := by decide +kernel
theorem dX7_order_18 : decode cX7_order 18 = .ok (.getfield 46, 3) := by decide +kernel
theorem dX7_order_21 : decode cX7_order 21 = .ok (.aload_n 0, 1) := by decide +kernel
theorem dX7_order_22 : decode cX7_order 22 = .ok (.getfield 23, 3) := by decide +kernel
theorem dX7_order_25 : decode cX7_order 25 = .ok (.getfield 101, 3) := by decide +kernel
theorem dX7_order_28 : decode cX7_order 28 = .ok (.invokevirtual 172, 3) := by decide +kernel
theorem dX7_order_31 : decode cX7_order 31 = .ok (.iconst 0, 1) := by decide +kernel
theorem dX7_order_32 : decode cX7_order 32 = .ok (.istore 4, 2) := by decide +kernel
theorem dX7_order_34 : decode cX7_order 34 = .ok (.iload 4, 2) := by decide +kernel
theorem dX7_order_36 : decode cX7_order 36 = .ok (.aload_n 0, 1) := by decide +kernel
theorem dX7_order_37 : decode cX7_order 37 = .ok (.getfield 23, 3) := by decide +kernel
theorem dX7_order_40 : decode cX7_order 40 = .ok (.invokevirtual 166, 3) := by decide +kernel
theorem dX7_order_43 : decode cX7_order 43 = .ok (.if_icmp .ge 35, 3) := by decide +kernel
theorem dX7_order_46 : decode cX7_order 46 = .ok (.aload_n 0, 1) := by decide +kernel
theorem dX7_order_47 : decode cX7_order 47 = .ok (.getfield 46, 3) := by decide +kernel
theorem dX7_order_50 : decode cX7_order 50 = .ok (.aload_n 0, 1) := by decide +kernel
theorem dX7_order_51 : decode cX7_order 51 = .ok (.getfield 39, 3) := by decide +kernel
theorem dX7_order_54 : decode cX7_order 54 = .ok (.lload_n 1, 1) := by decide +kernel
theorem dX7_order_55 : decode cX7_order 55 = .ok (.iload 4, 2) := by decide +kernel
theorem dX7_order_57 : decode cX7_order 57 = .ok (.invokevirtual 175, 3) := by decide +kernel
theorem dX7_order_60 : decode cX7_order 60 = .ok (.aload_n 0, 1) := by decide +kernel
theorem dX7_order_61 : decode cX7_order 61 = .ok (.getfield 23, 3) := by decide +kernel
theorem dX7_order_64 : decode cX7_order 64 = .ok (.iload 4, 2) := by decide +kernel
theorem dX7_order_66 : decode cX7_order 66 = .ok (.invokevirtual 169, 3) := by decide +kernel
theorem dX7_order_69 : decode cX7_order 69 = .ok (.invokevirtual 178, 3) := by decide +kernel
theorem dX7_order_72 : decode cX7_order 72 = .ok (.iinc 4 1, 3) := by decide +kernel
theorem dX7_order_75 : decode cX7_order 75 = .ok (.goto (-41), 3) := by decide +kernel
theorem dX7_order_78 : decode cX7_order 78 = .ok (.aload_n 0, 1) := by decide +kernel
theorem dX7_order_79 : decode cX7_order 79 = .ok (.getfield 46, 3) := by decide +kernel
theorem dX7_order_82 : decode cX7_order 82 = .ok (.invokevirtual 181, 3) := by decide +kernel
theorem dX7_order_85 : decode cX7_order 85 = .ok (.ifCond .ne 6, 3) := by decide +kernel
theorem dX7_order_88 : decode cX7_order 88 = .ok (.bipush (-4), 2) := by decide +kernel
theorem dX7_order_90 : decode cX7_order 90 = .ok (.ireturn, 1) := by decide +kernel
theorem dX7_order_91 : decode cX7_order 91 = .ok (.aload_n 0, 1) := by decide +kernel
theorem dX7_order_92 : decode cX7_order 92 = .ok (.getfield 46, 3) := by decide +kernel
theorem dX7_order_95 : decode cX7_order 95 = .ok (.invokevirtual 184, 3) := by decide +kernel
theorem dX7_order_98 : decode cX7_order 98 = .ok (.aload_n 0, 1) := by decide +kernel
theorem dX7_order_99 : decode cX7_order 99 = .ok (.getfield 46, 3) := by decide +kernel
theorem dX7_order_102 : decode cX7_order 102 = .ok (.iload_n 3, 1) := by decide +kernel
theorem dX7_order_103 : decode cX7_order 103 = .ok (.invokevirtual 187, 3) := by decide +kernel
theorem dX7_order_106 : decode cX7_order 106 = .ok (.ireturn, 1) := by decide +kernel
theorem dX7_shows_0 : decode cX7_shows 0 = .ok (.iload_n 1, 1) := by decide +kernel
theorem dX7_shows_1 : decode cX7_shows 1 = .ok (.iconst 0, 1) := by decide +kernel
theorem dX7_shows_2 : decode cX7_shows 2 = .ok (.iconst 3, 1) := by decide +kernel
theorem dX7_shows_3 : decode cX7_shows 3 = .ok (.invokestatic 78, 3) := by decide +kernel
theorem dX7_shows_6 : decode cX7_shows 6 = .ok (.ifCond .eq 11, 3) := by decide +kernel
theorem dX7_shows_9 : decode cX7_shows 9 = .ok (.aload_n 0, 1) := by decide +kernel
theorem dX7_shows_10 : decode cX7_shows 10 = .ok (.iload_n 2, 1) := by decide +kernel
theorem dX7_shows_11 : decode cX7_shows 11 = .ok (.invokevirtual 105, 3) := by decide +kernel
theorem dX7_shows_14 : decode cX7_shows 14 = .ok (.ifCond .ne 5, 3) := by decide +kernel
theorem dX7_shows_17 : decode cX7_shows 17 = .ok (.iconst (-1), 1) := by decide +kernel
theorem dX7_shows_18 : decode cX7_shows 18 = .ok (.ireturn, 1) := by decide +kernel
theorem dX7_shows_19 : decode cX7_shows 19 = .ok (.aload_n 0, 1) := by decide +kernel
theorem dX7_shows_20 : decode cX7_shows 20 = .ok (.iload_n 1, 1) := by decide +kernel
theorem dX7_shows_21 : decode cX7_shows 21 = .ok (.iload_n 2, 1) := by decide +kernel
theorem dX7_shows_22 : decode cX7_shows 22 = .ok (.invokevirtual 188, 3) := by decide +kernel
theorem dX7_shows_25 : decode cX7_shows 25 = .ok (.ireturn, 1) := by decide +kernel
theorem dX7_quickest_0 : decode cX7_quickest 0 = .ok (.iload_n 1, 1) := by decide +kernel
theorem dX7_quickest_1 : decode cX7_quickest 1 = .ok (.iconst 0, 1) := by decide +kernel
theorem dX7_quickest_2 : decode cX7_quickest 2 = .ok (.iconst 2, 1) := by decide +kernel
theorem dX7_quickest_3 : decode cX7_quickest 3 = .ok (.invokestatic 78, 3) := by decide +kernel
theorem dX7_quickest_6 : decode cX7_quickest 6 = .ok (.ifCond .ne 5, 3) := by decide +kernel
theorem dX7_quickest_9 : decode cX7_quickest 9 = .ok (.iconst (-1), 1) := by decide +kernel
theorem dX7_quickest_10 : decode cX7_quickest 10 = .ok (.ireturn, 1) := by decide +kernel
theorem dX7_quickest_11 : decode cX7_quickest 11 = .ok (.iload_n 1, 1) := by decide +kernel
theorem dX7_quickest_12 : decode cX7_quickest 12 = .ok (.ifCond .ne 5, 3) := by decide +kernel
theorem dX7_quickest_15 : decode cX7_quickest 15 = .ok (.iconst 0, 1) := by decide +kernel
theorem dX7_quickest_16 : decode cX7_quickest 16 = .ok (.ireturn, 1) := by decide +kernel
theorem dX7_quickest_17 : decode cX7_quickest 17 = .ok (.iload_n 1, 1) := by decide +kernel
theorem dX7_quickest_18 : decode cX7_quickest 18 = .ok (.iconst 1, 1) := by decide +kernel
theorem dX7_quickest_19 : decode cX7_quickest 19 = .ok (.if_icmp .ne 15, 3) := by decide +kernel
theorem dX7_quickest_22 : decode cX7_quickest 22 = .ok (.aload_n 0, 1) := by decide +kernel
theorem dX7_quickest_23 : decode cX7_quickest 23 = .ok (.getfield 23, 3) := by decide +kernel
theorem dX7_quickest_26 : decode cX7_quickest 26 = .ok (.getfield 101, 3) := by decide +kernel
theorem dX7_quickest_29 : decode cX7_quickest 29 = .ok (.iconst 1, 1) := by decide +kernel
theorem dX7_quickest_30 : decode cX7_quickest 30 = .ok (.isub, 1) := by decide +kernel
theorem dX7_quickest_31 : decode cX7_quickest 31 = .ok (.goto 10, 3) := by decide +kernel
theorem dX7_quickest_34 : decode cX7_quickest 34 = .ok (.aload_n 0, 1) := by decide +kernel
theorem dX7_quickest_35 : decode cX7_quickest 35 = .ok (.getfield 23, 3) := by decide +kernel
theorem dX7_quickest_38 : decode cX7_quickest 38 = .ok (.getfield 101, 3) := by decide +kernel
theorem dX7_quickest_41 : decode cX7_quickest 41 = .ok (.ireturn, 1) := by decide +kernel
theorem dX7_seen_0 : decode cX7_seen 0 = .ok (.lload_n 1, 1) := by decide +kernel
theorem dX7_seen_1 : decode cX7_seen 1 = .ok (.invokestatic 136, 3) := by decide +kernel
theorem dX7_seen_4 : decode cX7_seen 4 = .ok (.ifCond .eq 20, 3) := by decide +kernel
theorem dX7_seen_7 : decode cX7_seen 7 = .ok (.aload_n 0, 1) := by decide +kernel
theorem dX7_seen_8 : decode cX7_seen 8 = .ok (.iload_n 3, 1) := by decide +kernel
theorem dX7_seen_9 : decode cX7_seen 9 = .ok (.invokevirtual 140, 3) := by decide +kernel
theorem dX7_seen_12 : decode cX7_seen 12 = .ok (.ifCond .eq 12, 3) := by decide +kernel
theorem dX7_seen_15 : decode cX7_seen 15 = .ok (.aload_n 0, 1) := by decide +kernel
theorem dX7_seen_16 : decode cX7_seen 16 = .ok (.iload 4, 2) := by decide +kernel
theorem dX7_seen_18 : decode cX7_seen 18 = .ok (.invokevirtual 105, 3) := by decide +kernel
theorem dX7_seen_21 : decode cX7_seen 21 = .ok (.ifCond .ne 5, 3) := by decide +kernel
theorem dX7_seen_24 : decode cX7_seen 24 = .ok (.iconst (-1), 1) := by decide +kernel
theorem dX7_seen_25 : decode cX7_seen 25 = .ok (.ireturn, 1) := by decide +kernel
theorem dX7_seen_26 : decode cX7_seen 26 = .ok (.aload_n 0, 1) := by decide +kernel
theorem dX7_seen_27 : decode cX7_seen 27 = .ok (.getfield 192, 3) := by decide +kernel
theorem dX7_seen_30 : decode cX7_seen 30 = .ok (.bipush 12, 2) := by decide +kernel
theorem dX7_seen_32 : decode cX7_seen 32 = .ok (.if_icmp .lt 6, 3) := by decide +kernel
theorem dX7_seen_35 : decode cX7_seen 35 = .ok (.bipush (-3), 2) := by decide +kernel
theorem dX7_seen_37 : decode cX7_seen 37 = .ok (.ireturn, 1) := by decide +kernel
theorem dX7_seen_38 : decode cX7_seen 38 = .ok (.aload_n 0, 1) := by decide +kernel
theorem dX7_seen_39 : decode cX7_seen 39 = .ok (.getfield 55, 3) := by decide +kernel
theorem dX7_seen_42 : decode cX7_seen 42 = .ok (.aload_n 0, 1) := by decide +kernel
theorem dX7_seen_43 : decode cX7_seen 43 = .ok (.getfield 192, 3) := by decide +kernel
theorem dX7_seen_46 : decode cX7_seen 46 = .ok (.aload_n 0, 1) := by decide +kernel
theorem dX7_seen_47 : decode cX7_seen 47 = .ok (.getfield 39, 3) := by decide +kernel
theorem dX7_seen_50 : decode cX7_seen 50 = .ok (.lload_n 1, 1) := by decide +kernel
theorem dX7_seen_51 : decode cX7_seen 51 = .ok (.iload_n 3, 1) := by decide +kernel
theorem dX7_seen_52 : decode cX7_seen 52 = .ok (.invokevirtual 175, 3) := by decide +kernel
theorem dX7_seen_55 : decode cX7_seen 55 = .ok (.invokevirtual 195, 3) := by decide +kernel
theorem dX7_seen_58 : decode cX7_seen 58 = .ok (.aload_n 0, 1) := by decide +kernel
theorem dX7_seen_59 : decode cX7_seen 59 = .ok (.getfield 59, 3) := by decide +kernel
theorem dX7_seen_62 : decode cX7_seen 62 = .ok (.aload_n 0, 1) := by decide +kernel
theorem dX7_seen_63 : decode cX7_seen 63 = .ok (.getfield 192, 3) := by decide +kernel
theorem dX7_seen_66 : decode cX7_seen 66 = .ok (.iload 4, 2) := by decide +kernel
theorem dX7_seen_68 : decode cX7_seen 68 = .ok (.invokevirtual 195, 3) := by decide +kernel
theorem dX7_seen_71 : decode cX7_seen 71 = .ok (.aload_n 0, 1) := by decide +kernel
theorem dX7_seen_72 : decode cX7_seen 72 = .ok (.dup, 1) := by decide +kernel
theorem dX7_seen_73 : decode cX7_seen 73 = .ok (.getfield 192, 3) := by decide +kernel
theorem dX7_seen_76 : decode cX7_seen 76 = .ok (.iconst 1, 1) := by decide +kernel
theorem dX7_seen_77 : decode cX7_seen 77 = .ok (.iadd, 1) := by decide +kernel
theorem dX7_seen_78 : decode cX7_seen 78 = .ok (.putfield 192, 3) := by decide +kernel
theorem dX7_seen_81 : decode cX7_seen 81 = .ok (.aload_n 0, 1) := by decide +kernel
theorem dX7_seen_82 : decode cX7_seen 82 = .ok (.getfield 192, 3) := by decide +kernel
theorem dX7_seen_85 : decode cX7_seen 85 = .ok (.ireturn, 1) := by decide +kernel
theorem dX7_forget_0 : decode cX7_forget 0 = .ok (.aload_n 0, 1) := by decide +kernel
theorem dX7_forget_1 : decode cX7_forget 1 = .ok (.getfield 192, 3) := by decide +kernel
theorem dX7_forget_4 : decode cX7_forget 4 = .ok (.istore_n 1, 1) := by decide +kernel
theorem dX7_forget_5 : decode cX7_forget 5 = .ok (.aload_n 0, 1) := by decide +kernel
theorem dX7_forget_6 : decode cX7_forget 6 = .ok (.iconst 0, 1) := by decide +kernel
theorem dX7_forget_7 : decode cX7_forget 7 = .ok (.putfield 192, 3) := by decide +kernel
theorem dX7_forget_10 : decode cX7_forget 10 = .ok (.iload_n 1, 1) := by decide +kernel
theorem dX7_forget_11 : decode cX7_forget 11 = .ok (.ireturn, 1) := by decide +kernel
theorem dX7_so_0 : decode cX7_so 0 = .ok (.aload_n 0, 1) := by decide +kernel
theorem dX7_so_1 : decode cX7_so 1 = .ok (.invokevirtual 198, 3) := by decide +kernel
theorem dX7_so_4 : decode cX7_so 4 = .ok (.aload_n 0, 1) := by decide +kernel
theorem dX7_so_5 : decode cX7_so 5 = .ok (.getfield 46, 3) := by decide +kernel
theorem dX7_so_8 : decode cX7_so 8 = .ok (.invokevirtual 181, 3) := by decide +kernel
theorem dX7_so_11 : decode cX7_so 11 = .ok (.ifCond .eq 7, 3) := by decide +kernel
theorem dX7_so_14 : decode cX7_so 14 = .ok (.iconst 1, 1) := by decide +kernel
theorem dX7_so_15 : decode cX7_so 15 = .ok (.goto 4, 3) := by decide +kernel
theorem dX7_so_18 : decode cX7_so 18 = .ok (.iconst 0, 1) := by decide +kernel
theorem dX7_so_19 : decode cX7_so 19 = .ok (.ireturn, 1) := by decide +kernel
theorem dX7_sure_0 : decode cX7_sure 0 = .ok (.aload_n 0, 1) := by decide +kernel
theorem dX7_sure_1 : decode cX7_sure 1 = .ok (.iload_n 1, 1) := by decide +kernel
theorem dX7_sure_2 : decode cX7_sure 2 = .ok (.invokevirtual 105, 3) := by decide +kernel
theorem dX7_sure_5 : decode cX7_sure 5 = .ok (.ifCond .ne 5, 3) := by decide +kernel
theorem dX7_sure_8 : decode cX7_sure 8 = .ok (.iconst (-1), 1) := by decide +kernel
theorem dX7_sure_9 : decode cX7_sure 9 = .ok (.ireturn, 1) := by decide +kernel
theorem dX7_sure_10 : decode cX7_sure 10 = .ok (.aload_n 0, 1) := by decide +kernel
theorem dX7_sure_11 : decode cX7_sure 11 = .ok (.invokevirtual 198, 3) := by decide +kernel
theorem dX7_sure_14 : decode cX7_sure 14 = .ok (.aload_n 0, 1) := by decide +kernel
theorem dX7_sure_15 : decode cX7_sure 15 = .ok (.getfield 46, 3) := by decide +kernel
theorem dX7_sure_18 : decode cX7_sure 18 = .ok (.invokevirtual 181, 3) := by decide +kernel
theorem dX7_sure_21 : decode cX7_sure 21 = .ok (.ifCond .ne 6, 3) := by decide +kernel
theorem dX7_sure_24 : decode cX7_sure 24 = .ok (.bipush (-4), 2) := by decide +kernel
theorem dX7_sure_26 : decode cX7_sure 26 = .ok (.ireturn, 1) := by decide +kernel
theorem dX7_sure_27 : decode cX7_sure 27 = .ok (.aload_n 0, 1) := by decide +kernel
theorem dX7_sure_28 : decode cX7_sure 28 = .ok (.getfield 46, 3) := by decide +kernel
theorem dX7_sure_31 : decode cX7_sure 31 = .ok (.invokevirtual 201, 3) := by decide +kernel
theorem dX7_sure_34 : decode cX7_sure 34 = .ok (.ifCond .eq 10, 3) := by decide +kernel
theorem dX7_sure_37 : decode cX7_sure 37 = .ok (.aload_n 0, 1) := by decide +kernel
theorem dX7_sure_38 : decode cX7_sure 38 = .ok (.getfield 46, 3) := by decide +kernel
theorem dX7_sure_41 : decode cX7_sure 41 = .ok (.invokevirtual 184, 3) := by decide +kernel
theorem dX7_sure_44 : decode cX7_sure 44 = .ok (.aload_n 0, 1) := by decide +kernel
theorem dX7_sure_45 : decode cX7_sure 45 = .ok (.getfield 46, 3) := by decide +kernel
theorem dX7_sure_48 : decode cX7_sure 48 = .ok (.iload_n 1, 1) := by decide +kernel
theorem dX7_sure_49 : decode cX7_sure 49 = .ok (.invokevirtual 187, 3) := by decide +kernel
theorem dX7_sure_52 : decode cX7_sure 52 = .ok (.ireturn, 1) := by decide +kernel
theorem dX7_lacks_0 : decode cX7_lacks 0 = .ok (.aload_n 0, 1) := by decide +kernel
theorem dX7_lacks_1 : decode cX7_lacks 1 = .ok (.iload_n 1, 1) := by decide +kernel
theorem dX7_lacks_2 : decode cX7_lacks 2 = .ok (.invokevirtual 105, 3) := by decide +kernel
theorem dX7_lacks_5 : decode cX7_lacks 5 = .ok (.ifCond .eq 12, 3) := by decide +kernel
theorem dX7_lacks_8 : decode cX7_lacks 8 = .ok (.iload_n 2, 1) := by decide +kernel
theorem dX7_lacks_9 : decode cX7_lacks 9 = .ok (.iconst 0, 1) := by decide +kernel
theorem dX7_lacks_10 : decode cX7_lacks 10 = .ok (.iconst 1, 1) := by decide +kernel
theorem dX7_lacks_11 : decode cX7_lacks 11 = .ok (.invokestatic 78, 3) := by decide +kernel
theorem dX7_lacks_14 : decode cX7_lacks 14 = .ok (.ifCond .ne 5, 3) := by decide +kernel
theorem dX7_lacks_17 : decode cX7_lacks 17 = .ok (.iconst (-1), 1) := by decide +kernel
theorem dX7_lacks_18 : decode cX7_lacks 18 = .ok (.ireturn, 1) := by decide +kernel
theorem dX7_lacks_19 : decode cX7_lacks 19 = .ok (.aload_n 0, 1) := by decide +kernel
theorem dX7_lacks_20 : decode cX7_lacks 20 = .ok (.getfield 29, 3) := by decide +kernel
theorem dX7_lacks_23 : decode cX7_lacks 23 = .ok (.iload_n 1, 1) := by decide +kernel
theorem dX7_lacks_24 : decode cX7_lacks 24 = .ok (.invokevirtual 116, 3) := by decide +kernel
theorem dX7_lacks_27 : decode cX7_lacks 27 = .ok (.istore_n 3, 1) := by decide +kernel
theorem dX7_lacks_28 : decode cX7_lacks 28 = .ok (.iconst 0, 1) := by decide +kernel
theorem dX7_lacks_29 : decode cX7_lacks 29 = .ok (.istore 4, 2) := by decide +kernel
theorem dX7_lacks_31 : decode cX7_lacks 31 = .ok (.iload 4, 2) := by decide +kernel
theorem dX7_lacks_33 : decode cX7_lacks 33 = .ok (.bipush 40, 2) := by decide +kernel
theorem dX7_lacks_35 : decode cX7_lacks 35 = .ok (.if_icmp .ge 48, 3) := by decide +kernel
theorem dX7_lacks_38 : decode cX7_lacks 38 = .ok (.aload_n 0, 1) := by decide +kernel
theorem dX7_lacks_39 : decode cX7_lacks 39 = .ok (.getfield 39, 3) := by decide +kernel
theorem dX7_lacks_42 : decode cX7_lacks 42 = .ok (.aload_n 0, 1) := by decide +kernel
theorem dX7_lacks_43 : decode cX7_lacks 43 = .ok (.getfield 39, 3) := by decide +kernel
theorem dX7_lacks_46 : decode cX7_lacks 46 = .ok (.iload 4, 2) := by decide +kernel
theorem dX7_lacks_48 : decode cX7_lacks 48 = .ok (.i2l, 1) := by decide +kernel
theorem dX7_lacks_49 : decode cX7_lacks 49 = .ok (.iload_n 3, 1) := by decide +kernel
theorem dX7_lacks_50 : decode cX7_lacks 50 = .ok (.invokevirtual 204, 3) := by decide +kernel
theorem dX7_lacks_53 : decode cX7_lacks 53 = .ok (.invokevirtual 207, 3) := by decide +kernel
theorem dX7_lacks_56 : decode cX7_lacks 56 = .ok (.istore 5, 2) := by decide +kernel
theorem dX7_lacks_58 : decode cX7_lacks 58 = .ok (.iload 5, 2) := by decide +kernel
theorem dX7_lacks_60 : decode cX7_lacks 60 = .ok (.bipush (-4), 2) := by decide +kernel
theorem dX7_lacks_62 : decode cX7_lacks 62 = .ok (.if_icmp .eq 15, 3) := by decide +kernel
theorem dX7_lacks_65 : decode cX7_lacks 65 = .ok (.iload_n 2, 1) := by decide +kernel
theorem dX7_lacks_66 : decode cX7_lacks 66 = .ok (.ifCond .ne 8, 3) := by decide +kernel
theorem dX7_lacks_69 : decode cX7_lacks 69 = .ok (.iload 4, 2) := by decide +kernel
theorem dX7_lacks_71 : decode cX7_lacks 71 = .ok (.goto 5, 3) := by decide +kernel
theorem dX7_lacks_74 : decode cX7_lacks 74 = .ok (.iload 5, 2) := by decide +kernel
theorem dX7_lacks_76 : decode cX7_lacks 76 = .ok (.ireturn, 1) := by decide +kernel
theorem dX7_lacks_77 : decode cX7_lacks 77 = .ok (.iinc 4 1, 3) := by decide +kernel
theorem dX7_lacks_80 : decode cX7_lacks 80 = .ok (.goto (-49), 3) := by decide +kernel
theorem dX7_lacks_83 : decode cX7_lacks 83 = .ok (.bipush (-4), 2) := by decide +kernel
theorem dX7_lacks_85 : decode cX7_lacks 85 = .ok (.ireturn, 1) := by decide +kernel
theorem dX7_notice_0 : decode cX7_notice 0 = .ok (.aload_n 0, 1) := by decide +kernel
theorem dX7_notice_1 : decode cX7_notice 1 = .ok (.iload_n 1, 1) := by decide +kernel
theorem dX7_notice_2 : decode cX7_notice 2 = .ok (.invokevirtual 105, 3) := by decide +kernel
theorem dX7_notice_5 : decode cX7_notice 5 = .ok (.ifCond .eq 22, 3) := by decide +kernel
theorem dX7_notice_8 : decode cX7_notice 8 = .ok (.aload_n 0, 1) := by decide +kernel
theorem dX7_notice_9 : decode cX7_notice 9 = .ok (.iload_n 2, 1) := by decide +kernel
theorem dX7_notice_10 : decode cX7_notice 10 = .ok (.invokevirtual 105, 3) := by decide +kernel
theorem dX7_notice_13 : decode cX7_notice 13 = .ok (.ifCond .eq 14, 3) := by decide +kernel
theorem dX7_notice_16 : decode cX7_notice 16 = .ok (.iload_n 3, 1) := by decide +kernel
theorem dX7_notice_17 : decode cX7_notice 17 = .ok (.iconst 0, 1) := by decide +kernel
theorem dX7_notice_18 : decode cX7_notice 18 = .ok (.sipush 1000, 3) := by decide +kernel
theorem dX7_notice_21 : decode cX7_notice 21 = .ok (.invokestatic 78, 3) := by decide +kernel
theorem dX7_notice_24 : decode cX7_notice 24 = .ok (.ifCond .ne 5, 3) := by decide +kernel
theorem dX7_notice_27 : decode cX7_notice 27 = .ok (.iconst (-1), 1) := by decide +kernel
theorem dX7_notice_28 : decode cX7_notice 28 = .ok (.ireturn, 1) := by decide +kernel
theorem dX7_notice_29 : decode cX7_notice 29 = .ok (.iload_n 1, 1) := by decide +kernel
theorem dX7_notice_30 : decode cX7_notice 30 = .ok (.iload_n 2, 1) := by decide +kernel
theorem dX7_notice_31 : decode cX7_notice 31 = .ok (.if_icmp .ne 5, 3) := by decide +kernel
theorem dX7_notice_34 : decode cX7_notice 34 = .ok (.iconst 0, 1) := by decide +kernel
theorem dX7_notice_35 : decode cX7_notice 35 = .ok (.ireturn, 1) := by decide +kernel
theorem dX7_notice_36 : decode cX7_notice 36 = .ok (.aload_n 0, 1) := by decide +kernel
theorem dX7_notice_37 : decode cX7_notice 37 = .ok (.getfield 29, 3) := by decide +kernel
theorem dX7_notice_40 : decode cX7_notice 40 = .ok (.iload_n 1, 1) := by decide +kernel
theorem dX7_notice_41 : decode cX7_notice 41 = .ok (.invokevirtual 116, 3) := by decide +kernel
theorem dX7_notice_44 : decode cX7_notice 44 = .ok (.istore 4, 2) := by decide +kernel
theorem dX7_notice_46 : decode cX7_notice 46 = .ok (.aload_n 0, 1) := by decide +kernel
theorem dX7_notice_47 : decode cX7_notice 47 = .ok (.getfield 29, 3) := by decide +kernel
theorem dX7_notice_50 : decode cX7_notice 50 = .ok (.iload_n 2, 1) := by decide +kernel
theorem dX7_notice_51 : decode cX7_notice 51 = .ok (.invokevirtual 116, 3) := by decide +kernel
theorem dX7_notice_54 : decode cX7_notice 54 = .ok (.istore 5, 2) := by decide +kernel
theorem dX7_notice_56 : decode cX7_notice 56 = .ok (.iconst 0, 1) := by decide +kernel
theorem dX7_notice_57 : decode cX7_notice 57 = .ok (.istore 6, 2) := by decide +kernel
theorem dX7_notice_59 : decode cX7_notice 59 = .ok (.iconst 0, 1) := by decide +kernel
theorem dX7_notice_60 : decode cX7_notice 60 = .ok (.istore 7, 2) := by decide +kernel
theorem dX7_notice_62 : decode cX7_notice 62 = .ok (.iload 7, 2) := by decide +kernel
theorem dX7_notice_64 : decode cX7_notice 64 = .ok (.iload_n 3, 1) := by decide +kernel
theorem dX7_notice_65 : decode cX7_notice 65 = .ok (.if_icmp .ge 34, 3) := by decide +kernel
theorem dX7_notice_68 : decode cX7_notice 68 = .ok (.aload_n 0, 1) := by decide +kernel
theorem dX7_notice_69 : decode cX7_notice 69 = .ok (.iload 7, 2) := by decide +kernel
theorem dX7_notice_71 : decode cX7_notice 71 = .ok (.iload 4, 2) := by decide +kernel
theorem dX7_notice_73 : decode cX7_notice 73 = .ok (.invokevirtual 210, 3) := by decide +kernel
theorem dX7_notice_76 : decode cX7_notice 76 = .ok (.ifCond .ne 14, 3) := by decide +kernel
theorem dX7_notice_79 : decode cX7_notice 79 = .ok (.aload_n 0, 1) := by decide +kernel
theorem dX7_notice_80 : decode cX7_notice 80 = .ok (.iload 7, 2) := by decide +kernel
theorem dX7_notice_82 : decode cX7_notice 82 = .ok (.iload 5, 2) := by decide +kernel
theorem dX7_notice_84 : decode cX7_notice 84 = .ok (.invokevirtual 210, 3) := by decide +kernel
theorem dX7_notice_87 : decode cX7_notice 87 = .ok (.ifCond .eq 6, 3) := by decide +kernel
theorem dX7_notice_90 : decode cX7_notice 90 = .ok (.iinc 6 1, 3) := by decide +kernel
theorem dX7_notice_93 : decode cX7_notice 93 = .ok (.iinc 7 1, 3) := by decide +kernel
theorem dX7_notice_96 : decode cX7_notice 96 = .ok (.goto (-34), 3) := by decide +kernel
theorem dX7_notice_99 : decode cX7_notice 99 = .ok (.iload 6, 2) := by decide +kernel
theorem dX7_notice_101 : decode cX7_notice 101 = .ok (.ireturn, 1) := by decide +kernel
theorem dX7_pleased_0 : decode cX7_pleased 0 = .ok (.iload_n 1, 1) := by decide +kernel
theorem dX7_pleased_1 : decode cX7_pleased 1 = .ok (.iconst 1, 1) := by decide +kernel
theorem dX7_pleased_2 : decode cX7_pleased 2 = .ok (.bipush 100, 2) := by decide +kernel
theorem dX7_pleased_4 : decode cX7_pleased 4 = .ok (.invokestatic 78, 3) := by decide +kernel
theorem dX7_pleased_7 : decode cX7_pleased 7 = .ok (.ifCond .eq 12, 3) := by decide +kernel
theorem dX7_pleased_10 : decode cX7_pleased 10 = .ok (.iload_n 2, 1) := by decide +kernel
theorem dX7_pleased_11 : decode cX7_pleased 11 = .ok (.iconst 0, 1) := by decide +kernel
theorem dX7_pleased_12 : decode cX7_pleased 12 = .ok (.iconst 1, 1) := by decide +kernel
theorem dX7_pleased_13 : decode cX7_pleased 13 = .ok (.invokestatic 78, 3) := by decide +kernel
theorem dX7_pleased_16 : decode cX7_pleased 16 = .ok (.ifCond .ne 5, 3) := by decide +kernel
theorem dX7_pleased_19 : decode cX7_pleased 19 = .ok (.iconst (-1), 1) := by decide +kernel
theorem dX7_pleased_20 : decode cX7_pleased 20 = .ok (.ireturn, 1) := by decide +kernel
theorem dX7_pleased_21 : decode cX7_pleased 21 = .ok (.iconst 0, 1) := by decide +kernel
theorem dX7_pleased_22 : decode cX7_pleased 22 = .ok (.istore_n 3, 1) := by decide +kernel
theorem dX7_pleased_23 : decode cX7_pleased 23 = .ok (.bipush (-4), 2) := by decide +kernel
theorem dX7_pleased_25 : decode cX7_pleased 25 = .ok (.istore 4, 2) := by decide +kernel
theorem dX7_pleased_27 : decode cX7_pleased 27 = .ok (.iconst 0, 1) := by decide +kernel
theorem dX7_pleased_28 : decode cX7_pleased 28 = .ok (.istore 5, 2) := by decide +kernel
theorem dX7_pleased_30 : decode cX7_pleased 30 = .ok (.iload 5, 2) := by decide +kernel
theorem dX7_pleased_32 : decode cX7_pleased 32 = .ok (.aload_n 0, 1) := by decide +kernel
theorem dX7_pleased_33 : decode cX7_pleased 33 = .ok (.getfield 23, 3) := by decide +kernel
theorem dX7_pleased_36 : decode cX7_pleased 36 = .ok (.getfield 101, 3) := by decide +kernel
theorem dX7_pleased_39 : decode cX7_pleased 39 = .ok (.if_icmp .ge 32, 3) := by decide +kernel
theorem dX7_pleased_42 : decode cX7_pleased 42 = .ok (.aload_n 0, 1) := by decide +kernel
theorem dX7_pleased_43 : decode cX7_pleased 43 = .ok (.iload 5, 2) := by decide +kernel
theorem dX7_pleased_45 : decode cX7_pleased 45 = .ok (.iload_n 1, 1) := by decide +kernel
theorem dX7_pleased_46 : decode cX7_pleased 46 = .ok (.invokevirtual 214, 3) := by decide +kernel
theorem dX7_pleased_49 : decode cX7_pleased 49 = .ok (.istore 6, 2) := by decide +kernel
theorem dX7_pleased_51 : decode cX7_pleased 51 = .ok (.iload 6, 2) := by decide +kernel
theorem dX7_pleased_53 : decode cX7_pleased 53 = .ok (.iload 4, 2) := by decide +kernel
theorem dX7_pleased_55 : decode cX7_pleased 55 = .ok (.if_icmp .le 10, 3) := by decide +kernel
theorem dX7_pleased_58 : decode cX7_pleased 58 = .ok (.iload 5, 2) := by decide +kernel
theorem dX7_pleased_60 : decode cX7_pleased 60 = .ok (.istore_n 3, 1) := by decide +kernel
theorem dX7_pleased_61 : decode cX7_pleased 61 = .ok (.iload 6, 2) := by decide +kernel
theorem dX7_pleased_63 : decode cX7_pleased 63 = .ok (.istore 4, 2) := by decide +kernel
theorem dX7_pleased_65 : decode cX7_pleased 65 = .ok (.iinc 5 1, 3) := by decide +kernel
theorem dX7_pleased_68 : decode cX7_pleased 68 = .ok (.goto (-38), 3) := by decide +kernel
theorem dX7_pleased_71 : decode cX7_pleased 71 = .ok (.iload_n 2, 1) := by decide +kernel
theorem dX7_pleased_72 : decode cX7_pleased 72 = .ok (.ifCond .ne 7, 3) := by decide +kernel
theorem dX7_pleased_75 : decode cX7_pleased 75 = .ok (.iload_n 3, 1) := by decide +kernel
theorem dX7_pleased_76 : decode cX7_pleased 76 = .ok (.goto 5, 3) := by decide +kernel
theorem dX7_pleased_79 : decode cX7_pleased 79 = .ok (.iload 4, 2) := by decide +kernel
theorem dX7_pleased_81 : decode cX7_pleased 81 = .ok (.ireturn, 1) := by decide +kernel
theorem dX7_keep_0 : decode cX7_keep 0 = .ok (.aload_n 0, 1) := by decide +kernel
theorem dX7_keep_1 : decode cX7_keep 1 = .ok (.getfield 217, 3) := by decide +kernel
theorem dX7_keep_4 : decode cX7_keep 4 = .ok (.iconst 2, 1) := by decide +kernel
theorem dX7_keep_5 : decode cX7_keep 5 = .ok (.if_icmp .lt 6, 3) := by decide +kernel
theorem dX7_keep_8 : decode cX7_keep 8 = .ok (.bipush (-3), 2) := by decide +kernel
theorem dX7_keep_10 : decode cX7_keep 10 = .ok (.ireturn, 1) := by decide +kernel
theorem dX7_keep_11 : decode cX7_keep 11 = .ok (.aload_n 0, 1) := by decide +kernel
theorem dX7_keep_12 : decode cX7_keep 12 = .ok (.aload_n 0, 1) := by decide +kernel
theorem dX7_keep_13 : decode cX7_keep 13 = .ok (.getfield 217, 3) := by decide +kernel
theorem dX7_keep_16 : decode cX7_keep 16 = .ok (.invokevirtual 220, 3) := by decide +kernel
theorem dX7_keep_19 : decode cX7_keep 19 = .ok (.aload_n 0, 1) := by decide +kernel
theorem dX7_keep_20 : decode cX7_keep 20 = .ok (.getfield 65, 3) := by decide +kernel
theorem dX7_keep_23 : decode cX7_keep 23 = .ok (.invokevirtual 224, 3) := by decide +kernel
theorem dX7_keep_26 : decode cX7_keep 26 = .ok (.aload_n 0, 1) := by decide +kernel
theorem dX7_keep_27 : decode cX7_keep 27 = .ok (.dup, 1) := by decide +kernel
theorem dX7_keep_28 : decode cX7_keep 28 = .ok (.getfield 217, 3) := by decide +kernel
theorem dX7_keep_31 : decode cX7_keep 31 = .ok (.iconst 1, 1) := by decide +kernel
theorem dX7_keep_32 : decode cX7_keep 32 = .ok (.iadd, 1) := by decide +kernel
theorem dX7_keep_33 : decode cX7_keep 33 = .ok (.putfield 217, 3) := by decide +kernel
theorem dX7_keep_36 : decode cX7_keep 36 = .ok (.aload_n 0, 1) := by decide +kernel
theorem dX7_keep_37 : decode cX7_keep 37 = .ok (.getfield 217, 3) := by decide +kernel
theorem dX7_keep_40 : decode cX7_keep 40 = .ok (.ireturn, 1) := by decide +kernel
theorem dX7_back_0 : decode cX7_back 0 = .ok (.aload_n 0, 1) := by decide +kernel
theorem dX7_back_1 : decode cX7_back 1 = .ok (.getfield 217, 3) := by decide +kernel
theorem dX7_back_4 : decode cX7_back 4 = .ok (.ifCond .gt 6, 3) := by decide +kernel
theorem dX7_back_7 : decode cX7_back 7 = .ok (.bipush (-2), 2) := by decide +kernel
theorem dX7_back_9 : decode cX7_back 9 = .ok (.ireturn, 1) := by decide +kernel
theorem dX7_back_10 : decode cX7_back 10 = .ok (.aload_n 0, 1) := by decide +kernel
theorem dX7_back_11 : decode cX7_back 11 = .ok (.dup, 1) := by decide +kernel
theorem dX7_back_12 : decode cX7_back 12 = .ok (.getfield 217, 3) := by decide +kernel
theorem dX7_back_15 : decode cX7_back 15 = .ok (.iconst 1, 1) := by decide +kernel
theorem dX7_back_16 : decode cX7_back 16 = .ok (.isub, 1) := by decide +kernel
theorem dX7_back_17 : decode cX7_back 17 = .ok (.putfield 217, 3) := by decide +kernel
theorem dX7_back_20 : decode cX7_back 20 = .ok (.aload_n 0, 1) := by decide +kernel
theorem dX7_back_21 : decode cX7_back 21 = .ok (.getfield 65, 3) := by decide +kernel
theorem dX7_back_24 : decode cX7_back 24 = .ok (.aload_n 0, 1) := by decide +kernel
theorem dX7_back_25 : decode cX7_back 25 = .ok (.aload_n 0, 1) := by decide +kernel
theorem dX7_back_26 : decode cX7_back 26 = .ok (.getfield 217, 3) := by decide +kernel
theorem dX7_back_29 : decode cX7_back 29 = .ok (.invokevirtual 220, 3) := by decide +kernel
theorem dX7_back_32 : decode cX7_back 32 = .ok (.invokevirtual 224, 3) := by decide +kernel
theorem dX7_back_35 : decode cX7_back 35 = .ok (.aload_n 0, 1) := by decide +kernel
theorem dX7_back_36 : decode cX7_back 36 = .ok (.getfield 217, 3) := by decide +kernel
theorem dX7_back_39 : decode cX7_back 39 = .ok (.ireturn, 1) := by decide +kernel
theorem dX7_count_0 : decode cX7_count 0 = .ok (.iload_n 1, 1) := by decide +kernel
theorem dX7_count_1 : decode cX7_count 1 = .ok (.iconst 0, 1) := by decide +kernel
theorem dX7_count_2 : decode cX7_count 2 = .ok (.bipush 7, 2) := by decide +kernel
theorem dX7_count_4 : decode cX7_count 4 = .ok (.invokestatic 78, 3) := by decide +kernel
theorem dX7_count_7 : decode cX7_count 7 = .ok (.ifCond .ne 5, 3) := by decide +kernel
theorem dX7_count_10 : decode cX7_count 10 = .ok (.iconst (-1), 1) := by decide +kernel
theorem dX7_count_11 : decode cX7_count 11 = .ok (.ireturn, 1) := by decide +kernel
theorem dX7_count_12 : decode cX7_count 12 = .ok (.iload_n 1, 1) := by decide +kernel
theorem dX7_count_13 : decode cX7_count 13 = .ok (.tableswitch 93 0 6 #[43, 51, 59, 67, 75, 83, 88], 43) := by decide +kernel
theorem dX7_count_56 : decode cX7_count 56 = .ok (.aload_n 0, 1) := by decide +kernel
theorem dX7_count_57 : decode cX7_count 57 = .ok (.getfield 23, 3) := by decide +kernel
theorem dX7_count_60 : decode cX7_count 60 = .ok (.getfield 101, 3) := by decide +kernel
theorem dX7_count_63 : decode cX7_count 63 = .ok (.ireturn, 1) := by decide +kernel
theorem dX7_count_64 : decode cX7_count 64 = .ok (.aload_n 0, 1) := by decide +kernel
theorem dX7_count_65 : decode cX7_count 65 = .ok (.getfield 23, 3) := by decide +kernel
theorem dX7_count_68 : decode cX7_count 68 = .ok (.getfield 123, 3) := by decide +kernel
theorem dX7_count_71 : decode cX7_count 71 = .ok (.ireturn, 1) := by decide +kernel
theorem dX7_count_72 : decode cX7_count 72 = .ok (.aload_n 0, 1) := by decide +kernel
theorem dX7_count_73 : decode cX7_count 73 = .ok (.getfield 23, 3) := by decide +kernel
theorem dX7_count_76 : decode cX7_count 76 = .ok (.getfield 228, 3) := by decide +kernel
theorem dX7_count_79 : decode cX7_count 79 = .ok (.ireturn, 1) := by decide +kernel
theorem dX7_count_80 : decode cX7_count 80 = .ok (.aload_n 0, 1) := by decide +kernel
theorem dX7_count_81 : decode cX7_count 81 = .ok (.getfield 65, 3) := by decide +kernel
theorem dX7_count_84 : decode cX7_count 84 = .ok (.getfield 126, 3) := by decide +kernel
theorem dX7_count_87 : decode cX7_count 87 = .ok (.ireturn, 1) := by decide +kernel
theorem dX7_count_88 : decode cX7_count 88 = .ok (.aload_n 0, 1) := by decide +kernel
theorem dX7_count_89 : decode cX7_count 89 = .ok (.getfield 65, 3) := by decide +kernel
theorem dX7_count_92 : decode cX7_count 92 = .ok (.getfield 231, 3) := by decide +kernel
theorem dX7_count_95 : decode cX7_count 95 = .ok (.ireturn, 1) := by decide +kernel
theorem dX7_count_96 : decode cX7_count 96 = .ok (.aload_n 0, 1) := by decide +kernel
theorem dX7_count_97 : decode cX7_count 97 = .ok (.getfield 192, 3) := by decide +kernel
theorem dX7_count_100 : decode cX7_count 100 = .ok (.ireturn, 1) := by decide +kernel
theorem dX7_count_101 : decode cX7_count 101 = .ok (.aload_n 0, 1) := by decide +kernel
theorem dX7_count_102 : decode cX7_count 102 = .ok (.getfield 217, 3) := by decide +kernel
theorem dX7_count_105 : decode cX7_count 105 = .ok (.ireturn, 1) := by decide +kernel
theorem dX7_count_106 : decode cX7_count 106 = .ok (.aload_n 0, 1) := by decide +kernel
theorem dX7_count_107 : decode cX7_count 107 = .ok (.getfield 10, 3) := by decide +kernel
theorem dX7_count_110 : decode cX7_count 110 = .ok (.invokevirtual 82, 3) := by decide +kernel
theorem dX7_count_113 : decode cX7_count 113 = .ok (.ireturn, 1) := by decide +kernel
theorem dX7_startAnew_0 : decode cX7_startAnew 0 = .ok (.aload_n 0, 1) := by decide +kernel
theorem dX7_startAnew_1 : decode cX7_startAnew 1 = .ok (.getfield 23, 3) := by decide +kernel
theorem dX7_startAnew_4 : decode cX7_startAnew 4 = .ok (.aload_n 0, 1) := by decide +kernel
theorem dX7_startAnew_5 : decode cX7_startAnew 5 = .ok (.getfield 29, 3) := by decide +kernel
theorem dX7_startAnew_8 : decode cX7_startAnew 8 = .ok (.invokevirtual 234, 3) := by decide +kernel
theorem dX7_startAnew_11 : decode cX7_startAnew 11 = .ok (.aload_n 0, 1) := by decide +kernel
theorem dX7_startAnew_12 : decode cX7_startAnew 12 = .ok (.getfield 39, 3) := by decide +kernel
theorem dX7_startAnew_15 : decode cX7_startAnew 15 = .ok (.aload_n 0, 1) := by decide +kernel
theorem dX7_startAnew_16 : decode cX7_startAnew 16 = .ok (.getfield 23, 3) := by decide +kernel
theorem dX7_startAnew_19 : decode cX7_startAnew 19 = .ok (.invokevirtual 238, 3) := by decide +kernel
theorem dX7_startAnew_22 : decode cX7_startAnew 22 = .ok (.aload_n 0, 1) := by decide +kernel
theorem dX7_startAnew_23 : decode cX7_startAnew 23 = .ok (.getfield 65, 3) := by decide +kernel
theorem dX7_startAnew_26 : decode cX7_startAnew 26 = .ok (.aload_n 0, 1) := by decide +kernel
theorem dX7_startAnew_27 : decode cX7_startAnew 27 = .ok (.getfield 29, 3) := by decide +kernel
theorem dX7_startAnew_30 : decode cX7_startAnew 30 = .ok (.invokevirtual 242, 3) := by decide +kernel
theorem dX7_startAnew_33 : decode cX7_startAnew 33 = .ok (.aload_n 0, 1) := by decide +kernel
theorem dX7_startAnew_34 : decode cX7_startAnew 34 = .ok (.iconst 0, 1) := by decide +kernel
theorem dX7_startAnew_35 : decode cX7_startAnew 35 = .ok (.putfield 192, 3) := by decide +kernel
theorem dX7_startAnew_38 : decode cX7_startAnew 38 = .ok (.aload_n 0, 1) := by decide +kernel
theorem dX7_startAnew_39 : decode cX7_startAnew 39 = .ok (.iconst 0, 1) := by decide +kernel
theorem dX7_startAnew_40 : decode cX7_startAnew 40 = .ok (.putfield 217, 3) := by decide +kernel
theorem dX7_startAnew_43 : decode cX7_startAnew 43 = .ok (.return_, 1) := by decide +kernel
theorem dX7_keptPack_0 : decode cX7_keptPack 0 = .ok (.iload_n 1, 1) := by decide +kernel
theorem dX7_keptPack_1 : decode cX7_keptPack 1 = .ok (.ifCond .ne 10, 3) := by decide +kernel
theorem dX7_keptPack_4 : decode cX7_keptPack 4 = .ok (.aload_n 0, 1) := by decide +kernel
theorem dX7_keptPack_5 : decode cX7_keptPack 5 = .ok (.getfield 69, 3) := by decide +kernel
theorem dX7_keptPack_8 : decode cX7_keptPack 8 = .ok (.goto 7, 3) := by decide +kernel
theorem dX7_keptPack_11 : decode cX7_keptPack 11 = .ok (.aload_n 0, 1) := by decide +kernel
theorem dX7_keptPack_12 : decode cX7_keptPack 12 = .ok (.getfield 72, 3) := by decide +kernel
theorem dX7_keptPack_15 : decode cX7_keptPack 15 = .ok (.areturn, 1) := by decide +kernel
theorem dX7_isBelowCount_0 : decode cX7_isBelowCount 0 = .ok (.iload_n 1, 1) := by decide +kernel
theorem dX7_isBelowCount_1 : decode cX7_isBelowCount 1 = .ok (.iconst 0, 1) := by decide +kernel
theorem dX7_isBelowCount_2 : decode cX7_isBelowCount 2 = .ok (.aload_n 0, 1) := by decide +kernel
theorem dX7_isBelowCount_3 : decode cX7_isBelowCount 3 = .ok (.getfield 23, 3) := by decide +kernel
theorem dX7_isBelowCount_6 : decode cX7_isBelowCount 6 = .ok (.getfield 101, 3) := by decide +kernel
theorem dX7_isBelowCount_9 : decode cX7_isBelowCount 9 = .ok (.iconst 1, 1) := by decide +kernel
theorem dX7_isBelowCount_10 : decode cX7_isBelowCount 10 = .ok (.isub, 1) := by decide +kernel
theorem dX7_isBelowCount_11 : decode cX7_isBelowCount 11 = .ok (.invokestatic 78, 3) := by decide +kernel
theorem dX7_isBelowCount_14 : decode cX7_isBelowCount 14 = .ok (.ireturn, 1) := by decide +kernel
theorem dX7_isTurn_0 : decode cX7_isTurn 0 = .ok (.iload_n 1, 1) := by decide +kernel
theorem dX7_isTurn_1 : decode cX7_isTurn 1 = .ok (.iconst 0, 1) := by decide +kernel
theorem dX7_isTurn_2 : decode cX7_isTurn 2 = .ok (.aload_n 0, 1) := by decide +kernel
theorem dX7_isTurn_3 : decode cX7_isTurn 3 = .ok (.getfield 23, 3) := by decide +kernel
theorem dX7_isTurn_6 : decode cX7_isTurn 6 = .ok (.getfield 123, 3) := by decide +kernel
theorem dX7_isTurn_9 : decode cX7_isTurn 9 = .ok (.iconst 1, 1) := by decide +kernel
theorem dX7_isTurn_10 : decode cX7_isTurn 10 = .ok (.isub, 1) := by decide +kernel
theorem dX7_isTurn_11 : decode cX7_isTurn 11 = .ok (.invokestatic 78, 3) := by decide +kernel
theorem dX7_isTurn_14 : decode cX7_isTurn 14 = .ok (.ireturn, 1) := by decide +kernel
theorem dX7_leafHad_0 : decode cX7_leafHad 0 = .ok (.aload_n 0, 1) := by decide +kernel
theorem dX7_leafHad_1 : decode cX7_leafHad 1 = .ok (.getfield 29, 3) := by decide +kernel
theorem dX7_leafHad_4 : decode cX7_leafHad 4 = .ok (.aload_n 0, 1) := by decide +kernel
theorem dX7_leafHad_5 : decode cX7_leafHad 5 = .ok (.getfield 39, 3) := by decide +kernel
theorem dX7_leafHad_8 : decode cX7_leafHad 8 = .ok (.lload_n 1, 1) := by decide +kernel
theorem dX7_leafHad_9 : decode cX7_leafHad 9 = .ok (.iload_n 3, 1) := by decide +kernel
theorem dX7_leafHad_10 : decode cX7_leafHad 10 = .ok (.invokevirtual 175, 3) := by decide +kernel
theorem dX7_leafHad_13 : decode cX7_leafHad 13 = .ok (.invokevirtual 112, 3) := by decide +kernel
theorem dX7_leafHad_16 : decode cX7_leafHad 16 = .ok (.ireturn, 1) := by decide +kernel
theorem dX7_leavesHad_0 : decode cX7_leavesHad 0 = .ok (.lconst 0, 1) := by decide +kernel
theorem dX7_leavesHad_1 : decode cX7_leavesHad 1 = .ok (.lstore_n 3, 1) := by decide +kernel
theorem dX7_leavesHad_2 : decode cX7_leavesHad 2 = .ok (.iconst 0, 1) := by decide +kernel
theorem dX7_leavesHad_3 : decode cX7_leavesHad 3 = .ok (.istore 5, 2) := by decide +kernel
theorem dX7_leavesHad_5 : decode cX7_leavesHad 5 = .ok (.iload 5, 2) := by decide +kernel
theorem dX7_leavesHad_7 : decode cX7_leavesHad 7 = .ok (.aload_n 0, 1) := by decide +kernel
theorem dX7_leavesHad_8 : decode cX7_leavesHad 8 = .ok (.getfield 23, 3) := by decide +kernel
theorem dX7_leavesHad_11 : decode cX7_leavesHad 11 = .ok (.getfield 123, 3) := by decide +kernel
theorem dX7_leavesHad_14 : decode cX7_leavesHad 14 = .ok (.if_icmp .ge 22, 3) := by decide +kernel
theorem dX7_leavesHad_17 : decode cX7_leavesHad 17 = .ok (.lload_n 3, 1) := by decide +kernel
theorem dX7_leavesHad_18 : decode cX7_leavesHad 18 = .ok (.aload_n 0, 1) := by decide +kernel
theorem dX7_leavesHad_19 : decode cX7_leavesHad 19 = .ok (.lload_n 1, 1) := by decide +kernel
theorem dX7_leavesHad_20 : decode cX7_leavesHad 20 = .ok (.iload 5, 2) := by decide +kernel
theorem dX7_leavesHad_22 : decode cX7_leavesHad 22 = .ok (.invokevirtual 143, 3) := by decide +kernel
theorem dX7_leavesHad_25 : decode cX7_leavesHad 25 = .ok (.invokestatic 162, 3) := by decide +kernel
theorem dX7_leavesHad_28 : decode cX7_leavesHad 28 = .ok (.lor, 1) := by decide +kernel
theorem dX7_leavesHad_29 : decode cX7_leavesHad 29 = .ok (.lstore_n 3, 1) := by decide +kernel
theorem dX7_leavesHad_30 : decode cX7_leavesHad 30 = .ok (.iinc 5 1, 3) := by decide +kernel
theorem dX7_leavesHad_33 : decode cX7_leavesHad 33 = .ok (.goto (-28), 3) := by decide +kernel
theorem dX7_leavesHad_36 : decode cX7_leavesHad 36 = .ok (.lload_n 3, 1) := by decide +kernel
theorem dX7_leavesHad_37 : decode cX7_leavesHad 37 = .ok (.lreturn, 1) := by decide +kernel
theorem dX7_isReadBy_0 : decode cX7_isReadBy 0 = .ok (.aload_n 0, 1) := by decide +kernel
theorem dX7_isReadBy_1 : decode cX7_isReadBy 1 = .ok (.getfield 39, 3) := by decide +kernel
theorem dX7_isReadBy_4 : decode cX7_isReadBy 4 = .ok (.aload_n 0, 1) := by decide +kernel
theorem dX7_isReadBy_5 : decode cX7_isReadBy 5 = .ok (.getfield 39, 3) := by decide +kernel
theorem dX7_isReadBy_8 : decode cX7_isReadBy 8 = .ok (.iload_n 1, 1) := by decide +kernel
theorem dX7_isReadBy_9 : decode cX7_isReadBy 9 = .ok (.i2l, 1) := by decide +kernel
theorem dX7_isReadBy_10 : decode cX7_isReadBy 10 = .ok (.iload_n 2, 1) := by decide +kernel
theorem dX7_isReadBy_11 : decode cX7_isReadBy 11 = .ok (.invokevirtual 204, 3) := by decide +kernel
theorem dX7_isReadBy_14 : decode cX7_isReadBy 14 = .ok (.invokevirtual 207, 3) := by decide +kernel
theorem dX7_isReadBy_17 : decode cX7_isReadBy 17 = .ok (.bipush (-4), 2) := by decide +kernel
theorem dX7_isReadBy_19 : decode cX7_isReadBy 19 = .ok (.if_icmp .eq 7, 3) := by decide +kernel
theorem dX7_isReadBy_22 : decode cX7_isReadBy 22 = .ok (.iconst 1, 1) := by decide +kernel
theorem dX7_isReadBy_23 : decode cX7_isReadBy 23 = .ok (.goto 4, 3) := by decide +kernel
theorem dX7_isReadBy_26 : decode cX7_isReadBy 26 = .ok (.iconst 0, 1) := by decide +kernel
theorem dX7_isReadBy_27 : decode cX7_isReadBy 27 = .ok (.ireturn, 1) := by decide +kernel
theorem dX7_guessFromSeen_0 : decode cX7_guessFromSeen 0 = .ok (.aload_n 0, 1) := by decide +kernel
theorem dX7_guessFromSeen_1 : decode cX7_guessFromSeen 1 = .ok (.getfield 46, 3) := by decide +kernel
theorem dX7_guessFromSeen_4 : decode cX7_guessFromSeen 4 = .ok (.aload_n 0, 1) := by decide +kernel
theorem dX7_guessFromSeen_5 : decode cX7_guessFromSeen 5 = .ok (.getfield 23, 3) := by decide +kernel
theorem dX7_guessFromSeen_8 : decode cX7_guessFromSeen 8 = .ok (.getfield 101, 3) := by decide +kernel
theorem dX7_guessFromSeen_11 : decode cX7_guessFromSeen 11 = .ok (.invokevirtual 172, 3) := by decide +kernel
theorem dX7_guessFromSeen_14 : decode cX7_guessFromSeen 14 = .ok (.iconst 0, 1) := by decide +kernel
theorem dX7_guessFromSeen_15 : decode cX7_guessFromSeen 15 = .ok (.istore_n 1, 1) := by decide +kernel
theorem dX7_guessFromSeen_16 : decode cX7_guessFromSeen 16 = .ok (.iload_n 1, 1) := by decide +kernel
theorem dX7_guessFromSeen_17 : decode cX7_guessFromSeen 17 = .ok (.aload_n 0, 1) := by decide +kernel
theorem dX7_guessFromSeen_18 : decode cX7_guessFromSeen 18 = .ok (.getfield 192, 3) := by decide +kernel
theorem dX7_guessFromSeen_21 : decode cX7_guessFromSeen 21 = .ok (.if_icmp .ge 32, 3) := by decide +kernel
theorem dX7_guessFromSeen_24 : decode cX7_guessFromSeen 24 = .ok (.aload_n 0, 1) := by decide +kernel
theorem dX7_guessFromSeen_25 : decode cX7_guessFromSeen 25 = .ok (.getfield 46, 3) := by decide +kernel
theorem dX7_guessFromSeen_28 : decode cX7_guessFromSeen 28 = .ok (.aload_n 0, 1) := by decide +kernel
theorem dX7_guessFromSeen_29 : decode cX7_guessFromSeen 29 = .ok (.getfield 55, 3) := by decide +kernel
theorem dX7_guessFromSeen_32 : decode cX7_guessFromSeen 32 = .ok (.iload_n 1, 1) := by decide +kernel
theorem dX7_guessFromSeen_33 : decode cX7_guessFromSeen 33 = .ok (.invokevirtual 245, 3) := by decide +kernel
theorem dX7_guessFromSeen_36 : decode cX7_guessFromSeen 36 = .ok (.aload_n 0, 1) := by decide +kernel
theorem dX7_guessFromSeen_37 : decode cX7_guessFromSeen 37 = .ok (.getfield 59, 3) := by decide +kernel
theorem dX7_guessFromSeen_40 : decode cX7_guessFromSeen 40 = .ok (.iload_n 1, 1) := by decide +kernel
theorem dX7_guessFromSeen_41 : decode cX7_guessFromSeen 41 = .ok (.invokevirtual 245, 3) := by decide +kernel
theorem dX7_guessFromSeen_44 : decode cX7_guessFromSeen 44 = .ok (.invokevirtual 178, 3) := by decide +kernel
theorem dX7_guessFromSeen_47 : decode cX7_guessFromSeen 47 = .ok (.iinc 1 1, 3) := by decide +kernel
theorem dX7_guessFromSeen_50 : decode cX7_guessFromSeen 50 = .ok (.goto (-34), 3) := by decide +kernel
theorem dX7_guessFromSeen_53 : decode cX7_guessFromSeen 53 = .ok (.return_, 1) := by decide +kernel
theorem dX7_readingsToShowAll_0 : decode cX7_readingsToShowAll 0 = .ok (.aload_n 0, 1) := by decide +kernel
theorem dX7_readingsToShowAll_1 : decode cX7_readingsToShowAll 1 = .ok (.getfield 23, 3) := by decide +kernel
theorem dX7_readingsToShowAll_4 : decode cX7_readingsToShowAll 4 = .ok (.getfield 101, 3) := by decide +kernel
theorem dX7_readingsToShowAll_7 : decode cX7_readingsToShowAll 7 = .ok (.invokestatic 162, 3) := by decide +kernel
theorem dX7_readingsToShowAll_10 : decode cX7_readingsToShowAll 10 = .ok (.lconst 1, 1) := by decide +kernel
theorem dX7_readingsToShowAll_11 : decode cX7_readingsToShowAll 11 = .ok (.lsub, 1) := by decide +kernel
theorem dX7_readingsToShowAll_12 : decode cX7_readingsToShowAll 12 = .ok (.lstore_n 3, 1) := by decide +kernel
theorem dX7_readingsToShowAll_13 : decode cX7_readingsToShowAll 13 = .ok (.aload_n 0, 1) := by decide +kernel
theorem dX7_readingsToShowAll_14 : decode cX7_readingsToShowAll 14 = .ok (.getfield 33, 3) := by decide +kernel
theorem dX7_readingsToShowAll_17 : decode cX7_readingsToShowAll 17 = .ok (.aload_n 0, 1) := by decide +kernel
theorem dX7_readingsToShowAll_18 : decode cX7_readingsToShowAll 18 = .ok (.getfield 23, 3) := by decide +kernel
theorem dX7_readingsToShowAll_21 : decode cX7_readingsToShowAll 21 = .ok (.getfield 101, 3) := by decide +kernel
theorem dX7_readingsToShowAll_24 : decode cX7_readingsToShowAll 24 = .ok (.invokevirtual 248, 3) := by decide +kernel
theorem dX7_readingsToShowAll_27 : decode cX7_readingsToShowAll 27 = .ok (.iconst 0, 1) := by decide +kernel
theorem dX7_readingsToShowAll_28 : decode cX7_readingsToShowAll 28 = .ok (.istore 5, 2) := by decide +kernel
theorem dX7_readingsToShowAll_30 : decode cX7_readingsToShowAll 30 = .ok (.iload 5, 2) := by decide +kernel
theorem dX7_readingsToShowAll_32 : decode cX7_readingsToShowAll 32 = .ok (.iconst 2, 1) := by decide +kernel
theorem dX7_readingsToShowAll_33 : decode cX7_readingsToShowAll 33 = .ok (.aload_n 0, 1) := by decide +kernel
theorem dX7_readingsToShowAll_34 : decode cX7_readingsToShowAll 34 = .ok (.getfield 23, 3) := by decide +kernel
theorem dX7_readingsToShowAll_37 : decode cX7_readingsToShowAll 37 = .ok (.getfield 101, 3) := by decide +kernel
theorem dX7_readingsToShowAll_40 : decode cX7_readingsToShowAll 40 = .ok (.imul, 1) := by decide +kernel
theorem dX7_readingsToShowAll_41 : decode cX7_readingsToShowAll 41 = .ok (.if_icmp .ge 41, 3) := by decide +kernel
theorem dX7_readingsToShowAll_44 : decode cX7_readingsToShowAll 44 = .ok (.lload_n 3, 1) := by decide +kernel
theorem dX7_readingsToShowAll_45 : decode cX7_readingsToShowAll 45 = .ok (.aload_n 0, 1) := by decide +kernel
theorem dX7_readingsToShowAll_46 : decode cX7_readingsToShowAll 46 = .ok (.getfield 33, 3) := by decide +kernel
theorem dX7_readingsToShowAll_49 : decode cX7_readingsToShowAll 49 = .ok (.iload_n 1, 1) := by decide +kernel
theorem dX7_readingsToShowAll_50 : decode cX7_readingsToShowAll 50 = .ok (.iload_n 2, 1) := by decide +kernel
theorem dX7_readingsToShowAll_51 : decode cX7_readingsToShowAll 51 = .ok (.iload 5, 2) := by decide +kernel
theorem dX7_readingsToShowAll_53 : decode cX7_readingsToShowAll 53 = .ok (.invokevirtual 251, 3) := by decide +kernel
theorem dX7_readingsToShowAll_56 : decode cX7_readingsToShowAll 56 = .ok (.invokestatic 162, 3) := by decide +kernel
theorem dX7_readingsToShowAll_59 : decode cX7_readingsToShowAll 59 = .ok (.ldc2_w 151, 3) := by decide +kernel
theorem dX7_readingsToShowAll_62 : decode cX7_readingsToShowAll 62 = .ok (.lxor, 1) := by decide +kernel
theorem dX7_readingsToShowAll_63 : decode cX7_readingsToShowAll 63 = .ok (.land, 1) := by decide +kernel
theorem dX7_readingsToShowAll_64 : decode cX7_readingsToShowAll 64 = .ok (.lstore_n 3, 1) := by decide +kernel
theorem dX7_readingsToShowAll_65 : decode cX7_readingsToShowAll 65 = .ok (.lload_n 3, 1) := by decide +kernel
theorem dX7_readingsToShowAll_66 : decode cX7_readingsToShowAll 66 = .ok (.lconst 0, 1) := by decide +kernel
theorem dX7_readingsToShowAll_67 : decode cX7_readingsToShowAll 67 = .ok (.lcmp, 1) := by decide +kernel
theorem dX7_readingsToShowAll_68 : decode cX7_readingsToShowAll 68 = .ok (.ifCond .ne 8, 3) := by decide +kernel
theorem dX7_readingsToShowAll_71 : decode cX7_readingsToShowAll 71 = .ok (.iload 5, 2) := by decide +kernel
theorem dX7_readingsToShowAll_73 : decode cX7_readingsToShowAll 73 = .ok (.iconst 1, 1) := by decide +kernel
theorem dX7_readingsToShowAll_74 : decode cX7_readingsToShowAll 74 = .ok (.iadd, 1) := by decide +kernel
theorem dX7_readingsToShowAll_75 : decode cX7_readingsToShowAll 75 = .ok (.ireturn, 1) := by decide +kernel
theorem dX7_readingsToShowAll_76 : decode cX7_readingsToShowAll 76 = .ok (.iinc 5 1, 3) := by decide +kernel
theorem dX7_readingsToShowAll_79 : decode cX7_readingsToShowAll 79 = .ok (.goto (-49), 3) := by decide +kernel
theorem dX7_readingsToShowAll_82 : decode cX7_readingsToShowAll 82 = .ok (.bipush (-4), 2) := by decide +kernel
theorem dX7_readingsToShowAll_84 : decode cX7_readingsToShowAll 84 = .ok (.ireturn, 1) := by decide +kernel
theorem dX7_rightWhenLaidAt_0 : decode cX7_rightWhenLaidAt 0 = .ok (.iconst 0, 1) := by decide +kernel
theorem dX7_rightWhenLaidAt_1 : decode cX7_rightWhenLaidAt 1 = .ok (.istore_n 3, 1) := by decide +kernel
theorem dX7_rightWhenLaidAt_2 : decode cX7_rightWhenLaidAt 2 = .ok (.iconst 0, 1) := by decide +kernel
theorem dX7_rightWhenLaidAt_3 : decode cX7_rightWhenLaidAt 3 = .ok (.istore 4, 2) := by decide +kernel
theorem dX7_rightWhenLaidAt_5 : decode cX7_rightWhenLaidAt 5 = .ok (.iload 4, 2) := by decide +kernel
theorem dX7_rightWhenLaidAt_7 : decode cX7_rightWhenLaidAt 7 = .ok (.aload_n 0, 1) := by decide +kernel
theorem dX7_rightWhenLaidAt_8 : decode cX7_rightWhenLaidAt 8 = .ok (.getfield 23, 3) := by decide +kernel
theorem dX7_rightWhenLaidAt_11 : decode cX7_rightWhenLaidAt 11 = .ok (.invokevirtual 166, 3) := by decide +kernel
theorem dX7_rightWhenLaidAt_14 : decode cX7_rightWhenLaidAt 14 = .ok (.if_icmp .ge 50, 3) := by decide +kernel
theorem dX7_rightWhenLaidAt_17 : decode cX7_rightWhenLaidAt 17 = .ok (.aload_n 0, 1) := by decide +kernel
theorem dX7_rightWhenLaidAt_18 : decode cX7_rightWhenLaidAt 18 = .ok (.getfield 39, 3) := by decide +kernel
theorem dX7_rightWhenLaidAt_21 : decode cX7_rightWhenLaidAt 21 = .ok (.iload_n 2, 1) := by decide +kernel
theorem dX7_rightWhenLaidAt_22 : decode cX7_rightWhenLaidAt 22 = .ok (.i2l, 1) := by decide +kernel
theorem dX7_rightWhenLaidAt_23 : decode cX7_rightWhenLaidAt 23 = .ok (.iload 4, 2) := by decide +kernel
theorem dX7_rightWhenLaidAt_25 : decode cX7_rightWhenLaidAt 25 = .ok (.invokevirtual 255, 3) := by decide +kernel
theorem dX7_rightWhenLaidAt_28 : decode cX7_rightWhenLaidAt 28 = .ok (.istore 5, 2) := by decide +kernel
theorem dX7_rightWhenLaidAt_30 : decode cX7_rightWhenLaidAt 30 = .ok (.aload_n 0, 1) := by decide +kernel
theorem dX7_rightWhenLaidAt_31 : decode cX7_rightWhenLaidAt 31 = .ok (.getfield 29, 3) := by decide +kernel
theorem dX7_rightWhenLaidAt_34 : decode cX7_rightWhenLaidAt 34 = .ok (.iload 5, 2) := by decide +kernel
theorem dX7_rightWhenLaidAt_36 : decode cX7_rightWhenLaidAt 36 = .ok (.iload_n 1, 1) := by decide +kernel
theorem dX7_rightWhenLaidAt_37 : decode cX7_rightWhenLaidAt 37 = .ok (.invokestatic 258, 3) := by decide +kernel
theorem dX7_rightWhenLaidAt_40 : decode cX7_rightWhenLaidAt 40 = .ok (.invokevirtual 112, 3) := by decide +kernel
theorem dX7_rightWhenLaidAt_43 : decode cX7_rightWhenLaidAt 43 = .ok (.aload_n 0, 1) := by decide +kernel
theorem dX7_rightWhenLaidAt_44 : decode cX7_rightWhenLaidAt 44 = .ok (.getfield 23, 3) := by decide +kernel
theorem dX7_rightWhenLaidAt_47 : decode cX7_rightWhenLaidAt 47 = .ok (.iload 4, 2) := by decide +kernel
theorem dX7_rightWhenLaidAt_49 : decode cX7_rightWhenLaidAt 49 = .ok (.invokevirtual 169, 3) := by decide +kernel
theorem dX7_rightWhenLaidAt_52 : decode cX7_rightWhenLaidAt 52 = .ok (.if_icmp .ne 6, 3) := by decide +kernel
theorem dX7_rightWhenLaidAt_55 : decode cX7_rightWhenLaidAt 55 = .ok (.iinc 3 1, 3) := by decide +kernel
theorem dX7_rightWhenLaidAt_58 : decode cX7_rightWhenLaidAt 58 = .ok (.iinc 4 1, 3) := by decide +kernel
theorem dX7_rightWhenLaidAt_61 : decode cX7_rightWhenLaidAt 61 = .ok (.goto (-56), 3) := by decide +kernel
theorem dX7_rightWhenLaidAt_64 : decode cX7_rightWhenLaidAt 64 = .ok (.iload_n 3, 1) := by decide +kernel
theorem dX7_rightWhenLaidAt_65 : decode cX7_rightWhenLaidAt 65 = .ok (.ireturn, 1) := by decide +kernel
theorem dX7_placeBeforeLaying_0 : decode cX7_placeBeforeLaying 0 = .ok (.iload_n 0, 1) := by decide +kernel
theorem dX7_placeBeforeLaying_1 : decode cX7_placeBeforeLaying 1 = .ok (.iload_n 1, 1) := by decide +kernel
theorem dX7_placeBeforeLaying_2 : decode cX7_placeBeforeLaying 2 = .ok (.if_icmp .ne 5, 3) := by decide +kernel
theorem dX7_placeBeforeLaying_5 : decode cX7_placeBeforeLaying 5 = .ok (.iconst 0, 1) := by decide +kernel
theorem dX7_placeBeforeLaying_6 : decode cX7_placeBeforeLaying 6 = .ok (.ireturn, 1) := by decide +kernel
theorem dX7_placeBeforeLaying_7 : decode cX7_placeBeforeLaying 7 = .ok (.iload_n 0, 1) := by decide +kernel
theorem dX7_placeBeforeLaying_8 : decode cX7_placeBeforeLaying 8 = .ok (.iload_n 1, 1) := by decide +kernel
theorem dX7_placeBeforeLaying_9 : decode cX7_placeBeforeLaying 9 = .ok (.if_icmp .ge 9, 3) := by decide +kernel
theorem dX7_placeBeforeLaying_12 : decode cX7_placeBeforeLaying 12 = .ok (.iload_n 0, 1) := by decide +kernel
theorem dX7_placeBeforeLaying_13 : decode cX7_placeBeforeLaying 13 = .ok (.iconst 1, 1) := by decide +kernel
theorem dX7_placeBeforeLaying_14 : decode cX7_placeBeforeLaying 14 = .ok (.iadd, 1) := by decide +kernel
theorem dX7_placeBeforeLaying_15 : decode cX7_placeBeforeLaying 15 = .ok (.goto 4, 3) := by decide +kernel
theorem dX7_placeBeforeLaying_18 : decode cX7_placeBeforeLaying 18 = .ok (.iload_n 0, 1) := by decide +kernel
theorem dX7_placeBeforeLaying_19 : decode cX7_placeBeforeLaying 19 = .ok (.ireturn, 1) := by decide +kernel
theorem dX7_isReader_0 : decode cX7_isReader 0 = .ok (.lload_n 0, 1) := by decide +kernel
theorem dX7_isReader_1 : decode cX7_isReader 1 = .ok (.lconst 0, 1) := by decide +kernel
theorem dX7_isReader_2 : decode cX7_isReader 2 = .ok (.lcmp, 1) := by decide +kernel
theorem dX7_isReader_3 : decode cX7_isReader 3 = .ok (.ifCond .lt 15, 3) := by decide +kernel
theorem dX7_isReader_6 : decode cX7_isReader 6 = .ok (.lload_n 0, 1) := by decide +kernel
theorem dX7_isReader_7 : decode cX7_isReader 7 = .ok (.ldc2_w 261, 3) := by decide +kernel
theorem dX7_isReader_10 : decode cX7_isReader 10 = .ok (.lcmp, 1) := by decide +kernel
theorem dX7_isReader_11 : decode cX7_isReader 11 = .ok (.ifCond .gt 7, 3) := by decide +kernel
theorem dX7_isReader_14 : decode cX7_isReader 14 = .ok (.iconst 1, 1) := by decide +kernel
theorem dX7_isReader_15 : decode cX7_isReader 15 = .ok (.goto 4, 3) := by decide +kernel
theorem dX7_isReader_18 : decode cX7_isReader 18 = .ok (.iconst 0, 1) := by decide +kernel
theorem dX7_isReader_19 : decode cX7_isReader 19 = .ok (.ireturn, 1) := by decide +kernel
theorem dX7_within_0 : decode cX7_within 0 = .ok (.iload_n 0, 1) := by decide +kernel
theorem dX7_within_1 : decode cX7_within 1 = .ok (.iload_n 1, 1) := by decide +kernel
theorem dX7_within_2 : decode cX7_within 2 = .ok (.if_icmp .lt 12, 3) := by decide +kernel
theorem dX7_within_5 : decode cX7_within 5 = .ok (.iload_n 0, 1) := by decide +kernel
theorem dX7_within_6 : decode cX7_within 6 = .ok (.iload_n 2, 1) := by decide +kernel
theorem dX7_within_7 : decode cX7_within 7 = .ok (.if_icmp .gt 7, 3) := by decide +kernel
theorem dX7_within_10 : decode cX7_within 10 = .ok (.iconst 1, 1) := by decide +kernel
theorem dX7_within_11 : decode cX7_within 11 = .ok (.goto 4, 3) := by decide +kernel
theorem dX7_within_14 : decode cX7_within 14 = .ok (.iconst 0, 1) := by decide +kernel
theorem dX7_within_15 : decode cX7_within 15 = .ok (.ireturn, 1) := by decide +kernel
theorem dX7_bit_0 : decode cX7_bit 0 = .ok (.lconst 1, 1) := by decide +kernel
theorem dX7_bit_1 : decode cX7_bit 1 = .ok (.iload_n 0, 1) := by decide +kernel
theorem dX7_bit_2 : decode cX7_bit 2 = .ok (.lshl, 1) := by decide +kernel
theorem dX7_bit_3 : decode cX7_bit 3 = .ok (.lreturn, 1) := by decide +kernel
theorem dJ9_floorMod_f86c9_0 : decode cJ9_floorMod_f86c9 0 = .ok (.lload_n 0, 1) := by decide +kernel
theorem dJ9_floorMod_f86c9_1 : decode cJ9_floorMod_f86c9 1 = .ok (.lload_n 2, 1) := by decide +kernel
theorem dJ9_floorMod_f86c9_2 : decode cJ9_floorMod_f86c9 2 = .ok (.lrem, 1) := by decide +kernel
theorem dJ9_floorMod_f86c9_3 : decode cJ9_floorMod_f86c9 3 = .ok (.lstore 4, 2) := by decide +kernel
theorem dJ9_floorMod_f86c9_5 : decode cJ9_floorMod_f86c9 5 = .ok (.lload_n 0, 1) := by decide +kernel
theorem dJ9_floorMod_f86c9_6 : decode cJ9_floorMod_f86c9 6 = .ok (.lload_n 2, 1) := by decide +kernel
theorem dJ9_floorMod_f86c9_7 : decode cJ9_floorMod_f86c9 7 = .ok (.lxor, 1) := by decide +kernel
theorem dJ9_floorMod_f86c9_8 : decode cJ9_floorMod_f86c9 8 = .ok (.lconst 0, 1) := by decide +kernel
theorem dJ9_floorMod_f86c9_9 : decode cJ9_floorMod_f86c9 9 = .ok (.lcmp, 1) := by decide +kernel
theorem dJ9_floorMod_f86c9_10 : decode cJ9_floorMod_f86c9 10 = .ok (.ifCond .ge 15, 3) := by decide +kernel
theorem dJ9_floorMod_f86c9_13 : decode cJ9_floorMod_f86c9 13 = .ok (.lload 4, 2) := by decide +kernel
theorem dJ9_floorMod_f86c9_15 : decode cJ9_floorMod_f86c9 15 = .ok (.lconst 0, 1) := by decide +kernel
theorem dJ9_floorMod_f86c9_16 : decode cJ9_floorMod_f86c9 16 = .ok (.lcmp, 1) := by decide +kernel
theorem dJ9_floorMod_f86c9_17 : decode cJ9_floorMod_f86c9 17 = .ok (.ifCond .eq 8, 3) := by decide +kernel
theorem dJ9_floorMod_f86c9_20 : decode cJ9_floorMod_f86c9 20 = .ok (.lload 4, 2) := by decide +kernel
theorem dJ9_floorMod_f86c9_22 : decode cJ9_floorMod_f86c9 22 = .ok (.lload_n 2, 1) := by decide +kernel
theorem dJ9_floorMod_f86c9_23 : decode cJ9_floorMod_f86c9 23 = .ok (.ladd, 1) := by decide +kernel
theorem dJ9_floorMod_f86c9_24 : decode cJ9_floorMod_f86c9 24 = .ok (.lreturn, 1) := by decide +kernel
theorem dJ9_floorMod_f86c9_25 : decode cJ9_floorMod_f86c9 25 = .ok (.lload 4, 2) := by decide +kernel
theorem dJ9_floorMod_f86c9_27 : decode cJ9_floorMod_f86c9 27 = .ok (.lreturn, 1) := by decide +kernel
theorem dJ9_max_7cf53_0 : decode cJ9_max_7cf53 0 = .ok (.iload_n 0, 1) := by decide +kernel
theorem dJ9_max_7cf53_1 : decode cJ9_max_7cf53 1 = .ok (.iload_n 1, 1) := by decide +kernel
theorem dJ9_max_7cf53_2 : decode cJ9_max_7cf53 2 = .ok (.if_icmp .lt 7, 3) := by decide +kernel
theorem dJ9_max_7cf53_5 : decode cJ9_max_7cf53 5 = .ok (.iload_n 0, 1) := by decide +kernel
theorem dJ9_max_7cf53_6 : decode cJ9_max_7cf53 6 = .ok (.goto 4, 3) := by decide +kernel
theorem dJ9_max_7cf53_9 : decode cJ9_max_7cf53 9 = .ok (.iload_n 1, 1) := by decide +kernel
theorem dJ9_max_7cf53_10 : decode cJ9_max_7cf53 10 = .ok (.ireturn, 1) := by decide +kernel
theorem dJ9_min_7cf53_0 : decode cJ9_min_7cf53 0 = .ok (.iload_n 0, 1) := by decide +kernel
theorem dJ9_min_7cf53_1 : decode cJ9_min_7cf53 1 = .ok (.iload_n 1, 1) := by decide +kernel
theorem dJ9_min_7cf53_2 : decode cJ9_min_7cf53 2 = .ok (.if_icmp .gt 7, 3) := by decide +kernel
theorem dJ9_min_7cf53_5 : decode cJ9_min_7cf53 5 = .ok (.iload_n 0, 1) := by decide +kernel
theorem dJ9_min_7cf53_6 : decode cJ9_min_7cf53 6 = .ok (.goto 4, 3) := by decide +kernel
theorem dJ9_min_7cf53_9 : decode cJ9_min_7cf53 9 = .ok (.iload_n 1, 1) := by decide +kernel
theorem dJ9_min_7cf53_10 : decode cJ9_min_7cf53 10 = .ok (.ireturn, 1) := by decide +kernel
