theorem dX0_init_0 : decode cX0_init 0 = .ok (.aload_n 0, 1) := by decide +kernel
theorem dX0_init_1 : decode cX0_init 1 = .ok (.invokespecial 1, 3) := by decide +kernel
theorem dX0_init_4 : decode cX0_init 4 = .ok (.aload_n 0, 1) := by decide +kernel
theorem dX0_init_5 : decode cX0_init 5 = .ok (.iload_n 1, 1) := by decide +kernel
theorem dX0_init_6 : decode cX0_init 6 = .ok (.putfield 7, 3) := by decide +kernel
theorem dX0_init_9 : decode cX0_init 9 = .ok (.aload_n 0, 1) := by decide +kernel
theorem dX0_init_10 : decode cX0_init 10 = .ok (.lload_n 2, 1) := by decide +kernel
theorem dX0_init_11 : decode cX0_init 11 = .ok (.putfield 13, 3) := by decide +kernel
theorem dX0_init_14 : decode cX0_init 14 = .ok (.aload_n 0, 1) := by decide +kernel
theorem dX0_init_15 : decode cX0_init 15 = .ok (.iload 4, 2) := by decide +kernel
theorem dX0_init_17 : decode cX0_init 17 = .ok (.putfield 17, 3) := by decide +kernel
theorem dX0_init_20 : decode cX0_init 20 = .ok (.aload_n 0, 1) := by decide +kernel
theorem dX0_init_21 : decode cX0_init 21 = .ok (.iload 5, 2) := by decide +kernel
theorem dX0_init_23 : decode cX0_init 23 = .ok (.putfield 20, 3) := by decide +kernel
theorem dX0_init_26 : decode cX0_init 26 = .ok (.aload_n 0, 1) := by decide +kernel
theorem dX0_init_27 : decode cX0_init 27 = .ok (.iload 6, 2) := by decide +kernel
theorem dX0_init_29 : decode cX0_init 29 = .ok (.putfield 23, 3) := by decide +kernel
theorem dX0_init_32 : decode cX0_init 32 = .ok (.return_, 1) := by decide +kernel
theorem dX0_bit_0 : decode cX0_bit 0 = .ok (.iload_n 1, 1) := by decide +kernel
theorem dX0_bit_1 : decode cX0_bit 1 = .ok (.ifCond .lt 23, 3) := by decide +kernel
theorem dX0_bit_4 : decode cX0_bit 4 = .ok (.iload_n 1, 1) := by decide +kernel
theorem dX0_bit_5 : decode cX0_bit 5 = .ok (.aload_n 0, 1) := by decide +kernel
theorem dX0_bit_6 : decode cX0_bit 6 = .ok (.getfield 17, 3) := by decide +kernel
theorem dX0_bit_9 : decode cX0_bit 9 = .ok (.if_icmp .ge 15, 3) := by decide +kernel
theorem dX0_bit_12 : decode cX0_bit 12 = .ok (.iload_n 2, 1) := by decide +kernel
theorem dX0_bit_13 : decode cX0_bit 13 = .ok (.ifCond .lt 11, 3) := by decide +kernel
theorem dX0_bit_16 : decode cX0_bit 16 = .ok (.iload_n 2, 1) := by decide +kernel
theorem dX0_bit_17 : decode cX0_bit 17 = .ok (.aload_n 0, 1) := by decide +kernel
theorem dX0_bit_18 : decode cX0_bit 18 = .ok (.getfield 20, 3) := by decide +kernel
theorem dX0_bit_21 : decode cX0_bit 21 = .ok (.if_icmp .lt 5, 3) := by decide +kernel
theorem dX0_bit_24 : decode cX0_bit 24 = .ok (.iconst 0, 1) := by decide +kernel
theorem dX0_bit_25 : decode cX0_bit 25 = .ok (.ireturn, 1) := by decide +kernel
theorem dX0_bit_26 : decode cX0_bit 26 = .ok (.iconst 1, 1) := by decide +kernel
theorem dX0_bit_27 : decode cX0_bit 27 = .ok (.aload_n 0, 1) := by decide +kernel
theorem dX0_bit_28 : decode cX0_bit 28 = .ok (.getfield 23, 3) := by decide +kernel
theorem dX0_bit_31 : decode cX0_bit 31 = .ok (.iload_n 2, 1) := by decide +kernel
theorem dX0_bit_32 : decode cX0_bit 32 = .ok (.aload_n 0, 1) := by decide +kernel
theorem dX0_bit_33 : decode cX0_bit 33 = .ok (.getfield 17, 3) := by decide +kernel
theorem dX0_bit_36 : decode cX0_bit 36 = .ok (.imul, 1) := by decide +kernel
theorem dX0_bit_37 : decode cX0_bit 37 = .ok (.iadd, 1) := by decide +kernel
theorem dX0_bit_38 : decode cX0_bit 38 = .ok (.iload_n 1, 1) := by decide +kernel
theorem dX0_bit_39 : decode cX0_bit 39 = .ok (.iadd, 1) := by decide +kernel
theorem dX0_bit_40 : decode cX0_bit 40 = .ok (.ishl, 1) := by decide +kernel
theorem dX0_bit_41 : decode cX0_bit 41 = .ok (.ireturn, 1) := by decide +kernel
theorem dX0_allSquares_0 : decode cX0_allSquares 0 = .ok (.iconst 1, 1) := by decide +kernel
theorem dX0_allSquares_1 : decode cX0_allSquares 1 = .ok (.aload_n 0, 1) := by decide +kernel
theorem dX0_allSquares_2 : decode cX0_allSquares 2 = .ok (.getfield 17, 3) := by decide +kernel
theorem dX0_allSquares_5 : decode cX0_allSquares 5 = .ok (.aload_n 0, 1) := by decide +kernel
theorem dX0_allSquares_6 : decode cX0_allSquares 6 = .ok (.getfield 20, 3) := by decide +kernel
theorem dX0_allSquares_9 : decode cX0_allSquares 9 = .ok (.imul, 1) := by decide +kernel
theorem dX0_allSquares_10 : decode cX0_allSquares 10 = .ok (.ishl, 1) := by decide +kernel
theorem dX0_allSquares_11 : decode cX0_allSquares 11 = .ok (.iconst 1, 1) := by decide +kernel
theorem dX0_allSquares_12 : decode cX0_allSquares 12 = .ok (.isub, 1) := by decide +kernel
theorem dX0_allSquares_13 : decode cX0_allSquares 13 = .ok (.aload_n 0, 1) := by decide +kernel
theorem dX0_allSquares_14 : decode cX0_allSquares 14 = .ok (.getfield 23, 3) := by decide +kernel
theorem dX0_allSquares_17 : decode cX0_allSquares 17 = .ok (.ishl, 1) := by decide +kernel
theorem dX0_allSquares_18 : decode cX0_allSquares 18 = .ok (.ireturn, 1) := by decide +kernel
theorem dX0_turnedHalfRound_0 : decode cX0_turnedHalfRound 0 = .ok (.iconst 0, 1) := by decide +kernel
theorem dX0_turnedHalfRound_1 : decode cX0_turnedHalfRound 1 = .ok (.istore_n 2, 1) := by decide +kernel
theorem dX0_turnedHalfRound_2 : decode cX0_turnedHalfRound 2 = .ok (.iconst 0, 1) := by decide +kernel
theorem dX0_turnedHalfRound_3 : decode cX0_turnedHalfRound 3 = .ok (.istore_n 3, 1) := by decide +kernel
theorem dX0_turnedHalfRound_4 : decode cX0_turnedHalfRound 4 = .ok (.iload_n 3, 1) := by decide +kernel
theorem dX0_turnedHalfRound_5 : decode cX0_turnedHalfRound 5 = .ok (.aload_n 0, 1) := by decide +kernel
theorem dX0_turnedHalfRound_6 : decode cX0_turnedHalfRound 6 = .ok (.getfield 20, 3) := by decide +kernel
theorem dX0_turnedHalfRound_9 : decode cX0_turnedHalfRound 9 = .ok (.if_icmp .ge 63, 3) := by decide +kernel
theorem dX0_turnedHalfRound_12 : decode cX0_turnedHalfRound 12 = .ok (.iconst 0, 1) := by decide +kernel
theorem dX0_turnedHalfRound_13 : decode cX0_turnedHalfRound 13 = .ok (.istore 4, 2) := by decide +kernel
theorem dX0_turnedHalfRound_15 : decode cX0_turnedHalfRound 15 = .ok (.iload 4, 2) := by decide +kernel
theorem dX0_turnedHalfRound_17 : decode cX0_turnedHalfRound 17 = .ok (.aload_n 0, 1) := by decide +kernel
theorem dX0_turnedHalfRound_18 : decode cX0_turnedHalfRound 18 = .ok (.getfield 17, 3) := by decide +kernel
theorem dX0_turnedHalfRound_21 : decode cX0_turnedHalfRound 21 = .ok (.if_icmp .ge 45, 3) := by decide +kernel
theorem dX0_turnedHalfRound_24 : decode cX0_turnedHalfRound 24 = .ok (.iload_n 1, 1) := by decide +kernel
theorem dX0_turnedHalfRound_25 : decode cX0_turnedHalfRound 25 = .ok (.aload_n 0, 1) := by decide +kernel
theorem dX0_turnedHalfRound_26 : decode cX0_turnedHalfRound 26 = .ok (.iload 4, 2) := by decide +kernel
theorem dX0_turnedHalfRound_28 : decode cX0_turnedHalfRound 28 = .ok (.iload_n 3, 1) := by decide +kernel
theorem dX0_turnedHalfRound_29 : decode cX0_turnedHalfRound 29 = .ok (.invokevirtual 26, 3) := by decide +kernel
theorem dX0_turnedHalfRound_32 : decode cX0_turnedHalfRound 32 = .ok (.iand, 1) := by decide +kernel
theorem dX0_turnedHalfRound_33 : decode cX0_turnedHalfRound 33 = .ok (.ifCond .eq 27, 3) := by decide +kernel
theorem dX0_turnedHalfRound_36 : decode cX0_turnedHalfRound 36 = .ok (.iload_n 2, 1) := by decide +kernel
theorem dX0_turnedHalfRound_37 : decode cX0_turnedHalfRound 37 = .ok (.aload_n 0, 1) := by decide +kernel
theorem dX0_turnedHalfRound_38 : decode cX0_turnedHalfRound 38 = .ok (.aload_n 0, 1) := by decide +kernel
theorem dX0_turnedHalfRound_39 : decode cX0_turnedHalfRound 39 = .ok (.getfield 17, 3) := by decide +kernel
theorem dX0_turnedHalfRound_42 : decode cX0_turnedHalfRound 42 = .ok (.iconst 1, 1) := by decide +kernel
theorem dX0_turnedHalfRound_43 : decode cX0_turnedHalfRound 43 = .ok (.isub, 1) := by decide +kernel
theorem dX0_turnedHalfRound_44 : decode cX0_turnedHalfRound 44 = .ok (.iload 4, 2) := by decide +kernel
theorem dX0_turnedHalfRound_46 : decode cX0_turnedHalfRound 46 = .ok (.isub, 1) := by decide +kernel
theorem dX0_turnedHalfRound_47 : decode cX0_turnedHalfRound 47 = .ok (.aload_n 0, 1) := by decide +kernel
theorem dX0_turnedHalfRound_48 : decode cX0_turnedHalfRound 48 = .ok (.getfield 20, 3) := by decide +kernel
theorem dX0_turnedHalfRound_51 : decode cX0_turnedHalfRound 51 = .ok (.iconst 1, 1) := by decide +kernel
theorem dX0_turnedHalfRound_52 : decode cX0_turnedHalfRound 52 = .ok (.isub, 1) := by decide +kernel
theorem dX0_turnedHalfRound_53 : decode cX0_turnedHalfRound 53 = .ok (.iload_n 3, 1) := by decide +kernel
theorem dX0_turnedHalfRound_54 : decode cX0_turnedHalfRound 54 = .ok (.isub, 1) := by decide +kernel
theorem dX0_turnedHalfRound_55 : decode cX0_turnedHalfRound 55 = .ok (.invokevirtual 26, 3) := by decide +kernel
theorem dX0_turnedHalfRound_58 : decode cX0_turnedHalfRound 58 = .ok (.ior, 1) := by decide +kernel
theorem dX0_turnedHalfRound_59 : decode cX0_turnedHalfRound 59 = .ok (.istore_n 2, 1) := by decide +kernel
theorem dX0_turnedHalfRound_60 : decode cX0_turnedHalfRound 60 = .ok (.iinc 4 1, 3) := by decide +kernel
theorem dX0_turnedHalfRound_63 : decode cX0_turnedHalfRound 63 = .ok (.goto (-48), 3) := by decide +kernel
theorem dX0_turnedHalfRound_66 : decode cX0_turnedHalfRound 66 = .ok (.iinc 3 1, 3) := by decide +kernel
theorem dX0_turnedHalfRound_69 : decode cX0_turnedHalfRound 69 = .ok (.goto (-65), 3) := by decide +kernel
theorem dX0_turnedHalfRound_72 : decode cX0_turnedHalfRound 72 = .ok (.iload_n 2, 1) := by decide +kernel
theorem dX0_turnedHalfRound_73 : decode cX0_turnedHalfRound 73 = .ok (.ireturn, 1) := by decide +kernel
theorem dX0_withThoseBeside_0 : decode cX0_withThoseBeside 0 = .ok (.iload_n 1, 1) := by decide +kernel
theorem dX0_withThoseBeside_1 : decode cX0_withThoseBeside 1 = .ok (.istore_n 2, 1) := by decide +kernel
theorem dX0_withThoseBeside_2 : decode cX0_withThoseBeside 2 = .ok (.iconst 0, 1) := by decide +kernel
theorem dX0_withThoseBeside_3 : decode cX0_withThoseBeside 3 = .ok (.istore_n 3, 1) := by decide +kernel
theorem dX0_withThoseBeside_4 : decode cX0_withThoseBeside 4 = .ok (.iload_n 3, 1) := by decide +kernel
theorem dX0_withThoseBeside_5 : decode cX0_withThoseBeside 5 = .ok (.aload_n 0, 1) := by decide +kernel
theorem dX0_withThoseBeside_6 : decode cX0_withThoseBeside 6 = .ok (.getfield 20, 3) := by decide +kernel
theorem dX0_withThoseBeside_9 : decode cX0_withThoseBeside 9 = .ok (.if_icmp .ge 81, 3) := by decide +kernel
theorem dX0_withThoseBeside_12 : decode cX0_withThoseBeside 12 = .ok (.iconst 0, 1) := by decide +kernel
theorem dX0_withThoseBeside_13 : decode cX0_withThoseBeside 13 = .ok (.istore 4, 2) := by decide +kernel
theorem dX0_withThoseBeside_15 : decode cX0_withThoseBeside 15 = .ok (.iload 4, 2) := by decide +kernel
theorem dX0_withThoseBeside_17 : decode cX0_withThoseBeside 17 = .ok (.aload_n 0, 1) := by decide +kernel
theorem dX0_withThoseBeside_18 : decode cX0_withThoseBeside 18 = .ok (.getfield 17, 3) := by decide +kernel
theorem dX0_withThoseBeside_21 : decode cX0_withThoseBeside 21 = .ok (.if_icmp .ge 63, 3) := by decide +kernel
theorem dX0_withThoseBeside_24 : decode cX0_withThoseBeside 24 = .ok (.iload_n 1, 1) := by decide +kernel
theorem dX0_withThoseBeside_25 : decode cX0_withThoseBeside 25 = .ok (.aload_n 0, 1) := by decide +kernel
theorem dX0_withThoseBeside_26 : decode cX0_withThoseBeside 26 = .ok (.iload 4, 2) := by decide +kernel
theorem dX0_withThoseBeside_28 : decode cX0_withThoseBeside 28 = .ok (.iload_n 3, 1) := by decide +kernel
theorem dX0_withThoseBeside_29 : decode cX0_withThoseBeside 29 = .ok (.invokevirtual 26, 3) := by decide +kernel
theorem dX0_withThoseBeside_32 : decode cX0_withThoseBeside 32 = .ok (.iand, 1) := by decide +kernel
theorem dX0_withThoseBeside_33 : decode cX0_withThoseBeside 33 = .ok (.ifCond .eq 45, 3) := by decide +kernel
theorem dX0_withThoseBeside_36 : decode cX0_withThoseBeside 36 = .ok (.iload_n 2, 1) := by decide +kernel
theorem dX0_withThoseBeside_37 : decode cX0_withThoseBeside 37 = .ok (.aload_n 0, 1) := by decide +kernel
theorem dX0_withThoseBeside_38 : decode cX0_withThoseBeside 38 = .ok (.iload 4, 2) := by decide +kernel
theorem dX0_withThoseBeside_40 : decode cX0_withThoseBeside 40 = .ok (.iconst 1, 1) := by decide +kernel
theorem dX0_withThoseBeside_41 : decode cX0_withThoseBeside 41 = .ok (.isub, 1) := by decide +kernel
theorem dX0_withThoseBeside_42 : decode cX0_withThoseBeside 42 = .ok (.iload_n 3, 1) := by decide +kernel
theorem dX0_withThoseBeside_43 : decode cX0_withThoseBeside 43 = .ok (.invokevirtual 26, 3) := by decide +kernel
theorem dX0_withThoseBeside_46 : decode cX0_withThoseBeside 46 = .ok (.aload_n 0, 1) := by decide +kernel
theorem dX0_withThoseBeside_47 : decode cX0_withThoseBeside 47 = .ok (.iload 4, 2) := by decide +kernel
theorem dX0_withThoseBeside_49 : decode cX0_withThoseBeside 49 = .ok (.iconst 1, 1) := by decide +kernel
theorem dX0_withThoseBeside_50 : decode cX0_withThoseBeside 50 = .ok (.iadd, 1) := by decide +kernel
theorem dX0_withThoseBeside_51 : decode cX0_withThoseBeside 51 = .ok (.iload_n 3, 1) := by decide +kernel
theorem dX0_withThoseBeside_52 : decode cX0_withThoseBeside 52 = .ok (.invokevirtual 26, 3) := by decide +kernel
theorem dX0_withThoseBeside_55 : decode cX0_withThoseBeside 55 = .ok (.ior, 1) := by decide +kernel
theorem dX0_withThoseBeside_56 : decode cX0_withThoseBeside 56 = .ok (.aload_n 0, 1) := by decide +kernel
theorem dX0_withThoseBeside_57 : decode cX0_withThoseBeside 57 = .ok (.iload 4, 2) := by decide +kernel
theorem dX0_withThoseBeside_59 : decode cX0_withThoseBeside 59 = .ok (.iload_n 3, 1) := by decide +kernel
theorem dX0_withThoseBeside_60 : decode cX0_withThoseBeside 60 = .ok (.iconst 1, 1) := by decide +kernel
theorem dX0_withThoseBeside_61 : decode cX0_withThoseBeside 61 = .ok (.isub, 1) := by decide +kernel
theorem dX0_withThoseBeside_62 : decode cX0_withThoseBeside 62 = .ok (.invokevirtual 26, 3) := by decide +kernel
theorem dX0_withThoseBeside_65 : decode cX0_withThoseBeside 65 = .ok (.ior, 1) := by decide +kernel
theorem dX0_withThoseBeside_66 : decode cX0_withThoseBeside 66 = .ok (.aload_n 0, 1) := by decide +kernel
theorem dX0_withThoseBeside_67 : decode cX0_withThoseBeside 67 = .ok (.iload 4, 2) := by decide +kernel
theorem dX0_withThoseBeside_69 : decode cX0_withThoseBeside 69 = .ok (.iload_n 3, 1) := by decide +kernel
theorem dX0_withThoseBeside_70 : decode cX0_withThoseBeside 70 = .ok (.iconst 1, 1) := by decide +kernel
theorem dX0_withThoseBeside_71 : decode cX0_withThoseBeside 71 = .ok (.iadd, 1) := by decide +kernel
theorem dX0_withThoseBeside_72 : decode cX0_withThoseBeside 72 = .ok (.invokevirtual 26, 3) := by decide +kernel
theorem dX0_withThoseBeside_75 : decode cX0_withThoseBeside 75 = .ok (.ior, 1) := by decide +kernel
theorem dX0_withThoseBeside_76 : decode cX0_withThoseBeside 76 = .ok (.ior, 1) := by decide +kernel
theorem dX0_withThoseBeside_77 : decode cX0_withThoseBeside 77 = .ok (.istore_n 2, 1) := by decide +kernel
theorem dX0_withThoseBeside_78 : decode cX0_withThoseBeside 78 = .ok (.iinc 4 1, 3) := by decide +kernel
theorem dX0_withThoseBeside_81 : decode cX0_withThoseBeside 81 = .ok (.goto (-66), 3) := by decide +kernel
theorem dX0_withThoseBeside_84 : decode cX0_withThoseBeside 84 = .ok (.iinc 3 1, 3) := by decide +kernel
theorem dX0_withThoseBeside_87 : decode cX0_withThoseBeside 87 = .ok (.goto (-83), 3) := by decide +kernel
theorem dX0_withThoseBeside_90 : decode cX0_withThoseBeside 90 = .ok (.iload_n 2, 1) := by decide +kernel
theorem dX0_withThoseBeside_91 : decode cX0_withThoseBeside 91 = .ok (.ireturn, 1) := by decide +kernel
theorem dX1_init_0 : decode cX1_init 0 = .ok (.aload_n 0, 1) := by decide +kernel
theorem dX1_init_1 : decode cX1_init 1 = .ok (.invokespecial 3, 3) := by decide +kernel
theorem dX1_init_4 : decode cX1_init 4 = .ok (.aload_n 0, 1) := by decide +kernel
theorem dX1_init_5 : decode cX1_init 5 = .ok (.bipush 14, 2) := by decide +kernel
theorem dX1_init_7 : decode cX1_init 7 = .ok (.anewarray 9, 3) := by decide +kernel
theorem dX1_init_10 : decode cX1_init 10 = .ok (.putfield 11, 3) := by decide +kernel
theorem dX1_init_13 : decode cX1_init 13 = .ok (.return_, 1) := by decide +kernel
theorem dX1_clear_0 : decode cX1_clear 0 = .ok (.aload_n 0, 1) := by decide +kernel
theorem dX1_clear_1 : decode cX1_clear 1 = .ok (.iconst 0, 1) := by decide +kernel
theorem dX1_clear_2 : decode cX1_clear 2 = .ok (.putfield 17, 3) := by decide +kernel
theorem dX1_clear_5 : decode cX1_clear 5 = .ok (.aload_n 0, 1) := by decide +kernel
theorem dX1_clear_6 : decode cX1_clear 6 = .ok (.iconst 0, 1) := by decide +kernel
theorem dX1_clear_7 : decode cX1_clear 7 = .ok (.putfield 21, 3) := by decide +kernel
theorem dX1_clear_10 : decode cX1_clear 10 = .ok (.aload_n 0, 1) := by decide +kernel
theorem dX1_clear_11 : decode cX1_clear 11 = .ok (.iconst 0, 1) := by decide +kernel
theorem dX1_clear_12 : decode cX1_clear 12 = .ok (.putfield 24, 3) := by decide +kernel
theorem dX1_clear_15 : decode cX1_clear 15 = .ok (.return_, 1) := by decide +kernel
theorem dX1_copy_0 : decode cX1_copy 0 = .ok (.iconst 0, 1) := by decide +kernel
theorem dX1_copy_1 : decode cX1_copy 1 = .ok (.istore_n 2, 1) := by decide +kernel
theorem dX1_copy_2 : decode cX1_copy 2 = .ok (.iload_n 2, 1) := by decide +kernel
theorem dX1_copy_3 : decode cX1_copy 3 = .ok (.aload_n 1, 1) := by decide +kernel
theorem dX1_copy_4 : decode cX1_copy 4 = .ok (.getfield 17, 3) := by decide +kernel
theorem dX1_copy_7 : decode cX1_copy 7 = .ok (.if_icmp .ge 39, 3) := by decide +kernel
theorem dX1_copy_10 : decode cX1_copy 10 = .ok (.iload_n 2, 1) := by decide +kernel
theorem dX1_copy_11 : decode cX1_copy 11 = .ok (.aload_n 0, 1) := by decide +kernel
theorem dX1_copy_12 : decode cX1_copy 12 = .ok (.getfield 11, 3) := by decide +kernel
theorem dX1_copy_15 : decode cX1_copy 15 = .ok (.arraylength, 1) := by decide +kernel
theorem dX1_copy_16 : decode cX1_copy 16 = .ok (.if_icmp .ge 30, 3) := by decide +kernel
theorem dX1_copy_19 : decode cX1_copy 19 = .ok (.iload_n 2, 1) := by decide +kernel
theorem dX1_copy_20 : decode cX1_copy 20 = .ok (.aload_n 1, 1) := by decide +kernel
theorem dX1_copy_21 : decode cX1_copy 21 = .ok (.getfield 11, 3) := by decide +kernel
theorem dX1_copy_24 : decode cX1_copy 24 = .ok (.arraylength, 1) := by decide +kernel
theorem dX1_copy_25 : decode cX1_copy 25 = .ok (.if_icmp .ge 21, 3) := by decide +kernel
theorem dX1_copy_28 : decode cX1_copy 28 = .ok (.aload_n 0, 1) := by decide +kernel
theorem dX1_copy_29 : decode cX1_copy 29 = .ok (.getfield 11, 3) := by decide +kernel
theorem dX1_copy_32 : decode cX1_copy 32 = .ok (.iload_n 2, 1) := by decide +kernel
theorem dX1_copy_33 : decode cX1_copy 33 = .ok (.aload_n 1, 1) := by decide +kernel
theorem dX1_copy_34 : decode cX1_copy 34 = .ok (.getfield 11, 3) := by decide +kernel
theorem dX1_copy_37 : decode cX1_copy 37 = .ok (.iload_n 2, 1) := by decide +kernel
theorem dX1_copy_38 : decode cX1_copy 38 = .ok (.aaload, 1) := by decide +kernel
theorem dX1_copy_39 : decode cX1_copy 39 = .ok (.aastore, 1) := by decide +kernel
theorem dX1_copy_40 : decode cX1_copy 40 = .ok (.iinc 2 1, 3) := by decide +kernel
theorem dX1_copy_43 : decode cX1_copy 43 = .ok (.goto (-41), 3) := by decide +kernel
theorem dX1_copy_46 : decode cX1_copy 46 = .ok (.aload_n 0, 1) := by decide +kernel
theorem dX1_copy_47 : decode cX1_copy 47 = .ok (.aload_n 1, 1) := by decide +kernel
theorem dX1_copy_48 : decode cX1_copy 48 = .ok (.getfield 17, 3) := by decide +kernel
theorem dX1_copy_51 : decode cX1_copy 51 = .ok (.putfield 17, 3) := by decide +kernel
theorem dX1_copy_54 : decode cX1_copy 54 = .ok (.aload_n 0, 1) := by decide +kernel
theorem dX1_copy_55 : decode cX1_copy 55 = .ok (.aload_n 1, 1) := by decide +kernel
theorem dX1_copy_56 : decode cX1_copy 56 = .ok (.getfield 21, 3) := by decide +kernel
theorem dX1_copy_59 : decode cX1_copy 59 = .ok (.putfield 21, 3) := by decide +kernel
theorem dX1_copy_62 : decode cX1_copy 62 = .ok (.aload_n 0, 1) := by decide +kernel
theorem dX1_copy_63 : decode cX1_copy 63 = .ok (.aload_n 1, 1) := by decide +kernel
theorem dX1_copy_64 : decode cX1_copy 64 = .ok (.getfield 24, 3) := by decide +kernel
theorem dX1_copy_67 : decode cX1_copy 67 = .ok (.putfield 24, 3) := by decide +kernel
theorem dX1_copy_70 : decode cX1_copy 70 = .ok (.return_, 1) := by decide +kernel
theorem dX1_at_0 : decode cX1_at 0 = .ok (.iload_n 1, 1) := by decide +kernel
theorem dX1_at_1 : decode cX1_at 1 = .ok (.ifCond .lt 29, 3) := by decide +kernel
theorem dX1_at_4 : decode cX1_at 4 = .ok (.iload_n 1, 1) := by decide +kernel
theorem dX1_at_5 : decode cX1_at 5 = .ok (.aload_n 0, 1) := by decide +kernel
theorem dX1_at_6 : decode cX1_at 6 = .ok (.getfield 17, 3) := by decide +kernel
theorem dX1_at_9 : decode cX1_at 9 = .ok (.if_icmp .ge 21, 3) := by decide +kernel
theorem dX1_at_12 : decode cX1_at 12 = .ok (.iload_n 1, 1) := by decide +kernel
theorem dX1_at_13 : decode cX1_at 13 = .ok (.aload_n 0, 1) := by decide +kernel
theorem dX1_at_14 : decode cX1_at 14 = .ok (.getfield 11, 3) := by decide +kernel
theorem dX1_at_17 : decode cX1_at 17 = .ok (.arraylength, 1) := by decide +kernel
theorem dX1_at_18 : decode cX1_at 18 = .ok (.if_icmp .ge 12, 3) := by decide +kernel
theorem dX1_at_21 : decode cX1_at 21 = .ok (.aload_n 0, 1) := by decide +kernel
theorem dX1_at_22 : decode cX1_at 22 = .ok (.getfield 11, 3) := by decide +kernel
theorem dX1_at_25 : decode cX1_at 25 = .ok (.iload_n 1, 1) := by decide +kernel
theorem dX1_at_26 : decode cX1_at 26 = .ok (.aaload, 1) := by decide +kernel
theorem dX1_at_27 : decode cX1_at 27 = .ok (.goto 4, 3) := by decide +kernel
theorem dX1_at_30 : decode cX1_at 30 = .ok (.aconst_null, 1) := by decide +kernel
theorem dX1_at_31 : decode cX1_at 31 = .ok (.areturn, 1) := by decide +kernel
theorem dX1_latest_0 : decode cX1_latest 0 = .ok (.aload_n 0, 1) := by decide +kernel
theorem dX1_latest_1 : decode cX1_latest 1 = .ok (.aload_n 0, 1) := by decide +kernel
theorem dX1_latest_2 : decode cX1_latest 2 = .ok (.getfield 17, 3) := by decide +kernel
theorem dX1_latest_5 : decode cX1_latest 5 = .ok (.iconst 1, 1) := by decide +kernel
theorem dX1_latest_6 : decode cX1_latest 6 = .ok (.isub, 1) := by decide +kernel
theorem dX1_latest_7 : decode cX1_latest 7 = .ok (.invokevirtual 27, 3) := by decide +kernel
theorem dX1_latest_10 : decode cX1_latest 10 = .ok (.areturn, 1) := by decide +kernel
theorem dX1_next_0 : decode cX1_next 0 = .ok (.aload_n 0, 1) := by decide +kernel
theorem dX1_next_1 : decode cX1_next 1 = .ok (.getfield 17, 3) := by decide +kernel
theorem dX1_next_4 : decode cX1_next 4 = .ok (.iconst 1, 1) := by decide +kernel
theorem dX1_next_5 : decode cX1_next 5 = .ok (.iand, 1) := by decide +kernel
theorem dX1_next_6 : decode cX1_next 6 = .ok (.ireturn, 1) := by decide +kernel
theorem dX1_add_0 : decode cX1_add 0 = .ok (.aload_n 1, 1) := by decide +kernel
theorem dX1_add_1 : decode cX1_add 1 = .ok (.ifnull 55, 3) := by decide +kernel
theorem dX1_add_4 : decode cX1_add 4 = .ok (.aload_n 0, 1) := by decide +kernel
theorem dX1_add_5 : decode cX1_add 5 = .ok (.getfield 17, 3) := by decide +kernel
theorem dX1_add_8 : decode cX1_add 8 = .ok (.ifCond .lt 48, 3) := by decide +kernel
theorem dX1_add_11 : decode cX1_add 11 = .ok (.aload_n 0, 1) := by decide +kernel
theorem dX1_add_12 : decode cX1_add 12 = .ok (.getfield 17, 3) := by decide +kernel
theorem dX1_add_15 : decode cX1_add 15 = .ok (.aload_n 0, 1) := by decide +kernel
theorem dX1_add_16 : decode cX1_add 16 = .ok (.getfield 11, 3) := by decide +kernel
theorem dX1_add_19 : decode cX1_add 19 = .ok (.arraylength, 1) := by decide +kernel
theorem dX1_add_20 : decode cX1_add 20 = .ok (.if_icmp .ge 36, 3) := by decide +kernel
theorem dX1_add_23 : decode cX1_add 23 = .ok (.aload_n 0, 1) := by decide +kernel
theorem dX1_add_24 : decode cX1_add 24 = .ok (.getfield 11, 3) := by decide +kernel
theorem dX1_add_27 : decode cX1_add 27 = .ok (.aload_n 0, 1) := by decide +kernel
theorem dX1_add_28 : decode cX1_add 28 = .ok (.getfield 17, 3) := by decide +kernel
theorem dX1_add_31 : decode cX1_add 31 = .ok (.aload_n 1, 1) := by decide +kernel
theorem dX1_add_32 : decode cX1_add 32 = .ok (.aastore, 1) := by decide +kernel
theorem dX1_add_33 : decode cX1_add 33 = .ok (.aload_n 0, 1) := by decide +kernel
theorem dX1_add_34 : decode cX1_add 34 = .ok (.dup, 1) := by decide +kernel
theorem dX1_add_35 : decode cX1_add 35 = .ok (.getfield 17, 3) := by decide +kernel
theorem dX1_add_38 : decode cX1_add 38 = .ok (.iconst 1, 1) := by decide +kernel
theorem dX1_add_39 : decode cX1_add 39 = .ok (.iadd, 1) := by decide +kernel
theorem dX1_add_40 : decode cX1_add 40 = .ok (.putfield 17, 3) := by decide +kernel
theorem dX1_add_43 : decode cX1_add 43 = .ok (.aload_n 0, 1) := by decide +kernel
theorem dX1_add_44 : decode cX1_add 44 = .ok (.dup, 1) := by decide +kernel
theorem dX1_add_45 : decode cX1_add 45 = .ok (.getfield 21, 3) := by decide +kernel
theorem dX1_add_48 : decode cX1_add 48 = .ok (.aload_n 1, 1) := by decide +kernel
theorem dX1_add_49 : decode cX1_add 49 = .ok (.getfield 31, 3) := by decide +kernel
theorem dX1_add_52 : decode cX1_add 52 = .ok (.ior, 1) := by decide +kernel
theorem dX1_add_53 : decode cX1_add 53 = .ok (.putfield 21, 3) := by decide +kernel
theorem dX1_add_56 : decode cX1_add 56 = .ok (.return_, 1) := by decide +kernel
theorem dX1_dropLatest_0 : decode cX1_dropLatest 0 = .ok (.aload_n 0, 1) := by decide +kernel
theorem dX1_dropLatest_1 : decode cX1_dropLatest 1 = .ok (.invokevirtual 34, 3) := by decide +kernel
theorem dX1_dropLatest_4 : decode cX1_dropLatest 4 = .ok (.astore_n 1, 1) := by decide +kernel
theorem dX1_dropLatest_5 : decode cX1_dropLatest 5 = .ok (.aload_n 1, 1) := by decide +kernel
theorem dX1_dropLatest_6 : decode cX1_dropLatest 6 = .ok (.ifnull 28, 3) := by decide +kernel
theorem dX1_dropLatest_9 : decode cX1_dropLatest 9 = .ok (.aload_n 0, 1) := by decide +kernel
theorem dX1_dropLatest_10 : decode cX1_dropLatest 10 = .ok (.dup, 1) := by decide +kernel
theorem dX1_dropLatest_11 : decode cX1_dropLatest 11 = .ok (.getfield 17, 3) := by decide +kernel
theorem dX1_dropLatest_14 : decode cX1_dropLatest 14 = .ok (.iconst 1, 1) := by decide +kernel
theorem dX1_dropLatest_15 : decode cX1_dropLatest 15 = .ok (.isub, 1) := by decide +kernel
theorem dX1_dropLatest_16 : decode cX1_dropLatest 16 = .ok (.putfield 17, 3) := by decide +kernel
theorem dX1_dropLatest_19 : decode cX1_dropLatest 19 = .ok (.aload_n 0, 1) := by decide +kernel
theorem dX1_dropLatest_20 : decode cX1_dropLatest 20 = .ok (.dup, 1) := by decide +kernel
theorem dX1_dropLatest_21 : decode cX1_dropLatest 21 = .ok (.getfield 21, 3) := by decide +kernel
theorem dX1_dropLatest_24 : decode cX1_dropLatest 24 = .ok (.aload_n 1, 1) := by decide +kernel
theorem dX1_dropLatest_25 : decode cX1_dropLatest 25 = .ok (.getfield 31, 3) := by decide +kernel
theorem dX1_dropLatest_28 : decode cX1_dropLatest 28 = .ok (.iconst (-1), 1) := by decide +kernel
theorem dX1_dropLatest_29 : decode cX1_dropLatest 29 = .ok (.ixor, 1) := by decide +kernel
theorem dX1_dropLatest_30 : decode cX1_dropLatest 30 = .ok (.iand, 1) := by decide +kernel
theorem dX1_dropLatest_31 : decode cX1_dropLatest 31 = .ok (.putfield 21, 3) := by decide +kernel
theorem dX1_dropLatest_34 : decode cX1_dropLatest 34 = .ok (.return_, 1) := by decide +kernel
theorem dX1_draw_0 : decode cX1_draw 0 = .ok (.aload_n 0, 1) := by decide +kernel
theorem dX1_draw_1 : decode cX1_draw 1 = .ok (.bipush 75, 2) := by decide +kernel
theorem dX1_draw_3 : decode cX1_draw 3 = .ok (.aload_n 0, 1) := by decide +kernel
theorem dX1_draw_4 : decode cX1_draw 4 = .ok (.getfield 24, 3) := by decide +kernel
theorem dX1_draw_7 : decode cX1_draw 7 = .ok (.imul, 1) := by decide +kernel
theorem dX1_draw_8 : decode cX1_draw 8 = .ok (.bipush 74, 2) := by decide +kernel
theorem dX1_draw_10 : decode cX1_draw 10 = .ok (.iadd, 1) := by decide +kernel
theorem dX1_draw_11 : decode cX1_draw 11 = .ok (.ldc 38, 2) := by decide +kernel
theorem dX1_draw_13 : decode cX1_draw 13 = .ok (.irem, 1) := by decide +kernel
theorem dX1_draw_14 : decode cX1_draw 14 = .ok (.putfield 24, 3) := by decide +kernel
theorem dX1_draw_17 : decode cX1_draw 17 = .ok (.aload_n 0, 1) := by decide +kernel
theorem dX1_draw_18 : decode cX1_draw 18 = .ok (.getfield 24, 3) := by decide +kernel
theorem dX1_draw_21 : decode cX1_draw 21 = .ok (.ireturn, 1) := by decide +kernel
theorem dX2_init_0 : decode cX2_init 0 = .ok (.aload_n 0, 1) := by decide +kernel
theorem dX2_init_1 : decode cX2_init 1 = .ok (.invokespecial 1, 3) := by decide +kernel
theorem dX2_init_4 : decode cX2_init 4 = .ok (.aload_n 0, 1) := by decide +kernel
theorem dX2_init_5 : decode cX2_init 5 = .ok (.iload_n 1, 1) := by decide +kernel
theorem dX2_init_6 : decode cX2_init 6 = .ok (.putfield 7, 3) := by decide +kernel
theorem dX2_init_9 : decode cX2_init 9 = .ok (.aload_n 0, 1) := by decide +kernel
theorem dX2_init_10 : decode cX2_init 10 = .ok (.aload_n 2, 1) := by decide +kernel
theorem dX2_init_11 : decode cX2_init 11 = .ok (.putfield 13, 3) := by decide +kernel
theorem dX2_init_14 : decode cX2_init 14 = .ok (.aload_n 0, 1) := by decide +kernel
theorem dX2_init_15 : decode cX2_init 15 = .ok (.aload_n 3, 1) := by decide +kernel
theorem dX2_init_16 : decode cX2_init 16 = .ok (.putfield 17, 3) := by decide +kernel
theorem dX2_init_19 : decode cX2_init 19 = .ok (.aload_n 0, 1) := by decide +kernel
theorem dX2_init_20 : decode cX2_init 20 = .ok (.iload 4, 2) := by decide +kernel
theorem dX2_init_22 : decode cX2_init 22 = .ok (.putfield 21, 3) := by decide +kernel
theorem dX2_init_25 : decode cX2_init 25 = .ok (.aload_n 0, 1) := by decide +kernel
theorem dX2_init_26 : decode cX2_init 26 = .ok (.iload 5, 2) := by decide +kernel
theorem dX2_init_28 : decode cX2_init 28 = .ok (.putfield 24, 3) := by decide +kernel
theorem dX2_init_31 : decode cX2_init 31 = .ok (.aload_n 0, 1) := by decide +kernel
theorem dX2_init_32 : decode cX2_init 32 = .ok (.iload 6, 2) := by decide +kernel
theorem dX2_init_34 : decode cX2_init 34 = .ok (.putfield 27, 3) := by decide +kernel
theorem dX2_init_37 : decode cX2_init 37 = .ok (.aload_n 0, 1) := by decide +kernel
theorem dX2_init_38 : decode cX2_init 38 = .ok (.iload 7, 2) := by decide +kernel
theorem dX2_init_40 : decode cX2_init 40 = .ok (.putfield 30, 3) := by decide +kernel
theorem dX2_init_43 : decode cX2_init 43 = .ok (.aload_n 0, 1) := by decide +kernel
theorem dX2_init_44 : decode cX2_init 44 = .ok (.iload 7, 2) := by decide +kernel
theorem dX2_init_46 : decode cX2_init 46 = .ok (.putfield 33, 3) := by decide +kernel
theorem dX2_init_49 : decode cX2_init 49 = .ok (.return_, 1) := by decide +kernel
theorem dX2_part_0 : decode cX2_part 0 = .ok (.iload_n 1, 1) := by decide +kernel
theorem dX2_part_1 : decode cX2_part 1 = .ok (.tableswitch 66 0 4 #[35, 43, 51, 56, 61], 35) := by decide +kernel
theorem dX2_part_36 : decode cX2_part 36 = .ok (.aload_n 0, 1) := by decide +kernel
theorem dX2_part_37 : decode cX2_part 37 = .ok (.getfield 13, 3) := by decide +kernel
theorem dX2_part_40 : decode cX2_part 40 = .ok (.getfield 36, 3) := by decide +kernel
theorem dX2_part_43 : decode cX2_part 43 = .ok (.ireturn, 1) := by decide +kernel
theorem dX2_part_44 : decode cX2_part 44 = .ok (.aload_n 0, 1) := by decide +kernel
theorem dX2_part_45 : decode cX2_part 45 = .ok (.getfield 17, 3) := by decide +kernel
theorem dX2_part_48 : decode cX2_part 48 = .ok (.getfield 39, 3) := by decide +kernel
theorem dX2_part_51 : decode cX2_part 51 = .ok (.ireturn, 1) := by decide +kernel
theorem dX2_part_52 : decode cX2_part 52 = .ok (.aload_n 0, 1) := by decide +kernel
theorem dX2_part_53 : decode cX2_part 53 = .ok (.getfield 21, 3) := by decide +kernel
theorem dX2_part_56 : decode cX2_part 56 = .ok (.ireturn, 1) := by decide +kernel
theorem dX2_part_57 : decode cX2_part 57 = .ok (.aload_n 0, 1) := by decide +kernel
theorem dX2_part_58 : decode cX2_part 58 = .ok (.getfield 24, 3) := by decide +kernel
theorem dX2_part_61 : decode cX2_part 61 = .ok (.ireturn, 1) := by decide +kernel
theorem dX2_part_62 : decode cX2_part 62 = .ok (.aload_n 0, 1) := by decide +kernel
theorem dX2_part_63 : decode cX2_part 63 = .ok (.getfield 27, 3) := by decide +kernel
theorem dX2_part_66 : decode cX2_part 66 = .ok (.ireturn, 1) := by decide +kernel
theorem dX2_part_67 : decode cX2_part 67 = .ok (.aload_n 0, 1) := by decide +kernel
theorem dX2_part_68 : decode cX2_part 68 = .ok (.getfield 30, 3) := by decide +kernel
theorem dX2_part_71 : decode cX2_part 71 = .ok (.ireturn, 1) := by decide +kernel
theorem dX2_isAt_0 : decode cX2_isAt 0 = .ok (.aload_n 0, 1) := by decide +kernel
theorem dX2_isAt_1 : decode cX2_isAt 1 = .ok (.getfield 21, 3) := by decide +kernel
theorem dX2_isAt_4 : decode cX2_isAt 4 = .ok (.iload_n 1, 1) := by decide +kernel
theorem dX2_isAt_5 : decode cX2_isAt 5 = .ok (.if_icmp .ne 23, 3) := by decide +kernel
theorem dX2_isAt_8 : decode cX2_isAt 8 = .ok (.aload_n 0, 1) := by decide +kernel
theorem dX2_isAt_9 : decode cX2_isAt 9 = .ok (.getfield 24, 3) := by decide +kernel
theorem dX2_isAt_12 : decode cX2_isAt 12 = .ok (.iload_n 2, 1) := by decide +kernel
theorem dX2_isAt_13 : decode cX2_isAt 13 = .ok (.if_icmp .ne 15, 3) := by decide +kernel
theorem dX2_isAt_16 : decode cX2_isAt 16 = .ok (.aload_n 0, 1) := by decide +kernel
theorem dX2_isAt_17 : decode cX2_isAt 17 = .ok (.getfield 27, 3) := by decide +kernel
theorem dX2_isAt_20 : decode cX2_isAt 20 = .ok (.iload_n 3, 1) := by decide +kernel
theorem dX2_isAt_21 : decode cX2_isAt 21 = .ok (.if_icmp .ne 7, 3) := by decide +kernel
theorem dX2_isAt_24 : decode cX2_isAt 24 = .ok (.iconst 1, 1) := by decide +kernel
theorem dX2_isAt_25 : decode cX2_isAt 25 = .ok (.goto 4, 3) := by decide +kernel
theorem dX2_isAt_28 : decode cX2_isAt 28 = .ok (.iconst 0, 1) := by decide +kernel
theorem dX2_isAt_29 : decode cX2_isAt 29 = .ok (.ireturn, 1) := by decide +kernel
theorem dX2_hasRoom_0 : decode cX2_hasRoom 0 = .ok (.aload_n 0, 1) := by decide +kernel
theorem dX2_hasRoom_1 : decode cX2_hasRoom 1 = .ok (.getfield 33, 3) := by decide +kernel
theorem dX2_hasRoom_4 : decode cX2_hasRoom 4 = .ok (.iload_n 1, 1) := by decide +kernel
theorem dX2_hasRoom_5 : decode cX2_hasRoom 5 = .ok (.iand, 1) := by decide +kernel
theorem dX2_hasRoom_6 : decode cX2_hasRoom 6 = .ok (.ifCond .ne 7, 3) := by decide +kernel
theorem dX2_hasRoom_9 : decode cX2_hasRoom 9 = .ok (.iconst 1, 1) := by decide +kernel
theorem dX2_hasRoom_10 : decode cX2_hasRoom 10 = .ok (.goto 4, 3) := by decide +kernel
theorem dX2_hasRoom_13 : decode cX2_hasRoom 13 = .ok (.iconst 0, 1) := by decide +kernel
theorem dX2_hasRoom_14 : decode cX2_hasRoom 14 = .ok (.ireturn, 1) := by decide +kernel
theorem dX2_mayBe_0 : decode cX2_mayBe 0 = .ok (.aload_n 0, 1) := by decide +kernel
theorem dX2_mayBe_1 : decode cX2_mayBe 1 = .ok (.iload_n 1, 1) := by decide +kernel
theorem dX2_mayBe_2 : decode cX2_mayBe 2 = .ok (.invokevirtual 42, 3) := by decide +kernel
theorem dX2_mayBe_5 : decode cX2_mayBe 5 = .ok (.ifCond .eq 29, 3) := by decide +kernel
theorem dX2_mayBe_8 : decode cX2_mayBe 8 = .ok (.aload_n 0, 1) := by decide +kernel
theorem dX2_mayBe_9 : decode cX2_mayBe 9 = .ok (.getfield 13, 3) := by decide +kernel
theorem dX2_mayBe_12 : decode cX2_mayBe 12 = .ok (.getfield 46, 3) := by decide +kernel
theorem dX2_mayBe_15 : decode cX2_mayBe 15 = .ok (.iconst (-1), 1) := by decide +kernel
theorem dX2_mayBe_16 : decode cX2_mayBe 16 = .ok (.if_icmp .eq 14, 3) := by decide +kernel
theorem dX2_mayBe_19 : decode cX2_mayBe 19 = .ok (.aload_n 0, 1) := by decide +kernel
theorem dX2_mayBe_20 : decode cX2_mayBe 20 = .ok (.getfield 13, 3) := by decide +kernel
theorem dX2_mayBe_23 : decode cX2_mayBe 23 = .ok (.getfield 46, 3) := by decide +kernel
theorem dX2_mayBe_26 : decode cX2_mayBe 26 = .ok (.iload_n 2, 1) := by decide +kernel
theorem dX2_mayBe_27 : decode cX2_mayBe 27 = .ok (.if_icmp .ne 7, 3) := by decide +kernel
theorem dX2_mayBe_30 : decode cX2_mayBe 30 = .ok (.iconst 1, 1) := by decide +kernel
theorem dX2_mayBe_31 : decode cX2_mayBe 31 = .ok (.goto 4, 3) := by decide +kernel
theorem dX2_mayBe_34 : decode cX2_mayBe 34 = .ok (.iconst 0, 1) := by decide +kernel
theorem dX2_mayBe_35 : decode cX2_mayBe 35 = .ok (.ireturn, 1) := by decide +kernel
theorem dX3_init_0 : decode cX3_init 0 = .ok (.aload_n 0, 1) := by decide +kernel
theorem dX3_init_1 : decode cX3_init 1 = .ok (.invokespecial 3, 3) := by decide +kernel
theorem dX3_init_4 : decode cX3_init 4 = .ok (.iload_n 1, 1) := by decide +kernel
theorem dX3_init_5 : decode cX3_init 5 = .ok (.ifCond .lt 15, 3) := by decide +kernel
theorem dX3_init_8 : decode cX3_init 8 = .ok (.iload_n 1, 1) := by decide +kernel
theorem dX3_init_9 : decode cX3_init 9 = .ok (.bipush 14, 2) := by decide +kernel
theorem dX3_init_11 : decode cX3_init 11 = .ok (.if_icmp .gt 9, 3) := by decide +kernel
theorem dX3_init_14 : decode cX3_init 14 = .ok (.iconst 1, 1) := by decide +kernel
theorem dX3_init_15 : decode cX3_init 15 = .ok (.iload_n 1, 1) := by decide +kernel
theorem dX3_init_16 : decode cX3_init 16 = .ok (.ishl, 1) := by decide +kernel
theorem dX3_init_17 : decode cX3_init 17 = .ok (.goto 4, 3) := by decide +kernel
theorem dX3_init_20 : decode cX3_init 20 = .ok (.iconst 0, 1) := by decide +kernel
theorem dX3_init_21 : decode cX3_init 21 = .ok (.istore_n 2, 1) := by decide +kernel
theorem dX3_init_22 : decode cX3_init 22 = .ok (.aload_n 0, 1) := by decide +kernel
theorem dX3_init_23 : decode cX3_init 23 = .ok (.iconst 2, 1) := by decide +kernel
theorem dX3_init_24 : decode cX3_init 24 = .ok (.iload_n 2, 1) := by decide +kernel
theorem dX3_init_25 : decode cX3_init 25 = .ok (.imul, 1) := by decide +kernel
theorem dX3_init_26 : decode cX3_init 26 = .ok (.newarray .int, 2) := by decide +kernel
theorem dX3_init_28 : decode cX3_init 28 = .ok (.putfield 9, 3) := by decide +kernel
theorem dX3_init_31 : decode cX3_init 31 = .ok (.aload_n 0, 1) := by decide +kernel
theorem dX3_init_32 : decode cX3_init 32 = .ok (.iconst 2, 1) := by decide +kernel
theorem dX3_init_33 : decode cX3_init 33 = .ok (.iload_n 2, 1) := by decide +kernel
theorem dX3_init_34 : decode cX3_init 34 = .ok (.imul, 1) := by decide +kernel
theorem dX3_init_35 : decode cX3_init 35 = .ok (.newarray .boolean, 2) := by decide +kernel
theorem dX3_init_37 : decode cX3_init 37 = .ok (.putfield 15, 3) := by decide +kernel
theorem dX3_init_40 : decode cX3_init 40 = .ok (.aload_n 0, 1) := by decide +kernel
theorem dX3_init_41 : decode cX3_init 41 = .ok (.iconst 2, 1) := by decide +kernel
theorem dX3_init_42 : decode cX3_init 42 = .ok (.iload_n 2, 1) := by decide +kernel
theorem dX3_init_43 : decode cX3_init 43 = .ok (.imul, 1) := by decide +kernel
theorem dX3_init_44 : decode cX3_init 44 = .ok (.newarray .int, 2) := by decide +kernel
theorem dX3_init_46 : decode cX3_init 46 = .ok (.putfield 19, 3) := by decide +kernel
theorem dX3_init_49 : decode cX3_init 49 = .ok (.aload_n 0, 1) := by decide +kernel
theorem dX3_init_50 : decode cX3_init 50 = .ok (.iconst 2, 1) := by decide +kernel
theorem dX3_init_51 : decode cX3_init 51 = .ok (.iload_n 2, 1) := by decide +kernel
theorem dX3_init_52 : decode cX3_init 52 = .ok (.imul, 1) := by decide +kernel
theorem dX3_init_53 : decode cX3_init 53 = .ok (.newarray .int, 2) := by decide +kernel
theorem dX3_init_55 : decode cX3_init 55 = .ok (.putfield 22, 3) := by decide +kernel
theorem dX3_init_58 : decode cX3_init 58 = .ok (.aload_n 0, 1) := by decide +kernel
theorem dX3_init_59 : decode cX3_init 59 = .ok (.iconst 2, 1) := by decide +kernel
theorem dX3_init_60 : decode cX3_init 60 = .ok (.iload_n 2, 1) := by decide +kernel
theorem dX3_init_61 : decode cX3_init 61 = .ok (.imul, 1) := by decide +kernel
theorem dX3_init_62 : decode cX3_init 62 = .ok (.newarray .int, 2) := by decide +kernel
theorem dX3_init_64 : decode cX3_init 64 = .ok (.putfield 25, 3) := by decide +kernel
theorem dX3_init_67 : decode cX3_init 67 = .ok (.aload_n 0, 1) := by decide +kernel
theorem dX3_init_68 : decode cX3_init 68 = .ok (.iconst 2, 1) := by decide +kernel
theorem dX3_init_69 : decode cX3_init 69 = .ok (.iload_n 2, 1) := by decide +kernel
theorem dX3_init_70 : decode cX3_init 70 = .ok (.imul, 1) := by decide +kernel
theorem dX3_init_71 : decode cX3_init 71 = .ok (.newarray .int, 2) := by decide +kernel
theorem dX3_init_73 : decode cX3_init 73 = .ok (.putfield 28, 3) := by decide +kernel
theorem dX3_init_76 : decode cX3_init 76 = .ok (.aload_n 0, 1) := by decide +kernel
theorem dX3_init_77 : decode cX3_init 77 = .ok (.iconst 2, 1) := by decide +kernel
theorem dX3_init_78 : decode cX3_init 78 = .ok (.iload_n 2, 1) := by decide +kernel
theorem dX3_init_79 : decode cX3_init 79 = .ok (.imul, 1) := by decide +kernel
theorem dX3_init_80 : decode cX3_init 80 = .ok (.newarray .long, 2) := by decide +kernel
theorem dX3_init_82 : decode cX3_init 82 = .ok (.putfield 31, 3) := by decide +kernel
theorem dX3_init_85 : decode cX3_init 85 = .ok (.aload_n 0, 1) := by decide +kernel
theorem dX3_init_86 : decode cX3_init 86 = .ok (.iload_n 2, 1) := by decide +kernel
theorem dX3_init_87 : decode cX3_init 87 = .ok (.newarray .int, 2) := by decide +kernel
theorem dX3_init_89 : decode cX3_init 89 = .ok (.putfield 35, 3) := by decide +kernel
theorem dX3_init_92 : decode cX3_init 92 = .ok (.aload_n 0, 1) := by decide +kernel
theorem dX3_init_93 : decode cX3_init 93 = .ok (.iload_n 2, 1) := by decide +kernel
theorem dX3_init_94 : decode cX3_init 94 = .ok (.newarray .int, 2) := by decide +kernel
theorem dX3_init_96 : decode cX3_init 96 = .ok (.putfield 38, 3) := by decide +kernel
theorem dX3_init_99 : decode cX3_init 99 = .ok (.return_, 1) := by decide +kernel
theorem dX3_hasRoomFor_0 : decode cX3_hasRoomFor 0 = .ok (.aload_n 0, 1) := by decide +kernel
theorem dX3_hasRoomFor_1 : decode cX3_hasRoomFor 1 = .ok (.getfield 38, 3) := by decide +kernel
theorem dX3_hasRoomFor_4 : decode cX3_hasRoomFor 4 = .ok (.arraylength, 1) := by decide +kernel
theorem dX3_hasRoomFor_5 : decode cX3_hasRoomFor 5 = .ok (.iconst 1, 1) := by decide +kernel
theorem dX3_hasRoomFor_6 : decode cX3_hasRoomFor 6 = .ok (.aload_n 1, 1) := by decide +kernel
theorem dX3_hasRoomFor_7 : decode cX3_hasRoomFor 7 = .ok (.getfield 41, 3) := by decide +kernel
theorem dX3_hasRoomFor_10 : decode cX3_hasRoomFor 10 = .ok (.ishl, 1) := by decide +kernel
theorem dX3_hasRoomFor_11 : decode cX3_hasRoomFor 11 = .ok (.if_icmp .lt 7, 3) := by decide +kernel
theorem dX3_hasRoomFor_14 : decode cX3_hasRoomFor 14 = .ok (.iconst 1, 1) := by decide +kernel
theorem dX3_hasRoomFor_15 : decode cX3_hasRoomFor 15 = .ok (.goto 4, 3) := by decide +kernel
theorem dX3_hasRoomFor_18 : decode cX3_hasRoomFor 18 = .ok (.iconst 0, 1) := by decide +kernel
theorem dX3_hasRoomFor_19 : decode cX3_hasRoomFor 19 = .ok (.ireturn, 1) := by decide +kernel
theorem dX3_turnTo_0 : decode cX3_turnTo 0 = .ok (.aload_n 0, 1) := by decide +kernel
theorem dX3_turnTo_1 : decode cX3_turnTo 1 = .ok (.aload_n 1, 1) := by decide +kernel
theorem dX3_turnTo_2 : decode cX3_turnTo 2 = .ok (.putfield 47, 3) := by decide +kernel
theorem dX3_turnTo_5 : decode cX3_turnTo 5 = .ok (.aload_n 0, 1) := by decide +kernel
theorem dX3_turnTo_6 : decode cX3_turnTo 6 = .ok (.dup, 1) := by decide +kernel
theorem dX3_turnTo_7 : decode cX3_turnTo 7 = .ok (.getfield 51, 3) := by decide +kernel
theorem dX3_turnTo_10 : decode cX3_turnTo 10 = .ok (.iconst 1, 1) := by decide +kernel
theorem dX3_turnTo_11 : decode cX3_turnTo 11 = .ok (.iadd, 1) := by decide +kernel
theorem dX3_turnTo_12 : decode cX3_turnTo 12 = .ok (.putfield 51, 3) := by decide +kernel
theorem dX3_turnTo_15 : decode cX3_turnTo 15 = .ok (.return_, 1) := by decide +kernel
theorem dX3_isWon_0 : decode cX3_isWon 0 = .ok (.aload_n 0, 1) := by decide +kernel
theorem dX3_isWon_1 : decode cX3_isWon 1 = .ok (.iload_n 1, 1) := by decide +kernel
theorem dX3_isWon_2 : decode cX3_isWon 2 = .ok (.iload_n 2, 1) := by decide +kernel
theorem dX3_isWon_3 : decode cX3_isWon 3 = .ok (.iconst 0, 1) := by decide +kernel
theorem dX3_isWon_4 : decode cX3_isWon 4 = .ok (.invokestatic 54, 3) := by decide +kernel
theorem dX3_isWon_7 : decode cX3_isWon 7 = .ok (.aload_n 0, 1) := by decide +kernel
theorem dX3_isWon_8 : decode cX3_isWon 8 = .ok (.iload_n 1, 1) := by decide +kernel
theorem dX3_isWon_9 : decode cX3_isWon 9 = .ok (.iload_n 2, 1) := by decide +kernel
theorem dX3_isWon_10 : decode cX3_isWon 10 = .ok (.invokevirtual 58, 3) := by decide +kernel
theorem dX3_isWon_13 : decode cX3_isWon 13 = .ok (.istore_n 3, 1) := by decide +kernel
theorem dX3_isWon_14 : decode cX3_isWon 14 = .ok (.iload_n 3, 1) := by decide +kernel
theorem dX3_isWon_15 : decode cX3_isWon 15 = .ok (.iconst (-1), 1) := by decide +kernel
theorem dX3_isWon_16 : decode cX3_isWon 16 = .ok (.if_icmp .eq 16, 3) := by decide +kernel
theorem dX3_isWon_19 : decode cX3_isWon 19 = .ok (.aload_n 0, 1) := by decide +kernel
theorem dX3_isWon_20 : decode cX3_isWon 20 = .ok (.getfield 15, 3) := by decide +kernel
theorem dX3_isWon_23 : decode cX3_isWon 23 = .ok (.iload_n 3, 1) := by decide +kernel
theorem dX3_isWon_24 : decode cX3_isWon 24 = .ok (.baload, 1) := by decide +kernel
theorem dX3_isWon_25 : decode cX3_isWon 25 = .ok (.ifCond .eq 7, 3) := by decide +kernel
theorem dX3_isWon_28 : decode cX3_isWon 28 = .ok (.iconst 1, 1) := by decide +kernel
theorem dX3_isWon_29 : decode cX3_isWon 29 = .ok (.goto 4, 3) := by decide +kernel
theorem dX3_isWon_32 : decode cX3_isWon 32 = .ok (.iconst 0, 1) := by decide +kernel
theorem dX3_isWon_33 : decode cX3_isWon 33 = .ok (.ireturn, 1) := by decide +kernel
theorem dX3_measured_0 : decode cX3_measured 0 = .ok (.aload_n 0, 1) := by decide +kernel
theorem dX3_measured_1 : decode cX3_measured 1 = .ok (.iload_n 2, 1) := by decide +kernel
theorem dX3_measured_2 : decode cX3_measured 2 = .ok (.iload_n 3, 1) := by decide +kernel
theorem dX3_measured_3 : decode cX3_measured 3 = .ok (.iconst 0, 1) := by decide +kernel
theorem dX3_measured_4 : decode cX3_measured 4 = .ok (.invokestatic 54, 3) := by decide +kernel
theorem dX3_measured_7 : decode cX3_measured 7 = .ok (.aload_n 0, 1) := by decide +kernel
theorem dX3_measured_8 : decode cX3_measured 8 = .ok (.iload_n 2, 1) := by decide +kernel
theorem dX3_measured_9 : decode cX3_measured 9 = .ok (.iload_n 3, 1) := by decide +kernel
theorem dX3_measured_10 : decode cX3_measured 10 = .ok (.invokevirtual 58, 3) := by decide +kernel
theorem dX3_measured_13 : decode cX3_measured 13 = .ok (.istore 4, 2) := by decide +kernel
theorem dX3_measured_15 : decode cX3_measured 15 = .ok (.iload 4, 2) := by decide +kernel
theorem dX3_measured_17 : decode cX3_measured 17 = .ok (.iconst (-1), 1) := by decide +kernel
theorem dX3_measured_18 : decode cX3_measured 18 = .ok (.if_icmp .ne 5, 3) := by decide +kernel
theorem dX3_measured_21 : decode cX3_measured 21 = .ok (.iconst 0, 1) := by decide +kernel
theorem dX3_measured_22 : decode cX3_measured 22 = .ok (.ireturn, 1) := by decide +kernel
theorem dX3_measured_23 : decode cX3_measured 23 = .ok (.iload_n 1, 1) := by decide +kernel
theorem dX3_measured_24 : decode cX3_measured 24 = .ok (.tableswitch 52 0 2 #[28, 36, 44], 28) := by decide +kernel
theorem dX3_measured_52 : decode cX3_measured 52 = .ok (.aload_n 0, 1) := by decide +kernel
theorem dX3_measured_53 : decode cX3_measured 53 = .ok (.getfield 19, 3) := by decide +kernel
theorem dX3_measured_56 : decode cX3_measured 56 = .ok (.iload 4, 2) := by decide +kernel
theorem dX3_measured_58 : decode cX3_measured 58 = .ok (.iaload, 1) := by decide +kernel
theorem dX3_measured_59 : decode cX3_measured 59 = .ok (.ireturn, 1) := by decide +kernel
theorem dX3_measured_60 : decode cX3_measured 60 = .ok (.aload_n 0, 1) := by decide +kernel
theorem dX3_measured_61 : decode cX3_measured 61 = .ok (.getfield 22, 3) := by decide +kernel
theorem dX3_measured_64 : decode cX3_measured 64 = .ok (.iload 4, 2) := by decide +kernel
theorem dX3_measured_66 : decode cX3_measured 66 = .ok (.iaload, 1) := by decide +kernel
theorem dX3_measured_67 : decode cX3_measured 67 = .ok (.ireturn, 1) := by decide +kernel
theorem dX3_measured_68 : decode cX3_measured 68 = .ok (.aload_n 0, 1) := by decide +kernel
theorem dX3_measured_69 : decode cX3_measured 69 = .ok (.getfield 25, 3) := by decide +kernel
theorem dX3_measured_72 : decode cX3_measured 72 = .ok (.iload 4, 2) := by decide +kernel
theorem dX3_measured_74 : decode cX3_measured 74 = .ok (.iaload, 1) := by decide +kernel
theorem dX3_measured_75 : decode cX3_measured 75 = .ok (.ireturn, 1) := by decide +kernel
theorem dX3_measured_76 : decode cX3_measured 76 = .ok (.aload_n 0, 1) := by decide +kernel
theorem dX3_measured_77 : decode cX3_measured 77 = .ok (.getfield 28, 3) := by decide +kernel
theorem dX3_measured_80 : decode cX3_measured 80 = .ok (.iload 4, 2) := by decide +kernel
theorem dX3_measured_82 : decode cX3_measured 82 = .ok (.iaload, 1) := by decide +kernel
theorem dX3_measured_83 : decode cX3_measured 83 = .ok (.ireturn, 1) := by decide +kernel
theorem dX3_rowsOfLays_0 : decode cX3_rowsOfLays 0 = .ok (.aload_n 0, 1) := by decide +kernel
theorem dX3_rowsOfLays_1 : decode cX3_rowsOfLays 1 = .ok (.iload_n 1, 1) := by decide +kernel
theorem dX3_rowsOfLays_2 : decode cX3_rowsOfLays 2 = .ok (.iload_n 2, 1) := by decide +kernel
theorem dX3_rowsOfLays_3 : decode cX3_rowsOfLays 3 = .ok (.iconst 0, 1) := by decide +kernel
theorem dX3_rowsOfLays_4 : decode cX3_rowsOfLays 4 = .ok (.invokestatic 54, 3) := by decide +kernel
theorem dX3_rowsOfLays_7 : decode cX3_rowsOfLays 7 = .ok (.aload_n 0, 1) := by decide +kernel
theorem dX3_rowsOfLays_8 : decode cX3_rowsOfLays 8 = .ok (.iload_n 1, 1) := by decide +kernel
theorem dX3_rowsOfLays_9 : decode cX3_rowsOfLays 9 = .ok (.iload_n 2, 1) := by decide +kernel
theorem dX3_rowsOfLays_10 : decode cX3_rowsOfLays 10 = .ok (.invokevirtual 58, 3) := by decide +kernel
theorem dX3_rowsOfLays_13 : decode cX3_rowsOfLays 13 = .ok (.istore_n 3, 1) := by decide +kernel
theorem dX3_rowsOfLays_14 : decode cX3_rowsOfLays 14 = .ok (.iload_n 3, 1) := by decide +kernel
theorem dX3_rowsOfLays_15 : decode cX3_rowsOfLays 15 = .ok (.iconst (-1), 1) := by decide +kernel
theorem dX3_rowsOfLays_16 : decode cX3_rowsOfLays 16 = .ok (.if_icmp .ne 7, 3) := by decide +kernel
theorem dX3_rowsOfLays_19 : decode cX3_rowsOfLays 19 = .ok (.lconst 0, 1) := by decide +kernel
theorem dX3_rowsOfLays_20 : decode cX3_rowsOfLays 20 = .ok (.goto 9, 3) := by decide +kernel
theorem dX3_rowsOfLays_23 : decode cX3_rowsOfLays 23 = .ok (.aload_n 0, 1) := by decide +kernel
theorem dX3_rowsOfLays_24 : decode cX3_rowsOfLays 24 = .ok (.getfield 31, 3) := by decide +kernel
theorem dX3_rowsOfLays_27 : decode cX3_rowsOfLays 27 = .ok (.iload_n 3, 1) := by decide +kernel
theorem dX3_rowsOfLays_28 : decode cX3_rowsOfLays 28 = .ok (.laload, 1) := by decide +kernel
theorem dX3_rowsOfLays_29 : decode cX3_rowsOfLays 29 = .ok (.lreturn, 1) := by decide +kernel
theorem dX3_firstWinning_0 : decode cX3_firstWinning 0 = .ok (.aload_n 0, 1) := by decide +kernel
theorem dX3_firstWinning_1 : decode cX3_firstWinning 1 = .ok (.getfield 47, 3) := by decide +kernel
theorem dX3_firstWinning_4 : decode cX3_firstWinning 4 = .ok (.ifnonnull 5, 3) := by decide +kernel
theorem dX3_firstWinning_7 : decode cX3_firstWinning 7 = .ok (.aconst_null, 1) := by decide +kernel
theorem dX3_firstWinning_8 : decode cX3_firstWinning 8 = .ok (.areturn, 1) := by decide +kernel
theorem dX3_firstWinning_9 : decode cX3_firstWinning 9 = .ok (.aload_n 0, 1) := by decide +kernel
theorem dX3_firstWinning_10 : decode cX3_firstWinning 10 = .ok (.getfield 47, 3) := by decide +kernel
theorem dX3_firstWinning_13 : decode cX3_firstWinning 13 = .ok (.getfield 62, 3) := by decide +kernel
theorem dX3_firstWinning_16 : decode cX3_firstWinning 16 = .ok (.astore_n 3, 1) := by decide +kernel
theorem dX3_firstWinning_17 : decode cX3_firstWinning 17 = .ok (.aload_n 3, 1) := by decide +kernel
theorem dX3_firstWinning_18 : decode cX3_firstWinning 18 = .ok (.arraylength, 1) := by decide +kernel
theorem dX3_firstWinning_19 : decode cX3_firstWinning 19 = .ok (.istore 4, 2) := by decide +kernel
theorem dX3_firstWinning_21 : decode cX3_firstWinning 21 = .ok (.iconst 0, 1) := by decide +kernel
theorem dX3_firstWinning_22 : decode cX3_firstWinning 22 = .ok (.istore 5, 2) := by decide +kernel
theorem dX3_firstWinning_24 : decode cX3_firstWinning 24 = .ok (.iload 5, 2) := by decide +kernel
theorem dX3_firstWinning_26 : decode cX3_firstWinning 26 = .ok (.iload 4, 2) := by decide +kernel
theorem dX3_firstWinning_28 : decode cX3_firstWinning 28 = .ok (.if_icmp .ge 45, 3) := by decide +kernel
theorem dX3_firstWinning_31 : decode cX3_firstWinning 31 = .ok (.aload_n 3, 1) := by decide +kernel
theorem dX3_firstWinning_32 : decode cX3_firstWinning 32 = .ok (.iload 5, 2) := by decide +kernel
theorem dX3_firstWinning_34 : decode cX3_firstWinning 34 = .ok (.aaload, 1) := by decide +kernel
theorem dX3_firstWinning_35 : decode cX3_firstWinning 35 = .ok (.astore 6, 2) := by decide +kernel
theorem dX3_firstWinning_37 : decode cX3_firstWinning 37 = .ok (.aload 6, 2) := by decide +kernel
theorem dX3_firstWinning_39 : decode cX3_firstWinning 39 = .ok (.iload_n 1, 1) := by decide +kernel
theorem dX3_firstWinning_40 : decode cX3_firstWinning 40 = .ok (.iload_n 2, 1) := by decide +kernel
theorem dX3_firstWinning_41 : decode cX3_firstWinning 41 = .ok (.invokevirtual 66, 3) := by decide +kernel
theorem dX3_firstWinning_44 : decode cX3_firstWinning 44 = .ok (.ifCond .eq 23, 3) := by decide +kernel
theorem dX3_firstWinning_47 : decode cX3_firstWinning 47 = .ok (.aload_n 0, 1) := by decide +kernel
theorem dX3_firstWinning_48 : decode cX3_firstWinning 48 = .ok (.iload_n 1, 1) := by decide +kernel
theorem dX3_firstWinning_49 : decode cX3_firstWinning 49 = .ok (.aload 6, 2) := by decide +kernel
theorem dX3_firstWinning_51 : decode cX3_firstWinning 51 = .ok (.getfield 72, 3) := by decide +kernel
theorem dX3_firstWinning_54 : decode cX3_firstWinning 54 = .ok (.ior, 1) := by decide +kernel
theorem dX3_firstWinning_55 : decode cX3_firstWinning 55 = .ok (.iconst 1, 1) := by decide +kernel
theorem dX3_firstWinning_56 : decode cX3_firstWinning 56 = .ok (.iload_n 2, 1) := by decide +kernel
theorem dX3_firstWinning_57 : decode cX3_firstWinning 57 = .ok (.isub, 1) := by decide +kernel
theorem dX3_firstWinning_58 : decode cX3_firstWinning 58 = .ok (.invokevirtual 73, 3) := by decide +kernel
theorem dX3_firstWinning_61 : decode cX3_firstWinning 61 = .ok (.ifCond .ne 6, 3) := by decide +kernel
theorem dX3_firstWinning_64 : decode cX3_firstWinning 64 = .ok (.aload 6, 2) := by decide +kernel
theorem dX3_firstWinning_66 : decode cX3_firstWinning 66 = .ok (.areturn, 1) := by decide +kernel
theorem dX3_firstWinning_67 : decode cX3_firstWinning 67 = .ok (.iinc 5 1, 3) := by decide +kernel
theorem dX3_firstWinning_70 : decode cX3_firstWinning 70 = .ok (.goto (-46), 3) := by decide +kernel
theorem dX3_firstWinning_73 : decode cX3_firstWinning 73 = .ok (.aconst_null, 1) := by decide +kernel
theorem dX3_firstWinning_74 : decode cX3_firstWinning 74 = .ok (.areturn, 1) := by decide +kernel
theorem dX3_countWinning_0 : decode cX3_countWinning 0 = .ok (.aload_n 0, 1) := by decide +kernel
theorem dX3_countWinning_1 : decode cX3_countWinning 1 = .ok (.getfield 47, 3) := by decide +kernel
theorem dX3_countWinning_4 : decode cX3_countWinning 4 = .ok (.ifnonnull 5, 3) := by decide +kernel
theorem dX3_countWinning_7 : decode cX3_countWinning 7 = .ok (.iconst 0, 1) := by decide +kernel
theorem dX3_countWinning_8 : decode cX3_countWinning 8 = .ok (.ireturn, 1) := by decide +kernel
theorem dX3_countWinning_9 : decode cX3_countWinning 9 = .ok (.iconst 0, 1) := by decide +kernel
theorem dX3_countWinning_10 : decode cX3_countWinning 10 = .ok (.istore_n 3, 1) := by decide +kernel
theorem dX3_countWinning_11 : decode cX3_countWinning 11 = .ok (.aload_n 0, 1) := by decide +kernel
theorem dX3_countWinning_12 : decode cX3_countWinning 12 = .ok (.getfield 47, 3) := by decide +kernel
theorem dX3_countWinning_15 : decode cX3_countWinning 15 = .ok (.getfield 62, 3) := by decide +kernel
theorem dX3_countWinning_18 : decode cX3_countWinning 18 = .ok (.astore 4, 2) := by decide +kernel
theorem dX3_countWinning_20 : decode cX3_countWinning 20 = .ok (.aload 4, 2) := by decide +kernel
theorem dX3_countWinning_22 : decode cX3_countWinning 22 = .ok (.arraylength, 1) := by decide +kernel
theorem dX3_countWinning_23 : decode cX3_countWinning 23 = .ok (.istore 5, 2) := by decide +kernel
theorem dX3_countWinning_25 : decode cX3_countWinning 25 = .ok (.iconst 0, 1) := by decide +kernel
theorem dX3_countWinning_26 : decode cX3_countWinning 26 = .ok (.istore 6, 2) := by decide +kernel
theorem dX3_countWinning_28 : decode cX3_countWinning 28 = .ok (.iload 6, 2) := by decide +kernel
theorem dX3_countWinning_30 : decode cX3_countWinning 30 = .ok (.iload 5, 2) := by decide +kernel
theorem dX3_countWinning_32 : decode cX3_countWinning 32 = .ok (.if_icmp .ge 46, 3) := by decide +kernel
theorem dX3_countWinning_35 : decode cX3_countWinning 35 = .ok (.aload 4, 2) := by decide +kernel
theorem dX3_countWinning_37 : decode cX3_countWinning 37 = .ok (.iload 6, 2) := by decide +kernel
theorem dX3_countWinning_39 : decode cX3_countWinning 39 = .ok (.aaload, 1) := by decide +kernel
theorem dX3_countWinning_40 : decode cX3_countWinning 40 = .ok (.astore 7, 2) := by decide +kernel
theorem dX3_countWinning_42 : decode cX3_countWinning 42 = .ok (.aload 7, 2) := by decide +kernel
theorem dX3_countWinning_44 : decode cX3_countWinning 44 = .ok (.iload_n 1, 1) := by decide +kernel
theorem dX3_countWinning_45 : decode cX3_countWinning 45 = .ok (.iload_n 2, 1) := by decide +kernel
theorem dX3_countWinning_46 : decode cX3_countWinning 46 = .ok (.invokevirtual 66, 3) := by decide +kernel
theorem dX3_countWinning_49 : decode cX3_countWinning 49 = .ok (.ifCond .eq 23, 3) := by decide +kernel
theorem dX3_countWinning_52 : decode cX3_countWinning 52 = .ok (.aload_n 0, 1) := by decide +kernel
theorem dX3_countWinning_53 : decode cX3_countWinning 53 = .ok (.iload_n 1, 1) := by decide +kernel
theorem dX3_countWinning_54 : decode cX3_countWinning 54 = .ok (.aload 7, 2) := by decide +kernel
theorem dX3_countWinning_56 : decode cX3_countWinning 56 = .ok (.getfield 72, 3) := by decide +kernel
theorem dX3_countWinning_59 : decode cX3_countWinning 59 = .ok (.ior, 1) := by decide +kernel
theorem dX3_countWinning_60 : decode cX3_countWinning 60 = .ok (.iconst 1, 1) := by decide +kernel
theorem dX3_countWinning_61 : decode cX3_countWinning 61 = .ok (.iload_n 2, 1) := by decide +kernel
theorem dX3_countWinning_62 : decode cX3_countWinning 62 = .ok (.isub, 1) := by decide +kernel
theorem dX3_countWinning_63 : decode cX3_countWinning 63 = .ok (.invokevirtual 73, 3) := by decide +kernel
theorem dX3_countWinning_66 : decode cX3_countWinning 66 = .ok (.ifCond .ne 6, 3) := by decide +kernel
theorem dX3_countWinning_69 : decode cX3_countWinning 69 = .ok (.iinc 3 1, 3) := by decide +kernel
theorem dX3_countWinning_72 : decode cX3_countWinning 72 = .ok (.iinc 6 1, 3) := by decide +kernel
theorem dX3_countWinning_75 : decode cX3_countWinning 75 = .ok (.goto (-47), 3) := by decide +kernel
theorem dX3_countWinning_78 : decode cX3_countWinning 78 = .ok (.iload_n 3, 1) := by decide +kernel
theorem dX3_countWinning_79 : decode cX3_countWinning 79 = .ok (.ireturn, 1) := by decide +kernel
theorem dX3_turningSquare_0 : decode cX3_turningSquare 0 = .ok (.aload_n 0, 1) := by decide +kernel
theorem dX3_turningSquare_1 : decode cX3_turningSquare 1 = .ok (.getfield 47, 3) := by decide +kernel
theorem dX3_turningSquare_4 : decode cX3_turningSquare 4 = .ok (.ifnonnull 6, 3) := by decide +kernel
theorem dX3_turningSquare_7 : decode cX3_turningSquare 7 = .ok (.bipush (-2), 2) := by decide +kernel
theorem dX3_turningSquare_9 : decode cX3_turningSquare 9 = .ok (.ireturn, 1) := by decide +kernel
theorem dX3_turningSquare_10 : decode cX3_turningSquare 10 = .ok (.aload_n 0, 1) := by decide +kernel
theorem dX3_turningSquare_11 : decode cX3_turningSquare 11 = .ok (.iload_n 1, 1) := by decide +kernel
theorem dX3_turningSquare_12 : decode cX3_turningSquare 12 = .ok (.iload_n 2, 1) := by decide +kernel
theorem dX3_turningSquare_13 : decode cX3_turningSquare 13 = .ok (.invokevirtual 73, 3) := by decide +kernel
theorem dX3_turningSquare_16 : decode cX3_turningSquare 16 = .ok (.istore_n 3, 1) := by decide +kernel
theorem dX3_turningSquare_17 : decode cX3_turningSquare 17 = .ok (.iconst 0, 1) := by decide +kernel
theorem dX3_turningSquare_18 : decode cX3_turningSquare 18 = .ok (.istore 4, 2) := by decide +kernel
theorem dX3_turningSquare_20 : decode cX3_turningSquare 20 = .ok (.iload 4, 2) := by decide +kernel
theorem dX3_turningSquare_22 : decode cX3_turningSquare 22 = .ok (.aload_n 0, 1) := by decide +kernel
theorem dX3_turningSquare_23 : decode cX3_turningSquare 23 = .ok (.getfield 47, 3) := by decide +kernel
theorem dX3_turningSquare_26 : decode cX3_turningSquare 26 = .ok (.getfield 41, 3) := by decide +kernel
theorem dX3_turningSquare_29 : decode cX3_turningSquare 29 = .ok (.if_icmp .ge 46, 3) := by decide +kernel
theorem dX3_turningSquare_32 : decode cX3_turningSquare 32 = .ok (.iconst 1, 1) := by decide +kernel
theorem dX3_turningSquare_33 : decode cX3_turningSquare 33 = .ok (.iload 4, 2) := by decide +kernel
theorem dX3_turningSquare_35 : decode cX3_turningSquare 35 = .ok (.ishl, 1) := by decide +kernel
theorem dX3_turningSquare_36 : decode cX3_turningSquare 36 = .ok (.istore 5, 2) := by decide +kernel
theorem dX3_turningSquare_38 : decode cX3_turningSquare 38 = .ok (.iload_n 1, 1) := by decide +kernel
theorem dX3_turningSquare_39 : decode cX3_turningSquare 39 = .ok (.aload_n 0, 1) := by decide +kernel
theorem dX3_turningSquare_40 : decode cX3_turningSquare 40 = .ok (.getfield 47, 3) := by decide +kernel
theorem dX3_turningSquare_43 : decode cX3_turningSquare 43 = .ok (.getfield 76, 3) := by decide +kernel
theorem dX3_turningSquare_46 : decode cX3_turningSquare 46 = .ok (.ior, 1) := by decide +kernel
theorem dX3_turningSquare_47 : decode cX3_turningSquare 47 = .ok (.iload 5, 2) := by decide +kernel
theorem dX3_turningSquare_49 : decode cX3_turningSquare 49 = .ok (.iand, 1) := by decide +kernel
theorem dX3_turningSquare_50 : decode cX3_turningSquare 50 = .ok (.ifCond .ne 19, 3) := by decide +kernel
theorem dX3_turningSquare_53 : decode cX3_turningSquare 53 = .ok (.aload_n 0, 1) := by decide +kernel
theorem dX3_turningSquare_54 : decode cX3_turningSquare 54 = .ok (.iload_n 1, 1) := by decide +kernel
theorem dX3_turningSquare_55 : decode cX3_turningSquare 55 = .ok (.iload 5, 2) := by decide +kernel
theorem dX3_turningSquare_57 : decode cX3_turningSquare 57 = .ok (.ior, 1) := by decide +kernel
theorem dX3_turningSquare_58 : decode cX3_turningSquare 58 = .ok (.iload_n 2, 1) := by decide +kernel
theorem dX3_turningSquare_59 : decode cX3_turningSquare 59 = .ok (.invokevirtual 73, 3) := by decide +kernel
theorem dX3_turningSquare_62 : decode cX3_turningSquare 62 = .ok (.iload_n 3, 1) := by decide +kernel
theorem dX3_turningSquare_63 : decode cX3_turningSquare 63 = .ok (.if_icmp .eq 6, 3) := by decide +kernel
theorem dX3_turningSquare_66 : decode cX3_turningSquare 66 = .ok (.iload 4, 2) := by decide +kernel
theorem dX3_turningSquare_68 : decode cX3_turningSquare 68 = .ok (.ireturn, 1) := by decide +kernel
theorem dX3_turningSquare_69 : decode cX3_turningSquare 69 = .ok (.iinc 4 1, 3) := by decide +kernel
theorem dX3_turningSquare_72 : decode cX3_turningSquare 72 = .ok (.goto (-52), 3) := by decide +kernel
theorem dX3_turningSquare_75 : decode cX3_turningSquare 75 = .ok (.bipush (-2), 2) := by decide +kernel
theorem dX3_turningSquare_77 : decode cX3_turningSquare 77 = .ok (.ireturn, 1) := by decide +kernel
theorem dX3_stateOf_0 : decode cX3_stateOf 0 = .ok (.iconst 2, 1) := by decide +kernel
theorem dX3_stateOf_1 : decode cX3_stateOf 1 = .ok (.iload_n 1, 1) := by decide +kernel
theorem dX3_stateOf_2 : decode cX3_stateOf 2 = .ok (.imul, 1) := by decide +kernel
theorem dX3_stateOf_3 : decode cX3_stateOf 3 = .ok (.iload_n 2, 1) := by decide +kernel
theorem dX3_stateOf_4 : decode cX3_stateOf 4 = .ok (.iadd, 1) := by decide +kernel
theorem dX3_stateOf_5 : decode cX3_stateOf 5 = .ok (.istore_n 3, 1) := by decide +kernel
theorem dX3_stateOf_6 : decode cX3_stateOf 6 = .ok (.aload_n 0, 1) := by decide +kernel
theorem dX3_stateOf_7 : decode cX3_stateOf 7 = .ok (.getfield 47, 3) := by decide +kernel
theorem dX3_stateOf_10 : decode cX3_stateOf 10 = .ok (.ifnull 16, 3) := by decide +kernel
theorem dX3_stateOf_13 : decode cX3_stateOf 13 = .ok (.iload_n 3, 1) := by decide +kernel
theorem dX3_stateOf_14 : decode cX3_stateOf 14 = .ok (.ifCond .lt 12, 3) := by decide +kernel
theorem dX3_stateOf_17 : decode cX3_stateOf 17 = .ok (.iload_n 3, 1) := by decide +kernel
theorem dX3_stateOf_18 : decode cX3_stateOf 18 = .ok (.aload_n 0, 1) := by decide +kernel
theorem dX3_stateOf_19 : decode cX3_stateOf 19 = .ok (.getfield 9, 3) := by decide +kernel
theorem dX3_stateOf_22 : decode cX3_stateOf 22 = .ok (.arraylength, 1) := by decide +kernel
theorem dX3_stateOf_23 : decode cX3_stateOf 23 = .ok (.if_icmp .lt 7, 3) := by decide +kernel
theorem dX3_stateOf_26 : decode cX3_stateOf 26 = .ok (.iconst (-1), 1) := by decide +kernel
theorem dX3_stateOf_27 : decode cX3_stateOf 27 = .ok (.goto 4, 3) := by decide +kernel
theorem dX3_stateOf_30 : decode cX3_stateOf 30 = .ok (.iload_n 3, 1) := by decide +kernel
theorem dX3_stateOf_31 : decode cX3_stateOf 31 = .ok (.ireturn, 1) := by decide +kernel
theorem dX3_settle_0 : decode cX3_settle 0 = .ok (.aload_n 0, 1) := by decide +kernel
theorem dX3_settle_1 : decode cX3_settle 1 = .ok (.iload_n 1, 1) := by decide +kernel
theorem dX3_settle_2 : decode cX3_settle 2 = .ok (.iload_n 2, 1) := by decide +kernel
theorem dX3_settle_3 : decode cX3_settle 3 = .ok (.invokevirtual 58, 3) := by decide +kernel
theorem dX3_settle_6 : decode cX3_settle 6 = .ok (.istore 4, 2) := by decide +kernel
theorem dX3_settle_8 : decode cX3_settle 8 = .ok (.iload 4, 2) := by decide +kernel
theorem dX3_settle_10 : decode cX3_settle 10 = .ok (.iconst (-1), 1) := by decide +kernel
theorem dX3_settle_11 : decode cX3_settle 11 = .ok (.if_icmp .eq 23, 3) := by decide +kernel
theorem dX3_settle_14 : decode cX3_settle 14 = .ok (.aload_n 0, 1) := by decide +kernel
theorem dX3_settle_15 : decode cX3_settle 15 = .ok (.getfield 9, 3) := by decide +kernel
theorem dX3_settle_18 : decode cX3_settle 18 = .ok (.iload 4, 2) := by decide +kernel
theorem dX3_settle_20 : decode cX3_settle 20 = .ok (.iaload, 1) := by decide +kernel
theorem dX3_settle_21 : decode cX3_settle 21 = .ok (.aload_n 0, 1) := by decide +kernel
theorem dX3_settle_22 : decode cX3_settle 22 = .ok (.getfield 51, 3) := by decide +kernel
theorem dX3_settle_25 : decode cX3_settle 25 = .ok (.if_icmp .eq 9, 3) := by decide +kernel
theorem dX3_settle_28 : decode cX3_settle 28 = .ok (.iload_n 3, 1) := by decide +kernel
theorem dX3_settle_29 : decode cX3_settle 29 = .ok (.bipush 14, 2) := by decide +kernel
theorem dX3_settle_31 : decode cX3_settle 31 = .ok (.if_icmp .le 4, 3) := by decide +kernel
theorem dX3_settle_34 : decode cX3_settle 34 = .ok (.return_, 1) := by decide +kernel
theorem dX3_settle_35 : decode cX3_settle 35 = .ok (.aload_n 0, 1) := by decide +kernel
theorem dX3_settle_36 : decode cX3_settle 36 = .ok (.iload 4, 2) := by decide +kernel
theorem dX3_settle_38 : decode cX3_settle 38 = .ok (.invokevirtual 79, 3) := by decide +kernel
theorem dX3_settle_41 : decode cX3_settle 41 = .ok (.iconst 0, 1) := by decide +kernel
theorem dX3_settle_42 : decode cX3_settle 42 = .ok (.istore 5, 2) := by decide +kernel
theorem dX3_settle_44 : decode cX3_settle 44 = .ok (.lconst 0, 1) := by decide +kernel
theorem dX3_settle_45 : decode cX3_settle 45 = .ok (.lstore 6, 2) := by decide +kernel
theorem dX3_settle_47 : decode cX3_settle 47 = .ok (.aload_n 0, 1) := by decide +kernel
theorem dX3_settle_48 : decode cX3_settle 48 = .ok (.getfield 47, 3) := by decide +kernel
theorem dX3_settle_51 : decode cX3_settle 51 = .ok (.getfield 62, 3) := by decide +kernel
theorem dX3_settle_54 : decode cX3_settle 54 = .ok (.astore 8, 2) := by decide +kernel
theorem dX3_settle_56 : decode cX3_settle 56 = .ok (.aload 8, 2) := by decide +kernel
theorem dX3_settle_58 : decode cX3_settle 58 = .ok (.arraylength, 1) := by decide +kernel
theorem dX3_settle_59 : decode cX3_settle 59 = .ok (.istore 9, 2) := by decide +kernel
theorem dX3_settle_61 : decode cX3_settle 61 = .ok (.iconst 0, 1) := by decide +kernel
theorem dX3_settle_62 : decode cX3_settle 62 = .ok (.istore 10, 2) := by decide +kernel
theorem dX3_settle_64 : decode cX3_settle 64 = .ok (.iload 10, 2) := by decide +kernel
theorem dX3_settle_66 : decode cX3_settle 66 = .ok (.iload 9, 2) := by decide +kernel
theorem dX3_settle_68 : decode cX3_settle 68 = .ok (.if_icmp .ge 95, 3) := by decide +kernel
theorem dX3_settle_71 : decode cX3_settle 71 = .ok (.aload 8, 2) := by decide +kernel
theorem dX3_settle_73 : decode cX3_settle 73 = .ok (.iload 10, 2) := by decide +kernel
theorem dX3_settle_75 : decode cX3_settle 75 = .ok (.aaload, 1) := by decide +kernel
theorem dX3_settle_76 : decode cX3_settle 76 = .ok (.astore 11, 2) := by decide +kernel
theorem dX3_settle_78 : decode cX3_settle 78 = .ok (.aload 11, 2) := by decide +kernel
theorem dX3_settle_80 : decode cX3_settle 80 = .ok (.iload_n 1, 1) := by decide +kernel
theorem dX3_settle_81 : decode cX3_settle 81 = .ok (.iload_n 2, 1) := by decide +kernel
theorem dX3_settle_82 : decode cX3_settle 82 = .ok (.invokevirtual 66, 3) := by decide +kernel
theorem dX3_settle_85 : decode cX3_settle 85 = .ok (.ifCond .ne 6, 3) := by decide +kernel
theorem dX3_settle_88 : decode cX3_settle 88 = .ok (.goto 69, 3) := by decide +kernel
theorem dX3_settle_91 : decode cX3_settle 91 = .ok (.aload_n 0, 1) := by decide +kernel
theorem dX3_settle_92 : decode cX3_settle 92 = .ok (.iload_n 1, 1) := by decide +kernel
theorem dX3_settle_93 : decode cX3_settle 93 = .ok (.aload 11, 2) := by decide +kernel
theorem dX3_settle_95 : decode cX3_settle 95 = .ok (.getfield 72, 3) := by decide +kernel
theorem dX3_settle_98 : decode cX3_settle 98 = .ok (.ior, 1) := by decide +kernel
theorem dX3_settle_99 : decode cX3_settle 99 = .ok (.iconst 1, 1) := by decide +kernel
theorem dX3_settle_100 : decode cX3_settle 100 = .ok (.iload_n 2, 1) := by decide +kernel
theorem dX3_settle_101 : decode cX3_settle 101 = .ok (.isub, 1) := by decide +kernel
theorem dX3_settle_102 : decode cX3_settle 102 = .ok (.iload_n 3, 1) := by decide +kernel
theorem dX3_settle_103 : decode cX3_settle 103 = .ok (.iconst 1, 1) := by decide +kernel
theorem dX3_settle_104 : decode cX3_settle 104 = .ok (.iadd, 1) := by decide +kernel
theorem dX3_settle_105 : decode cX3_settle 105 = .ok (.invokestatic 54, 3) := by decide +kernel
theorem dX3_settle_108 : decode cX3_settle 108 = .ok (.aload_n 0, 1) := by decide +kernel
theorem dX3_settle_109 : decode cX3_settle 109 = .ok (.iload_n 1, 1) := by decide +kernel
theorem dX3_settle_110 : decode cX3_settle 110 = .ok (.aload 11, 2) := by decide +kernel
theorem dX3_settle_112 : decode cX3_settle 112 = .ok (.getfield 72, 3) := by decide +kernel
theorem dX3_settle_115 : decode cX3_settle 115 = .ok (.ior, 1) := by decide +kernel
theorem dX3_settle_116 : decode cX3_settle 116 = .ok (.iconst 1, 1) := by decide +kernel
theorem dX3_settle_117 : decode cX3_settle 117 = .ok (.iload_n 2, 1) := by decide +kernel
theorem dX3_settle_118 : decode cX3_settle 118 = .ok (.isub, 1) := by decide +kernel
theorem dX3_settle_119 : decode cX3_settle 119 = .ok (.invokevirtual 58, 3) := by decide +kernel
theorem dX3_settle_122 : decode cX3_settle 122 = .ok (.istore 12, 2) := by decide +kernel
theorem dX3_settle_124 : decode cX3_settle 124 = .ok (.iload 12, 2) := by decide +kernel
theorem dX3_settle_126 : decode cX3_settle 126 = .ok (.iconst (-1), 1) := by decide +kernel
theorem dX3_settle_127 : decode cX3_settle 127 = .ok (.if_icmp .eq 30, 3) := by decide +kernel
theorem dX3_settle_130 : decode cX3_settle 130 = .ok (.aload_n 0, 1) := by decide +kernel
theorem dX3_settle_131 : decode cX3_settle 131 = .ok (.iload 4, 2) := by decide +kernel
theorem dX3_settle_133 : decode cX3_settle 133 = .ok (.iload 12, 2) := by decide +kernel
theorem dX3_settle_135 : decode cX3_settle 135 = .ok (.invokevirtual 83, 3) := by decide +kernel
theorem dX3_settle_138 : decode cX3_settle 138 = .ok (.lload 6, 2) := by decide +kernel
theorem dX3_settle_140 : decode cX3_settle 140 = .ok (.ldc 87, 2) := by decide +kernel
theorem dX3_settle_142 : decode cX3_settle 142 = .ok (.aload_n 0, 1) := by decide +kernel
theorem dX3_settle_143 : decode cX3_settle 143 = .ok (.getfield 28, 3) := by decide +kernel
theorem dX3_settle_146 : decode cX3_settle 146 = .ok (.iload 12, 2) := by decide +kernel
theorem dX3_settle_148 : decode cX3_settle 148 = .ok (.iaload, 1) := by decide +kernel
theorem dX3_settle_149 : decode cX3_settle 149 = .ok (.iadd, 1) := by decide +kernel
theorem dX3_settle_150 : decode cX3_settle 150 = .ok (.i2l, 1) := by decide +kernel
theorem dX3_settle_151 : decode cX3_settle 151 = .ok (.ladd, 1) := by decide +kernel
theorem dX3_settle_152 : decode cX3_settle 152 = .ok (.lstore 6, 2) := by decide +kernel
theorem dX3_settle_154 : decode cX3_settle 154 = .ok (.iinc 5 1, 3) := by decide +kernel
theorem dX3_settle_157 : decode cX3_settle 157 = .ok (.iinc 10 1, 3) := by decide +kernel
theorem dX3_settle_160 : decode cX3_settle 160 = .ok (.goto (-96), 3) := by decide +kernel
theorem dX3_settle_163 : decode cX3_settle 163 = .ok (.aload_n 0, 1) := by decide +kernel
theorem dX3_settle_164 : decode cX3_settle 164 = .ok (.iload 4, 2) := by decide +kernel
theorem dX3_settle_166 : decode cX3_settle 166 = .ok (.iload 5, 2) := by decide +kernel
theorem dX3_settle_168 : decode cX3_settle 168 = .ok (.lload 6, 2) := by decide +kernel
theorem dX3_settle_170 : decode cX3_settle 170 = .ok (.invokevirtual 88, 3) := by decide +kernel
theorem dX3_settle_173 : decode cX3_settle 173 = .ok (.return_, 1) := by decide +kernel
theorem dX3_clear_0 : decode cX3_clear 0 = .ok (.aload_n 0, 1) := by decide +kernel
theorem dX3_clear_1 : decode cX3_clear 1 = .ok (.getfield 15, 3) := by decide +kernel
theorem dX3_clear_4 : decode cX3_clear 4 = .ok (.iload_n 1, 1) := by decide +kernel
theorem dX3_clear_5 : decode cX3_clear 5 = .ok (.iconst 0, 1) := by decide +kernel
theorem dX3_clear_6 : decode cX3_clear 6 = .ok (.bastore, 1) := by decide +kernel
theorem dX3_clear_7 : decode cX3_clear 7 = .ok (.aload_n 0, 1) := by decide +kernel
theorem dX3_clear_8 : decode cX3_clear 8 = .ok (.getfield 19, 3) := by decide +kernel
theorem dX3_clear_11 : decode cX3_clear 11 = .ok (.iload_n 1, 1) := by decide +kernel
theorem dX3_clear_12 : decode cX3_clear 12 = .ok (.iconst 0, 1) := by decide +kernel
theorem dX3_clear_13 : decode cX3_clear 13 = .ok (.iastore, 1) := by decide +kernel
theorem dX3_clear_14 : decode cX3_clear 14 = .ok (.aload_n 0, 1) := by decide +kernel
theorem dX3_clear_15 : decode cX3_clear 15 = .ok (.getfield 22, 3) := by decide +kernel
theorem dX3_clear_18 : decode cX3_clear 18 = .ok (.iload_n 1, 1) := by decide +kernel
theorem dX3_clear_19 : decode cX3_clear 19 = .ok (.bipush 14, 2) := by decide +kernel
theorem dX3_clear_21 : decode cX3_clear 21 = .ok (.iastore, 1) := by decide +kernel
theorem dX3_clear_22 : decode cX3_clear 22 = .ok (.aload_n 0, 1) := by decide +kernel
theorem dX3_clear_23 : decode cX3_clear 23 = .ok (.getfield 25, 3) := by decide +kernel
theorem dX3_clear_26 : decode cX3_clear 26 = .ok (.iload_n 1, 1) := by decide +kernel
theorem dX3_clear_27 : decode cX3_clear 27 = .ok (.iconst 0, 1) := by decide +kernel
theorem dX3_clear_28 : decode cX3_clear 28 = .ok (.iastore, 1) := by decide +kernel
theorem dX3_clear_29 : decode cX3_clear 29 = .ok (.aload_n 0, 1) := by decide +kernel
theorem dX3_clear_30 : decode cX3_clear 30 = .ok (.getfield 31, 3) := by decide +kernel
theorem dX3_clear_33 : decode cX3_clear 33 = .ok (.iload_n 1, 1) := by decide +kernel
theorem dX3_clear_34 : decode cX3_clear 34 = .ok (.lconst 0, 1) := by decide +kernel
theorem dX3_clear_35 : decode cX3_clear 35 = .ok (.lastore, 1) := by decide +kernel
theorem dX3_clear_36 : decode cX3_clear 36 = .ok (.return_, 1) := by decide +kernel
theorem dX3_reckon_0 : decode cX3_reckon 0 = .ok (.aload_n 0, 1) := by decide +kernel
theorem dX3_reckon_1 : decode cX3_reckon 1 = .ok (.iload_n 1, 1) := by decide +kernel
theorem dX3_reckon_2 : decode cX3_reckon 2 = .ok (.aload_n 0, 1) := by decide +kernel
theorem dX3_reckon_3 : decode cX3_reckon 3 = .ok (.getfield 15, 3) := by decide +kernel
theorem dX3_reckon_6 : decode cX3_reckon 6 = .ok (.iload_n 2, 1) := by decide +kernel
theorem dX3_reckon_7 : decode cX3_reckon 7 = .ok (.baload, 1) := by decide +kernel
theorem dX3_reckon_8 : decode cX3_reckon 8 = .ok (.ifCond .ne 7, 3) := by decide +kernel
theorem dX3_reckon_11 : decode cX3_reckon 11 = .ok (.iconst 1, 1) := by decide +kernel
theorem dX3_reckon_12 : decode cX3_reckon 12 = .ok (.goto 4, 3) := by decide +kernel
theorem dX3_reckon_15 : decode cX3_reckon 15 = .ok (.iconst 0, 1) := by decide +kernel
theorem dX3_reckon_16 : decode cX3_reckon 16 = .ok (.aload_n 0, 1) := by decide +kernel
theorem dX3_reckon_17 : decode cX3_reckon 17 = .ok (.getfield 19, 3) := by decide +kernel
theorem dX3_reckon_20 : decode cX3_reckon 20 = .ok (.iload_n 2, 1) := by decide +kernel
theorem dX3_reckon_21 : decode cX3_reckon 21 = .ok (.iaload, 1) := by decide +kernel
theorem dX3_reckon_22 : decode cX3_reckon 22 = .ok (.iconst 1, 1) := by decide +kernel
theorem dX3_reckon_23 : decode cX3_reckon 23 = .ok (.iadd, 1) := by decide +kernel
theorem dX3_reckon_24 : decode cX3_reckon 24 = .ok (.invokevirtual 92, 3) := by decide +kernel
theorem dX3_reckon_27 : decode cX3_reckon 27 = .ok (.aload_n 0, 1) := by decide +kernel
theorem dX3_reckon_28 : decode cX3_reckon 28 = .ok (.getfield 22, 3) := by decide +kernel
theorem dX3_reckon_31 : decode cX3_reckon 31 = .ok (.iload_n 1, 1) := by decide +kernel
theorem dX3_reckon_32 : decode cX3_reckon 32 = .ok (.aload_n 0, 1) := by decide +kernel
theorem dX3_reckon_33 : decode cX3_reckon 33 = .ok (.getfield 22, 3) := by decide +kernel
theorem dX3_reckon_36 : decode cX3_reckon 36 = .ok (.iload_n 1, 1) := by decide +kernel
theorem dX3_reckon_37 : decode cX3_reckon 37 = .ok (.iaload, 1) := by decide +kernel
theorem dX3_reckon_38 : decode cX3_reckon 38 = .ok (.aload_n 0, 1) := by decide +kernel
theorem dX3_reckon_39 : decode cX3_reckon 39 = .ok (.getfield 22, 3) := by decide +kernel
theorem dX3_reckon_42 : decode cX3_reckon 42 = .ok (.iload_n 2, 1) := by decide +kernel
theorem dX3_reckon_43 : decode cX3_reckon 43 = .ok (.iaload, 1) := by decide +kernel
theorem dX3_reckon_44 : decode cX3_reckon 44 = .ok (.iconst 1, 1) := by decide +kernel
theorem dX3_reckon_45 : decode cX3_reckon 45 = .ok (.iadd, 1) := by decide +kernel
theorem dX3_reckon_46 : decode cX3_reckon 46 = .ok (.invokestatic 96, 3) := by decide +kernel
theorem dX3_reckon_49 : decode cX3_reckon 49 = .ok (.iastore, 1) := by decide +kernel
theorem dX3_reckon_50 : decode cX3_reckon 50 = .ok (.aload_n 0, 1) := by decide +kernel
theorem dX3_reckon_51 : decode cX3_reckon 51 = .ok (.getfield 25, 3) := by decide +kernel
theorem dX3_reckon_54 : decode cX3_reckon 54 = .ok (.iload_n 1, 1) := by decide +kernel
theorem dX3_reckon_55 : decode cX3_reckon 55 = .ok (.aload_n 0, 1) := by decide +kernel
theorem dX3_reckon_56 : decode cX3_reckon 56 = .ok (.getfield 25, 3) := by decide +kernel
theorem dX3_reckon_59 : decode cX3_reckon 59 = .ok (.iload_n 1, 1) := by decide +kernel
theorem dX3_reckon_60 : decode cX3_reckon 60 = .ok (.iaload, 1) := by decide +kernel
theorem dX3_reckon_61 : decode cX3_reckon 61 = .ok (.aload_n 0, 1) := by decide +kernel
theorem dX3_reckon_62 : decode cX3_reckon 62 = .ok (.getfield 25, 3) := by decide +kernel
theorem dX3_reckon_65 : decode cX3_reckon 65 = .ok (.iload_n 2, 1) := by decide +kernel
theorem dX3_reckon_66 : decode cX3_reckon 66 = .ok (.iaload, 1) := by decide +kernel
theorem dX3_reckon_67 : decode cX3_reckon 67 = .ok (.iconst 1, 1) := by decide +kernel
theorem dX3_reckon_68 : decode cX3_reckon 68 = .ok (.iadd, 1) := by decide +kernel
theorem dX3_reckon_69 : decode cX3_reckon 69 = .ok (.invokestatic 101, 3) := by decide +kernel
theorem dX3_reckon_72 : decode cX3_reckon 72 = .ok (.iastore, 1) := by decide +kernel
theorem dX3_reckon_73 : decode cX3_reckon 73 = .ok (.aload_n 0, 1) := by decide +kernel
theorem dX3_reckon_74 : decode cX3_reckon 74 = .ok (.getfield 31, 3) := by decide +kernel
theorem dX3_reckon_77 : decode cX3_reckon 77 = .ok (.iload_n 1, 1) := by decide +kernel
theorem dX3_reckon_78 : decode cX3_reckon 78 = .ok (.aload_n 0, 1) := by decide +kernel
theorem dX3_reckon_79 : decode cX3_reckon 79 = .ok (.getfield 31, 3) := by decide +kernel
theorem dX3_reckon_82 : decode cX3_reckon 82 = .ok (.iload_n 1, 1) := by decide +kernel
theorem dX3_reckon_83 : decode cX3_reckon 83 = .ok (.laload, 1) := by decide +kernel
theorem dX3_reckon_84 : decode cX3_reckon 84 = .ok (.aload_n 0, 1) := by decide +kernel
theorem dX3_reckon_85 : decode cX3_reckon 85 = .ok (.getfield 31, 3) := by decide +kernel
theorem dX3_reckon_88 : decode cX3_reckon 88 = .ok (.iload_n 2, 1) := by decide +kernel
theorem dX3_reckon_89 : decode cX3_reckon 89 = .ok (.laload, 1) := by decide +kernel
theorem dX3_reckon_90 : decode cX3_reckon 90 = .ok (.ladd, 1) := by decide +kernel
theorem dX3_reckon_91 : decode cX3_reckon 91 = .ok (.ldc2_w 104, 3) := by decide +kernel
theorem dX3_reckon_94 : decode cX3_reckon 94 = .ok (.invokestatic 106, 3) := by decide +kernel
theorem dX3_reckon_97 : decode cX3_reckon 97 = .ok (.lastore, 1) := by decide +kernel
theorem dX3_reckon_98 : decode cX3_reckon 98 = .ok (.return_, 1) := by decide +kernel
theorem dX3_reckonWinner_0 : decode cX3_reckonWinner 0 = .ok (.iload_n 2, 1) := by decide +kernel
theorem dX3_reckonWinner_1 : decode cX3_reckonWinner 1 = .ok (.ifCond .eq 29, 3) := by decide +kernel
theorem dX3_reckonWinner_4 : decode cX3_reckonWinner 4 = .ok (.aload_n 0, 1) := by decide +kernel
theorem dX3_reckonWinner_5 : decode cX3_reckonWinner 5 = .ok (.getfield 15, 3) := by decide +kernel
theorem dX3_reckonWinner_8 : decode cX3_reckonWinner 8 = .ok (.iload_n 1, 1) := by decide +kernel
theorem dX3_reckonWinner_9 : decode cX3_reckonWinner 9 = .ok (.baload, 1) := by decide +kernel
theorem dX3_reckonWinner_10 : decode cX3_reckonWinner 10 = .ok (.ifCond .ne 20, 3) := by decide +kernel
theorem dX3_reckonWinner_13 : decode cX3_reckonWinner 13 = .ok (.aload_n 0, 1) := by decide +kernel
theorem dX3_reckonWinner_14 : decode cX3_reckonWinner 14 = .ok (.getfield 15, 3) := by decide +kernel
theorem dX3_reckonWinner_17 : decode cX3_reckonWinner 17 = .ok (.iload_n 1, 1) := by decide +kernel
theorem dX3_reckonWinner_18 : decode cX3_reckonWinner 18 = .ok (.iconst 1, 1) := by decide +kernel
theorem dX3_reckonWinner_19 : decode cX3_reckonWinner 19 = .ok (.bastore, 1) := by decide +kernel
theorem dX3_reckonWinner_20 : decode cX3_reckonWinner 20 = .ok (.aload_n 0, 1) := by decide +kernel
theorem dX3_reckonWinner_21 : decode cX3_reckonWinner 21 = .ok (.getfield 19, 3) := by decide +kernel
theorem dX3_reckonWinner_24 : decode cX3_reckonWinner 24 = .ok (.iload_n 1, 1) := by decide +kernel
theorem dX3_reckonWinner_25 : decode cX3_reckonWinner 25 = .ok (.iload_n 3, 1) := by decide +kernel
theorem dX3_reckonWinner_26 : decode cX3_reckonWinner 26 = .ok (.iastore, 1) := by decide +kernel
theorem dX3_reckonWinner_27 : decode cX3_reckonWinner 27 = .ok (.goto 51, 3) := by decide +kernel
theorem dX3_reckonWinner_30 : decode cX3_reckonWinner 30 = .ok (.iload_n 2, 1) := by decide +kernel
theorem dX3_reckonWinner_31 : decode cX3_reckonWinner 31 = .ok (.ifCond .eq 22, 3) := by decide +kernel
theorem dX3_reckonWinner_34 : decode cX3_reckonWinner 34 = .ok (.aload_n 0, 1) := by decide +kernel
theorem dX3_reckonWinner_35 : decode cX3_reckonWinner 35 = .ok (.getfield 19, 3) := by decide +kernel
theorem dX3_reckonWinner_38 : decode cX3_reckonWinner 38 = .ok (.iload_n 1, 1) := by decide +kernel
theorem dX3_reckonWinner_39 : decode cX3_reckonWinner 39 = .ok (.aload_n 0, 1) := by decide +kernel
theorem dX3_reckonWinner_40 : decode cX3_reckonWinner 40 = .ok (.getfield 19, 3) := by decide +kernel
theorem dX3_reckonWinner_43 : decode cX3_reckonWinner 43 = .ok (.iload_n 1, 1) := by decide +kernel
theorem dX3_reckonWinner_44 : decode cX3_reckonWinner 44 = .ok (.iaload, 1) := by decide +kernel
theorem dX3_reckonWinner_45 : decode cX3_reckonWinner 45 = .ok (.iload_n 3, 1) := by decide +kernel
theorem dX3_reckonWinner_46 : decode cX3_reckonWinner 46 = .ok (.invokestatic 96, 3) := by decide +kernel
theorem dX3_reckonWinner_49 : decode cX3_reckonWinner 49 = .ok (.iastore, 1) := by decide +kernel
theorem dX3_reckonWinner_50 : decode cX3_reckonWinner 50 = .ok (.goto 28, 3) := by decide +kernel
theorem dX3_reckonWinner_53 : decode cX3_reckonWinner 53 = .ok (.aload_n 0, 1) := by decide +kernel
theorem dX3_reckonWinner_54 : decode cX3_reckonWinner 54 = .ok (.getfield 15, 3) := by decide +kernel
theorem dX3_reckonWinner_57 : decode cX3_reckonWinner 57 = .ok (.iload_n 1, 1) := by decide +kernel
theorem dX3_reckonWinner_58 : decode cX3_reckonWinner 58 = .ok (.baload, 1) := by decide +kernel
theorem dX3_reckonWinner_59 : decode cX3_reckonWinner 59 = .ok (.ifCond .ne 19, 3) := by decide +kernel
theorem dX3_reckonWinner_62 : decode cX3_reckonWinner 62 = .ok (.aload_n 0, 1) := by decide +kernel
theorem dX3_reckonWinner_63 : decode cX3_reckonWinner 63 = .ok (.getfield 19, 3) := by decide +kernel
theorem dX3_reckonWinner_66 : decode cX3_reckonWinner 66 = .ok (.iload_n 1, 1) := by decide +kernel
theorem dX3_reckonWinner_67 : decode cX3_reckonWinner 67 = .ok (.aload_n 0, 1) := by decide +kernel
theorem dX3_reckonWinner_68 : decode cX3_reckonWinner 68 = .ok (.getfield 19, 3) := by decide +kernel
theorem dX3_reckonWinner_71 : decode cX3_reckonWinner 71 = .ok (.iload_n 1, 1) := by decide +kernel
theorem dX3_reckonWinner_72 : decode cX3_reckonWinner 72 = .ok (.iaload, 1) := by decide +kernel
theorem dX3_reckonWinner_73 : decode cX3_reckonWinner 73 = .ok (.iload_n 3, 1) := by decide +kernel
theorem dX3_reckonWinner_74 : decode cX3_reckonWinner 74 = .ok (.invokestatic 101, 3) := by decide +kernel
theorem dX3_reckonWinner_77 : decode cX3_reckonWinner 77 = .ok (.iastore, 1) := by decide +kernel
theorem dX3_reckonWinner_78 : decode cX3_reckonWinner 78 = .ok (.return_, 1) := by decide +kernel
theorem dX3_close_0 : decode cX3_close 0 = .ok (.aload_n 0, 1) := by decide +kernel
theorem dX3_close_1 : decode cX3_close 1 = .ok (.getfield 28, 3) := by decide +kernel
theorem dX3_close_4 : decode cX3_close 4 = .ok (.iload_n 1, 1) := by decide +kernel
theorem dX3_close_5 : decode cX3_close 5 = .ok (.iload_n 2, 1) := by decide +kernel
theorem dX3_close_6 : decode cX3_close 6 = .ok (.ifCond .le 11, 3) := by decide +kernel
theorem dX3_close_9 : decode cX3_close 9 = .ok (.lload_n 3, 1) := by decide +kernel
theorem dX3_close_10 : decode cX3_close 10 = .ok (.iload_n 2, 1) := by decide +kernel
theorem dX3_close_11 : decode cX3_close 11 = .ok (.i2l, 1) := by decide +kernel
theorem dX3_close_12 : decode cX3_close 12 = .ok (.ldiv, 1) := by decide +kernel
theorem dX3_close_13 : decode cX3_close 13 = .ok (.l2i, 1) := by decide +kernel
theorem dX3_close_14 : decode cX3_close 14 = .ok (.goto 4, 3) := by decide +kernel
theorem dX3_close_17 : decode cX3_close 17 = .ok (.iconst 0, 1) := by decide +kernel
theorem dX3_close_18 : decode cX3_close 18 = .ok (.iastore, 1) := by decide +kernel
theorem dX3_close_19 : decode cX3_close 19 = .ok (.iload_n 2, 1) := by decide +kernel
theorem dX3_close_20 : decode cX3_close 20 = .ok (.ifCond .ne 30, 3) := by decide +kernel
theorem dX3_close_23 : decode cX3_close 23 = .ok (.aload_n 0, 1) := by decide +kernel
theorem dX3_close_24 : decode cX3_close 24 = .ok (.getfield 15, 3) := by decide +kernel
theorem dX3_close_27 : decode cX3_close 27 = .ok (.iload_n 1, 1) := by decide +kernel
theorem dX3_close_28 : decode cX3_close 28 = .ok (.aload_n 0, 1) := by decide +kernel
theorem dX3_close_29 : decode cX3_close 29 = .ok (.getfield 47, 3) := by decide +kernel
theorem dX3_close_32 : decode cX3_close 32 = .ok (.getfield 109, 3) := by decide +kernel
theorem dX3_close_35 : decode cX3_close 35 = .ok (.bastore, 1) := by decide +kernel
theorem dX3_close_36 : decode cX3_close 36 = .ok (.aload_n 0, 1) := by decide +kernel
theorem dX3_close_37 : decode cX3_close 37 = .ok (.getfield 22, 3) := by decide +kernel
theorem dX3_close_40 : decode cX3_close 40 = .ok (.iload_n 1, 1) := by decide +kernel
theorem dX3_close_41 : decode cX3_close 41 = .ok (.iconst 0, 1) := by decide +kernel
theorem dX3_close_42 : decode cX3_close 42 = .ok (.iastore, 1) := by decide +kernel
theorem dX3_close_43 : decode cX3_close 43 = .ok (.aload_n 0, 1) := by decide +kernel
theorem dX3_close_44 : decode cX3_close 44 = .ok (.getfield 31, 3) := by decide +kernel
theorem dX3_close_47 : decode cX3_close 47 = .ok (.iload_n 1, 1) := by decide +kernel
theorem dX3_close_48 : decode cX3_close 48 = .ok (.lconst 1, 1) := by decide +kernel
theorem dX3_close_49 : decode cX3_close 49 = .ok (.lastore, 1) := by decide +kernel
theorem dX3_close_50 : decode cX3_close 50 = .ok (.aload_n 0, 1) := by decide +kernel
theorem dX3_close_51 : decode cX3_close 51 = .ok (.getfield 9, 3) := by decide +kernel
theorem dX3_close_54 : decode cX3_close 54 = .ok (.iload_n 1, 1) := by decide +kernel
theorem dX3_close_55 : decode cX3_close 55 = .ok (.aload_n 0, 1) := by decide +kernel
theorem dX3_close_56 : decode cX3_close 56 = .ok (.getfield 51, 3) := by decide +kernel
theorem dX3_close_59 : decode cX3_close 59 = .ok (.iastore, 1) := by decide +kernel
theorem dX3_close_60 : decode cX3_close 60 = .ok (.return_, 1) := by decide +kernel
theorem dX3_grundyOfAll_0 : decode cX3_grundyOfAll 0 = .ok (.aload_n 0, 1) := by decide +kernel
theorem dX3_grundyOfAll_1 : decode cX3_grundyOfAll 1 = .ok (.getfield 47, 3) := by decide +kernel
theorem dX3_grundyOfAll_4 : decode cX3_grundyOfAll 4 = .ok (.ifnonnull 5, 3) := by decide +kernel
theorem dX3_grundyOfAll_7 : decode cX3_grundyOfAll 7 = .ok (.iconst 0, 1) := by decide +kernel
theorem dX3_grundyOfAll_8 : decode cX3_grundyOfAll 8 = .ok (.ireturn, 1) := by decide +kernel
theorem dX3_grundyOfAll_9 : decode cX3_grundyOfAll 9 = .ok (.iconst 0, 1) := by decide +kernel
theorem dX3_grundyOfAll_10 : decode cX3_grundyOfAll 10 = .ok (.istore_n 2, 1) := by decide +kernel
theorem dX3_grundyOfAll_11 : decode cX3_grundyOfAll 11 = .ok (.iconst 0, 1) := by decide +kernel
theorem dX3_grundyOfAll_12 : decode cX3_grundyOfAll 12 = .ok (.istore_n 3, 1) := by decide +kernel
theorem dX3_grundyOfAll_13 : decode cX3_grundyOfAll 13 = .ok (.iload_n 3, 1) := by decide +kernel
theorem dX3_grundyOfAll_14 : decode cX3_grundyOfAll 14 = .ok (.aload_n 0, 1) := by decide +kernel
theorem dX3_grundyOfAll_15 : decode cX3_grundyOfAll 15 = .ok (.getfield 47, 3) := by decide +kernel
theorem dX3_grundyOfAll_18 : decode cX3_grundyOfAll 18 = .ok (.getfield 113, 3) := by decide +kernel
theorem dX3_grundyOfAll_21 : decode cX3_grundyOfAll 21 = .ok (.invokevirtual 117, 3) := by decide +kernel
theorem dX3_grundyOfAll_24 : decode cX3_grundyOfAll 24 = .ok (.if_icmp .ge 31, 3) := by decide +kernel
theorem dX3_grundyOfAll_27 : decode cX3_grundyOfAll 27 = .ok (.iload_n 2, 1) := by decide +kernel
theorem dX3_grundyOfAll_28 : decode cX3_grundyOfAll 28 = .ok (.aload_n 0, 1) := by decide +kernel
theorem dX3_grundyOfAll_29 : decode cX3_grundyOfAll 29 = .ok (.aload_n 0, 1) := by decide +kernel
theorem dX3_grundyOfAll_30 : decode cX3_grundyOfAll 30 = .ok (.getfield 47, 3) := by decide +kernel
theorem dX3_grundyOfAll_33 : decode cX3_grundyOfAll 33 = .ok (.getfield 113, 3) := by decide +kernel
theorem dX3_grundyOfAll_36 : decode cX3_grundyOfAll 36 = .ok (.iload_n 3, 1) := by decide +kernel
theorem dX3_grundyOfAll_37 : decode cX3_grundyOfAll 37 = .ok (.invokevirtual 123, 3) := by decide +kernel
theorem dX3_grundyOfAll_40 : decode cX3_grundyOfAll 40 = .ok (.checkcast 127, 3) := by decide +kernel
theorem dX3_grundyOfAll_43 : decode cX3_grundyOfAll 43 = .ok (.iload_n 1, 1) := by decide +kernel
theorem dX3_grundyOfAll_44 : decode cX3_grundyOfAll 44 = .ok (.invokevirtual 129, 3) := by decide +kernel
theorem dX3_grundyOfAll_47 : decode cX3_grundyOfAll 47 = .ok (.ixor, 1) := by decide +kernel
theorem dX3_grundyOfAll_48 : decode cX3_grundyOfAll 48 = .ok (.istore_n 2, 1) := by decide +kernel
theorem dX3_grundyOfAll_49 : decode cX3_grundyOfAll 49 = .ok (.iinc 3 1, 3) := by decide +kernel
theorem dX3_grundyOfAll_52 : decode cX3_grundyOfAll 52 = .ok (.goto (-39), 3) := by decide +kernel
theorem dX3_grundyOfAll_55 : decode cX3_grundyOfAll 55 = .ok (.iload_n 2, 1) := by decide +kernel
theorem dX3_grundyOfAll_56 : decode cX3_grundyOfAll 56 = .ok (.ireturn, 1) := by decide +kernel
theorem dX3_grundyOf_0 : decode cX3_grundyOf 0 = .ok (.aload_n 0, 1) := by decide +kernel
theorem dX3_grundyOf_1 : decode cX3_grundyOf 1 = .ok (.getfield 47, 3) := by decide +kernel
theorem dX3_grundyOf_4 : decode cX3_grundyOf 4 = .ok (.ifnonnull 5, 3) := by decide +kernel
theorem dX3_grundyOf_7 : decode cX3_grundyOf 7 = .ok (.iconst 0, 1) := by decide +kernel
theorem dX3_grundyOf_8 : decode cX3_grundyOf 8 = .ok (.ireturn, 1) := by decide +kernel
theorem dX3_grundyOf_9 : decode cX3_grundyOf 9 = .ok (.iconst 1, 1) := by decide +kernel
theorem dX3_grundyOf_10 : decode cX3_grundyOf 10 = .ok (.aload_n 0, 1) := by decide +kernel
theorem dX3_grundyOf_11 : decode cX3_grundyOf 11 = .ok (.getfield 47, 3) := by decide +kernel
theorem dX3_grundyOf_14 : decode cX3_grundyOf 14 = .ok (.getfield 41, 3) := by decide +kernel
theorem dX3_grundyOf_17 : decode cX3_grundyOf 17 = .ok (.ishl, 1) := by decide +kernel
theorem dX3_grundyOf_18 : decode cX3_grundyOf 18 = .ok (.iconst 1, 1) := by decide +kernel
theorem dX3_grundyOf_19 : decode cX3_grundyOf 19 = .ok (.isub, 1) := by decide +kernel
theorem dX3_grundyOf_20 : decode cX3_grundyOf 20 = .ok (.aload_n 1, 1) := by decide +kernel
theorem dX3_grundyOf_21 : decode cX3_grundyOf 21 = .ok (.invokevirtual 133, 3) := by decide +kernel
theorem dX3_grundyOf_24 : decode cX3_grundyOf 24 = .ok (.iconst (-1), 1) := by decide +kernel
theorem dX3_grundyOf_25 : decode cX3_grundyOf 25 = .ok (.ixor, 1) := by decide +kernel
theorem dX3_grundyOf_26 : decode cX3_grundyOf 26 = .ok (.iand, 1) := by decide +kernel
theorem dX3_grundyOf_27 : decode cX3_grundyOf 27 = .ok (.istore_n 3, 1) := by decide +kernel
theorem dX3_grundyOf_28 : decode cX3_grundyOf 28 = .ok (.aload_n 0, 1) := by decide +kernel
theorem dX3_grundyOf_29 : decode cX3_grundyOf 29 = .ok (.iload_n 2, 1) := by decide +kernel
theorem dX3_grundyOf_30 : decode cX3_grundyOf 30 = .ok (.iload_n 3, 1) := by decide +kernel
theorem dX3_grundyOf_31 : decode cX3_grundyOf 31 = .ok (.ior, 1) := by decide +kernel
theorem dX3_grundyOf_32 : decode cX3_grundyOf 32 = .ok (.iconst 0, 1) := by decide +kernel
theorem dX3_grundyOf_33 : decode cX3_grundyOf 33 = .ok (.invokestatic 136, 3) := by decide +kernel
theorem dX3_grundyOf_36 : decode cX3_grundyOf 36 = .ok (.aload_n 0, 1) := by decide +kernel
theorem dX3_grundyOf_37 : decode cX3_grundyOf 37 = .ok (.iload_n 2, 1) := by decide +kernel
theorem dX3_grundyOf_38 : decode cX3_grundyOf 38 = .ok (.iload_n 3, 1) := by decide +kernel
theorem dX3_grundyOf_39 : decode cX3_grundyOf 39 = .ok (.ior, 1) := by decide +kernel
theorem dX3_grundyOf_40 : decode cX3_grundyOf 40 = .ok (.invokevirtual 140, 3) := by decide +kernel
theorem dX3_grundyOf_43 : decode cX3_grundyOf 43 = .ok (.ireturn, 1) := by decide +kernel
theorem dX3_grundyAt_0 : decode cX3_grundyAt 0 = .ok (.iload_n 1, 1) := by decide +kernel
theorem dX3_grundyAt_1 : decode cX3_grundyAt 1 = .ok (.ifCond .lt 21, 3) := by decide +kernel
theorem dX3_grundyAt_4 : decode cX3_grundyAt 4 = .ok (.iload_n 1, 1) := by decide +kernel
theorem dX3_grundyAt_5 : decode cX3_grundyAt 5 = .ok (.aload_n 0, 1) := by decide +kernel
theorem dX3_grundyAt_6 : decode cX3_grundyAt 6 = .ok (.getfield 38, 3) := by decide +kernel
theorem dX3_grundyAt_9 : decode cX3_grundyAt 9 = .ok (.arraylength, 1) := by decide +kernel
theorem dX3_grundyAt_10 : decode cX3_grundyAt 10 = .ok (.if_icmp .ge 12, 3) := by decide +kernel
theorem dX3_grundyAt_13 : decode cX3_grundyAt 13 = .ok (.aload_n 0, 1) := by decide +kernel
theorem dX3_grundyAt_14 : decode cX3_grundyAt 14 = .ok (.getfield 38, 3) := by decide +kernel
theorem dX3_grundyAt_17 : decode cX3_grundyAt 17 = .ok (.iload_n 1, 1) := by decide +kernel
theorem dX3_grundyAt_18 : decode cX3_grundyAt 18 = .ok (.iaload, 1) := by decide +kernel
theorem dX3_grundyAt_19 : decode cX3_grundyAt 19 = .ok (.goto 4, 3) := by decide +kernel
theorem dX3_grundyAt_22 : decode cX3_grundyAt 22 = .ok (.iconst 0, 1) := by decide +kernel
theorem dX3_grundyAt_23 : decode cX3_grundyAt 23 = .ok (.ireturn, 1) := by decide +kernel
theorem dX3_settleGrundy_0 : decode cX3_settleGrundy 0 = .ok (.aload_n 0, 1) := by decide +kernel
theorem dX3_settleGrundy_1 : decode cX3_settleGrundy 1 = .ok (.getfield 47, 3) := by decide +kernel
theorem dX3_settleGrundy_4 : decode cX3_settleGrundy 4 = .ok (.ifnull 35, 3) := by decide +kernel
theorem dX3_settleGrundy_7 : decode cX3_settleGrundy 7 = .ok (.iload_n 1, 1) := by decide +kernel
theorem dX3_settleGrundy_8 : decode cX3_settleGrundy 8 = .ok (.ifCond .lt 31, 3) := by decide +kernel
theorem dX3_settleGrundy_11 : decode cX3_settleGrundy 11 = .ok (.iload_n 1, 1) := by decide +kernel
theorem dX3_settleGrundy_12 : decode cX3_settleGrundy 12 = .ok (.aload_n 0, 1) := by decide +kernel
theorem dX3_settleGrundy_13 : decode cX3_settleGrundy 13 = .ok (.getfield 38, 3) := by decide +kernel
theorem dX3_settleGrundy_16 : decode cX3_settleGrundy 16 = .ok (.arraylength, 1) := by decide +kernel
theorem dX3_settleGrundy_17 : decode cX3_settleGrundy 17 = .ok (.if_icmp .ge 22, 3) := by decide +kernel
theorem dX3_settleGrundy_20 : decode cX3_settleGrundy 20 = .ok (.iload_n 2, 1) := by decide +kernel
theorem dX3_settleGrundy_21 : decode cX3_settleGrundy 21 = .ok (.bipush 14, 2) := by decide +kernel
theorem dX3_settleGrundy_23 : decode cX3_settleGrundy 23 = .ok (.if_icmp .gt 16, 3) := by decide +kernel
theorem dX3_settleGrundy_26 : decode cX3_settleGrundy 26 = .ok (.aload_n 0, 1) := by decide +kernel
theorem dX3_settleGrundy_27 : decode cX3_settleGrundy 27 = .ok (.getfield 35, 3) := by decide +kernel
theorem dX3_settleGrundy_30 : decode cX3_settleGrundy 30 = .ok (.iload_n 1, 1) := by decide +kernel
theorem dX3_settleGrundy_31 : decode cX3_settleGrundy 31 = .ok (.iaload, 1) := by decide +kernel
theorem dX3_settleGrundy_32 : decode cX3_settleGrundy 32 = .ok (.aload_n 0, 1) := by decide +kernel
theorem dX3_settleGrundy_33 : decode cX3_settleGrundy 33 = .ok (.getfield 51, 3) := by decide +kernel
theorem dX3_settleGrundy_36 : decode cX3_settleGrundy 36 = .ok (.if_icmp .ne 4, 3) := by decide +kernel
theorem dX3_settleGrundy_39 : decode cX3_settleGrundy 39 = .ok (.return_, 1) := by decide +kernel
theorem dX3_settleGrundy_40 : decode cX3_settleGrundy 40 = .ok (.iconst 0, 1) := by decide +kernel
theorem dX3_settleGrundy_41 : decode cX3_settleGrundy 41 = .ok (.istore_n 3, 1) := by decide +kernel
theorem dX3_settleGrundy_42 : decode cX3_settleGrundy 42 = .ok (.aload_n 0, 1) := by decide +kernel
theorem dX3_settleGrundy_43 : decode cX3_settleGrundy 43 = .ok (.getfield 47, 3) := by decide +kernel
theorem dX3_settleGrundy_46 : decode cX3_settleGrundy 46 = .ok (.getfield 62, 3) := by decide +kernel
theorem dX3_settleGrundy_49 : decode cX3_settleGrundy 49 = .ok (.astore 4, 2) := by decide +kernel
theorem dX3_settleGrundy_51 : decode cX3_settleGrundy 51 = .ok (.aload 4, 2) := by decide +kernel
theorem dX3_settleGrundy_53 : decode cX3_settleGrundy 53 = .ok (.arraylength, 1) := by decide +kernel
theorem dX3_settleGrundy_54 : decode cX3_settleGrundy 54 = .ok (.istore 5, 2) := by decide +kernel
theorem dX3_settleGrundy_56 : decode cX3_settleGrundy 56 = .ok (.iconst 0, 1) := by decide +kernel
theorem dX3_settleGrundy_57 : decode cX3_settleGrundy 57 = .ok (.istore 6, 2) := by decide +kernel
theorem dX3_settleGrundy_59 : decode cX3_settleGrundy 59 = .ok (.iload 6, 2) := by decide +kernel
theorem dX3_settleGrundy_61 : decode cX3_settleGrundy 61 = .ok (.iload 5, 2) := by decide +kernel
theorem dX3_settleGrundy_63 : decode cX3_settleGrundy 63 = .ok (.if_icmp .ge 55, 3) := by decide +kernel
theorem dX3_settleGrundy_66 : decode cX3_settleGrundy 66 = .ok (.aload 4, 2) := by decide +kernel
theorem dX3_settleGrundy_68 : decode cX3_settleGrundy 68 = .ok (.iload 6, 2) := by decide +kernel
theorem dX3_settleGrundy_70 : decode cX3_settleGrundy 70 = .ok (.aaload, 1) := by decide +kernel
theorem dX3_settleGrundy_71 : decode cX3_settleGrundy 71 = .ok (.astore 7, 2) := by decide +kernel
theorem dX3_settleGrundy_73 : decode cX3_settleGrundy 73 = .ok (.aload 7, 2) := by decide +kernel
theorem dX3_settleGrundy_75 : decode cX3_settleGrundy 75 = .ok (.iload_n 1, 1) := by decide +kernel
theorem dX3_settleGrundy_76 : decode cX3_settleGrundy 76 = .ok (.invokevirtual 144, 3) := by decide +kernel
theorem dX3_settleGrundy_79 : decode cX3_settleGrundy 79 = .ok (.ifCond .eq 33, 3) := by decide +kernel
theorem dX3_settleGrundy_82 : decode cX3_settleGrundy 82 = .ok (.aload_n 0, 1) := by decide +kernel
theorem dX3_settleGrundy_83 : decode cX3_settleGrundy 83 = .ok (.iload_n 1, 1) := by decide +kernel
theorem dX3_settleGrundy_84 : decode cX3_settleGrundy 84 = .ok (.aload 7, 2) := by decide +kernel
theorem dX3_settleGrundy_86 : decode cX3_settleGrundy 86 = .ok (.getfield 72, 3) := by decide +kernel
theorem dX3_settleGrundy_89 : decode cX3_settleGrundy 89 = .ok (.ior, 1) := by decide +kernel
theorem dX3_settleGrundy_90 : decode cX3_settleGrundy 90 = .ok (.iload_n 2, 1) := by decide +kernel
theorem dX3_settleGrundy_91 : decode cX3_settleGrundy 91 = .ok (.iconst 1, 1) := by decide +kernel
theorem dX3_settleGrundy_92 : decode cX3_settleGrundy 92 = .ok (.iadd, 1) := by decide +kernel
theorem dX3_settleGrundy_93 : decode cX3_settleGrundy 93 = .ok (.invokestatic 136, 3) := by decide +kernel
theorem dX3_settleGrundy_96 : decode cX3_settleGrundy 96 = .ok (.iload_n 3, 1) := by decide +kernel
theorem dX3_settleGrundy_97 : decode cX3_settleGrundy 97 = .ok (.iconst 1, 1) := by decide +kernel
theorem dX3_settleGrundy_98 : decode cX3_settleGrundy 98 = .ok (.aload_n 0, 1) := by decide +kernel
theorem dX3_settleGrundy_99 : decode cX3_settleGrundy 99 = .ok (.iload_n 1, 1) := by decide +kernel
theorem dX3_settleGrundy_100 : decode cX3_settleGrundy 100 = .ok (.aload 7, 2) := by decide +kernel
theorem dX3_settleGrundy_102 : decode cX3_settleGrundy 102 = .ok (.getfield 72, 3) := by decide +kernel
theorem dX3_settleGrundy_105 : decode cX3_settleGrundy 105 = .ok (.ior, 1) := by decide +kernel
theorem dX3_settleGrundy_106 : decode cX3_settleGrundy 106 = .ok (.invokevirtual 140, 3) := by decide +kernel
theorem dX3_settleGrundy_109 : decode cX3_settleGrundy 109 = .ok (.ishl, 1) := by decide +kernel
theorem dX3_settleGrundy_110 : decode cX3_settleGrundy 110 = .ok (.ior, 1) := by decide +kernel
theorem dX3_settleGrundy_111 : decode cX3_settleGrundy 111 = .ok (.istore_n 3, 1) := by decide +kernel
theorem dX3_settleGrundy_112 : decode cX3_settleGrundy 112 = .ok (.iinc 6 1, 3) := by decide +kernel
theorem dX3_settleGrundy_115 : decode cX3_settleGrundy 115 = .ok (.goto (-56), 3) := by decide +kernel
theorem dX3_settleGrundy_118 : decode cX3_settleGrundy 118 = .ok (.aload_n 0, 1) := by decide +kernel
theorem dX3_settleGrundy_119 : decode cX3_settleGrundy 119 = .ok (.getfield 38, 3) := by decide +kernel
theorem dX3_settleGrundy_122 : decode cX3_settleGrundy 122 = .ok (.iload_n 1, 1) := by decide +kernel
theorem dX3_settleGrundy_123 : decode cX3_settleGrundy 123 = .ok (.iload_n 3, 1) := by decide +kernel
theorem dX3_settleGrundy_124 : decode cX3_settleGrundy 124 = .ok (.iconst (-1), 1) := by decide +kernel
theorem dX3_settleGrundy_125 : decode cX3_settleGrundy 125 = .ok (.ixor, 1) := by decide +kernel
theorem dX3_settleGrundy_126 : decode cX3_settleGrundy 126 = .ok (.invokestatic 148, 3) := by decide +kernel
theorem dX3_settleGrundy_129 : decode cX3_settleGrundy 129 = .ok (.iastore, 1) := by decide +kernel
theorem dX3_settleGrundy_130 : decode cX3_settleGrundy 130 = .ok (.aload_n 0, 1) := by decide +kernel
theorem dX3_settleGrundy_131 : decode cX3_settleGrundy 131 = .ok (.getfield 35, 3) := by decide +kernel
theorem dX3_settleGrundy_134 : decode cX3_settleGrundy 134 = .ok (.iload_n 1, 1) := by decide +kernel
theorem dX3_settleGrundy_135 : decode cX3_settleGrundy 135 = .ok (.aload_n 0, 1) := by decide +kernel
theorem dX3_settleGrundy_136 : decode cX3_settleGrundy 136 = .ok (.getfield 51, 3) := by decide +kernel
theorem dX3_settleGrundy_139 : decode cX3_settleGrundy 139 = .ok (.iastore, 1) := by decide +kernel
theorem dX3_settleGrundy_140 : decode cX3_settleGrundy 140 = .ok (.return_, 1) := by decide +kernel
theorem dX4_init_0 : decode cX4_init 0 = .ok (.aload_n 0, 1) := by decide +kernel
theorem dX4_init_1 : decode cX4_init 1 = .ok (.invokespecial 3, 3) := by decide +kernel
theorem dX4_init_4 : decode cX4_init 4 = .ok (.aload_n 0, 1) := by decide +kernel
theorem dX4_init_5 : decode cX4_init 5 = .ok (.bipush 16, 2) := by decide +kernel
theorem dX4_init_7 : decode cX4_init 7 = .ok (.anewarray 11, 3) := by decide +kernel
theorem dX4_init_10 : decode cX4_init 10 = .ok (.putfield 13, 3) := by decide +kernel
theorem dX4_init_13 : decode cX4_init 13 = .ok (.aload_n 0, 1) := by decide +kernel
theorem dX4_init_14 : decode cX4_init 14 = .ok (.iconst 3, 1) := by decide +kernel
theorem dX4_init_15 : decode cX4_init 15 = .ok (.anewarray 11, 3) := by decide +kernel
theorem dX4_init_18 : decode cX4_init 18 = .ok (.putfield 17, 3) := by decide +kernel
theorem dX4_init_21 : decode cX4_init 21 = .ok (.iconst 0, 1) := by decide +kernel
theorem dX4_init_22 : decode cX4_init 22 = .ok (.istore_n 1, 1) := by decide +kernel
theorem dX4_init_23 : decode cX4_init 23 = .ok (.iload_n 1, 1) := by decide +kernel
theorem dX4_init_24 : decode cX4_init 24 = .ok (.aload_n 0, 1) := by decide +kernel
theorem dX4_init_25 : decode cX4_init 25 = .ok (.getfield 13, 3) := by decide +kernel
theorem dX4_init_28 : decode cX4_init 28 = .ok (.arraylength, 1) := by decide +kernel
theorem dX4_init_29 : decode cX4_init 29 = .ok (.if_icmp .ge 22, 3) := by decide +kernel
theorem dX4_init_32 : decode cX4_init 32 = .ok (.aload_n 0, 1) := by decide +kernel
theorem dX4_init_33 : decode cX4_init 33 = .ok (.getfield 13, 3) := by decide +kernel
theorem dX4_init_36 : decode cX4_init 36 = .ok (.iload_n 1, 1) := by decide +kernel
theorem dX4_init_37 : decode cX4_init 37 = .ok (.new 11, 3) := by decide +kernel
theorem dX4_init_40 : decode cX4_init 40 = .ok (.dup, 1) := by decide +kernel
theorem dX4_init_41 : decode cX4_init 41 = .ok (.invokespecial 20, 3) := by decide +kernel
theorem dX4_init_44 : decode cX4_init 44 = .ok (.aastore, 1) := by decide +kernel
theorem dX4_init_45 : decode cX4_init 45 = .ok (.iinc 1 1, 3) := by decide +kernel
theorem dX4_init_48 : decode cX4_init 48 = .ok (.goto (-25), 3) := by decide +kernel
theorem dX4_init_51 : decode cX4_init 51 = .ok (.iconst 0, 1) := by decide +kernel
theorem dX4_init_52 : decode cX4_init 52 = .ok (.istore_n 1, 1) := by decide +kernel
theorem dX4_init_53 : decode cX4_init 53 = .ok (.iload_n 1, 1) := by decide +kernel
theorem dX4_init_54 : decode cX4_init 54 = .ok (.aload_n 0, 1) := by decide +kernel
theorem dX4_init_55 : decode cX4_init 55 = .ok (.getfield 17, 3) := by decide +kernel
theorem dX4_init_58 : decode cX4_init 58 = .ok (.arraylength, 1) := by decide +kernel
theorem dX4_init_59 : decode cX4_init 59 = .ok (.if_icmp .ge 22, 3) := by decide +kernel
theorem dX4_init_62 : decode cX4_init 62 = .ok (.aload_n 0, 1) := by decide +kernel
theorem dX4_init_63 : decode cX4_init 63 = .ok (.getfield 17, 3) := by decide +kernel
theorem dX4_init_66 : decode cX4_init 66 = .ok (.iload_n 1, 1) := by decide +kernel
theorem dX4_init_67 : decode cX4_init 67 = .ok (.new 11, 3) := by decide +kernel
theorem dX4_init_70 : decode cX4_init 70 = .ok (.dup, 1) := by decide +kernel
theorem dX4_init_71 : decode cX4_init 71 = .ok (.invokespecial 20, 3) := by decide +kernel
theorem dX4_init_74 : decode cX4_init 74 = .ok (.aastore, 1) := by decide +kernel
theorem dX4_init_75 : decode cX4_init 75 = .ok (.iinc 1 1, 3) := by decide +kernel
theorem dX4_init_78 : decode cX4_init 78 = .ok (.goto (-25), 3) := by decide +kernel
theorem dX4_init_81 : decode cX4_init 81 = .ok (.return_, 1) := by decide +kernel
theorem dX4_clear_0 : decode cX4_clear 0 = .ok (.aload_n 0, 1) := by decide +kernel
theorem dX4_clear_1 : decode cX4_clear 1 = .ok (.iconst 0, 1) := by decide +kernel
theorem dX4_clear_2 : decode cX4_clear 2 = .ok (.putfield 21, 3) := by decide +kernel
theorem dX4_clear_5 : decode cX4_clear 5 = .ok (.aload_n 0, 1) := by decide +kernel
theorem dX4_clear_6 : decode cX4_clear 6 = .ok (.iconst 0, 1) := by decide +kernel
theorem dX4_clear_7 : decode cX4_clear 7 = .ok (.putfield 25, 3) := by decide +kernel
theorem dX4_clear_10 : decode cX4_clear 10 = .ok (.return_, 1) := by decide +kernel
theorem dX4_keep_0 : decode cX4_keep 0 = .ok (.aload_n 0, 1) := by decide +kernel
theorem dX4_keep_1 : decode cX4_keep 1 = .ok (.getfield 28, 3) := by decide +kernel
theorem dX4_keep_4 : decode cX4_keep 4 = .ok (.ifCond .lt 74, 3) := by decide +kernel
theorem dX4_keep_7 : decode cX4_keep 7 = .ok (.aload_n 0, 1) := by decide +kernel
theorem dX4_keep_8 : decode cX4_keep 8 = .ok (.getfield 28, 3) := by decide +kernel
theorem dX4_keep_11 : decode cX4_keep 11 = .ok (.aload_n 0, 1) := by decide +kernel
theorem dX4_keep_12 : decode cX4_keep 12 = .ok (.getfield 13, 3) := by decide +kernel
theorem dX4_keep_15 : decode cX4_keep 15 = .ok (.arraylength, 1) := by decide +kernel
theorem dX4_keep_16 : decode cX4_keep 16 = .ok (.if_icmp .ge 62, 3) := by decide +kernel
theorem dX4_keep_19 : decode cX4_keep 19 = .ok (.aload_n 0, 1) := by decide +kernel
theorem dX4_keep_20 : decode cX4_keep 20 = .ok (.getfield 13, 3) := by decide +kernel
theorem dX4_keep_23 : decode cX4_keep 23 = .ok (.aload_n 0, 1) := by decide +kernel
theorem dX4_keep_24 : decode cX4_keep 24 = .ok (.getfield 28, 3) := by decide +kernel
theorem dX4_keep_27 : decode cX4_keep 27 = .ok (.aaload, 1) := by decide +kernel
theorem dX4_keep_28 : decode cX4_keep 28 = .ok (.aload_n 1, 1) := by decide +kernel
theorem dX4_keep_29 : decode cX4_keep 29 = .ok (.invokevirtual 31, 3) := by decide +kernel
theorem dX4_keep_32 : decode cX4_keep 32 = .ok (.aload_n 0, 1) := by decide +kernel
theorem dX4_keep_33 : decode cX4_keep 33 = .ok (.aload_n 0, 1) := by decide +kernel
theorem dX4_keep_34 : decode cX4_keep 34 = .ok (.getfield 28, 3) := by decide +kernel
theorem dX4_keep_37 : decode cX4_keep 37 = .ok (.iconst 1, 1) := by decide +kernel
theorem dX4_keep_38 : decode cX4_keep 38 = .ok (.iadd, 1) := by decide +kernel
theorem dX4_keep_39 : decode cX4_keep 39 = .ok (.aload_n 0, 1) := by decide +kernel
theorem dX4_keep_40 : decode cX4_keep 40 = .ok (.getfield 13, 3) := by decide +kernel
theorem dX4_keep_43 : decode cX4_keep 43 = .ok (.arraylength, 1) := by decide +kernel
theorem dX4_keep_44 : decode cX4_keep 44 = .ok (.if_icmp .ge 12, 3) := by decide +kernel
theorem dX4_keep_47 : decode cX4_keep 47 = .ok (.aload_n 0, 1) := by decide +kernel
theorem dX4_keep_48 : decode cX4_keep 48 = .ok (.getfield 28, 3) := by decide +kernel
theorem dX4_keep_51 : decode cX4_keep 51 = .ok (.iconst 1, 1) := by decide +kernel
theorem dX4_keep_52 : decode cX4_keep 52 = .ok (.iadd, 1) := by decide +kernel
theorem dX4_keep_53 : decode cX4_keep 53 = .ok (.goto 4, 3) := by decide +kernel
theorem dX4_keep_56 : decode cX4_keep 56 = .ok (.iconst 0, 1) := by decide +kernel
theorem dX4_keep_57 : decode cX4_keep 57 = .ok (.putfield 28, 3) := by decide +kernel
theorem dX4_keep_60 : decode cX4_keep 60 = .ok (.aload_n 0, 1) := by decide +kernel
theorem dX4_keep_61 : decode cX4_keep 61 = .ok (.aload_n 0, 1) := by decide +kernel
theorem dX4_keep_62 : decode cX4_keep 62 = .ok (.getfield 21, 3) := by decide +kernel
theorem dX4_keep_65 : decode cX4_keep 65 = .ok (.iconst 1, 1) := by decide +kernel
theorem dX4_keep_66 : decode cX4_keep 66 = .ok (.iadd, 1) := by decide +kernel
theorem dX4_keep_67 : decode cX4_keep 67 = .ok (.aload_n 0, 1) := by decide +kernel
theorem dX4_keep_68 : decode cX4_keep 68 = .ok (.getfield 13, 3) := by decide +kernel
theorem dX4_keep_71 : decode cX4_keep 71 = .ok (.arraylength, 1) := by decide +kernel
theorem dX4_keep_72 : decode cX4_keep 72 = .ok (.invokestatic 35, 3) := by decide +kernel
theorem dX4_keep_75 : decode cX4_keep 75 = .ok (.putfield 21, 3) := by decide +kernel
theorem dX4_keep_78 : decode cX4_keep 78 = .ok (.return_, 1) := by decide +kernel
theorem dX4_undoTo_0 : decode cX4_undoTo 0 = .ok (.aload_n 0, 1) := by decide +kernel
theorem dX4_undoTo_1 : decode cX4_undoTo 1 = .ok (.getfield 28, 3) := by decide +kernel
theorem dX4_undoTo_4 : decode cX4_undoTo 4 = .ok (.ifCond .le 12, 3) := by decide +kernel
theorem dX4_undoTo_7 : decode cX4_undoTo 7 = .ok (.aload_n 0, 1) := by decide +kernel
theorem dX4_undoTo_8 : decode cX4_undoTo 8 = .ok (.getfield 28, 3) := by decide +kernel
theorem dX4_undoTo_11 : decode cX4_undoTo 11 = .ok (.iconst 1, 1) := by decide +kernel
theorem dX4_undoTo_12 : decode cX4_undoTo 12 = .ok (.isub, 1) := by decide +kernel
theorem dX4_undoTo_13 : decode cX4_undoTo 13 = .ok (.goto 10, 3) := by decide +kernel
theorem dX4_undoTo_16 : decode cX4_undoTo 16 = .ok (.aload_n 0, 1) := by decide +kernel
theorem dX4_undoTo_17 : decode cX4_undoTo 17 = .ok (.getfield 13, 3) := by decide +kernel
theorem dX4_undoTo_20 : decode cX4_undoTo 20 = .ok (.arraylength, 1) := by decide +kernel
theorem dX4_undoTo_21 : decode cX4_undoTo 21 = .ok (.iconst 1, 1) := by decide +kernel
theorem dX4_undoTo_22 : decode cX4_undoTo 22 = .ok (.isub, 1) := by decide +kernel
theorem dX4_undoTo_23 : decode cX4_undoTo 23 = .ok (.istore_n 2, 1) := by decide +kernel
theorem dX4_undoTo_24 : decode cX4_undoTo 24 = .ok (.aload_n 0, 1) := by decide +kernel
theorem dX4_undoTo_25 : decode cX4_undoTo 25 = .ok (.getfield 21, 3) := by decide +kernel
theorem dX4_undoTo_28 : decode cX4_undoTo 28 = .ok (.ifCond .le 16, 3) := by decide +kernel
theorem dX4_undoTo_31 : decode cX4_undoTo 31 = .ok (.iload_n 2, 1) := by decide +kernel
theorem dX4_undoTo_32 : decode cX4_undoTo 32 = .ok (.ifCond .lt 12, 3) := by decide +kernel
theorem dX4_undoTo_35 : decode cX4_undoTo 35 = .ok (.iload_n 2, 1) := by decide +kernel
theorem dX4_undoTo_36 : decode cX4_undoTo 36 = .ok (.aload_n 0, 1) := by decide +kernel
theorem dX4_undoTo_37 : decode cX4_undoTo 37 = .ok (.getfield 13, 3) := by decide +kernel
theorem dX4_undoTo_40 : decode cX4_undoTo 40 = .ok (.arraylength, 1) := by decide +kernel
theorem dX4_undoTo_41 : decode cX4_undoTo 41 = .ok (.if_icmp .lt 5, 3) := by decide +kernel
theorem dX4_undoTo_44 : decode cX4_undoTo 44 = .ok (.iconst 0, 1) := by decide +kernel
theorem dX4_undoTo_45 : decode cX4_undoTo 45 = .ok (.ireturn, 1) := by decide +kernel
theorem dX4_undoTo_46 : decode cX4_undoTo 46 = .ok (.aload_n 1, 1) := by decide +kernel
theorem dX4_undoTo_47 : decode cX4_undoTo 47 = .ok (.aload_n 0, 1) := by decide +kernel
theorem dX4_undoTo_48 : decode cX4_undoTo 48 = .ok (.getfield 13, 3) := by decide +kernel
theorem dX4_undoTo_51 : decode cX4_undoTo 51 = .ok (.iload_n 2, 1) := by decide +kernel
theorem dX4_undoTo_52 : decode cX4_undoTo 52 = .ok (.aaload, 1) := by decide +kernel
theorem dX4_undoTo_53 : decode cX4_undoTo 53 = .ok (.invokevirtual 31, 3) := by decide +kernel
theorem dX4_undoTo_56 : decode cX4_undoTo 56 = .ok (.aload_n 0, 1) := by decide +kernel
theorem dX4_undoTo_57 : decode cX4_undoTo 57 = .ok (.iload_n 2, 1) := by decide +kernel
theorem dX4_undoTo_58 : decode cX4_undoTo 58 = .ok (.putfield 28, 3) := by decide +kernel
theorem dX4_undoTo_61 : decode cX4_undoTo 61 = .ok (.aload_n 0, 1) := by decide +kernel
theorem dX4_undoTo_62 : decode cX4_undoTo 62 = .ok (.dup, 1) := by decide +kernel
theorem dX4_undoTo_63 : decode cX4_undoTo 63 = .ok (.getfield 21, 3) := by decide +kernel
theorem dX4_undoTo_66 : decode cX4_undoTo 66 = .ok (.iconst 1, 1) := by decide +kernel
theorem dX4_undoTo_67 : decode cX4_undoTo 67 = .ok (.isub, 1) := by decide +kernel
theorem dX4_undoTo_68 : decode cX4_undoTo 68 = .ok (.putfield 21, 3) := by decide +kernel
theorem dX4_undoTo_71 : decode cX4_undoTo 71 = .ok (.iconst 1, 1) := by decide +kernel
theorem dX4_undoTo_72 : decode cX4_undoTo 72 = .ok (.ireturn, 1) := by decide +kernel
theorem dX4_addImage_0 : decode cX4_addImage 0 = .ok (.aload_n 0, 1) := by decide +kernel
theorem dX4_addImage_1 : decode cX4_addImage 1 = .ok (.getfield 25, 3) := by decide +kernel
theorem dX4_addImage_4 : decode cX4_addImage 4 = .ok (.ifCond .lt 15, 3) := by decide +kernel
theorem dX4_addImage_7 : decode cX4_addImage 7 = .ok (.aload_n 0, 1) := by decide +kernel
theorem dX4_addImage_8 : decode cX4_addImage 8 = .ok (.getfield 25, 3) := by decide +kernel
theorem dX4_addImage_11 : decode cX4_addImage 11 = .ok (.aload_n 0, 1) := by decide +kernel
theorem dX4_addImage_12 : decode cX4_addImage 12 = .ok (.getfield 17, 3) := by decide +kernel
theorem dX4_addImage_15 : decode cX4_addImage 15 = .ok (.arraylength, 1) := by decide +kernel
theorem dX4_addImage_16 : decode cX4_addImage 16 = .ok (.if_icmp .lt 5, 3) := by decide +kernel
theorem dX4_addImage_19 : decode cX4_addImage 19 = .ok (.iconst (-1), 1) := by decide +kernel
theorem dX4_addImage_20 : decode cX4_addImage 20 = .ok (.ireturn, 1) := by decide +kernel
theorem dX4_addImage_21 : decode cX4_addImage 21 = .ok (.aload_n 0, 1) := by decide +kernel
theorem dX4_addImage_22 : decode cX4_addImage 22 = .ok (.getfield 17, 3) := by decide +kernel
theorem dX4_addImage_25 : decode cX4_addImage 25 = .ok (.aload_n 0, 1) := by decide +kernel
theorem dX4_addImage_26 : decode cX4_addImage 26 = .ok (.getfield 25, 3) := by decide +kernel
theorem dX4_addImage_29 : decode cX4_addImage 29 = .ok (.aaload, 1) := by decide +kernel
theorem dX4_addImage_30 : decode cX4_addImage 30 = .ok (.aload_n 1, 1) := by decide +kernel
theorem dX4_addImage_31 : decode cX4_addImage 31 = .ok (.invokevirtual 31, 3) := by decide +kernel
theorem dX4_addImage_34 : decode cX4_addImage 34 = .ok (.aload_n 0, 1) := by decide +kernel
theorem dX4_addImage_35 : decode cX4_addImage 35 = .ok (.dup, 1) := by decide +kernel
theorem dX4_addImage_36 : decode cX4_addImage 36 = .ok (.getfield 25, 3) := by decide +kernel
theorem dX4_addImage_39 : decode cX4_addImage 39 = .ok (.iconst 1, 1) := by decide +kernel
theorem dX4_addImage_40 : decode cX4_addImage 40 = .ok (.iadd, 1) := by decide +kernel
theorem dX4_addImage_41 : decode cX4_addImage 41 = .ok (.putfield 25, 3) := by decide +kernel
theorem dX4_addImage_44 : decode cX4_addImage 44 = .ok (.aload_n 0, 1) := by decide +kernel
theorem dX4_addImage_45 : decode cX4_addImage 45 = .ok (.getfield 25, 3) := by decide +kernel
theorem dX4_addImage_48 : decode cX4_addImage 48 = .ok (.iconst 1, 1) := by decide +kernel
theorem dX4_addImage_49 : decode cX4_addImage 49 = .ok (.isub, 1) := by decide +kernel
theorem dX4_addImage_50 : decode cX4_addImage 50 = .ok (.ireturn, 1) := by decide +kernel
theorem dX4_backTo_0 : decode cX4_backTo 0 = .ok (.iload_n 1, 1) := by decide +kernel
theorem dX4_backTo_1 : decode cX4_backTo 1 = .ok (.ifCond .lt 20, 3) := by decide +kernel
theorem dX4_backTo_4 : decode cX4_backTo 4 = .ok (.iload_n 1, 1) := by decide +kernel
theorem dX4_backTo_5 : decode cX4_backTo 5 = .ok (.aload_n 0, 1) := by decide +kernel
theorem dX4_backTo_6 : decode cX4_backTo 6 = .ok (.getfield 25, 3) := by decide +kernel
theorem dX4_backTo_9 : decode cX4_backTo 9 = .ok (.if_icmp .ge 12, 3) := by decide +kernel
theorem dX4_backTo_12 : decode cX4_backTo 12 = .ok (.iload_n 1, 1) := by decide +kernel
theorem dX4_backTo_13 : decode cX4_backTo 13 = .ok (.aload_n 0, 1) := by decide +kernel
theorem dX4_backTo_14 : decode cX4_backTo 14 = .ok (.getfield 17, 3) := by decide +kernel
theorem dX4_backTo_17 : decode cX4_backTo 17 = .ok (.arraylength, 1) := by decide +kernel
theorem dX4_backTo_18 : decode cX4_backTo 18 = .ok (.if_icmp .lt 5, 3) := by decide +kernel
theorem dX4_backTo_21 : decode cX4_backTo 21 = .ok (.iconst 0, 1) := by decide +kernel
theorem dX4_backTo_22 : decode cX4_backTo 22 = .ok (.ireturn, 1) := by decide +kernel
theorem dX4_backTo_23 : decode cX4_backTo 23 = .ok (.aload_n 2, 1) := by decide +kernel
theorem dX4_backTo_24 : decode cX4_backTo 24 = .ok (.aload_n 0, 1) := by decide +kernel
theorem dX4_backTo_25 : decode cX4_backTo 25 = .ok (.getfield 17, 3) := by decide +kernel
theorem dX4_backTo_28 : decode cX4_backTo 28 = .ok (.iload_n 1, 1) := by decide +kernel
theorem dX4_backTo_29 : decode cX4_backTo 29 = .ok (.aaload, 1) := by decide +kernel
theorem dX4_backTo_30 : decode cX4_backTo 30 = .ok (.invokevirtual 31, 3) := by decide +kernel
theorem dX4_backTo_33 : decode cX4_backTo 33 = .ok (.aload_n 0, 1) := by decide +kernel
theorem dX4_backTo_34 : decode cX4_backTo 34 = .ok (.iconst 0, 1) := by decide +kernel
theorem dX4_backTo_35 : decode cX4_backTo 35 = .ok (.putfield 21, 3) := by decide +kernel
theorem dX4_backTo_38 : decode cX4_backTo 38 = .ok (.iconst 1, 1) := by decide +kernel
theorem dX4_backTo_39 : decode cX4_backTo 39 = .ok (.ireturn, 1) := by decide +kernel
theorem dX5_init_0 : decode cX5_init 0 = .ok (.aload_n 0, 1) := by decide +kernel
theorem dX5_init_1 : decode cX5_init 1 = .ok (.invokespecial 1, 3) := by decide +kernel
theorem dX5_init_4 : decode cX5_init 4 = .ok (.aload_n 0, 1) := by decide +kernel
theorem dX5_init_5 : decode cX5_init 5 = .ok (.iconst (-1), 1) := by decide +kernel
theorem dX5_init_6 : decode cX5_init 6 = .ok (.putfield 9, 3) := by decide +kernel
theorem dX5_init_9 : decode cX5_init 9 = .ok (.aload_n 0, 1) := by decide +kernel
theorem dX5_init_10 : decode cX5_init 10 = .ok (.iload_n 1, 1) := by decide +kernel
theorem dX5_init_11 : decode cX5_init 11 = .ok (.putfield 13, 3) := by decide +kernel
theorem dX5_init_14 : decode cX5_init 14 = .ok (.aload_n 0, 1) := by decide +kernel
theorem dX5_init_15 : decode cX5_init 15 = .ok (.lload_n 2, 1) := by decide +kernel
theorem dX5_init_16 : decode cX5_init 16 = .ok (.putfield 16, 3) := by decide +kernel
theorem dX5_init_19 : decode cX5_init 19 = .ok (.aload_n 0, 1) := by decide +kernel
theorem dX5_init_20 : decode cX5_init 20 = .ok (.iload 4, 2) := by decide +kernel
theorem dX5_init_22 : decode cX5_init 22 = .ok (.putfield 20, 3) := by decide +kernel
theorem dX5_init_25 : decode cX5_init 25 = .ok (.aload_n 0, 1) := by decide +kernel
theorem dX5_init_26 : decode cX5_init 26 = .ok (.iload 5, 2) := by decide +kernel
theorem dX5_init_28 : decode cX5_init 28 = .ok (.putfield 23, 3) := by decide +kernel
theorem dX5_init_31 : decode cX5_init 31 = .ok (.aload_n 0, 1) := by decide +kernel
theorem dX5_init_32 : decode cX5_init 32 = .ok (.iload 6, 2) := by decide +kernel
theorem dX5_init_34 : decode cX5_init 34 = .ok (.putfield 26, 3) := by decide +kernel
theorem dX5_init_37 : decode cX5_init 37 = .ok (.return_, 1) := by decide +kernel
theorem dX5_hasShape_0 : decode cX5_hasShape 0 = .ok (.iload_n 1, 1) := by decide +kernel
theorem dX5_hasShape_1 : decode cX5_hasShape 1 = .ok (.ifCond .ne 5, 3) := by decide +kernel
theorem dX5_hasShape_4 : decode cX5_hasShape 4 = .ok (.iconst 1, 1) := by decide +kernel
theorem dX5_hasShape_5 : decode cX5_hasShape 5 = .ok (.ireturn, 1) := by decide +kernel
theorem dX5_hasShape_6 : decode cX5_hasShape 6 = .ok (.aload_n 0, 1) := by decide +kernel
theorem dX5_hasShape_7 : decode cX5_hasShape 7 = .ok (.getfield 29, 3) := by decide +kernel
theorem dX5_hasShape_10 : decode cX5_hasShape 10 = .ok (.ifCond .eq 10, 3) := by decide +kernel
theorem dX5_hasShape_13 : decode cX5_hasShape 13 = .ok (.aload_n 0, 1) := by decide +kernel
theorem dX5_hasShape_14 : decode cX5_hasShape 14 = .ok (.getfield 20, 3) := by decide +kernel
theorem dX5_hasShape_17 : decode cX5_hasShape 17 = .ok (.ifCond .ne 5, 3) := by decide +kernel
theorem dX5_hasShape_20 : decode cX5_hasShape 20 = .ok (.iconst 0, 1) := by decide +kernel
theorem dX5_hasShape_21 : decode cX5_hasShape 21 = .ok (.ireturn, 1) := by decide +kernel
theorem dX5_hasShape_22 : decode cX5_hasShape 22 = .ok (.aload_n 0, 1) := by decide +kernel
theorem dX5_hasShape_23 : decode cX5_hasShape 23 = .ok (.getfield 20, 3) := by decide +kernel
theorem dX5_hasShape_26 : decode cX5_hasShape 26 = .ok (.iconst 2, 1) := by decide +kernel
theorem dX5_hasShape_27 : decode cX5_hasShape 27 = .ok (.if_icmp .eq 19, 3) := by decide +kernel
theorem dX5_hasShape_30 : decode cX5_hasShape 30 = .ok (.iload_n 1, 1) := by decide +kernel
theorem dX5_hasShape_31 : decode cX5_hasShape 31 = .ok (.iconst 1, 1) := by decide +kernel
theorem dX5_hasShape_32 : decode cX5_hasShape 32 = .ok (.if_icmp .ne 18, 3) := by decide +kernel
theorem dX5_hasShape_35 : decode cX5_hasShape 35 = .ok (.aload_n 0, 1) := by decide +kernel
theorem dX5_hasShape_36 : decode cX5_hasShape 36 = .ok (.getfield 23, 3) := by decide +kernel
theorem dX5_hasShape_39 : decode cX5_hasShape 39 = .ok (.aload_n 0, 1) := by decide +kernel
theorem dX5_hasShape_40 : decode cX5_hasShape 40 = .ok (.getfield 26, 3) := by decide +kernel
theorem dX5_hasShape_43 : decode cX5_hasShape 43 = .ok (.if_icmp .eq 7, 3) := by decide +kernel
theorem dX5_hasShape_46 : decode cX5_hasShape 46 = .ok (.iconst 1, 1) := by decide +kernel
theorem dX5_hasShape_47 : decode cX5_hasShape 47 = .ok (.goto 4, 3) := by decide +kernel
theorem dX5_hasShape_50 : decode cX5_hasShape 50 = .ok (.iconst 0, 1) := by decide +kernel
theorem dX5_hasShape_51 : decode cX5_hasShape 51 = .ok (.ireturn, 1) := by decide +kernel
theorem dX5_wideWhen_0 : decode cX5_wideWhen 0 = .ok (.iload_n 1, 1) := by decide +kernel
theorem dX5_wideWhen_1 : decode cX5_wideWhen 1 = .ok (.iconst 1, 1) := by decide +kernel
theorem dX5_wideWhen_2 : decode cX5_wideWhen 2 = .ok (.iand, 1) := by decide +kernel
theorem dX5_wideWhen_3 : decode cX5_wideWhen 3 = .ok (.ifCond .ne 10, 3) := by decide +kernel
theorem dX5_wideWhen_6 : decode cX5_wideWhen 6 = .ok (.aload_n 0, 1) := by decide +kernel
theorem dX5_wideWhen_7 : decode cX5_wideWhen 7 = .ok (.getfield 23, 3) := by decide +kernel
theorem dX5_wideWhen_10 : decode cX5_wideWhen 10 = .ok (.goto 7, 3) := by decide +kernel
theorem dX5_wideWhen_13 : decode cX5_wideWhen 13 = .ok (.aload_n 0, 1) := by decide +kernel
theorem dX5_wideWhen_14 : decode cX5_wideWhen 14 = .ok (.getfield 26, 3) := by decide +kernel
theorem dX5_wideWhen_17 : decode cX5_wideWhen 17 = .ok (.ireturn, 1) := by decide +kernel
theorem dX5_highWhen_0 : decode cX5_highWhen 0 = .ok (.iload_n 1, 1) := by decide +kernel
theorem dX5_highWhen_1 : decode cX5_highWhen 1 = .ok (.iconst 1, 1) := by decide +kernel
theorem dX5_highWhen_2 : decode cX5_highWhen 2 = .ok (.iand, 1) := by decide +kernel
theorem dX5_highWhen_3 : decode cX5_highWhen 3 = .ok (.ifCond .ne 10, 3) := by decide +kernel
theorem dX5_highWhen_6 : decode cX5_highWhen 6 = .ok (.aload_n 0, 1) := by decide +kernel
theorem dX5_highWhen_7 : decode cX5_highWhen 7 = .ok (.getfield 26, 3) := by decide +kernel
theorem dX5_highWhen_10 : decode cX5_highWhen 10 = .ok (.goto 7, 3) := by decide +kernel
theorem dX5_highWhen_13 : decode cX5_highWhen 13 = .ok (.aload_n 0, 1) := by decide +kernel
theorem dX5_highWhen_14 : decode cX5_highWhen 14 = .ok (.getfield 23, 3) := by decide +kernel
theorem dX5_highWhen_17 : decode cX5_highWhen 17 = .ok (.ireturn, 1) := by decide +kernel
theorem dX5_squaresOn_0 : decode cX5_squaresOn 0 = .ok (.aload_n 0, 1) := by decide +kernel
theorem dX5_squaresOn_1 : decode cX5_squaresOn 1 = .ok (.iload 4, 2) := by decide +kernel
theorem dX5_squaresOn_3 : decode cX5_squaresOn 3 = .ok (.invokevirtual 33, 3) := by decide +kernel
theorem dX5_squaresOn_6 : decode cX5_squaresOn 6 = .ok (.istore 5, 2) := by decide +kernel
theorem dX5_squaresOn_8 : decode cX5_squaresOn 8 = .ok (.aload_n 0, 1) := by decide +kernel
theorem dX5_squaresOn_9 : decode cX5_squaresOn 9 = .ok (.iload 4, 2) := by decide +kernel
theorem dX5_squaresOn_11 : decode cX5_squaresOn 11 = .ok (.invokevirtual 37, 3) := by decide +kernel
theorem dX5_squaresOn_14 : decode cX5_squaresOn 14 = .ok (.istore 6, 2) := by decide +kernel
theorem dX5_squaresOn_16 : decode cX5_squaresOn 16 = .ok (.aload_n 0, 1) := by decide +kernel
theorem dX5_squaresOn_17 : decode cX5_squaresOn 17 = .ok (.iload 4, 2) := by decide +kernel
theorem dX5_squaresOn_19 : decode cX5_squaresOn 19 = .ok (.invokevirtual 40, 3) := by decide +kernel
theorem dX5_squaresOn_22 : decode cX5_squaresOn 22 = .ok (.ifCond .eq 25, 3) := by decide +kernel
theorem dX5_squaresOn_25 : decode cX5_squaresOn 25 = .ok (.iload_n 2, 1) := by decide +kernel
theorem dX5_squaresOn_26 : decode cX5_squaresOn 26 = .ok (.iload 5, 2) := by decide +kernel
theorem dX5_squaresOn_28 : decode cX5_squaresOn 28 = .ok (.iadd, 1) := by decide +kernel
theorem dX5_squaresOn_29 : decode cX5_squaresOn 29 = .ok (.aload_n 1, 1) := by decide +kernel
theorem dX5_squaresOn_30 : decode cX5_squaresOn 30 = .ok (.getfield 44, 3) := by decide +kernel
theorem dX5_squaresOn_33 : decode cX5_squaresOn 33 = .ok (.if_icmp .gt 14, 3) := by decide +kernel
theorem dX5_squaresOn_36 : decode cX5_squaresOn 36 = .ok (.iload_n 3, 1) := by decide +kernel
theorem dX5_squaresOn_37 : decode cX5_squaresOn 37 = .ok (.iload 6, 2) := by decide +kernel
theorem dX5_squaresOn_39 : decode cX5_squaresOn 39 = .ok (.iadd, 1) := by decide +kernel
theorem dX5_squaresOn_40 : decode cX5_squaresOn 40 = .ok (.aload_n 1, 1) := by decide +kernel
theorem dX5_squaresOn_41 : decode cX5_squaresOn 41 = .ok (.getfield 47, 3) := by decide +kernel
theorem dX5_squaresOn_44 : decode cX5_squaresOn 44 = .ok (.if_icmp .le 5, 3) := by decide +kernel
theorem dX5_squaresOn_47 : decode cX5_squaresOn 47 = .ok (.iconst 0, 1) := by decide +kernel
theorem dX5_squaresOn_48 : decode cX5_squaresOn 48 = .ok (.ireturn, 1) := by decide +kernel
theorem dX5_squaresOn_49 : decode cX5_squaresOn 49 = .ok (.iconst 0, 1) := by decide +kernel
theorem dX5_squaresOn_50 : decode cX5_squaresOn 50 = .ok (.istore 7, 2) := by decide +kernel
theorem dX5_squaresOn_52 : decode cX5_squaresOn 52 = .ok (.iconst 0, 1) := by decide +kernel
theorem dX5_squaresOn_53 : decode cX5_squaresOn 53 = .ok (.istore 8, 2) := by decide +kernel
theorem dX5_squaresOn_55 : decode cX5_squaresOn 55 = .ok (.iload 8, 2) := by decide +kernel
theorem dX5_squaresOn_57 : decode cX5_squaresOn 57 = .ok (.iload 6, 2) := by decide +kernel
theorem dX5_squaresOn_59 : decode cX5_squaresOn 59 = .ok (.if_icmp .ge 55, 3) := by decide +kernel
theorem dX5_squaresOn_62 : decode cX5_squaresOn 62 = .ok (.iconst 0, 1) := by decide +kernel
theorem dX5_squaresOn_63 : decode cX5_squaresOn 63 = .ok (.istore 9, 2) := by decide +kernel
theorem dX5_squaresOn_65 : decode cX5_squaresOn 65 = .ok (.iload 9, 2) := by decide +kernel
theorem dX5_squaresOn_67 : decode cX5_squaresOn 67 = .ok (.iload 5, 2) := by decide +kernel
theorem dX5_squaresOn_69 : decode cX5_squaresOn 69 = .ok (.if_icmp .ge 39, 3) := by decide +kernel
theorem dX5_squaresOn_72 : decode cX5_squaresOn 72 = .ok (.aload_n 0, 1) := by decide +kernel
theorem dX5_squaresOn_73 : decode cX5_squaresOn 73 = .ok (.iload 9, 2) := by decide +kernel
theorem dX5_squaresOn_75 : decode cX5_squaresOn 75 = .ok (.iload 8, 2) := by decide +kernel
theorem dX5_squaresOn_77 : decode cX5_squaresOn 77 = .ok (.iload 4, 2) := by decide +kernel
theorem dX5_squaresOn_79 : decode cX5_squaresOn 79 = .ok (.invokevirtual 48, 3) := by decide +kernel
theorem dX5_squaresOn_82 : decode cX5_squaresOn 82 = .ok (.ifCond .ne 20, 3) := by decide +kernel
theorem dX5_squaresOn_85 : decode cX5_squaresOn 85 = .ok (.iload 7, 2) := by decide +kernel
theorem dX5_squaresOn_87 : decode cX5_squaresOn 87 = .ok (.aload_n 1, 1) := by decide +kernel
theorem dX5_squaresOn_88 : decode cX5_squaresOn 88 = .ok (.iload_n 2, 1) := by decide +kernel
theorem dX5_squaresOn_89 : decode cX5_squaresOn 89 = .ok (.iload 9, 2) := by decide +kernel
theorem dX5_squaresOn_91 : decode cX5_squaresOn 91 = .ok (.iadd, 1) := by decide +kernel
theorem dX5_squaresOn_92 : decode cX5_squaresOn 92 = .ok (.iload_n 3, 1) := by decide +kernel
theorem dX5_squaresOn_93 : decode cX5_squaresOn 93 = .ok (.iload 8, 2) := by decide +kernel
theorem dX5_squaresOn_95 : decode cX5_squaresOn 95 = .ok (.iadd, 1) := by decide +kernel
theorem dX5_squaresOn_96 : decode cX5_squaresOn 96 = .ok (.invokevirtual 52, 3) := by decide +kernel
theorem dX5_squaresOn_99 : decode cX5_squaresOn 99 = .ok (.ior, 1) := by decide +kernel
theorem dX5_squaresOn_100 : decode cX5_squaresOn 100 = .ok (.istore 7, 2) := by decide +kernel
theorem dX5_squaresOn_102 : decode cX5_squaresOn 102 = .ok (.iinc 9 1, 3) := by decide +kernel
theorem dX5_squaresOn_105 : decode cX5_squaresOn 105 = .ok (.goto (-40), 3) := by decide +kernel
theorem dX5_squaresOn_108 : decode cX5_squaresOn 108 = .ok (.iinc 8 1, 3) := by decide +kernel
theorem dX5_squaresOn_111 : decode cX5_squaresOn 111 = .ok (.goto (-56), 3) := by decide +kernel
theorem dX5_squaresOn_114 : decode cX5_squaresOn 114 = .ok (.iload 7, 2) := by decide +kernel
theorem dX5_squaresOn_116 : decode cX5_squaresOn 116 = .ok (.ireturn, 1) := by decide +kernel
theorem dX5_isMissing_0 : decode cX5_isMissing 0 = .ok (.aload_n 0, 1) := by decide +kernel
theorem dX5_isMissing_1 : decode cX5_isMissing 1 = .ok (.getfield 20, 3) := by decide +kernel
theorem dX5_isMissing_4 : decode cX5_isMissing 4 = .ok (.iconst 2, 1) := by decide +kernel
theorem dX5_isMissing_5 : decode cX5_isMissing 5 = .ok (.if_icmp .eq 5, 3) := by decide +kernel
theorem dX5_isMissing_8 : decode cX5_isMissing 8 = .ok (.iconst 0, 1) := by decide +kernel
theorem dX5_isMissing_9 : decode cX5_isMissing 9 = .ok (.ireturn, 1) := by decide +kernel
theorem dX5_isMissing_10 : decode cX5_isMissing 10 = .ok (.iload_n 3, 1) := by decide +kernel
theorem dX5_isMissing_11 : decode cX5_isMissing 11 = .ok (.ifCond .eq 8, 3) := by decide +kernel
theorem dX5_isMissing_14 : decode cX5_isMissing 14 = .ok (.iload_n 3, 1) := by decide +kernel
theorem dX5_isMissing_15 : decode cX5_isMissing 15 = .ok (.iconst 3, 1) := by decide +kernel
theorem dX5_isMissing_16 : decode cX5_isMissing 16 = .ok (.if_icmp .ne 13, 3) := by decide +kernel
theorem dX5_isMissing_19 : decode cX5_isMissing 19 = .ok (.aload_n 0, 1) := by decide +kernel
theorem dX5_isMissing_20 : decode cX5_isMissing 20 = .ok (.iload_n 3, 1) := by decide +kernel
theorem dX5_isMissing_21 : decode cX5_isMissing 21 = .ok (.invokevirtual 33, 3) := by decide +kernel
theorem dX5_isMissing_24 : decode cX5_isMissing 24 = .ok (.iconst 1, 1) := by decide +kernel
theorem dX5_isMissing_25 : decode cX5_isMissing 25 = .ok (.isub, 1) := by decide +kernel
theorem dX5_isMissing_26 : decode cX5_isMissing 26 = .ok (.goto 4, 3) := by decide +kernel
theorem dX5_isMissing_29 : decode cX5_isMissing 29 = .ok (.iconst 0, 1) := by decide +kernel
theorem dX5_isMissing_30 : decode cX5_isMissing 30 = .ok (.istore 4, 2) := by decide +kernel
theorem dX5_isMissing_32 : decode cX5_isMissing 32 = .ok (.iload_n 3, 1) := by decide +kernel
theorem dX5_isMissing_33 : decode cX5_isMissing 33 = .ok (.iconst 2, 1) := by decide +kernel
theorem dX5_isMissing_34 : decode cX5_isMissing 34 = .ok (.if_icmp .ge 13, 3) := by decide +kernel
theorem dX5_isMissing_37 : decode cX5_isMissing 37 = .ok (.aload_n 0, 1) := by decide +kernel
theorem dX5_isMissing_38 : decode cX5_isMissing 38 = .ok (.iload_n 3, 1) := by decide +kernel
theorem dX5_isMissing_39 : decode cX5_isMissing 39 = .ok (.invokevirtual 37, 3) := by decide +kernel
theorem dX5_isMissing_42 : decode cX5_isMissing 42 = .ok (.iconst 1, 1) := by decide +kernel
theorem dX5_isMissing_43 : decode cX5_isMissing 43 = .ok (.isub, 1) := by decide +kernel
theorem dX5_isMissing_44 : decode cX5_isMissing 44 = .ok (.goto 4, 3) := by decide +kernel
theorem dX5_isMissing_47 : decode cX5_isMissing 47 = .ok (.iconst 0, 1) := by decide +kernel
theorem dX5_isMissing_48 : decode cX5_isMissing 48 = .ok (.istore 5, 2) := by decide +kernel
theorem dX5_isMissing_50 : decode cX5_isMissing 50 = .ok (.iload_n 1, 1) := by decide +kernel
theorem dX5_isMissing_51 : decode cX5_isMissing 51 = .ok (.iload 4, 2) := by decide +kernel
theorem dX5_isMissing_53 : decode cX5_isMissing 53 = .ok (.if_icmp .ne 13, 3) := by decide +kernel
theorem dX5_isMissing_56 : decode cX5_isMissing 56 = .ok (.iload_n 2, 1) := by decide +kernel
theorem dX5_isMissing_57 : decode cX5_isMissing 57 = .ok (.iload 5, 2) := by decide +kernel
theorem dX5_isMissing_59 : decode cX5_isMissing 59 = .ok (.if_icmp .ne 7, 3) := by decide +kernel
theorem dX5_isMissing_62 : decode cX5_isMissing 62 = .ok (.iconst 1, 1) := by decide +kernel
theorem dX5_isMissing_63 : decode cX5_isMissing 63 = .ok (.goto 4, 3) := by decide +kernel
theorem dX5_isMissing_66 : decode cX5_isMissing 66 = .ok (.iconst 0, 1) := by decide +kernel
theorem dX5_isMissing_67 : decode cX5_isMissing 67 = .ok (.ireturn, 1) := by decide +kernel
theorem dX6_init_0 : decode cX6_init 0 = .ok (.aload_n 0, 1) := by decide +kernel
theorem dX6_init_1 : decode cX6_init 1 = .ok (.invokespecial 3, 3) := by decide +kernel
theorem dX6_init_4 : decode cX6_init 4 = .ok (.aload_n 0, 1) := by decide +kernel
theorem dX6_init_5 : decode cX6_init 5 = .ok (.new 9, 3) := by decide +kernel
theorem dX6_init_8 : decode cX6_init 8 = .ok (.dup, 1) := by decide +kernel
theorem dX6_init_9 : decode cX6_init 9 = .ok (.invokespecial 11, 3) := by decide +kernel
theorem dX6_init_12 : decode cX6_init 12 = .ok (.putfield 12, 3) := by decide +kernel
theorem dX6_init_15 : decode cX6_init 15 = .ok (.return_, 1) := by decide +kernel
theorem dX6_wouldLay_0 : decode cX6_wouldLay 0 = .ok (.aload_n 0, 1) := by decide +kernel
theorem dX6_wouldLay_1 : decode cX6_wouldLay 1 = .ok (.getfield 12, 3) := by decide +kernel
theorem dX6_wouldLay_4 : decode cX6_wouldLay 4 = .ok (.aload_n 3, 1) := by decide +kernel
theorem dX6_wouldLay_5 : decode cX6_wouldLay 5 = .ok (.invokevirtual 18, 3) := by decide +kernel
theorem dX6_wouldLay_8 : decode cX6_wouldLay 8 = .ok (.aload_n 0, 1) := by decide +kernel
theorem dX6_wouldLay_9 : decode cX6_wouldLay 9 = .ok (.iload_n 1, 1) := by decide +kernel
theorem dX6_wouldLay_10 : decode cX6_wouldLay 10 = .ok (.aload_n 2, 1) := by decide +kernel
theorem dX6_wouldLay_11 : decode cX6_wouldLay 11 = .ok (.aload_n 0, 1) := by decide +kernel
theorem dX6_wouldLay_12 : decode cX6_wouldLay 12 = .ok (.getfield 12, 3) := by decide +kernel
theorem dX6_wouldLay_15 : decode cX6_wouldLay 15 = .ok (.invokevirtual 22, 3) := by decide +kernel
theorem dX6_wouldLay_18 : decode cX6_wouldLay 18 = .ok (.areturn, 1) := by decide +kernel
theorem dX6_lengthOfMatch_0 : decode cX6_lengthOfMatch 0 = .ok (.aload_n 0, 1) := by decide +kernel
theorem dX6_lengthOfMatch_1 : decode cX6_lengthOfMatch 1 = .ok (.getfield 12, 3) := by decide +kernel
theorem dX6_lengthOfMatch_4 : decode cX6_lengthOfMatch 4 = .ok (.aload 4, 2) := by decide +kernel
theorem dX6_lengthOfMatch_6 : decode cX6_lengthOfMatch 6 = .ok (.invokevirtual 18, 3) := by decide +kernel
theorem dX6_lengthOfMatch_9 : decode cX6_lengthOfMatch 9 = .ok (.iconst 0, 1) := by decide +kernel
theorem dX6_lengthOfMatch_10 : decode cX6_lengthOfMatch 10 = .ok (.istore 5, 2) := by decide +kernel
theorem dX6_lengthOfMatch_12 : decode cX6_lengthOfMatch 12 = .ok (.iload 5, 2) := by decide +kernel
theorem dX6_lengthOfMatch_14 : decode cX6_lengthOfMatch 14 = .ok (.bipush 14, 2) := by decide +kernel
theorem dX6_lengthOfMatch_16 : decode cX6_lengthOfMatch 16 = .ok (.if_icmp .ge 49, 3) := by decide +kernel
theorem dX6_lengthOfMatch_19 : decode cX6_lengthOfMatch 19 = .ok (.aload_n 0, 1) := by decide +kernel
theorem dX6_lengthOfMatch_20 : decode cX6_lengthOfMatch 20 = .ok (.iload 5, 2) := by decide +kernel
theorem dX6_lengthOfMatch_22 : decode cX6_lengthOfMatch 22 = .ok (.iconst 1, 1) := by decide +kernel
theorem dX6_lengthOfMatch_23 : decode cX6_lengthOfMatch 23 = .ok (.iand, 1) := by decide +kernel
theorem dX6_lengthOfMatch_24 : decode cX6_lengthOfMatch 24 = .ok (.ifCond .ne 7, 3) := by decide +kernel
theorem dX6_lengthOfMatch_27 : decode cX6_lengthOfMatch 27 = .ok (.iload_n 1, 1) := by decide +kernel
theorem dX6_lengthOfMatch_28 : decode cX6_lengthOfMatch 28 = .ok (.goto 4, 3) := by decide +kernel
theorem dX6_lengthOfMatch_31 : decode cX6_lengthOfMatch 31 = .ok (.iload_n 2, 1) := by decide +kernel
theorem dX6_lengthOfMatch_32 : decode cX6_lengthOfMatch 32 = .ok (.aload_n 3, 1) := by decide +kernel
theorem dX6_lengthOfMatch_33 : decode cX6_lengthOfMatch 33 = .ok (.aload_n 0, 1) := by decide +kernel
theorem dX6_lengthOfMatch_34 : decode cX6_lengthOfMatch 34 = .ok (.getfield 12, 3) := by decide +kernel
theorem dX6_lengthOfMatch_37 : decode cX6_lengthOfMatch 37 = .ok (.invokevirtual 22, 3) := by decide +kernel
theorem dX6_lengthOfMatch_40 : decode cX6_lengthOfMatch 40 = .ok (.astore 6, 2) := by decide +kernel
theorem dX6_lengthOfMatch_42 : decode cX6_lengthOfMatch 42 = .ok (.aload 6, 2) := by decide +kernel
theorem dX6_lengthOfMatch_44 : decode cX6_lengthOfMatch 44 = .ok (.ifnonnull 6, 3) := by decide +kernel
theorem dX6_lengthOfMatch_47 : decode cX6_lengthOfMatch 47 = .ok (.iload 5, 2) := by decide +kernel
theorem dX6_lengthOfMatch_49 : decode cX6_lengthOfMatch 49 = .ok (.ireturn, 1) := by decide +kernel
theorem dX6_lengthOfMatch_50 : decode cX6_lengthOfMatch 50 = .ok (.aload_n 0, 1) := by decide +kernel
theorem dX6_lengthOfMatch_51 : decode cX6_lengthOfMatch 51 = .ok (.getfield 12, 3) := by decide +kernel
theorem dX6_lengthOfMatch_54 : decode cX6_lengthOfMatch 54 = .ok (.aload 6, 2) := by decide +kernel
theorem dX6_lengthOfMatch_56 : decode cX6_lengthOfMatch 56 = .ok (.invokevirtual 26, 3) := by decide +kernel
theorem dX6_lengthOfMatch_59 : decode cX6_lengthOfMatch 59 = .ok (.iinc 5 1, 3) := by decide +kernel
theorem dX6_lengthOfMatch_62 : decode cX6_lengthOfMatch 62 = .ok (.goto (-50), 3) := by decide +kernel
theorem dX6_lengthOfMatch_65 : decode cX6_lengthOfMatch 65 = .ok (.bipush 14, 2) := by decide +kernel
theorem dX6_lengthOfMatch_67 : decode cX6_lengthOfMatch 67 = .ok (.ireturn, 1) := by decide +kernel
theorem dX6_choose_0 : decode cX6_choose 0 = .ok (.aload_n 2, 1) := by decide +kernel
theorem dX6_choose_1 : decode cX6_choose 1 = .ok (.getfield 30, 3) := by decide +kernel
theorem dX6_choose_4 : decode cX6_choose 4 = .ok (.astore 4, 2) := by decide +kernel
theorem dX6_choose_6 : decode cX6_choose 6 = .ok (.aload 4, 2) := by decide +kernel
theorem dX6_choose_8 : decode cX6_choose 8 = .ok (.ifnonnull 7, 3) := by decide +kernel
theorem dX6_choose_11 : decode cX6_choose 11 = .ok (.aconst_null, 1) := by decide +kernel
theorem dX6_choose_12 : decode cX6_choose 12 = .ok (.goto 17, 3) := by decide +kernel
theorem dX6_choose_15 : decode cX6_choose 15 = .ok (.aload 4, 2) := by decide +kernel
theorem dX6_choose_17 : decode cX6_choose 17 = .ok (.aload_n 3, 1) := by decide +kernel
theorem dX6_choose_18 : decode cX6_choose 18 = .ok (.getfield 36, 3) := by decide +kernel
theorem dX6_choose_21 : decode cX6_choose 21 = .ok (.aload_n 3, 1) := by decide +kernel
theorem dX6_choose_22 : decode cX6_choose 22 = .ok (.invokevirtual 40, 3) := by decide +kernel
theorem dX6_choose_25 : decode cX6_choose 25 = .ok (.iconst 0, 1) := by decide +kernel
theorem dX6_choose_26 : decode cX6_choose 26 = .ok (.invokevirtual 44, 3) := by decide +kernel
theorem dX6_choose_29 : decode cX6_choose 29 = .ok (.astore 5, 2) := by decide +kernel
theorem dX6_choose_31 : decode cX6_choose 31 = .ok (.aload 5, 2) := by decide +kernel
theorem dX6_choose_33 : decode cX6_choose 33 = .ok (.ifnonnull 5, 3) := by decide +kernel
theorem dX6_choose_36 : decode cX6_choose 36 = .ok (.aconst_null, 1) := by decide +kernel
theorem dX6_choose_37 : decode cX6_choose 37 = .ok (.areturn, 1) := by decide +kernel
theorem dX6_choose_38 : decode cX6_choose 38 = .ok (.iload_n 1, 1) := by decide +kernel
theorem dX6_choose_39 : decode cX6_choose 39 = .ok (.tableswitch 68 1 4 #[29, 36, 43, 50], 29) := by decide +kernel
theorem dX6_choose_68 : decode cX6_choose 68 = .ok (.aload 4, 2) := by decide +kernel
theorem dX6_choose_70 : decode cX6_choose 70 = .ok (.aload_n 3, 1) := by decide +kernel
theorem dX6_choose_71 : decode cX6_choose 71 = .ok (.invokestatic 50, 3) := by decide +kernel
theorem dX6_choose_74 : decode cX6_choose 74 = .ok (.areturn, 1) := by decide +kernel
theorem dX6_choose_75 : decode cX6_choose 75 = .ok (.aload_n 3, 1) := by decide +kernel
theorem dX6_choose_76 : decode cX6_choose 76 = .ok (.aload 5, 2) := by decide +kernel
theorem dX6_choose_78 : decode cX6_choose 78 = .ok (.invokestatic 54, 3) := by decide +kernel
theorem dX6_choose_81 : decode cX6_choose 81 = .ok (.areturn, 1) := by decide +kernel
theorem dX6_choose_82 : decode cX6_choose 82 = .ok (.aload 4, 2) := by decide +kernel
theorem dX6_choose_84 : decode cX6_choose 84 = .ok (.aload_n 3, 1) := by decide +kernel
theorem dX6_choose_85 : decode cX6_choose 85 = .ok (.invokestatic 58, 3) := by decide +kernel
theorem dX6_choose_88 : decode cX6_choose 88 = .ok (.areturn, 1) := by decide +kernel
theorem dX6_choose_89 : decode cX6_choose 89 = .ok (.aload_n 2, 1) := by decide +kernel
theorem dX6_choose_90 : decode cX6_choose 90 = .ok (.aload_n 3, 1) := by decide +kernel
theorem dX6_choose_91 : decode cX6_choose 91 = .ok (.getfield 36, 3) := by decide +kernel
theorem dX6_choose_94 : decode cX6_choose 94 = .ok (.aload_n 3, 1) := by decide +kernel
theorem dX6_choose_95 : decode cX6_choose 95 = .ok (.invokevirtual 40, 3) := by decide +kernel
theorem dX6_choose_98 : decode cX6_choose 98 = .ok (.invokevirtual 61, 3) := by decide +kernel
theorem dX6_choose_101 : decode cX6_choose 101 = .ok (.aload 5, 2) := by decide +kernel
theorem dX6_choose_103 : decode cX6_choose 103 = .ok (.invokestatic 65, 3) := by decide +kernel
theorem dX6_choose_106 : decode cX6_choose 106 = .ok (.areturn, 1) := by decide +kernel
theorem dX6_choose_107 : decode cX6_choose 107 = .ok (.aload 5, 2) := by decide +kernel
theorem dX6_choose_109 : decode cX6_choose 109 = .ok (.areturn, 1) := by decide +kernel
theorem dX6_barest_0 : decode cX6_barest 0 = .ok (.aconst_null, 1) := by decide +kernel
theorem dX6_barest_1 : decode cX6_barest 1 = .ok (.astore_n 2, 1) := by decide +kernel
theorem dX6_barest_2 : decode cX6_barest 2 = .ok (.iconst 0, 1) := by decide +kernel
theorem dX6_barest_3 : decode cX6_barest 3 = .ok (.istore_n 3, 1) := by decide +kernel
theorem dX6_barest_4 : decode cX6_barest 4 = .ok (.aload_n 0, 1) := by decide +kernel
theorem dX6_barest_5 : decode cX6_barest 5 = .ok (.getfield 69, 3) := by decide +kernel
theorem dX6_barest_8 : decode cX6_barest 8 = .ok (.astore 4, 2) := by decide +kernel
theorem dX6_barest_10 : decode cX6_barest 10 = .ok (.aload 4, 2) := by decide +kernel
theorem dX6_barest_12 : decode cX6_barest 12 = .ok (.arraylength, 1) := by decide +kernel
theorem dX6_barest_13 : decode cX6_barest 13 = .ok (.istore 5, 2) := by decide +kernel
theorem dX6_barest_15 : decode cX6_barest 15 = .ok (.iconst 0, 1) := by decide +kernel
theorem dX6_barest_16 : decode cX6_barest 16 = .ok (.istore 6, 2) := by decide +kernel
theorem dX6_barest_18 : decode cX6_barest 18 = .ok (.iload 6, 2) := by decide +kernel
theorem dX6_barest_20 : decode cX6_barest 20 = .ok (.iload 5, 2) := by decide +kernel
theorem dX6_barest_22 : decode cX6_barest 22 = .ok (.if_icmp .ge 70, 3) := by decide +kernel
theorem dX6_barest_25 : decode cX6_barest 25 = .ok (.aload 4, 2) := by decide +kernel
theorem dX6_barest_27 : decode cX6_barest 27 = .ok (.iload 6, 2) := by decide +kernel
theorem dX6_barest_29 : decode cX6_barest 29 = .ok (.aaload, 1) := by decide +kernel
theorem dX6_barest_30 : decode cX6_barest 30 = .ok (.astore 7, 2) := by decide +kernel
theorem dX6_barest_32 : decode cX6_barest 32 = .ok (.aload 7, 2) := by decide +kernel
theorem dX6_barest_34 : decode cX6_barest 34 = .ok (.aload_n 1, 1) := by decide +kernel
theorem dX6_barest_35 : decode cX6_barest 35 = .ok (.getfield 36, 3) := by decide +kernel
theorem dX6_barest_38 : decode cX6_barest 38 = .ok (.aload_n 1, 1) := by decide +kernel
theorem dX6_barest_39 : decode cX6_barest 39 = .ok (.invokevirtual 40, 3) := by decide +kernel
theorem dX6_barest_42 : decode cX6_barest 42 = .ok (.invokevirtual 73, 3) := by decide +kernel
theorem dX6_barest_45 : decode cX6_barest 45 = .ok (.ifCond .eq 41, 3) := by decide +kernel
theorem dX6_barest_48 : decode cX6_barest 48 = .ok (.aload_n 0, 1) := by decide +kernel
theorem dX6_barest_49 : decode cX6_barest 49 = .ok (.aload_n 1, 1) := by decide +kernel
theorem dX6_barest_50 : decode cX6_barest 50 = .ok (.getfield 36, 3) := by decide +kernel
theorem dX6_barest_53 : decode cX6_barest 53 = .ok (.aload 7, 2) := by decide +kernel
theorem dX6_barest_55 : decode cX6_barest 55 = .ok (.getfield 79, 3) := by decide +kernel
theorem dX6_barest_58 : decode cX6_barest 58 = .ok (.ior, 1) := by decide +kernel
theorem dX6_barest_59 : decode cX6_barest 59 = .ok (.iconst 1, 1) := by decide +kernel
theorem dX6_barest_60 : decode cX6_barest 60 = .ok (.aload_n 1, 1) := by decide +kernel
theorem dX6_barest_61 : decode cX6_barest 61 = .ok (.invokevirtual 40, 3) := by decide +kernel
theorem dX6_barest_64 : decode cX6_barest 64 = .ok (.isub, 1) := by decide +kernel
theorem dX6_barest_65 : decode cX6_barest 65 = .ok (.invokevirtual 82, 3) := by decide +kernel
theorem dX6_barest_68 : decode cX6_barest 68 = .ok (.istore 8, 2) := by decide +kernel
theorem dX6_barest_70 : decode cX6_barest 70 = .ok (.aload_n 2, 1) := by decide +kernel
theorem dX6_barest_71 : decode cX6_barest 71 = .ok (.ifnull 9, 3) := by decide +kernel
theorem dX6_barest_74 : decode cX6_barest 74 = .ok (.iload 8, 2) := by decide +kernel
theorem dX6_barest_76 : decode cX6_barest 76 = .ok (.iload_n 3, 1) := by decide +kernel
theorem dX6_barest_77 : decode cX6_barest 77 = .ok (.if_icmp .ge 9, 3) := by decide +kernel
theorem dX6_barest_80 : decode cX6_barest 80 = .ok (.aload 7, 2) := by decide +kernel
theorem dX6_barest_82 : decode cX6_barest 82 = .ok (.astore_n 2, 1) := by decide +kernel
theorem dX6_barest_83 : decode cX6_barest 83 = .ok (.iload 8, 2) := by decide +kernel
theorem dX6_barest_85 : decode cX6_barest 85 = .ok (.istore_n 3, 1) := by decide +kernel
theorem dX6_barest_86 : decode cX6_barest 86 = .ok (.iinc 6 1, 3) := by decide +kernel
theorem dX6_barest_89 : decode cX6_barest 89 = .ok (.goto (-71), 3) := by decide +kernel
theorem dX6_barest_92 : decode cX6_barest 92 = .ok (.aload_n 2, 1) := by decide +kernel
theorem dX6_barest_93 : decode cX6_barest 93 = .ok (.areturn, 1) := by decide +kernel
theorem dX6_acrossLatest_0 : decode cX6_acrossLatest 0 = .ok (.aload_n 0, 1) := by decide +kernel
theorem dX6_acrossLatest_1 : decode cX6_acrossLatest 1 = .ok (.invokevirtual 86, 3) := by decide +kernel
theorem dX6_acrossLatest_4 : decode cX6_acrossLatest 4 = .ok (.astore_n 2, 1) := by decide +kernel
theorem dX6_acrossLatest_5 : decode cX6_acrossLatest 5 = .ok (.aload_n 2, 1) := by decide +kernel
theorem dX6_acrossLatest_6 : decode cX6_acrossLatest 6 = .ok (.ifnonnull 7, 3) := by decide +kernel
theorem dX6_acrossLatest_9 : decode cX6_acrossLatest 9 = .ok (.aconst_null, 1) := by decide +kernel
theorem dX6_acrossLatest_10 : decode cX6_acrossLatest 10 = .ok (.goto 7, 3) := by decide +kernel
theorem dX6_acrossLatest_13 : decode cX6_acrossLatest 13 = .ok (.aload_n 2, 1) := by decide +kernel
theorem dX6_acrossLatest_14 : decode cX6_acrossLatest 14 = .ok (.getfield 90, 3) := by decide +kernel
theorem dX6_acrossLatest_17 : decode cX6_acrossLatest 17 = .ok (.astore_n 3, 1) := by decide +kernel
theorem dX6_acrossLatest_18 : decode cX6_acrossLatest 18 = .ok (.aload_n 3, 1) := by decide +kernel
theorem dX6_acrossLatest_19 : decode cX6_acrossLatest 19 = .ok (.ifnull 22, 3) := by decide +kernel
theorem dX6_acrossLatest_22 : decode cX6_acrossLatest 22 = .ok (.aload_n 3, 1) := by decide +kernel
theorem dX6_acrossLatest_23 : decode cX6_acrossLatest 23 = .ok (.aload_n 0, 1) := by decide +kernel
theorem dX6_acrossLatest_24 : decode cX6_acrossLatest 24 = .ok (.getfield 36, 3) := by decide +kernel
theorem dX6_acrossLatest_27 : decode cX6_acrossLatest 27 = .ok (.aload_n 0, 1) := by decide +kernel
theorem dX6_acrossLatest_28 : decode cX6_acrossLatest 28 = .ok (.invokevirtual 40, 3) := by decide +kernel
theorem dX6_acrossLatest_31 : decode cX6_acrossLatest 31 = .ok (.invokevirtual 73, 3) := by decide +kernel
theorem dX6_acrossLatest_34 : decode cX6_acrossLatest 34 = .ok (.ifCond .eq 7, 3) := by decide +kernel
theorem dX6_acrossLatest_37 : decode cX6_acrossLatest 37 = .ok (.aload_n 3, 1) := by decide +kernel
theorem dX6_acrossLatest_38 : decode cX6_acrossLatest 38 = .ok (.goto 4, 3) := by decide +kernel
theorem dX6_acrossLatest_41 : decode cX6_acrossLatest 41 = .ok (.aload_n 1, 1) := by decide +kernel
theorem dX6_acrossLatest_42 : decode cX6_acrossLatest 42 = .ok (.areturn, 1) := by decide +kernel
theorem dX6_drawn_0 : decode cX6_drawn 0 = .ok (.aload_n 0, 1) := by decide +kernel
theorem dX6_drawn_1 : decode cX6_drawn 1 = .ok (.aload_n 1, 1) := by decide +kernel
theorem dX6_drawn_2 : decode cX6_drawn 2 = .ok (.getfield 36, 3) := by decide +kernel
theorem dX6_drawn_5 : decode cX6_drawn 5 = .ok (.aload_n 1, 1) := by decide +kernel
theorem dX6_drawn_6 : decode cX6_drawn 6 = .ok (.invokevirtual 40, 3) := by decide +kernel
theorem dX6_drawn_9 : decode cX6_drawn 9 = .ok (.invokevirtual 82, 3) := by decide +kernel
theorem dX6_drawn_12 : decode cX6_drawn 12 = .ok (.istore_n 2, 1) := by decide +kernel
theorem dX6_drawn_13 : decode cX6_drawn 13 = .ok (.iload_n 2, 1) := by decide +kernel
theorem dX6_drawn_14 : decode cX6_drawn 14 = .ok (.ifCond .le 24, 3) := by decide +kernel
theorem dX6_drawn_17 : decode cX6_drawn 17 = .ok (.aload_n 0, 1) := by decide +kernel
theorem dX6_drawn_18 : decode cX6_drawn 18 = .ok (.aload_n 1, 1) := by decide +kernel
theorem dX6_drawn_19 : decode cX6_drawn 19 = .ok (.getfield 36, 3) := by decide +kernel
theorem dX6_drawn_22 : decode cX6_drawn 22 = .ok (.aload_n 1, 1) := by decide +kernel
theorem dX6_drawn_23 : decode cX6_drawn 23 = .ok (.invokevirtual 40, 3) := by decide +kernel
theorem dX6_drawn_26 : decode cX6_drawn 26 = .ok (.aload_n 1, 1) := by decide +kernel
theorem dX6_drawn_27 : decode cX6_drawn 27 = .ok (.invokevirtual 94, 3) := by decide +kernel
theorem dX6_drawn_30 : decode cX6_drawn 30 = .ok (.iload_n 2, 1) := by decide +kernel
theorem dX6_drawn_31 : decode cX6_drawn 31 = .ok (.irem, 1) := by decide +kernel
theorem dX6_drawn_32 : decode cX6_drawn 32 = .ok (.invokevirtual 44, 3) := by decide +kernel
theorem dX6_drawn_35 : decode cX6_drawn 35 = .ok (.goto 4, 3) := by decide +kernel
theorem dX6_drawn_38 : decode cX6_drawn 38 = .ok (.aconst_null, 1) := by decide +kernel
theorem dX6_drawn_39 : decode cX6_drawn 39 = .ok (.areturn, 1) := by decide +kernel
theorem dX6_orElse_0 : decode cX6_orElse 0 = .ok (.aload_n 0, 1) := by decide +kernel
theorem dX6_orElse_1 : decode cX6_orElse 1 = .ok (.ifnonnull 7, 3) := by decide +kernel
theorem dX6_orElse_4 : decode cX6_orElse 4 = .ok (.aload_n 1, 1) := by decide +kernel
theorem dX6_orElse_5 : decode cX6_orElse 5 = .ok (.goto 4, 3) := by decide +kernel
theorem dX6_orElse_8 : decode cX6_orElse 8 = .ok (.aload_n 0, 1) := by decide +kernel
theorem dX6_orElse_9 : decode cX6_orElse 9 = .ok (.areturn, 1) := by decide +kernel
theorem dX7_init_0 : decode cX7_init 0 = .ok (.aload_n 0, 1) := by decide +kernel
theorem dX7_init_1 : decode cX7_init 1 = .ok (.invokespecial 3, 3) := by decide +kernel
theorem dX7_init_4 : decode cX7_init 4 = .ok (.aload_n 0, 1) := by decide +kernel
theorem dX7_init_5 : decode cX7_init 5 = .ok (.bipush 10, 2) := by decide +kernel
theorem dX7_init_7 : decode cX7_init 7 = .ok (.sipush 201, 3) := by decide +kernel
theorem dX7_init_10 : decode cX7_init 10 = .ok (.multianewarray 11 2, 4) := by decide +kernel
theorem dX7_init_14 : decode cX7_init 14 = .ok (.putfield 13, 3) := by decide +kernel
theorem dX7_init_17 : decode cX7_init 17 = .ok (.aload_n 0, 1) := by decide +kernel
theorem dX7_init_18 : decode cX7_init 18 = .ok (.bipush 10, 2) := by decide +kernel
theorem dX7_init_20 : decode cX7_init 20 = .ok (.newarray .boolean, 2) := by decide +kernel
theorem dX7_init_22 : decode cX7_init 22 = .ok (.putfield 16, 3) := by decide +kernel
theorem dX7_init_25 : decode cX7_init 25 = .ok (.aload_n 0, 1) := by decide +kernel
theorem dX7_init_26 : decode cX7_init 26 = .ok (.iconst 0, 1) := by decide +kernel
theorem dX7_init_27 : decode cX7_init 27 = .ok (.newarray .int, 2) := by decide +kernel
theorem dX7_init_29 : decode cX7_init 29 = .ok (.putfield 20, 3) := by decide +kernel
theorem dX7_init_32 : decode cX7_init 32 = .ok (.aload_n 0, 1) := by decide +kernel
theorem dX7_init_33 : decode cX7_init 33 = .ok (.sipush 256, 3) := by decide +kernel
theorem dX7_init_36 : decode cX7_init 36 = .ok (.newarray .int, 2) := by decide +kernel
theorem dX7_init_38 : decode cX7_init 38 = .ok (.putfield 24, 3) := by decide +kernel
theorem dX7_init_41 : decode cX7_init 41 = .ok (.return_, 1) := by decide +kernel
theorem dX7_isLength_0 : decode cX7_isLength 0 = .ok (.iload_n 0, 1) := by decide +kernel
theorem dX7_isLength_1 : decode cX7_isLength 1 = .ok (.ifCond .lt 14, 3) := by decide +kernel
theorem dX7_isLength_4 : decode cX7_isLength 4 = .ok (.iload_n 0, 1) := by decide +kernel
theorem dX7_isLength_5 : decode cX7_isLength 5 = .ok (.sipush 200, 3) := by decide +kernel
theorem dX7_isLength_8 : decode cX7_isLength 8 = .ok (.if_icmp .gt 7, 3) := by decide +kernel
theorem dX7_isLength_11 : decode cX7_isLength 11 = .ok (.iconst 1, 1) := by decide +kernel
theorem dX7_isLength_12 : decode cX7_isLength 12 = .ok (.goto 4, 3) := by decide +kernel
theorem dX7_isLength_15 : decode cX7_isLength 15 = .ok (.iconst 0, 1) := by decide +kernel
theorem dX7_isLength_16 : decode cX7_isLength 16 = .ok (.ireturn, 1) := by decide +kernel
theorem dX7_isWidth_0 : decode cX7_isWidth 0 = .ok (.iload_n 0, 1) := by decide +kernel
theorem dX7_isWidth_1 : decode cX7_isWidth 1 = .ok (.iconst 1, 1) := by decide +kernel
theorem dX7_isWidth_2 : decode cX7_isWidth 2 = .ok (.if_icmp .lt 13, 3) := by decide +kernel
theorem dX7_isWidth_5 : decode cX7_isWidth 5 = .ok (.iload_n 0, 1) := by decide +kernel
theorem dX7_isWidth_6 : decode cX7_isWidth 6 = .ok (.bipush 9, 2) := by decide +kernel
theorem dX7_isWidth_8 : decode cX7_isWidth 8 = .ok (.if_icmp .gt 7, 3) := by decide +kernel
theorem dX7_isWidth_11 : decode cX7_isWidth 11 = .ok (.iconst 1, 1) := by decide +kernel
theorem dX7_isWidth_12 : decode cX7_isWidth 12 = .ok (.goto 4, 3) := by decide +kernel
theorem dX7_isWidth_15 : decode cX7_isWidth 15 = .ok (.iconst 0, 1) := by decide +kernel
theorem dX7_isWidth_16 : decode cX7_isWidth 16 = .ok (.ireturn, 1) := by decide +kernel
theorem dX7_sizeOf_0 : decode cX7_sizeOf 0 = .ok (.aload_n 0, 1) := by decide +kernel
theorem dX7_sizeOf_1 : decode cX7_sizeOf 1 = .ok (.iload_n 2, 1) := by decide +kernel
theorem dX7_sizeOf_2 : decode cX7_sizeOf 2 = .ok (.invokevirtual 27, 3) := by decide +kernel
theorem dX7_sizeOf_5 : decode cX7_sizeOf 5 = .ok (.astore_n 3, 1) := by decide +kernel
theorem dX7_sizeOf_6 : decode cX7_sizeOf 6 = .ok (.iload_n 1, 1) := by decide +kernel
theorem dX7_sizeOf_7 : decode cX7_sizeOf 7 = .ok (.ifCond .lt 15, 3) := by decide +kernel
theorem dX7_sizeOf_10 : decode cX7_sizeOf 10 = .ok (.iload_n 1, 1) := by decide +kernel
theorem dX7_sizeOf_11 : decode cX7_sizeOf 11 = .ok (.aload_n 3, 1) := by decide +kernel
theorem dX7_sizeOf_12 : decode cX7_sizeOf 12 = .ok (.arraylength, 1) := by decide +kernel
theorem dX7_sizeOf_13 : decode cX7_sizeOf 13 = .ok (.if_icmp .ge 9, 3) := by decide +kernel
theorem dX7_sizeOf_16 : decode cX7_sizeOf 16 = .ok (.aload_n 3, 1) := by decide +kernel
theorem dX7_sizeOf_17 : decode cX7_sizeOf 17 = .ok (.iload_n 1, 1) := by decide +kernel
theorem dX7_sizeOf_18 : decode cX7_sizeOf 18 = .ok (.iaload, 1) := by decide +kernel
theorem dX7_sizeOf_19 : decode cX7_sizeOf 19 = .ok (.goto 4, 3) := by decide +kernel
theorem dX7_sizeOf_22 : decode cX7_sizeOf 22 = .ok (.iconst 0, 1) := by decide +kernel
theorem dX7_sizeOf_23 : decode cX7_sizeOf 23 = .ok (.ireturn, 1) := by decide +kernel
theorem dX7_rowOf_0 : decode cX7_rowOf 0 = .ok (.iload_n 1, 1) := by decide +kernel
theorem dX7_rowOf_1 : decode cX7_rowOf 1 = .ok (.invokestatic 31, 3) := by decide +kernel
theorem dX7_rowOf_4 : decode cX7_rowOf 4 = .ok (.ifCond .eq 21, 3) := by decide +kernel
theorem dX7_rowOf_7 : decode cX7_rowOf 7 = .ok (.iload_n 1, 1) := by decide +kernel
theorem dX7_rowOf_8 : decode cX7_rowOf 8 = .ok (.aload_n 0, 1) := by decide +kernel
theorem dX7_rowOf_9 : decode cX7_rowOf 9 = .ok (.getfield 13, 3) := by decide +kernel
theorem dX7_rowOf_12 : decode cX7_rowOf 12 = .ok (.arraylength, 1) := by decide +kernel
theorem dX7_rowOf_13 : decode cX7_rowOf 13 = .ok (.if_icmp .ge 12, 3) := by decide +kernel
theorem dX7_rowOf_16 : decode cX7_rowOf 16 = .ok (.iload_n 1, 1) := by decide +kernel
theorem dX7_rowOf_17 : decode cX7_rowOf 17 = .ok (.aload_n 0, 1) := by decide +kernel
theorem dX7_rowOf_18 : decode cX7_rowOf 18 = .ok (.getfield 16, 3) := by decide +kernel
theorem dX7_rowOf_21 : decode cX7_rowOf 21 = .ok (.arraylength, 1) := by decide +kernel
theorem dX7_rowOf_22 : decode cX7_rowOf 22 = .ok (.if_icmp .lt 8, 3) := by decide +kernel
theorem dX7_rowOf_25 : decode cX7_rowOf 25 = .ok (.aload_n 0, 1) := by decide +kernel
theorem dX7_rowOf_26 : decode cX7_rowOf 26 = .ok (.getfield 20, 3) := by decide +kernel
theorem dX7_rowOf_29 : decode cX7_rowOf 29 = .ok (.areturn, 1) := by decide +kernel
theorem dX7_rowOf_30 : decode cX7_rowOf 30 = .ok (.aload_n 0, 1) := by decide +kernel
theorem dX7_rowOf_31 : decode cX7_rowOf 31 = .ok (.getfield 13, 3) := by decide +kernel
theorem dX7_rowOf_34 : decode cX7_rowOf 34 = .ok (.iload_n 1, 1) := by decide +kernel
theorem dX7_rowOf_35 : decode cX7_rowOf 35 = .ok (.aaload, 1) := by decide +kernel
theorem dX7_rowOf_36 : decode cX7_rowOf 36 = .ok (.astore_n 2, 1) := by decide +kernel
theorem dX7_rowOf_37 : decode cX7_rowOf 37 = .ok (.aload_n 0, 1) := by decide +kernel
theorem dX7_rowOf_38 : decode cX7_rowOf 38 = .ok (.getfield 16, 3) := by decide +kernel
theorem dX7_rowOf_41 : decode cX7_rowOf 41 = .ok (.iload_n 1, 1) := by decide +kernel
theorem dX7_rowOf_42 : decode cX7_rowOf 42 = .ok (.baload, 1) := by decide +kernel
theorem dX7_rowOf_43 : decode cX7_rowOf 43 = .ok (.ifCond .ne 34, 3) := by decide +kernel
theorem dX7_rowOf_46 : decode cX7_rowOf 46 = .ok (.aload_n 0, 1) := by decide +kernel
theorem dX7_rowOf_47 : decode cX7_rowOf 47 = .ok (.getfield 16, 3) := by decide +kernel
theorem dX7_rowOf_50 : decode cX7_rowOf 50 = .ok (.iload_n 1, 1) := by decide +kernel
theorem dX7_rowOf_51 : decode cX7_rowOf 51 = .ok (.iconst 1, 1) := by decide +kernel
theorem dX7_rowOf_52 : decode cX7_rowOf 52 = .ok (.bastore, 1) := by decide +kernel
theorem dX7_rowOf_53 : decode cX7_rowOf 53 = .ok (.iconst 0, 1) := by decide +kernel
theorem dX7_rowOf_54 : decode cX7_rowOf 54 = .ok (.istore_n 3, 1) := by decide +kernel
theorem dX7_rowOf_55 : decode cX7_rowOf 55 = .ok (.iload_n 3, 1) := by decide +kernel
theorem dX7_rowOf_56 : decode cX7_rowOf 56 = .ok (.aload_n 2, 1) := by decide +kernel
theorem dX7_rowOf_57 : decode cX7_rowOf 57 = .ok (.arraylength, 1) := by decide +kernel
theorem dX7_rowOf_58 : decode cX7_rowOf 58 = .ok (.if_icmp .ge 19, 3) := by decide +kernel
theorem dX7_rowOf_61 : decode cX7_rowOf 61 = .ok (.aload_n 2, 1) := by decide +kernel
theorem dX7_rowOf_62 : decode cX7_rowOf 62 = .ok (.iload_n 3, 1) := by decide +kernel
theorem dX7_rowOf_63 : decode cX7_rowOf 63 = .ok (.aload_n 0, 1) := by decide +kernel
theorem dX7_rowOf_64 : decode cX7_rowOf 64 = .ok (.aload_n 2, 1) := by decide +kernel
theorem dX7_rowOf_65 : decode cX7_rowOf 65 = .ok (.iload_n 3, 1) := by decide +kernel
theorem dX7_rowOf_66 : decode cX7_rowOf 66 = .ok (.iload_n 1, 1) := by decide +kernel
theorem dX7_rowOf_67 : decode cX7_rowOf 67 = .ok (.invokevirtual 35, 3) := by decide +kernel
theorem dX7_rowOf_70 : decode cX7_rowOf 70 = .ok (.iastore, 1) := by decide +kernel
theorem dX7_rowOf_71 : decode cX7_rowOf 71 = .ok (.iinc 3 1, 3) := by decide +kernel
theorem dX7_rowOf_74 : decode cX7_rowOf 74 = .ok (.goto (-19), 3) := by decide +kernel
theorem dX7_rowOf_77 : decode cX7_rowOf 77 = .ok (.aload_n 2, 1) := by decide +kernel
theorem dX7_rowOf_78 : decode cX7_rowOf 78 = .ok (.areturn, 1) := by decide +kernel
theorem dX7_leastMissing_0 : decode cX7_leastMissing 0 = .ok (.aload_n 0, 1) := by decide +kernel
theorem dX7_leastMissing_1 : decode cX7_leastMissing 1 = .ok (.dup, 1) := by decide +kernel
theorem dX7_leastMissing_2 : decode cX7_leastMissing 2 = .ok (.getfield 39, 3) := by decide +kernel
theorem dX7_leastMissing_5 : decode cX7_leastMissing 5 = .ok (.iconst 1, 1) := by decide +kernel
theorem dX7_leastMissing_6 : decode cX7_leastMissing 6 = .ok (.iadd, 1) := by decide +kernel
theorem dX7_leastMissing_7 : decode cX7_leastMissing 7 = .ok (.putfield 39, 3) := by decide +kernel
theorem dX7_leastMissing_10 : decode cX7_leastMissing 10 = .ok (.iconst 0, 1) := by decide +kernel
theorem dX7_leastMissing_11 : decode cX7_leastMissing 11 = .ok (.istore 4, 2) := by decide +kernel
theorem dX7_leastMissing_13 : decode cX7_leastMissing 13 = .ok (.iload 4, 2) := by decide +kernel
theorem dX7_leastMissing_15 : decode cX7_leastMissing 15 = .ok (.iload_n 2, 1) := by decide +kernel
theorem dX7_leastMissing_16 : decode cX7_leastMissing 16 = .ok (.iload_n 3, 1) := by decide +kernel
theorem dX7_leastMissing_17 : decode cX7_leastMissing 17 = .ok (.isub, 1) := by decide +kernel
theorem dX7_leastMissing_18 : decode cX7_leastMissing 18 = .ok (.if_icmp .gt 49, 3) := by decide +kernel
theorem dX7_leastMissing_21 : decode cX7_leastMissing 21 = .ok (.aload_n 1, 1) := by decide +kernel
theorem dX7_leastMissing_22 : decode cX7_leastMissing 22 = .ok (.iload 4, 2) := by decide +kernel
theorem dX7_leastMissing_24 : decode cX7_leastMissing 24 = .ok (.iload_n 2, 1) := by decide +kernel
theorem dX7_leastMissing_25 : decode cX7_leastMissing 25 = .ok (.iload_n 3, 1) := by decide +kernel
theorem dX7_leastMissing_26 : decode cX7_leastMissing 26 = .ok (.isub, 1) := by decide +kernel
theorem dX7_leastMissing_27 : decode cX7_leastMissing 27 = .ok (.iload 4, 2) := by decide +kernel
theorem dX7_leastMissing_29 : decode cX7_leastMissing 29 = .ok (.isub, 1) := by decide +kernel
theorem dX7_leastMissing_30 : decode cX7_leastMissing 30 = .ok (.invokestatic 43, 3) := by decide +kernel
theorem dX7_leastMissing_33 : decode cX7_leastMissing 33 = .ok (.istore 5, 2) := by decide +kernel
theorem dX7_leastMissing_35 : decode cX7_leastMissing 35 = .ok (.iload 5, 2) := by decide +kernel
theorem dX7_leastMissing_37 : decode cX7_leastMissing 37 = .ok (.ifCond .lt 24, 3) := by decide +kernel
theorem dX7_leastMissing_40 : decode cX7_leastMissing 40 = .ok (.iload 5, 2) := by decide +kernel
theorem dX7_leastMissing_42 : decode cX7_leastMissing 42 = .ok (.aload_n 0, 1) := by decide +kernel
theorem dX7_leastMissing_43 : decode cX7_leastMissing 43 = .ok (.getfield 24, 3) := by decide +kernel
theorem dX7_leastMissing_46 : decode cX7_leastMissing 46 = .ok (.arraylength, 1) := by decide +kernel
theorem dX7_leastMissing_47 : decode cX7_leastMissing 47 = .ok (.if_icmp .ge 14, 3) := by decide +kernel
theorem dX7_leastMissing_50 : decode cX7_leastMissing 50 = .ok (.aload_n 0, 1) := by decide +kernel
theorem dX7_leastMissing_51 : decode cX7_leastMissing 51 = .ok (.getfield 24, 3) := by decide +kernel
theorem dX7_leastMissing_54 : decode cX7_leastMissing 54 = .ok (.iload 5, 2) := by decide +kernel
theorem dX7_leastMissing_56 : decode cX7_leastMissing 56 = .ok (.aload_n 0, 1) := by decide +kernel
theorem dX7_leastMissing_57 : decode cX7_leastMissing 57 = .ok (.getfield 39, 3) := by decide +kernel
theorem dX7_leastMissing_60 : decode cX7_leastMissing 60 = .ok (.iastore, 1) := by decide +kernel
theorem dX7_leastMissing_61 : decode cX7_leastMissing 61 = .ok (.iinc 4 1, 3) := by decide +kernel
theorem dX7_leastMissing_64 : decode cX7_leastMissing 64 = .ok (.goto (-51), 3) := by decide +kernel
theorem dX7_leastMissing_67 : decode cX7_leastMissing 67 = .ok (.iconst 0, 1) := by decide +kernel
theorem dX7_leastMissing_68 : decode cX7_leastMissing 68 = .ok (.istore 4, 2) := by decide +kernel
theorem dX7_leastMissing_70 : decode cX7_leastMissing 70 = .ok (.iload 4, 2) := by decide +kernel
theorem dX7_leastMissing_72 : decode cX7_leastMissing 72 = .ok (.aload_n 0, 1) := by decide +kernel
theorem dX7_leastMissing_73 : decode cX7_leastMissing 73 = .ok (.getfield 24, 3) := by decide +kernel
theorem dX7_leastMissing_76 : decode cX7_leastMissing 76 = .ok (.arraylength, 1) := by decide +kernel
theorem dX7_leastMissing_77 : decode cX7_leastMissing 77 = .ok (.if_icmp .ge 26, 3) := by decide +kernel
theorem dX7_leastMissing_80 : decode cX7_leastMissing 80 = .ok (.aload_n 0, 1) := by decide +kernel
theorem dX7_leastMissing_81 : decode cX7_leastMissing 81 = .ok (.getfield 24, 3) := by decide +kernel
theorem dX7_leastMissing_84 : decode cX7_leastMissing 84 = .ok (.iload 4, 2) := by decide +kernel
theorem dX7_leastMissing_86 : decode cX7_leastMissing 86 = .ok (.iaload, 1) := by decide +kernel
theorem dX7_leastMissing_87 : decode cX7_leastMissing 87 = .ok (.aload_n 0, 1) := by decide +kernel
theorem dX7_leastMissing_88 : decode cX7_leastMissing 88 = .ok (.getfield 39, 3) := by decide +kernel
theorem dX7_leastMissing_91 : decode cX7_leastMissing 91 = .ok (.if_icmp .eq 6, 3) := by decide +kernel
theorem dX7_leastMissing_94 : decode cX7_leastMissing 94 = .ok (.iload 4, 2) := by decide +kernel
theorem dX7_leastMissing_96 : decode cX7_leastMissing 96 = .ok (.ireturn, 1) := by decide +kernel
theorem dX7_leastMissing_97 : decode cX7_leastMissing 97 = .ok (.iinc 4 1, 3) := by decide +kernel
theorem dX7_leastMissing_100 : decode cX7_leastMissing 100 = .ok (.goto (-30), 3) := by decide +kernel
theorem dX7_leastMissing_103 : decode cX7_leastMissing 103 = .ok (.iconst 0, 1) := by decide +kernel
theorem dX7_leastMissing_104 : decode cX7_leastMissing 104 = .ok (.ireturn, 1) := by decide +kernel
theorem dX7_behind_0 : decode cX7_behind 0 = .ok (.iload_n 1, 1) := by decide +kernel
theorem dX7_behind_1 : decode cX7_behind 1 = .ok (.ifCond .lt 19, 3) := by decide +kernel
theorem dX7_behind_4 : decode cX7_behind 4 = .ok (.iload_n 1, 1) := by decide +kernel
theorem dX7_behind_5 : decode cX7_behind 5 = .ok (.aload_n 0, 1) := by decide +kernel
theorem dX7_behind_6 : decode cX7_behind 6 = .ok (.arraylength, 1) := by decide +kernel
theorem dX7_behind_7 : decode cX7_behind 7 = .ok (.if_icmp .ge 13, 3) := by decide +kernel
theorem dX7_behind_10 : decode cX7_behind 10 = .ok (.iload_n 2, 1) := by decide +kernel
theorem dX7_behind_11 : decode cX7_behind 11 = .ok (.ifCond .lt 9, 3) := by decide +kernel
theorem dX7_behind_14 : decode cX7_behind 14 = .ok (.iload_n 2, 1) := by decide +kernel
theorem dX7_behind_15 : decode cX7_behind 15 = .ok (.aload_n 0, 1) := by decide +kernel
theorem dX7_behind_16 : decode cX7_behind 16 = .ok (.arraylength, 1) := by decide +kernel
theorem dX7_behind_17 : decode cX7_behind 17 = .ok (.if_icmp .lt 5, 3) := by decide +kernel
theorem dX7_behind_20 : decode cX7_behind 20 = .ok (.iconst 0, 1) := by decide +kernel
theorem dX7_behind_21 : decode cX7_behind 21 = .ok (.ireturn, 1) := by decide +kernel
theorem dX7_behind_22 : decode cX7_behind 22 = .ok (.aload_n 0, 1) := by decide +kernel
theorem dX7_behind_23 : decode cX7_behind 23 = .ok (.iload_n 1, 1) := by decide +kernel
theorem dX7_behind_24 : decode cX7_behind 24 = .ok (.iaload, 1) := by decide +kernel
theorem dX7_behind_25 : decode cX7_behind 25 = .ok (.aload_n 0, 1) := by decide +kernel
theorem dX7_behind_26 : decode cX7_behind 26 = .ok (.iload_n 2, 1) := by decide +kernel
theorem dX7_behind_27 : decode cX7_behind 27 = .ok (.iaload, 1) := by decide +kernel
theorem dX7_behind_28 : decode cX7_behind 28 = .ok (.ixor, 1) := by decide +kernel
theorem dX7_behind_29 : decode cX7_behind 29 = .ok (.ireturn, 1) := by decide +kernel
theorem dX7_firstMaking_0 : decode cX7_firstMaking 0 = .ok (.aload_n 0, 1) := by decide +kernel
theorem dX7_firstMaking_1 : decode cX7_firstMaking 1 = .ok (.iload_n 2, 1) := by decide +kernel
theorem dX7_firstMaking_2 : decode cX7_firstMaking 2 = .ok (.invokevirtual 27, 3) := by decide +kernel
theorem dX7_firstMaking_5 : decode cX7_firstMaking 5 = .ok (.astore 4, 2) := by decide +kernel
theorem dX7_firstMaking_7 : decode cX7_firstMaking 7 = .ok (.iconst 0, 1) := by decide +kernel
theorem dX7_firstMaking_8 : decode cX7_firstMaking 8 = .ok (.istore 5, 2) := by decide +kernel
theorem dX7_firstMaking_10 : decode cX7_firstMaking 10 = .ok (.iload 5, 2) := by decide +kernel
theorem dX7_firstMaking_12 : decode cX7_firstMaking 12 = .ok (.iload_n 1, 1) := by decide +kernel
theorem dX7_firstMaking_13 : decode cX7_firstMaking 13 = .ok (.iload_n 2, 1) := by decide +kernel
theorem dX7_firstMaking_14 : decode cX7_firstMaking 14 = .ok (.isub, 1) := by decide +kernel
theorem dX7_firstMaking_15 : decode cX7_firstMaking 15 = .ok (.if_icmp .gt 29, 3) := by decide +kernel
theorem dX7_firstMaking_18 : decode cX7_firstMaking 18 = .ok (.aload 4, 2) := by decide +kernel
theorem dX7_firstMaking_20 : decode cX7_firstMaking 20 = .ok (.iload 5, 2) := by decide +kernel
theorem dX7_firstMaking_22 : decode cX7_firstMaking 22 = .ok (.iload_n 1, 1) := by decide +kernel
theorem dX7_firstMaking_23 : decode cX7_firstMaking 23 = .ok (.iload_n 2, 1) := by decide +kernel
theorem dX7_firstMaking_24 : decode cX7_firstMaking 24 = .ok (.isub, 1) := by decide +kernel
theorem dX7_firstMaking_25 : decode cX7_firstMaking 25 = .ok (.iload 5, 2) := by decide +kernel
theorem dX7_firstMaking_27 : decode cX7_firstMaking 27 = .ok (.isub, 1) := by decide +kernel
theorem dX7_firstMaking_28 : decode cX7_firstMaking 28 = .ok (.invokestatic 43, 3) := by decide +kernel
theorem dX7_firstMaking_31 : decode cX7_firstMaking 31 = .ok (.iload_n 3, 1) := by decide +kernel
theorem dX7_firstMaking_32 : decode cX7_firstMaking 32 = .ok (.if_icmp .ne 6, 3) := by decide +kernel
theorem dX7_firstMaking_35 : decode cX7_firstMaking 35 = .ok (.iload 5, 2) := by decide +kernel
theorem dX7_firstMaking_37 : decode cX7_firstMaking 37 = .ok (.ireturn, 1) := by decide +kernel
theorem dX7_firstMaking_38 : decode cX7_firstMaking 38 = .ok (.iinc 5 1, 3) := by decide +kernel
theorem dX7_firstMaking_41 : decode cX7_firstMaking 41 = .ok (.goto (-31), 3) := by decide +kernel
theorem dX7_firstMaking_44 : decode cX7_firstMaking 44 = .ok (.bipush (-2), 2) := by decide +kernel
theorem dX7_firstMaking_46 : decode cX7_firstMaking 46 = .ok (.ireturn, 1) := by decide +kernel
theorem dX7_periodOf_0 : decode cX7_periodOf 0 = .ok (.iconst 1, 1) := by decide +kernel
theorem dX7_periodOf_1 : decode cX7_periodOf 1 = .ok (.istore_n 2, 1) := by decide +kernel
theorem dX7_periodOf_2 : decode cX7_periodOf 2 = .ok (.iload_n 2, 1) := by decide +kernel
theorem dX7_periodOf_3 : decode cX7_periodOf 3 = .ok (.bipush 60, 2) := by decide +kernel
theorem dX7_periodOf_5 : decode cX7_periodOf 5 = .ok (.if_icmp .gt 22, 3) := by decide +kernel
theorem dX7_periodOf_8 : decode cX7_periodOf 8 = .ok (.aload_n 0, 1) := by decide +kernel
theorem dX7_periodOf_9 : decode cX7_periodOf 9 = .ok (.iload_n 1, 1) := by decide +kernel
theorem dX7_periodOf_10 : decode cX7_periodOf 10 = .ok (.iload_n 2, 1) := by decide +kernel
theorem dX7_periodOf_11 : decode cX7_periodOf 11 = .ok (.invokevirtual 46, 3) := by decide +kernel
theorem dX7_periodOf_14 : decode cX7_periodOf 14 = .ok (.bipush 100, 2) := by decide +kernel
theorem dX7_periodOf_16 : decode cX7_periodOf 16 = .ok (.if_icmp .gt 5, 3) := by decide +kernel
theorem dX7_periodOf_19 : decode cX7_periodOf 19 = .ok (.iload_n 2, 1) := by decide +kernel
theorem dX7_periodOf_20 : decode cX7_periodOf 20 = .ok (.ireturn, 1) := by decide +kernel
theorem dX7_periodOf_21 : decode cX7_periodOf 21 = .ok (.iinc 2 1, 3) := by decide +kernel
theorem dX7_periodOf_24 : decode cX7_periodOf 24 = .ok (.goto (-22), 3) := by decide +kernel
theorem dX7_periodOf_27 : decode cX7_periodOf 27 = .ok (.iconst (-1), 1) := by decide +kernel
theorem dX7_periodOf_28 : decode cX7_periodOf 28 = .ok (.ireturn, 1) := by decide +kernel
theorem dX7_startOf_0 : decode cX7_startOf 0 = .ok (.aload_n 0, 1) := by decide +kernel
theorem dX7_startOf_1 : decode cX7_startOf 1 = .ok (.iload_n 1, 1) := by decide +kernel
theorem dX7_startOf_2 : decode cX7_startOf 2 = .ok (.invokevirtual 27, 3) := by decide +kernel
theorem dX7_startOf_5 : decode cX7_startOf 5 = .ok (.astore_n 3, 1) := by decide +kernel
theorem dX7_startOf_6 : decode cX7_startOf 6 = .ok (.iconst 0, 1) := by decide +kernel
theorem dX7_startOf_7 : decode cX7_startOf 7 = .ok (.istore 4, 2) := by decide +kernel
theorem dX7_startOf_9 : decode cX7_startOf 9 = .ok (.iconst 0, 1) := by decide +kernel
theorem dX7_startOf_10 : decode cX7_startOf 10 = .ok (.istore 5, 2) := by decide +kernel
theorem dX7_startOf_12 : decode cX7_startOf 12 = .ok (.iload 5, 2) := by decide +kernel
theorem dX7_startOf_14 : decode cX7_startOf 14 = .ok (.iload_n 2, 1) := by decide +kernel
theorem dX7_startOf_15 : decode cX7_startOf 15 = .ok (.iadd, 1) := by decide +kernel
theorem dX7_startOf_16 : decode cX7_startOf 16 = .ok (.aload_n 3, 1) := by decide +kernel
theorem dX7_startOf_17 : decode cX7_startOf 17 = .ok (.arraylength, 1) := by decide +kernel
theorem dX7_startOf_18 : decode cX7_startOf 18 = .ok (.if_icmp .ge 28, 3) := by decide +kernel
theorem dX7_startOf_21 : decode cX7_startOf 21 = .ok (.aload_n 3, 1) := by decide +kernel
theorem dX7_startOf_22 : decode cX7_startOf 22 = .ok (.iload 5, 2) := by decide +kernel
theorem dX7_startOf_24 : decode cX7_startOf 24 = .ok (.iload 5, 2) := by decide +kernel
theorem dX7_startOf_26 : decode cX7_startOf 26 = .ok (.iload_n 2, 1) := by decide +kernel
theorem dX7_startOf_27 : decode cX7_startOf 27 = .ok (.iadd, 1) := by decide +kernel
theorem dX7_startOf_28 : decode cX7_startOf 28 = .ok (.invokestatic 43, 3) := by decide +kernel
theorem dX7_startOf_31 : decode cX7_startOf 31 = .ok (.ifCond .eq 9, 3) := by decide +kernel
theorem dX7_startOf_34 : decode cX7_startOf 34 = .ok (.iload 5, 2) := by decide +kernel
theorem dX7_startOf_36 : decode cX7_startOf 36 = .ok (.iconst 1, 1) := by decide +kernel
theorem dX7_startOf_37 : decode cX7_startOf 37 = .ok (.iadd, 1) := by decide +kernel
theorem dX7_startOf_38 : decode cX7_startOf 38 = .ok (.istore 4, 2) := by decide +kernel
theorem dX7_startOf_40 : decode cX7_startOf 40 = .ok (.iinc 5 1, 3) := by decide +kernel
theorem dX7_startOf_43 : decode cX7_startOf 43 = .ok (.goto (-31), 3) := by decide +kernel
theorem dX7_startOf_46 : decode cX7_startOf 46 = .ok (.iload 4, 2) := by decide +kernel
theorem dX7_startOf_48 : decode cX7_startOf 48 = .ok (.ireturn, 1) := by decide +kernel
theorem dX8_init_0 : decode cX8_init 0 = .ok (.aload_n 0, 1) := by decide +kernel
theorem dX8_init_1 : decode cX8_init 1 = .ok (.invokespecial 1, 3) := by decide +kernel
theorem dX8_init_4 : decode cX8_init 4 = .ok (.aload_n 0, 1) := by decide +kernel
theorem dX8_init_5 : decode cX8_init 5 = .ok (.new 7, 3) := by decide +kernel
theorem dX8_init_8 : decode cX8_init 8 = .ok (.dup, 1) := by decide +kernel
theorem dX8_init_9 : decode cX8_init 9 = .ok (.invokespecial 9, 3) := by decide +kernel
theorem dX8_init_12 : decode cX8_init 12 = .ok (.putfield 10, 3) := by decide +kernel
theorem dX8_init_15 : decode cX8_init 15 = .ok (.aload_n 0, 1) := by decide +kernel
theorem dX8_init_16 : decode cX8_init 16 = .ok (.new 7, 3) := by decide +kernel
theorem dX8_init_19 : decode cX8_init 19 = .ok (.dup, 1) := by decide +kernel
theorem dX8_init_20 : decode cX8_init 20 = .ok (.invokespecial 9, 3) := by decide +kernel
theorem dX8_init_23 : decode cX8_init 23 = .ok (.putfield 16, 3) := by decide +kernel
theorem dX8_init_26 : decode cX8_init 26 = .ok (.aload_n 0, 1) := by decide +kernel
theorem dX8_init_27 : decode cX8_init 27 = .ok (.iconst 0, 1) := by decide +kernel
theorem dX8_init_28 : decode cX8_init 28 = .ok (.anewarray 19, 3) := by decide +kernel
theorem dX8_init_31 : decode cX8_init 31 = .ok (.putfield 21, 3) := by decide +kernel
theorem dX8_init_34 : decode cX8_init 34 = .ok (.return_, 1) := by decide +kernel
theorem dX8_addBoard_0 : decode cX8_addBoard 0 = .ok (.aload_n 0, 1) := by decide +kernel
theorem dX8_addBoard_1 : decode cX8_addBoard 1 = .ok (.getfield 10, 3) := by decide +kernel
theorem dX8_addBoard_4 : decode cX8_addBoard 4 = .ok (.new 25, 3) := by decide +kernel
theorem dX8_addBoard_7 : decode cX8_addBoard 7 = .ok (.dup, 1) := by decide +kernel
theorem dX8_addBoard_8 : decode cX8_addBoard 8 = .ok (.aload_n 0, 1) := by decide +kernel
theorem dX8_addBoard_9 : decode cX8_addBoard 9 = .ok (.getfield 10, 3) := by decide +kernel
theorem dX8_addBoard_12 : decode cX8_addBoard 12 = .ok (.invokevirtual 27, 3) := by decide +kernel
theorem dX8_addBoard_15 : decode cX8_addBoard 15 = .ok (.lload_n 1, 1) := by decide +kernel
theorem dX8_addBoard_16 : decode cX8_addBoard 16 = .ok (.iload_n 3, 1) := by decide +kernel
theorem dX8_addBoard_17 : decode cX8_addBoard 17 = .ok (.iload 4, 2) := by decide +kernel
theorem dX8_addBoard_19 : decode cX8_addBoard 19 = .ok (.aload_n 0, 1) := by decide +kernel
theorem dX8_addBoard_20 : decode cX8_addBoard 20 = .ok (.getfield 31, 3) := by decide +kernel
theorem dX8_addBoard_23 : decode cX8_addBoard 23 = .ok (.invokespecial 35, 3) := by decide +kernel
theorem dX8_addBoard_26 : decode cX8_addBoard 26 = .ok (.invokevirtual 38, 3) := by decide +kernel
theorem dX8_addBoard_29 : decode cX8_addBoard 29 = .ok (.pop, 1) := by decide +kernel
theorem dX8_addBoard_30 : decode cX8_addBoard 30 = .ok (.aload_n 0, 1) := by decide +kernel
theorem dX8_addBoard_31 : decode cX8_addBoard 31 = .ok (.dup, 1) := by decide +kernel
theorem dX8_addBoard_32 : decode cX8_addBoard 32 = .ok (.getfield 31, 3) := by decide +kernel
theorem dX8_addBoard_35 : decode cX8_addBoard 35 = .ok (.iload_n 3, 1) := by decide +kernel
theorem dX8_addBoard_36 : decode cX8_addBoard 36 = .ok (.iload 4, 2) := by decide +kernel
theorem dX8_addBoard_38 : decode cX8_addBoard 38 = .ok (.imul, 1) := by decide +kernel
theorem dX8_addBoard_39 : decode cX8_addBoard 39 = .ok (.iadd, 1) := by decide +kernel
theorem dX8_addBoard_40 : decode cX8_addBoard 40 = .ok (.putfield 31, 3) := by decide +kernel
theorem dX8_addBoard_43 : decode cX8_addBoard 43 = .ok (.return_, 1) := by decide +kernel
theorem dX8_boardAt_0 : decode cX8_boardAt 0 = .ok (.iload_n 1, 1) := by decide +kernel
theorem dX8_boardAt_1 : decode cX8_boardAt 1 = .ok (.ifCond .lt 28, 3) := by decide +kernel
theorem dX8_boardAt_4 : decode cX8_boardAt 4 = .ok (.iload_n 1, 1) := by decide +kernel
theorem dX8_boardAt_5 : decode cX8_boardAt 5 = .ok (.aload_n 0, 1) := by decide +kernel
theorem dX8_boardAt_6 : decode cX8_boardAt 6 = .ok (.getfield 10, 3) := by decide +kernel
theorem dX8_boardAt_9 : decode cX8_boardAt 9 = .ok (.invokevirtual 27, 3) := by decide +kernel
theorem dX8_boardAt_12 : decode cX8_boardAt 12 = .ok (.if_icmp .ge 17, 3) := by decide +kernel
theorem dX8_boardAt_15 : decode cX8_boardAt 15 = .ok (.aload_n 0, 1) := by decide +kernel
theorem dX8_boardAt_16 : decode cX8_boardAt 16 = .ok (.getfield 10, 3) := by decide +kernel
theorem dX8_boardAt_19 : decode cX8_boardAt 19 = .ok (.iload_n 1, 1) := by decide +kernel
theorem dX8_boardAt_20 : decode cX8_boardAt 20 = .ok (.invokevirtual 42, 3) := by decide +kernel
theorem dX8_boardAt_23 : decode cX8_boardAt 23 = .ok (.checkcast 25, 3) := by decide +kernel
theorem dX8_boardAt_26 : decode cX8_boardAt 26 = .ok (.goto 4, 3) := by decide +kernel
theorem dX8_boardAt_29 : decode cX8_boardAt 29 = .ok (.aconst_null, 1) := by decide +kernel
theorem dX8_boardAt_30 : decode cX8_boardAt 30 = .ok (.areturn, 1) := by decide +kernel
theorem dX8_pieceAt_0 : decode cX8_pieceAt 0 = .ok (.iload_n 1, 1) := by decide +kernel
theorem dX8_pieceAt_1 : decode cX8_pieceAt 1 = .ok (.ifCond .lt 28, 3) := by decide +kernel
theorem dX8_pieceAt_4 : decode cX8_pieceAt 4 = .ok (.iload_n 1, 1) := by decide +kernel
theorem dX8_pieceAt_5 : decode cX8_pieceAt 5 = .ok (.aload_n 0, 1) := by decide +kernel
theorem dX8_pieceAt_6 : decode cX8_pieceAt 6 = .ok (.getfield 16, 3) := by decide +kernel
theorem dX8_pieceAt_9 : decode cX8_pieceAt 9 = .ok (.invokevirtual 27, 3) := by decide +kernel
theorem dX8_pieceAt_12 : decode cX8_pieceAt 12 = .ok (.if_icmp .ge 17, 3) := by decide +kernel
theorem dX8_pieceAt_15 : decode cX8_pieceAt 15 = .ok (.aload_n 0, 1) := by decide +kernel
theorem dX8_pieceAt_16 : decode cX8_pieceAt 16 = .ok (.getfield 16, 3) := by decide +kernel
theorem dX8_pieceAt_19 : decode cX8_pieceAt 19 = .ok (.iload_n 1, 1) := by decide +kernel
theorem dX8_pieceAt_20 : decode cX8_pieceAt 20 = .ok (.invokevirtual 42, 3) := by decide +kernel
theorem dX8_pieceAt_23 : decode cX8_pieceAt 23 = .ok (.checkcast 46, 3) := by decide +kernel
theorem dX8_pieceAt_26 : decode cX8_pieceAt 26 = .ok (.goto 4, 3) := by decide +kernel
theorem dX8_pieceAt_29 : decode cX8_pieceAt 29 = .ok (.aconst_null, 1) := by decide +kernel
theorem dX8_pieceAt_30 : decode cX8_pieceAt 30 = .ok (.areturn, 1) := by decide +kernel
theorem dX8_boardNamed_0 : decode cX8_boardNamed 0 = .ok (.iconst 0, 1) := by decide +kernel
theorem dX8_boardNamed_1 : decode cX8_boardNamed 1 = .ok (.istore_n 3, 1) := by decide +kernel
theorem dX8_boardNamed_2 : decode cX8_boardNamed 2 = .ok (.iload_n 3, 1) := by decide +kernel
theorem dX8_boardNamed_3 : decode cX8_boardNamed 3 = .ok (.aload_n 0, 1) := by decide +kernel
theorem dX8_boardNamed_4 : decode cX8_boardNamed 4 = .ok (.getfield 10, 3) := by decide +kernel
theorem dX8_boardNamed_7 : decode cX8_boardNamed 7 = .ok (.invokevirtual 27, 3) := by decide +kernel
theorem dX8_boardNamed_10 : decode cX8_boardNamed 10 = .ok (.if_icmp .ge 40, 3) := by decide +kernel
theorem dX8_boardNamed_13 : decode cX8_boardNamed 13 = .ok (.aload_n 0, 1) := by decide +kernel
theorem dX8_boardNamed_14 : decode cX8_boardNamed 14 = .ok (.getfield 10, 3) := by decide +kernel
theorem dX8_boardNamed_17 : decode cX8_boardNamed 17 = .ok (.iload_n 3, 1) := by decide +kernel
theorem dX8_boardNamed_18 : decode cX8_boardNamed 18 = .ok (.invokevirtual 42, 3) := by decide +kernel
theorem dX8_boardNamed_21 : decode cX8_boardNamed 21 = .ok (.checkcast 25, 3) := by decide +kernel
theorem dX8_boardNamed_24 : decode cX8_boardNamed 24 = .ok (.getfield 48, 3) := by decide +kernel
theorem dX8_boardNamed_27 : decode cX8_boardNamed 27 = .ok (.lload_n 1, 1) := by decide +kernel
theorem dX8_boardNamed_28 : decode cX8_boardNamed 28 = .ok (.lcmp, 1) := by decide +kernel
theorem dX8_boardNamed_29 : decode cX8_boardNamed 29 = .ok (.ifCond .ne 15, 3) := by decide +kernel
theorem dX8_boardNamed_32 : decode cX8_boardNamed 32 = .ok (.aload_n 0, 1) := by decide +kernel
theorem dX8_boardNamed_33 : decode cX8_boardNamed 33 = .ok (.getfield 10, 3) := by decide +kernel
theorem dX8_boardNamed_36 : decode cX8_boardNamed 36 = .ok (.iload_n 3, 1) := by decide +kernel
theorem dX8_boardNamed_37 : decode cX8_boardNamed 37 = .ok (.invokevirtual 42, 3) := by decide +kernel
theorem dX8_boardNamed_40 : decode cX8_boardNamed 40 = .ok (.checkcast 25, 3) := by decide +kernel
theorem dX8_boardNamed_43 : decode cX8_boardNamed 43 = .ok (.areturn, 1) := by decide +kernel
theorem dX8_boardNamed_44 : decode cX8_boardNamed 44 = .ok (.iinc 3 1, 3) := by decide +kernel
theorem dX8_boardNamed_47 : decode cX8_boardNamed 47 = .ok (.goto (-45), 3) := by decide +kernel
theorem dX8_boardNamed_50 : decode cX8_boardNamed 50 = .ok (.aconst_null, 1) := by decide +kernel
theorem dX8_boardNamed_51 : decode cX8_boardNamed 51 = .ok (.areturn, 1) := by decide +kernel
theorem dX8_isNameTold_0 : decode cX8_isNameTold 0 = .ok (.iconst 0, 1) := by decide +kernel
theorem dX8_isNameTold_1 : decode cX8_isNameTold 1 = .ok (.istore_n 3, 1) := by decide +kernel
theorem dX8_isNameTold_2 : decode cX8_isNameTold 2 = .ok (.iload_n 3, 1) := by decide +kernel
theorem dX8_isNameTold_3 : decode cX8_isNameTold 3 = .ok (.aload_n 0, 1) := by decide +kernel
theorem dX8_isNameTold_4 : decode cX8_isNameTold 4 = .ok (.getfield 16, 3) := by decide +kernel
theorem dX8_isNameTold_7 : decode cX8_isNameTold 7 = .ok (.invokevirtual 27, 3) := by decide +kernel
theorem dX8_isNameTold_10 : decode cX8_isNameTold 10 = .ok (.if_icmp .ge 30, 3) := by decide +kernel
theorem dX8_isNameTold_13 : decode cX8_isNameTold 13 = .ok (.aload_n 0, 1) := by decide +kernel
theorem dX8_isNameTold_14 : decode cX8_isNameTold 14 = .ok (.getfield 16, 3) := by decide +kernel
theorem dX8_isNameTold_17 : decode cX8_isNameTold 17 = .ok (.iload_n 3, 1) := by decide +kernel
theorem dX8_isNameTold_18 : decode cX8_isNameTold 18 = .ok (.invokevirtual 42, 3) := by decide +kernel
theorem dX8_isNameTold_21 : decode cX8_isNameTold 21 = .ok (.checkcast 46, 3) := by decide +kernel
theorem dX8_isNameTold_24 : decode cX8_isNameTold 24 = .ok (.getfield 52, 3) := by decide +kernel
theorem dX8_isNameTold_27 : decode cX8_isNameTold 27 = .ok (.lload_n 1, 1) := by decide +kernel
theorem dX8_isNameTold_28 : decode cX8_isNameTold 28 = .ok (.lcmp, 1) := by decide +kernel
theorem dX8_isNameTold_29 : decode cX8_isNameTold 29 = .ok (.ifCond .ne 5, 3) := by decide +kernel
theorem dX8_isNameTold_32 : decode cX8_isNameTold 32 = .ok (.iconst 1, 1) := by decide +kernel
theorem dX8_isNameTold_33 : decode cX8_isNameTold 33 = .ok (.ireturn, 1) := by decide +kernel
theorem dX8_isNameTold_34 : decode cX8_isNameTold 34 = .ok (.iinc 3 1, 3) := by decide +kernel
theorem dX8_isNameTold_37 : decode cX8_isNameTold 37 = .ok (.goto (-35), 3) := by decide +kernel
theorem dX8_isNameTold_40 : decode cX8_isNameTold 40 = .ok (.aload_n 0, 1) := by decide +kernel
theorem dX8_isNameTold_41 : decode cX8_isNameTold 41 = .ok (.lload_n 1, 1) := by decide +kernel
theorem dX8_isNameTold_42 : decode cX8_isNameTold 42 = .ok (.invokevirtual 53, 3) := by decide +kernel
theorem dX8_isNameTold_45 : decode cX8_isNameTold 45 = .ok (.ifnull 7, 3) := by decide +kernel
theorem dX8_isNameTold_48 : decode cX8_isNameTold 48 = .ok (.iconst 1, 1) := by decide +kernel
theorem dX8_isNameTold_49 : decode cX8_isNameTold 49 = .ok (.goto 4, 3) := by decide +kernel
theorem dX8_isNameTold_52 : decode cX8_isNameTold 52 = .ok (.iconst 0, 1) := by decide +kernel
theorem dX8_isNameTold_53 : decode cX8_isNameTold 53 = .ok (.ireturn, 1) := by decide +kernel
theorem dX8_makeLays_0 : decode cX8_makeLays 0 = .ok (.aload_n 0, 1) := by decide +kernel
theorem dX8_makeLays_1 : decode cX8_makeLays 1 = .ok (.getfield 57, 3) := by decide +kernel
theorem dX8_makeLays_4 : decode cX8_makeLays 4 = .ok (.ifCond .eq 4, 3) := by decide +kernel
theorem dX8_makeLays_7 : decode cX8_makeLays 7 = .ok (.return_, 1) := by decide +kernel
theorem dX8_makeLays_8 : decode cX8_makeLays 8 = .ok (.aload_n 0, 1) := by decide +kernel
theorem dX8_makeLays_9 : decode cX8_makeLays 9 = .ok (.iconst 1, 1) := by decide +kernel
theorem dX8_makeLays_10 : decode cX8_makeLays 10 = .ok (.putfield 57, 3) := by decide +kernel
theorem dX8_makeLays_13 : decode cX8_makeLays 13 = .ok (.new 7, 3) := by decide +kernel
theorem dX8_makeLays_16 : decode cX8_makeLays 16 = .ok (.dup, 1) := by decide +kernel
theorem dX8_makeLays_17 : decode cX8_makeLays 17 = .ok (.invokespecial 9, 3) := by decide +kernel
theorem dX8_makeLays_20 : decode cX8_makeLays 20 = .ok (.astore_n 1, 1) := by decide +kernel
theorem dX8_makeLays_21 : decode cX8_makeLays 21 = .ok (.iconst 0, 1) := by decide +kernel
theorem dX8_makeLays_22 : decode cX8_makeLays 22 = .ok (.istore_n 2, 1) := by decide +kernel
theorem dX8_makeLays_23 : decode cX8_makeLays 23 = .ok (.iload_n 2, 1) := by decide +kernel
theorem dX8_makeLays_24 : decode cX8_makeLays 24 = .ok (.aload_n 0, 1) := by decide +kernel
theorem dX8_makeLays_25 : decode cX8_makeLays 25 = .ok (.getfield 16, 3) := by decide +kernel
theorem dX8_makeLays_28 : decode cX8_makeLays 28 = .ok (.invokevirtual 27, 3) := by decide +kernel
theorem dX8_makeLays_31 : decode cX8_makeLays 31 = .ok (.if_icmp .ge 55, 3) := by decide +kernel
theorem dX8_makeLays_34 : decode cX8_makeLays 34 = .ok (.iconst 0, 1) := by decide +kernel
theorem dX8_makeLays_35 : decode cX8_makeLays 35 = .ok (.istore_n 3, 1) := by decide +kernel
theorem dX8_makeLays_36 : decode cX8_makeLays 36 = .ok (.iload_n 3, 1) := by decide +kernel
theorem dX8_makeLays_37 : decode cX8_makeLays 37 = .ok (.aload_n 0, 1) := by decide +kernel
theorem dX8_makeLays_38 : decode cX8_makeLays 38 = .ok (.getfield 10, 3) := by decide +kernel
theorem dX8_makeLays_41 : decode cX8_makeLays 41 = .ok (.invokevirtual 27, 3) := by decide +kernel
theorem dX8_makeLays_44 : decode cX8_makeLays 44 = .ok (.if_icmp .ge 36, 3) := by decide +kernel
theorem dX8_makeLays_47 : decode cX8_makeLays 47 = .ok (.aload_n 0, 1) := by decide +kernel
theorem dX8_makeLays_48 : decode cX8_makeLays 48 = .ok (.aload_n 1, 1) := by decide +kernel
theorem dX8_makeLays_49 : decode cX8_makeLays 49 = .ok (.aload_n 0, 1) := by decide +kernel
theorem dX8_makeLays_50 : decode cX8_makeLays 50 = .ok (.getfield 16, 3) := by decide +kernel
theorem dX8_makeLays_53 : decode cX8_makeLays 53 = .ok (.iload_n 2, 1) := by decide +kernel
theorem dX8_makeLays_54 : decode cX8_makeLays 54 = .ok (.invokevirtual 42, 3) := by decide +kernel
theorem dX8_makeLays_57 : decode cX8_makeLays 57 = .ok (.checkcast 46, 3) := by decide +kernel
theorem dX8_makeLays_60 : decode cX8_makeLays 60 = .ok (.aload_n 0, 1) := by decide +kernel
theorem dX8_makeLays_61 : decode cX8_makeLays 61 = .ok (.getfield 10, 3) := by decide +kernel
theorem dX8_makeLays_64 : decode cX8_makeLays 64 = .ok (.iload_n 3, 1) := by decide +kernel
theorem dX8_makeLays_65 : decode cX8_makeLays 65 = .ok (.invokevirtual 42, 3) := by decide +kernel
theorem dX8_makeLays_68 : decode cX8_makeLays 68 = .ok (.checkcast 25, 3) := by decide +kernel
theorem dX8_makeLays_71 : decode cX8_makeLays 71 = .ok (.invokevirtual 61, 3) := by decide +kernel
theorem dX8_makeLays_74 : decode cX8_makeLays 74 = .ok (.iinc 3 1, 3) := by decide +kernel
theorem dX8_makeLays_77 : decode cX8_makeLays 77 = .ok (.goto (-41), 3) := by decide +kernel
theorem dX8_makeLays_80 : decode cX8_makeLays 80 = .ok (.iinc 2 1, 3) := by decide +kernel
theorem dX8_makeLays_83 : decode cX8_makeLays 83 = .ok (.goto (-60), 3) := by decide +kernel
theorem dX8_makeLays_86 : decode cX8_makeLays 86 = .ok (.aload_n 0, 1) := by decide +kernel
theorem dX8_makeLays_87 : decode cX8_makeLays 87 = .ok (.aload_n 1, 1) := by decide +kernel
theorem dX8_makeLays_88 : decode cX8_makeLays 88 = .ok (.invokevirtual 27, 3) := by decide +kernel
theorem dX8_makeLays_91 : decode cX8_makeLays 91 = .ok (.anewarray 19, 3) := by decide +kernel
theorem dX8_makeLays_94 : decode cX8_makeLays 94 = .ok (.putfield 21, 3) := by decide +kernel
theorem dX8_makeLays_97 : decode cX8_makeLays 97 = .ok (.iconst 0, 1) := by decide +kernel
theorem dX8_makeLays_98 : decode cX8_makeLays 98 = .ok (.istore_n 2, 1) := by decide +kernel
theorem dX8_makeLays_99 : decode cX8_makeLays 99 = .ok (.iload_n 2, 1) := by decide +kernel
theorem dX8_makeLays_100 : decode cX8_makeLays 100 = .ok (.aload_n 0, 1) := by decide +kernel
theorem dX8_makeLays_101 : decode cX8_makeLays 101 = .ok (.getfield 21, 3) := by decide +kernel
theorem dX8_makeLays_104 : decode cX8_makeLays 104 = .ok (.arraylength, 1) := by decide +kernel
theorem dX8_makeLays_105 : decode cX8_makeLays 105 = .ok (.if_icmp .ge 31, 3) := by decide +kernel
theorem dX8_makeLays_108 : decode cX8_makeLays 108 = .ok (.iload_n 2, 1) := by decide +kernel
theorem dX8_makeLays_109 : decode cX8_makeLays 109 = .ok (.aload_n 1, 1) := by decide +kernel
theorem dX8_makeLays_110 : decode cX8_makeLays 110 = .ok (.invokevirtual 27, 3) := by decide +kernel
theorem dX8_makeLays_113 : decode cX8_makeLays 113 = .ok (.if_icmp .ge 23, 3) := by decide +kernel
theorem dX8_makeLays_116 : decode cX8_makeLays 116 = .ok (.aload_n 0, 1) := by decide +kernel
theorem dX8_makeLays_117 : decode cX8_makeLays 117 = .ok (.getfield 21, 3) := by decide +kernel
theorem dX8_makeLays_120 : decode cX8_makeLays 120 = .ok (.iload_n 2, 1) := by decide +kernel
theorem dX8_makeLays_121 : decode cX8_makeLays 121 = .ok (.aload_n 1, 1) := by decide +kernel
theorem dX8_makeLays_122 : decode cX8_makeLays 122 = .ok (.iload_n 2, 1) := by decide +kernel
theorem dX8_makeLays_123 : decode cX8_makeLays 123 = .ok (.invokevirtual 42, 3) := by decide +kernel
theorem dX8_makeLays_126 : decode cX8_makeLays 126 = .ok (.checkcast 19, 3) := by decide +kernel
theorem dX8_makeLays_129 : decode cX8_makeLays 129 = .ok (.aastore, 1) := by decide +kernel
theorem dX8_makeLays_130 : decode cX8_makeLays 130 = .ok (.iinc 2 1, 3) := by decide +kernel
theorem dX8_makeLays_133 : decode cX8_makeLays 133 = .ok (.goto (-34), 3) := by decide +kernel
theorem dX8_makeLays_136 : decode cX8_makeLays 136 = .ok (.aload_n 0, 1) := by decide +kernel
theorem dX8_makeLays_137 : decode cX8_makeLays 137 = .ok (.getfield 21, 3) := by decide +kernel
theorem dX8_makeLays_140 : decode cX8_makeLays 140 = .ok (.astore_n 2, 1) := by decide +kernel
theorem dX8_makeLays_141 : decode cX8_makeLays 141 = .ok (.aload_n 2, 1) := by decide +kernel
theorem dX8_makeLays_142 : decode cX8_makeLays 142 = .ok (.arraylength, 1) := by decide +kernel
theorem dX8_makeLays_143 : decode cX8_makeLays 143 = .ok (.istore_n 3, 1) := by decide +kernel
theorem dX8_makeLays_144 : decode cX8_makeLays 144 = .ok (.iconst 0, 1) := by decide +kernel
theorem dX8_makeLays_145 : decode cX8_makeLays 145 = .ok (.istore 4, 2) := by decide +kernel
theorem dX8_makeLays_147 : decode cX8_makeLays 147 = .ok (.iload 4, 2) := by decide +kernel
theorem dX8_makeLays_149 : decode cX8_makeLays 149 = .ok (.iload_n 3, 1) := by decide +kernel
theorem dX8_makeLays_150 : decode cX8_makeLays 150 = .ok (.if_icmp .ge 26, 3) := by decide +kernel
theorem dX8_makeLays_153 : decode cX8_makeLays 153 = .ok (.aload_n 2, 1) := by decide +kernel
theorem dX8_makeLays_154 : decode cX8_makeLays 154 = .ok (.iload 4, 2) := by decide +kernel
theorem dX8_makeLays_156 : decode cX8_makeLays 156 = .ok (.aaload, 1) := by decide +kernel
theorem dX8_makeLays_157 : decode cX8_makeLays 157 = .ok (.astore 5, 2) := by decide +kernel
theorem dX8_makeLays_159 : decode cX8_makeLays 159 = .ok (.aload 5, 2) := by decide +kernel
theorem dX8_makeLays_161 : decode cX8_makeLays 161 = .ok (.aload_n 0, 1) := by decide +kernel
theorem dX8_makeLays_162 : decode cX8_makeLays 162 = .ok (.aload 5, 2) := by decide +kernel
theorem dX8_makeLays_164 : decode cX8_makeLays 164 = .ok (.invokevirtual 65, 3) := by decide +kernel
theorem dX8_makeLays_167 : decode cX8_makeLays 167 = .ok (.putfield 69, 3) := by decide +kernel
theorem dX8_makeLays_170 : decode cX8_makeLays 170 = .ok (.iinc 4 1, 3) := by decide +kernel
theorem dX8_makeLays_173 : decode cX8_makeLays 173 = .ok (.goto (-26), 3) := by decide +kernel
theorem dX8_makeLays_176 : decode cX8_makeLays 176 = .ok (.return_, 1) := by decide +kernel
theorem dX8_addLays_0 : decode cX8_addLays 0 = .ok (.iconst 0, 1) := by decide +kernel
theorem dX8_addLays_1 : decode cX8_addLays 1 = .ok (.istore 4, 2) := by decide +kernel
theorem dX8_addLays_3 : decode cX8_addLays 3 = .ok (.iload 4, 2) := by decide +kernel
theorem dX8_addLays_5 : decode cX8_addLays 5 = .ok (.aload_n 3, 1) := by decide +kernel
theorem dX8_addLays_6 : decode cX8_addLays 6 = .ok (.getfield 73, 3) := by decide +kernel
theorem dX8_addLays_9 : decode cX8_addLays 9 = .ok (.if_icmp .ge 123, 3) := by decide +kernel
theorem dX8_addLays_12 : decode cX8_addLays 12 = .ok (.iconst 0, 1) := by decide +kernel
theorem dX8_addLays_13 : decode cX8_addLays 13 = .ok (.istore 5, 2) := by decide +kernel
theorem dX8_addLays_15 : decode cX8_addLays 15 = .ok (.iload 5, 2) := by decide +kernel
theorem dX8_addLays_17 : decode cX8_addLays 17 = .ok (.aload_n 3, 1) := by decide +kernel
theorem dX8_addLays_18 : decode cX8_addLays 18 = .ok (.getfield 76, 3) := by decide +kernel
theorem dX8_addLays_21 : decode cX8_addLays 21 = .ok (.if_icmp .ge 105, 3) := by decide +kernel
theorem dX8_addLays_24 : decode cX8_addLays 24 = .ok (.iconst 0, 1) := by decide +kernel
theorem dX8_addLays_25 : decode cX8_addLays 25 = .ok (.istore 6, 2) := by decide +kernel
theorem dX8_addLays_27 : decode cX8_addLays 27 = .ok (.iload 6, 2) := by decide +kernel
theorem dX8_addLays_29 : decode cX8_addLays 29 = .ok (.iconst 4, 1) := by decide +kernel
theorem dX8_addLays_30 : decode cX8_addLays 30 = .ok (.if_icmp .ge 90, 3) := by decide +kernel
theorem dX8_addLays_33 : decode cX8_addLays 33 = .ok (.aload_n 2, 1) := by decide +kernel
theorem dX8_addLays_34 : decode cX8_addLays 34 = .ok (.aload_n 3, 1) := by decide +kernel
theorem dX8_addLays_35 : decode cX8_addLays 35 = .ok (.iload 5, 2) := by decide +kernel
theorem dX8_addLays_37 : decode cX8_addLays 37 = .ok (.iload 4, 2) := by decide +kernel
theorem dX8_addLays_39 : decode cX8_addLays 39 = .ok (.iload 6, 2) := by decide +kernel
theorem dX8_addLays_41 : decode cX8_addLays 41 = .ok (.invokevirtual 79, 3) := by decide +kernel
theorem dX8_addLays_44 : decode cX8_addLays 44 = .ok (.istore 7, 2) := by decide +kernel
theorem dX8_addLays_46 : decode cX8_addLays 46 = .ok (.iload 7, 2) := by decide +kernel
theorem dX8_addLays_48 : decode cX8_addLays 48 = .ok (.ifCond .eq 66, 3) := by decide +kernel
theorem dX8_addLays_51 : decode cX8_addLays 51 = .ok (.iload 7, 2) := by decide +kernel
theorem dX8_addLays_53 : decode cX8_addLays 53 = .ok (.aload_n 0, 1) := by decide +kernel
theorem dX8_addLays_54 : decode cX8_addLays 54 = .ok (.getfield 83, 3) := by decide +kernel
theorem dX8_addLays_57 : decode cX8_addLays 57 = .ok (.iand, 1) := by decide +kernel
theorem dX8_addLays_58 : decode cX8_addLays 58 = .ok (.ifCond .ne 56, 3) := by decide +kernel
theorem dX8_addLays_61 : decode cX8_addLays 61 = .ok (.new 19, 3) := by decide +kernel
theorem dX8_addLays_64 : decode cX8_addLays 64 = .ok (.dup, 1) := by decide +kernel
theorem dX8_addLays_65 : decode cX8_addLays 65 = .ok (.aload_n 1, 1) := by decide +kernel
theorem dX8_addLays_66 : decode cX8_addLays 66 = .ok (.invokevirtual 27, 3) := by decide +kernel
theorem dX8_addLays_69 : decode cX8_addLays 69 = .ok (.aload_n 2, 1) := by decide +kernel
theorem dX8_addLays_70 : decode cX8_addLays 70 = .ok (.aload_n 3, 1) := by decide +kernel
theorem dX8_addLays_71 : decode cX8_addLays 71 = .ok (.iload 5, 2) := by decide +kernel
theorem dX8_addLays_73 : decode cX8_addLays 73 = .ok (.iload 4, 2) := by decide +kernel
theorem dX8_addLays_75 : decode cX8_addLays 75 = .ok (.iload 6, 2) := by decide +kernel
theorem dX8_addLays_77 : decode cX8_addLays 77 = .ok (.iload 7, 2) := by decide +kernel
theorem dX8_addLays_79 : decode cX8_addLays 79 = .ok (.invokespecial 86, 3) := by decide +kernel
theorem dX8_addLays_82 : decode cX8_addLays 82 = .ok (.astore 8, 2) := by decide +kernel
theorem dX8_addLays_84 : decode cX8_addLays 84 = .ok (.aload 8, 2) := by decide +kernel
theorem dX8_addLays_86 : decode cX8_addLays 86 = .ok (.aload_n 0, 1) := by decide +kernel
theorem dX8_addLays_87 : decode cX8_addLays 87 = .ok (.getfield 89, 3) := by decide +kernel
theorem dX8_addLays_90 : decode cX8_addLays 90 = .ok (.ifCond .eq 12, 3) := by decide +kernel
theorem dX8_addLays_93 : decode cX8_addLays 93 = .ok (.aload_n 3, 1) := by decide +kernel
theorem dX8_addLays_94 : decode cX8_addLays 94 = .ok (.iload 7, 2) := by decide +kernel
theorem dX8_addLays_96 : decode cX8_addLays 96 = .ok (.invokevirtual 92, 3) := by decide +kernel
theorem dX8_addLays_99 : decode cX8_addLays 99 = .ok (.goto 5, 3) := by decide +kernel
theorem dX8_addLays_102 : decode cX8_addLays 102 = .ok (.iload 7, 2) := by decide +kernel
theorem dX8_addLays_104 : decode cX8_addLays 104 = .ok (.putfield 96, 3) := by decide +kernel
theorem dX8_addLays_107 : decode cX8_addLays 107 = .ok (.aload_n 1, 1) := by decide +kernel
theorem dX8_addLays_108 : decode cX8_addLays 108 = .ok (.aload 8, 2) := by decide +kernel
theorem dX8_addLays_110 : decode cX8_addLays 110 = .ok (.invokevirtual 38, 3) := by decide +kernel
theorem dX8_addLays_113 : decode cX8_addLays 113 = .ok (.pop, 1) := by decide +kernel
theorem dX8_addLays_114 : decode cX8_addLays 114 = .ok (.iinc 6 1, 3) := by decide +kernel
theorem dX8_addLays_117 : decode cX8_addLays 117 = .ok (.goto (-90), 3) := by decide +kernel
theorem dX8_addLays_120 : decode cX8_addLays 120 = .ok (.iinc 5 1, 3) := by decide +kernel
theorem dX8_addLays_123 : decode cX8_addLays 123 = .ok (.goto (-108), 3) := by decide +kernel
theorem dX8_addLays_126 : decode cX8_addLays 126 = .ok (.iinc 4 1, 3) := by decide +kernel
theorem dX8_addLays_129 : decode cX8_addLays 129 = .ok (.goto (-126), 3) := by decide +kernel
theorem dX8_addLays_132 : decode cX8_addLays 132 = .ok (.return_, 1) := by decide +kernel
theorem dX8_turnedHalfRound_0 : decode cX8_turnedHalfRound 0 = .ok (.aload_n 1, 1) := by decide +kernel
theorem dX8_turnedHalfRound_1 : decode cX8_turnedHalfRound 1 = .ok (.getfield 99, 3) := by decide +kernel
theorem dX8_turnedHalfRound_4 : decode cX8_turnedHalfRound 4 = .ok (.aload_n 1, 1) := by decide +kernel
theorem dX8_turnedHalfRound_5 : decode cX8_turnedHalfRound 5 = .ok (.getfield 103, 3) := by decide +kernel
theorem dX8_turnedHalfRound_8 : decode cX8_turnedHalfRound 8 = .ok (.invokevirtual 104, 3) := by decide +kernel
theorem dX8_turnedHalfRound_11 : decode cX8_turnedHalfRound 11 = .ok (.istore_n 2, 1) := by decide +kernel
theorem dX8_turnedHalfRound_12 : decode cX8_turnedHalfRound 12 = .ok (.aload_n 0, 1) := by decide +kernel
theorem dX8_turnedHalfRound_13 : decode cX8_turnedHalfRound 13 = .ok (.getfield 21, 3) := by decide +kernel
theorem dX8_turnedHalfRound_16 : decode cX8_turnedHalfRound 16 = .ok (.astore_n 3, 1) := by decide +kernel
theorem dX8_turnedHalfRound_17 : decode cX8_turnedHalfRound 17 = .ok (.aload_n 3, 1) := by decide +kernel
theorem dX8_turnedHalfRound_18 : decode cX8_turnedHalfRound 18 = .ok (.arraylength, 1) := by decide +kernel
theorem dX8_turnedHalfRound_19 : decode cX8_turnedHalfRound 19 = .ok (.istore 4, 2) := by decide +kernel
theorem dX8_turnedHalfRound_21 : decode cX8_turnedHalfRound 21 = .ok (.iconst 0, 1) := by decide +kernel
theorem dX8_turnedHalfRound_22 : decode cX8_turnedHalfRound 22 = .ok (.istore 5, 2) := by decide +kernel
theorem dX8_turnedHalfRound_24 : decode cX8_turnedHalfRound 24 = .ok (.iload 5, 2) := by decide +kernel
theorem dX8_turnedHalfRound_26 : decode cX8_turnedHalfRound 26 = .ok (.iload 4, 2) := by decide +kernel
theorem dX8_turnedHalfRound_28 : decode cX8_turnedHalfRound 28 = .ok (.if_icmp .ge 51, 3) := by decide +kernel
theorem dX8_turnedHalfRound_31 : decode cX8_turnedHalfRound 31 = .ok (.aload_n 3, 1) := by decide +kernel
theorem dX8_turnedHalfRound_32 : decode cX8_turnedHalfRound 32 = .ok (.iload 5, 2) := by decide +kernel
theorem dX8_turnedHalfRound_34 : decode cX8_turnedHalfRound 34 = .ok (.aaload, 1) := by decide +kernel
theorem dX8_turnedHalfRound_35 : decode cX8_turnedHalfRound 35 = .ok (.astore 6, 2) := by decide +kernel
theorem dX8_turnedHalfRound_37 : decode cX8_turnedHalfRound 37 = .ok (.aload 6, 2) := by decide +kernel
theorem dX8_turnedHalfRound_39 : decode cX8_turnedHalfRound 39 = .ok (.getfield 106, 3) := by decide +kernel
theorem dX8_turnedHalfRound_42 : decode cX8_turnedHalfRound 42 = .ok (.aload_n 1, 1) := by decide +kernel
theorem dX8_turnedHalfRound_43 : decode cX8_turnedHalfRound 43 = .ok (.getfield 106, 3) := by decide +kernel
theorem dX8_turnedHalfRound_46 : decode cX8_turnedHalfRound 46 = .ok (.if_acmp .ne 27, 3) := by decide +kernel
theorem dX8_turnedHalfRound_49 : decode cX8_turnedHalfRound 49 = .ok (.aload 6, 2) := by decide +kernel
theorem dX8_turnedHalfRound_51 : decode cX8_turnedHalfRound 51 = .ok (.getfield 99, 3) := by decide +kernel
theorem dX8_turnedHalfRound_54 : decode cX8_turnedHalfRound 54 = .ok (.aload_n 1, 1) := by decide +kernel
theorem dX8_turnedHalfRound_55 : decode cX8_turnedHalfRound 55 = .ok (.getfield 99, 3) := by decide +kernel
theorem dX8_turnedHalfRound_58 : decode cX8_turnedHalfRound 58 = .ok (.if_acmp .ne 15, 3) := by decide +kernel
theorem dX8_turnedHalfRound_61 : decode cX8_turnedHalfRound 61 = .ok (.aload 6, 2) := by decide +kernel
theorem dX8_turnedHalfRound_63 : decode cX8_turnedHalfRound 63 = .ok (.getfield 103, 3) := by decide +kernel
theorem dX8_turnedHalfRound_66 : decode cX8_turnedHalfRound 66 = .ok (.iload_n 2, 1) := by decide +kernel
theorem dX8_turnedHalfRound_67 : decode cX8_turnedHalfRound 67 = .ok (.if_icmp .ne 6, 3) := by decide +kernel
theorem dX8_turnedHalfRound_70 : decode cX8_turnedHalfRound 70 = .ok (.aload 6, 2) := by decide +kernel
theorem dX8_turnedHalfRound_72 : decode cX8_turnedHalfRound 72 = .ok (.areturn, 1) := by decide +kernel
theorem dX8_turnedHalfRound_73 : decode cX8_turnedHalfRound 73 = .ok (.iinc 5 1, 3) := by decide +kernel
theorem dX8_turnedHalfRound_76 : decode cX8_turnedHalfRound 76 = .ok (.goto (-52), 3) := by decide +kernel
theorem dX8_turnedHalfRound_79 : decode cX8_turnedHalfRound 79 = .ok (.aconst_null, 1) := by decide +kernel
theorem dX8_turnedHalfRound_80 : decode cX8_turnedHalfRound 80 = .ok (.areturn, 1) := by decide +kernel
theorem dX8_layNumbered_0 : decode cX8_layNumbered 0 = .ok (.iload_n 1, 1) := by decide +kernel
theorem dX8_layNumbered_1 : decode cX8_layNumbered 1 = .ok (.ifCond .lt 21, 3) := by decide +kernel
theorem dX8_layNumbered_4 : decode cX8_layNumbered 4 = .ok (.iload_n 1, 1) := by decide +kernel
theorem dX8_layNumbered_5 : decode cX8_layNumbered 5 = .ok (.aload_n 0, 1) := by decide +kernel
theorem dX8_layNumbered_6 : decode cX8_layNumbered 6 = .ok (.getfield 21, 3) := by decide +kernel
theorem dX8_layNumbered_9 : decode cX8_layNumbered 9 = .ok (.arraylength, 1) := by decide +kernel
theorem dX8_layNumbered_10 : decode cX8_layNumbered 10 = .ok (.if_icmp .ge 12, 3) := by decide +kernel
theorem dX8_layNumbered_13 : decode cX8_layNumbered 13 = .ok (.aload_n 0, 1) := by decide +kernel
theorem dX8_layNumbered_14 : decode cX8_layNumbered 14 = .ok (.getfield 21, 3) := by decide +kernel
theorem dX8_layNumbered_17 : decode cX8_layNumbered 17 = .ok (.iload_n 1, 1) := by decide +kernel
theorem dX8_layNumbered_18 : decode cX8_layNumbered 18 = .ok (.aaload, 1) := by decide +kernel
theorem dX8_layNumbered_19 : decode cX8_layNumbered 19 = .ok (.goto 4, 3) := by decide +kernel
theorem dX8_layNumbered_22 : decode cX8_layNumbered 22 = .ok (.aconst_null, 1) := by decide +kernel
theorem dX8_layNumbered_23 : decode cX8_layNumbered 23 = .ok (.areturn, 1) := by decide +kernel
theorem dX8_layAtPlace_0 : decode cX8_layAtPlace 0 = .ok (.aload_n 0, 1) := by decide +kernel
theorem dX8_layAtPlace_1 : decode cX8_layAtPlace 1 = .ok (.getfield 21, 3) := by decide +kernel
theorem dX8_layAtPlace_4 : decode cX8_layAtPlace 4 = .ok (.astore 6, 2) := by decide +kernel
theorem dX8_layAtPlace_6 : decode cX8_layAtPlace 6 = .ok (.aload 6, 2) := by decide +kernel
theorem dX8_layAtPlace_8 : decode cX8_layAtPlace 8 = .ok (.arraylength, 1) := by decide +kernel
theorem dX8_layAtPlace_9 : decode cX8_layAtPlace 9 = .ok (.istore 7, 2) := by decide +kernel
theorem dX8_layAtPlace_11 : decode cX8_layAtPlace 11 = .ok (.iconst 0, 1) := by decide +kernel
theorem dX8_layAtPlace_12 : decode cX8_layAtPlace 12 = .ok (.istore 8, 2) := by decide +kernel
theorem dX8_layAtPlace_14 : decode cX8_layAtPlace 14 = .ok (.iload 8, 2) := by decide +kernel
theorem dX8_layAtPlace_16 : decode cX8_layAtPlace 16 = .ok (.iload 7, 2) := by decide +kernel
theorem dX8_layAtPlace_18 : decode cX8_layAtPlace 18 = .ok (.if_icmp .ge 56, 3) := by decide +kernel
theorem dX8_layAtPlace_21 : decode cX8_layAtPlace 21 = .ok (.aload 6, 2) := by decide +kernel
theorem dX8_layAtPlace_23 : decode cX8_layAtPlace 23 = .ok (.iload 8, 2) := by decide +kernel
theorem dX8_layAtPlace_25 : decode cX8_layAtPlace 25 = .ok (.aaload, 1) := by decide +kernel
theorem dX8_layAtPlace_26 : decode cX8_layAtPlace 26 = .ok (.astore 9, 2) := by decide +kernel
theorem dX8_layAtPlace_28 : decode cX8_layAtPlace 28 = .ok (.aload 9, 2) := by decide +kernel
theorem dX8_layAtPlace_30 : decode cX8_layAtPlace 30 = .ok (.getfield 106, 3) := by decide +kernel
theorem dX8_layAtPlace_33 : decode cX8_layAtPlace 33 = .ok (.getfield 110, 3) := by decide +kernel
theorem dX8_layAtPlace_36 : decode cX8_layAtPlace 36 = .ok (.iload_n 1, 1) := by decide +kernel
theorem dX8_layAtPlace_37 : decode cX8_layAtPlace 37 = .ok (.if_icmp .ne 31, 3) := by decide +kernel
theorem dX8_layAtPlace_40 : decode cX8_layAtPlace 40 = .ok (.aload 9, 2) := by decide +kernel
theorem dX8_layAtPlace_42 : decode cX8_layAtPlace 42 = .ok (.getfield 99, 3) := by decide +kernel
theorem dX8_layAtPlace_45 : decode cX8_layAtPlace 45 = .ok (.getfield 113, 3) := by decide +kernel
theorem dX8_layAtPlace_48 : decode cX8_layAtPlace 48 = .ok (.iload_n 2, 1) := by decide +kernel
theorem dX8_layAtPlace_49 : decode cX8_layAtPlace 49 = .ok (.if_icmp .ne 19, 3) := by decide +kernel
theorem dX8_layAtPlace_52 : decode cX8_layAtPlace 52 = .ok (.aload 9, 2) := by decide +kernel
theorem dX8_layAtPlace_54 : decode cX8_layAtPlace 54 = .ok (.iload_n 3, 1) := by decide +kernel
theorem dX8_layAtPlace_55 : decode cX8_layAtPlace 55 = .ok (.iload 4, 2) := by decide +kernel
theorem dX8_layAtPlace_57 : decode cX8_layAtPlace 57 = .ok (.iload 5, 2) := by decide +kernel
theorem dX8_layAtPlace_59 : decode cX8_layAtPlace 59 = .ok (.invokevirtual 114, 3) := by decide +kernel
theorem dX8_layAtPlace_62 : decode cX8_layAtPlace 62 = .ok (.ifCond .eq 6, 3) := by decide +kernel
theorem dX8_layAtPlace_65 : decode cX8_layAtPlace 65 = .ok (.aload 9, 2) := by decide +kernel
theorem dX8_layAtPlace_67 : decode cX8_layAtPlace 67 = .ok (.areturn, 1) := by decide +kernel
theorem dX8_layAtPlace_68 : decode cX8_layAtPlace 68 = .ok (.iinc 8 1, 3) := by decide +kernel
theorem dX8_layAtPlace_71 : decode cX8_layAtPlace 71 = .ok (.goto (-57), 3) := by decide +kernel
theorem dX8_layAtPlace_74 : decode cX8_layAtPlace 74 = .ok (.aconst_null, 1) := by decide +kernel
theorem dX8_layAtPlace_75 : decode cX8_layAtPlace 75 = .ok (.areturn, 1) := by decide +kernel
theorem dX8_countThatMay_0 : decode cX8_countThatMay 0 = .ok (.iconst 0, 1) := by decide +kernel
theorem dX8_countThatMay_1 : decode cX8_countThatMay 1 = .ok (.istore_n 3, 1) := by decide +kernel
theorem dX8_countThatMay_2 : decode cX8_countThatMay 2 = .ok (.aload_n 0, 1) := by decide +kernel
theorem dX8_countThatMay_3 : decode cX8_countThatMay 3 = .ok (.getfield 21, 3) := by decide +kernel
theorem dX8_countThatMay_6 : decode cX8_countThatMay 6 = .ok (.astore 4, 2) := by decide +kernel
theorem dX8_countThatMay_8 : decode cX8_countThatMay 8 = .ok (.aload 4, 2) := by decide +kernel
theorem dX8_countThatMay_10 : decode cX8_countThatMay 10 = .ok (.arraylength, 1) := by decide +kernel
theorem dX8_countThatMay_11 : decode cX8_countThatMay 11 = .ok (.istore 5, 2) := by decide +kernel
theorem dX8_countThatMay_13 : decode cX8_countThatMay 13 = .ok (.iconst 0, 1) := by decide +kernel
theorem dX8_countThatMay_14 : decode cX8_countThatMay 14 = .ok (.istore 6, 2) := by decide +kernel
theorem dX8_countThatMay_16 : decode cX8_countThatMay 16 = .ok (.iload 6, 2) := by decide +kernel
theorem dX8_countThatMay_18 : decode cX8_countThatMay 18 = .ok (.iload 5, 2) := by decide +kernel
theorem dX8_countThatMay_20 : decode cX8_countThatMay 20 = .ok (.if_icmp .ge 29, 3) := by decide +kernel
theorem dX8_countThatMay_23 : decode cX8_countThatMay 23 = .ok (.aload 4, 2) := by decide +kernel
theorem dX8_countThatMay_25 : decode cX8_countThatMay 25 = .ok (.iload 6, 2) := by decide +kernel
theorem dX8_countThatMay_27 : decode cX8_countThatMay 27 = .ok (.aaload, 1) := by decide +kernel
theorem dX8_countThatMay_28 : decode cX8_countThatMay 28 = .ok (.astore 7, 2) := by decide +kernel
theorem dX8_countThatMay_30 : decode cX8_countThatMay 30 = .ok (.aload 7, 2) := by decide +kernel
theorem dX8_countThatMay_32 : decode cX8_countThatMay 32 = .ok (.iload_n 1, 1) := by decide +kernel
theorem dX8_countThatMay_33 : decode cX8_countThatMay 33 = .ok (.iload_n 2, 1) := by decide +kernel
theorem dX8_countThatMay_34 : decode cX8_countThatMay 34 = .ok (.invokevirtual 118, 3) := by decide +kernel
theorem dX8_countThatMay_37 : decode cX8_countThatMay 37 = .ok (.ifCond .eq 6, 3) := by decide +kernel
theorem dX8_countThatMay_40 : decode cX8_countThatMay 40 = .ok (.iinc 3 1, 3) := by decide +kernel
theorem dX8_countThatMay_43 : decode cX8_countThatMay 43 = .ok (.iinc 6 1, 3) := by decide +kernel
theorem dX8_countThatMay_46 : decode cX8_countThatMay 46 = .ok (.goto (-30), 3) := by decide +kernel
theorem dX8_countThatMay_49 : decode cX8_countThatMay 49 = .ok (.iload_n 3, 1) := by decide +kernel
theorem dX8_countThatMay_50 : decode cX8_countThatMay 50 = .ok (.ireturn, 1) := by decide +kernel
theorem dX8_thatMay_0 : decode cX8_thatMay 0 = .ok (.iload_n 3, 1) := by decide +kernel
theorem dX8_thatMay_1 : decode cX8_thatMay 1 = .ok (.istore 4, 2) := by decide +kernel
theorem dX8_thatMay_3 : decode cX8_thatMay 3 = .ok (.aload_n 0, 1) := by decide +kernel
theorem dX8_thatMay_4 : decode cX8_thatMay 4 = .ok (.getfield 21, 3) := by decide +kernel
theorem dX8_thatMay_7 : decode cX8_thatMay 7 = .ok (.astore 5, 2) := by decide +kernel
theorem dX8_thatMay_9 : decode cX8_thatMay 9 = .ok (.aload 5, 2) := by decide +kernel
theorem dX8_thatMay_11 : decode cX8_thatMay 11 = .ok (.arraylength, 1) := by decide +kernel
theorem dX8_thatMay_12 : decode cX8_thatMay 12 = .ok (.istore 6, 2) := by decide +kernel
theorem dX8_thatMay_14 : decode cX8_thatMay 14 = .ok (.iconst 0, 1) := by decide +kernel
theorem dX8_thatMay_15 : decode cX8_thatMay 15 = .ok (.istore 7, 2) := by decide +kernel
theorem dX8_thatMay_17 : decode cX8_thatMay 17 = .ok (.iload 7, 2) := by decide +kernel
theorem dX8_thatMay_19 : decode cX8_thatMay 19 = .ok (.iload 6, 2) := by decide +kernel
theorem dX8_thatMay_21 : decode cX8_thatMay 21 = .ok (.if_icmp .ge 37, 3) := by decide +kernel
theorem dX8_thatMay_24 : decode cX8_thatMay 24 = .ok (.aload 5, 2) := by decide +kernel
theorem dX8_thatMay_26 : decode cX8_thatMay 26 = .ok (.iload 7, 2) := by decide +kernel
theorem dX8_thatMay_28 : decode cX8_thatMay 28 = .ok (.aaload, 1) := by decide +kernel
theorem dX8_thatMay_29 : decode cX8_thatMay 29 = .ok (.astore 8, 2) := by decide +kernel
theorem dX8_thatMay_31 : decode cX8_thatMay 31 = .ok (.aload 8, 2) := by decide +kernel
theorem dX8_thatMay_33 : decode cX8_thatMay 33 = .ok (.iload_n 1, 1) := by decide +kernel
theorem dX8_thatMay_34 : decode cX8_thatMay 34 = .ok (.iload_n 2, 1) := by decide +kernel
theorem dX8_thatMay_35 : decode cX8_thatMay 35 = .ok (.invokevirtual 118, 3) := by decide +kernel
theorem dX8_thatMay_38 : decode cX8_thatMay 38 = .ok (.ifCond .eq 14, 3) := by decide +kernel
theorem dX8_thatMay_41 : decode cX8_thatMay 41 = .ok (.iload 4, 2) := by decide +kernel
theorem dX8_thatMay_43 : decode cX8_thatMay 43 = .ok (.ifCond .ne 6, 3) := by decide +kernel
theorem dX8_thatMay_46 : decode cX8_thatMay 46 = .ok (.aload 8, 2) := by decide +kernel
theorem dX8_thatMay_48 : decode cX8_thatMay 48 = .ok (.areturn, 1) := by decide +kernel
theorem dX8_thatMay_49 : decode cX8_thatMay 49 = .ok (.iinc 4 (-1), 3) := by decide +kernel
theorem dX8_thatMay_52 : decode cX8_thatMay 52 = .ok (.iinc 7 1, 3) := by decide +kernel
theorem dX8_thatMay_55 : decode cX8_thatMay 55 = .ok (.goto (-38), 3) := by decide +kernel
theorem dX8_thatMay_58 : decode cX8_thatMay 58 = .ok (.aconst_null, 1) := by decide +kernel
theorem dX8_thatMay_59 : decode cX8_thatMay 59 = .ok (.areturn, 1) := by decide +kernel
theorem dX8_deadSquares_0 : decode cX8_deadSquares 0 = .ok (.iconst 0, 1) := by decide +kernel
theorem dX8_deadSquares_1 : decode cX8_deadSquares 1 = .ok (.istore_n 2, 1) := by decide +kernel
theorem dX8_deadSquares_2 : decode cX8_deadSquares 2 = .ok (.aload_n 0, 1) := by decide +kernel
theorem dX8_deadSquares_3 : decode cX8_deadSquares 3 = .ok (.getfield 21, 3) := by decide +kernel
theorem dX8_deadSquares_6 : decode cX8_deadSquares 6 = .ok (.astore_n 3, 1) := by decide +kernel
theorem dX8_deadSquares_7 : decode cX8_deadSquares 7 = .ok (.aload_n 3, 1) := by decide +kernel
theorem dX8_deadSquares_8 : decode cX8_deadSquares 8 = .ok (.arraylength, 1) := by decide +kernel
theorem dX8_deadSquares_9 : decode cX8_deadSquares 9 = .ok (.istore 4, 2) := by decide +kernel
theorem dX8_deadSquares_11 : decode cX8_deadSquares 11 = .ok (.iconst 0, 1) := by decide +kernel
theorem dX8_deadSquares_12 : decode cX8_deadSquares 12 = .ok (.istore 5, 2) := by decide +kernel
theorem dX8_deadSquares_14 : decode cX8_deadSquares 14 = .ok (.iload 5, 2) := by decide +kernel
theorem dX8_deadSquares_16 : decode cX8_deadSquares 16 = .ok (.iload 4, 2) := by decide +kernel
theorem dX8_deadSquares_18 : decode cX8_deadSquares 18 = .ok (.if_icmp .ge 32, 3) := by decide +kernel
theorem dX8_deadSquares_21 : decode cX8_deadSquares 21 = .ok (.aload_n 3, 1) := by decide +kernel
theorem dX8_deadSquares_22 : decode cX8_deadSquares 22 = .ok (.iload 5, 2) := by decide +kernel
theorem dX8_deadSquares_24 : decode cX8_deadSquares 24 = .ok (.aaload, 1) := by decide +kernel
theorem dX8_deadSquares_25 : decode cX8_deadSquares 25 = .ok (.astore 6, 2) := by decide +kernel
theorem dX8_deadSquares_27 : decode cX8_deadSquares 27 = .ok (.aload 6, 2) := by decide +kernel
theorem dX8_deadSquares_29 : decode cX8_deadSquares 29 = .ok (.iload_n 1, 1) := by decide +kernel
theorem dX8_deadSquares_30 : decode cX8_deadSquares 30 = .ok (.invokevirtual 122, 3) := by decide +kernel
theorem dX8_deadSquares_33 : decode cX8_deadSquares 33 = .ok (.ifCond .eq 11, 3) := by decide +kernel
theorem dX8_deadSquares_36 : decode cX8_deadSquares 36 = .ok (.iload_n 2, 1) := by decide +kernel
theorem dX8_deadSquares_37 : decode cX8_deadSquares 37 = .ok (.aload 6, 2) := by decide +kernel
theorem dX8_deadSquares_39 : decode cX8_deadSquares 39 = .ok (.getfield 103, 3) := by decide +kernel
theorem dX8_deadSquares_42 : decode cX8_deadSquares 42 = .ok (.ior, 1) := by decide +kernel
theorem dX8_deadSquares_43 : decode cX8_deadSquares 43 = .ok (.istore_n 2, 1) := by decide +kernel
theorem dX8_deadSquares_44 : decode cX8_deadSquares 44 = .ok (.iinc 5 1, 3) := by decide +kernel
theorem dX8_deadSquares_47 : decode cX8_deadSquares 47 = .ok (.goto (-33), 3) := by decide +kernel
theorem dX8_deadSquares_50 : decode cX8_deadSquares 50 = .ok (.iconst 1, 1) := by decide +kernel
theorem dX8_deadSquares_51 : decode cX8_deadSquares 51 = .ok (.aload_n 0, 1) := by decide +kernel
theorem dX8_deadSquares_52 : decode cX8_deadSquares 52 = .ok (.getfield 31, 3) := by decide +kernel
theorem dX8_deadSquares_55 : decode cX8_deadSquares 55 = .ok (.ishl, 1) := by decide +kernel
theorem dX8_deadSquares_56 : decode cX8_deadSquares 56 = .ok (.iconst 1, 1) := by decide +kernel
theorem dX8_deadSquares_57 : decode cX8_deadSquares 57 = .ok (.isub, 1) := by decide +kernel
theorem dX8_deadSquares_58 : decode cX8_deadSquares 58 = .ok (.iload_n 1, 1) := by decide +kernel
theorem dX8_deadSquares_59 : decode cX8_deadSquares 59 = .ok (.aload_n 0, 1) := by decide +kernel
theorem dX8_deadSquares_60 : decode cX8_deadSquares 60 = .ok (.getfield 83, 3) := by decide +kernel
theorem dX8_deadSquares_63 : decode cX8_deadSquares 63 = .ok (.ior, 1) := by decide +kernel
theorem dX8_deadSquares_64 : decode cX8_deadSquares 64 = .ok (.iload_n 2, 1) := by decide +kernel
theorem dX8_deadSquares_65 : decode cX8_deadSquares 65 = .ok (.ior, 1) := by decide +kernel
theorem dX8_deadSquares_66 : decode cX8_deadSquares 66 = .ok (.iconst (-1), 1) := by decide +kernel
theorem dX8_deadSquares_67 : decode cX8_deadSquares 67 = .ok (.ixor, 1) := by decide +kernel
theorem dX8_deadSquares_68 : decode cX8_deadSquares 68 = .ok (.iand, 1) := by decide +kernel
theorem dX8_deadSquares_69 : decode cX8_deadSquares 69 = .ok (.ireturn, 1) := by decide +kernel
theorem dX8_countSpoiled_0 : decode cX8_countSpoiled 0 = .ok (.iconst 0, 1) := by decide +kernel
theorem dX8_countSpoiled_1 : decode cX8_countSpoiled 1 = .ok (.istore_n 3, 1) := by decide +kernel
theorem dX8_countSpoiled_2 : decode cX8_countSpoiled 2 = .ok (.aload_n 0, 1) := by decide +kernel
theorem dX8_countSpoiled_3 : decode cX8_countSpoiled 3 = .ok (.getfield 21, 3) := by decide +kernel
theorem dX8_countSpoiled_6 : decode cX8_countSpoiled 6 = .ok (.astore 4, 2) := by decide +kernel
theorem dX8_countSpoiled_8 : decode cX8_countSpoiled 8 = .ok (.aload 4, 2) := by decide +kernel
theorem dX8_countSpoiled_10 : decode cX8_countSpoiled 10 = .ok (.arraylength, 1) := by decide +kernel
theorem dX8_countSpoiled_11 : decode cX8_countSpoiled 11 = .ok (.istore 5, 2) := by decide +kernel
theorem dX8_countSpoiled_13 : decode cX8_countSpoiled 13 = .ok (.iconst 0, 1) := by decide +kernel
theorem dX8_countSpoiled_14 : decode cX8_countSpoiled 14 = .ok (.istore 6, 2) := by decide +kernel
theorem dX8_countSpoiled_16 : decode cX8_countSpoiled 16 = .ok (.iload 6, 2) := by decide +kernel
theorem dX8_countSpoiled_18 : decode cX8_countSpoiled 18 = .ok (.iload 5, 2) := by decide +kernel
theorem dX8_countSpoiled_20 : decode cX8_countSpoiled 20 = .ok (.if_icmp .ge 42, 3) := by decide +kernel
theorem dX8_countSpoiled_23 : decode cX8_countSpoiled 23 = .ok (.aload 4, 2) := by decide +kernel
theorem dX8_countSpoiled_25 : decode cX8_countSpoiled 25 = .ok (.iload 6, 2) := by decide +kernel
theorem dX8_countSpoiled_27 : decode cX8_countSpoiled 27 = .ok (.aaload, 1) := by decide +kernel
theorem dX8_countSpoiled_28 : decode cX8_countSpoiled 28 = .ok (.astore 7, 2) := by decide +kernel
theorem dX8_countSpoiled_30 : decode cX8_countSpoiled 30 = .ok (.aload 7, 2) := by decide +kernel
theorem dX8_countSpoiled_32 : decode cX8_countSpoiled 32 = .ok (.iload_n 1, 1) := by decide +kernel
theorem dX8_countSpoiled_33 : decode cX8_countSpoiled 33 = .ok (.invokevirtual 122, 3) := by decide +kernel
theorem dX8_countSpoiled_36 : decode cX8_countSpoiled 36 = .ok (.ifCond .eq 20, 3) := by decide +kernel
theorem dX8_countSpoiled_39 : decode cX8_countSpoiled 39 = .ok (.aload 7, 2) := by decide +kernel
theorem dX8_countSpoiled_41 : decode cX8_countSpoiled 41 = .ok (.iload_n 1, 1) := by decide +kernel
theorem dX8_countSpoiled_42 : decode cX8_countSpoiled 42 = .ok (.aload_n 2, 1) := by decide +kernel
theorem dX8_countSpoiled_43 : decode cX8_countSpoiled 43 = .ok (.getfield 103, 3) := by decide +kernel
theorem dX8_countSpoiled_46 : decode cX8_countSpoiled 46 = .ok (.ior, 1) := by decide +kernel
theorem dX8_countSpoiled_47 : decode cX8_countSpoiled 47 = .ok (.invokevirtual 122, 3) := by decide +kernel
theorem dX8_countSpoiled_50 : decode cX8_countSpoiled 50 = .ok (.ifCond .ne 6, 3) := by decide +kernel
theorem dX8_countSpoiled_53 : decode cX8_countSpoiled 53 = .ok (.iinc 3 1, 3) := by decide +kernel
theorem dX8_countSpoiled_56 : decode cX8_countSpoiled 56 = .ok (.iinc 6 1, 3) := by decide +kernel
theorem dX8_countSpoiled_59 : decode cX8_countSpoiled 59 = .ok (.goto (-43), 3) := by decide +kernel
theorem dX8_countSpoiled_62 : decode cX8_countSpoiled 62 = .ok (.iload_n 3, 1) := by decide +kernel
theorem dX8_countSpoiled_63 : decode cX8_countSpoiled 63 = .ok (.ireturn, 1) := by decide +kernel
theorem dX8_countOpen_0 : decode cX8_countOpen 0 = .ok (.iconst 0, 1) := by decide +kernel
theorem dX8_countOpen_1 : decode cX8_countOpen 1 = .ok (.istore_n 3, 1) := by decide +kernel
theorem dX8_countOpen_2 : decode cX8_countOpen 2 = .ok (.aload_n 0, 1) := by decide +kernel
theorem dX8_countOpen_3 : decode cX8_countOpen 3 = .ok (.getfield 21, 3) := by decide +kernel
theorem dX8_countOpen_6 : decode cX8_countOpen 6 = .ok (.astore 4, 2) := by decide +kernel
theorem dX8_countOpen_8 : decode cX8_countOpen 8 = .ok (.aload 4, 2) := by decide +kernel
theorem dX8_countOpen_10 : decode cX8_countOpen 10 = .ok (.arraylength, 1) := by decide +kernel
theorem dX8_countOpen_11 : decode cX8_countOpen 11 = .ok (.istore 5, 2) := by decide +kernel
theorem dX8_countOpen_13 : decode cX8_countOpen 13 = .ok (.iconst 0, 1) := by decide +kernel
theorem dX8_countOpen_14 : decode cX8_countOpen 14 = .ok (.istore 6, 2) := by decide +kernel
theorem dX8_countOpen_16 : decode cX8_countOpen 16 = .ok (.iload 6, 2) := by decide +kernel
theorem dX8_countOpen_18 : decode cX8_countOpen 18 = .ok (.iload 5, 2) := by decide +kernel
theorem dX8_countOpen_20 : decode cX8_countOpen 20 = .ok (.if_icmp .ge 40, 3) := by decide +kernel
theorem dX8_countOpen_23 : decode cX8_countOpen 23 = .ok (.aload 4, 2) := by decide +kernel
theorem dX8_countOpen_25 : decode cX8_countOpen 25 = .ok (.iload 6, 2) := by decide +kernel
theorem dX8_countOpen_27 : decode cX8_countOpen 27 = .ok (.aaload, 1) := by decide +kernel
theorem dX8_countOpen_28 : decode cX8_countOpen 28 = .ok (.astore 7, 2) := by decide +kernel
theorem dX8_countOpen_30 : decode cX8_countOpen 30 = .ok (.aload 7, 2) := by decide +kernel
theorem dX8_countOpen_32 : decode cX8_countOpen 32 = .ok (.iload_n 1, 1) := by decide +kernel
theorem dX8_countOpen_33 : decode cX8_countOpen 33 = .ok (.invokevirtual 122, 3) := by decide +kernel
theorem dX8_countOpen_36 : decode cX8_countOpen 36 = .ok (.ifCond .eq 18, 3) := by decide +kernel
theorem dX8_countOpen_39 : decode cX8_countOpen 39 = .ok (.aload 7, 2) := by decide +kernel
theorem dX8_countOpen_41 : decode cX8_countOpen 41 = .ok (.getfield 103, 3) := by decide +kernel
theorem dX8_countOpen_44 : decode cX8_countOpen 44 = .ok (.iload_n 2, 1) := by decide +kernel
theorem dX8_countOpen_45 : decode cX8_countOpen 45 = .ok (.ishr, 1) := by decide +kernel
theorem dX8_countOpen_46 : decode cX8_countOpen 46 = .ok (.iconst 1, 1) := by decide +kernel
theorem dX8_countOpen_47 : decode cX8_countOpen 47 = .ok (.iand, 1) := by decide +kernel
theorem dX8_countOpen_48 : decode cX8_countOpen 48 = .ok (.ifCond .eq 6, 3) := by decide +kernel
theorem dX8_countOpen_51 : decode cX8_countOpen 51 = .ok (.iinc 3 1, 3) := by decide +kernel
theorem dX8_countOpen_54 : decode cX8_countOpen 54 = .ok (.iinc 6 1, 3) := by decide +kernel
theorem dX8_countOpen_57 : decode cX8_countOpen 57 = .ok (.goto (-41), 3) := by decide +kernel
theorem dX8_countOpen_60 : decode cX8_countOpen 60 = .ok (.iload_n 3, 1) := by decide +kernel
theorem dX8_countOpen_61 : decode cX8_countOpen 61 = .ok (.ireturn, 1) := by decide +kernel
theorem dX8_isHeap_0 : decode cX8_isHeap 0 = .ok (.aload_n 0, 1) := by decide +kernel
theorem dX8_isHeap_1 : decode cX8_isHeap 1 = .ok (.getfield 126, 3) := by decide +kernel
theorem dX8_isHeap_4 : decode cX8_isHeap 4 = .ok (.ifCond .eq 5, 3) := by decide +kernel
theorem dX8_isHeap_7 : decode cX8_isHeap 7 = .ok (.iconst 0, 1) := by decide +kernel
theorem dX8_isHeap_8 : decode cX8_isHeap 8 = .ok (.ireturn, 1) := by decide +kernel
theorem dX8_isHeap_9 : decode cX8_isHeap 9 = .ok (.iconst 0, 1) := by decide +kernel
theorem dX8_isHeap_10 : decode cX8_isHeap 10 = .ok (.istore_n 1, 1) := by decide +kernel
theorem dX8_isHeap_11 : decode cX8_isHeap 11 = .ok (.iload_n 1, 1) := by decide +kernel
theorem dX8_isHeap_12 : decode cX8_isHeap 12 = .ok (.aload_n 0, 1) := by decide +kernel
theorem dX8_isHeap_13 : decode cX8_isHeap 13 = .ok (.getfield 16, 3) := by decide +kernel
theorem dX8_isHeap_16 : decode cX8_isHeap 16 = .ok (.invokevirtual 27, 3) := by decide +kernel
theorem dX8_isHeap_19 : decode cX8_isHeap 19 = .ok (.if_icmp .ge 29, 3) := by decide +kernel
theorem dX8_isHeap_22 : decode cX8_isHeap 22 = .ok (.aload_n 0, 1) := by decide +kernel
theorem dX8_isHeap_23 : decode cX8_isHeap 23 = .ok (.getfield 16, 3) := by decide +kernel
theorem dX8_isHeap_26 : decode cX8_isHeap 26 = .ok (.iload_n 1, 1) := by decide +kernel
theorem dX8_isHeap_27 : decode cX8_isHeap 27 = .ok (.invokevirtual 42, 3) := by decide +kernel
theorem dX8_isHeap_30 : decode cX8_isHeap 30 = .ok (.checkcast 46, 3) := by decide +kernel
theorem dX8_isHeap_33 : decode cX8_isHeap 33 = .ok (.getfield 129, 3) := by decide +kernel
theorem dX8_isHeap_36 : decode cX8_isHeap 36 = .ok (.iconst (-1), 1) := by decide +kernel
theorem dX8_isHeap_37 : decode cX8_isHeap 37 = .ok (.if_icmp .eq 5, 3) := by decide +kernel
theorem dX8_isHeap_40 : decode cX8_isHeap 40 = .ok (.iconst 0, 1) := by decide +kernel
theorem dX8_isHeap_41 : decode cX8_isHeap 41 = .ok (.ireturn, 1) := by decide +kernel
theorem dX8_isHeap_42 : decode cX8_isHeap 42 = .ok (.iinc 1 1, 3) := by decide +kernel
theorem dX8_isHeap_45 : decode cX8_isHeap 45 = .ok (.goto (-34), 3) := by decide +kernel
theorem dX8_isHeap_48 : decode cX8_isHeap 48 = .ok (.iconst 1, 1) := by decide +kernel
theorem dX8_isHeap_49 : decode cX8_isHeap 49 = .ok (.ireturn, 1) := by decide +kernel
theorem dX8_isSameTurned_0 : decode cX8_isSameTurned 0 = .ok (.aload_n 0, 1) := by decide +kernel
theorem dX8_isSameTurned_1 : decode cX8_isSameTurned 1 = .ok (.getfield 83, 3) := by decide +kernel
theorem dX8_isSameTurned_4 : decode cX8_isSameTurned 4 = .ok (.aload_n 1, 1) := by decide +kernel
theorem dX8_isSameTurned_5 : decode cX8_isSameTurned 5 = .ok (.invokevirtual 132, 3) := by decide +kernel
theorem dX8_isSameTurned_8 : decode cX8_isSameTurned 8 = .ok (.iand, 1) := by decide +kernel
theorem dX8_isSameTurned_9 : decode cX8_isSameTurned 9 = .ok (.istore_n 3, 1) := by decide +kernel
theorem dX8_isSameTurned_10 : decode cX8_isSameTurned 10 = .ok (.iload_n 2, 1) := by decide +kernel
theorem dX8_isSameTurned_11 : decode cX8_isSameTurned 11 = .ok (.aload_n 1, 1) := by decide +kernel
theorem dX8_isSameTurned_12 : decode cX8_isSameTurned 12 = .ok (.invokevirtual 132, 3) := by decide +kernel
theorem dX8_isSameTurned_15 : decode cX8_isSameTurned 15 = .ok (.iand, 1) := by decide +kernel
theorem dX8_isSameTurned_16 : decode cX8_isSameTurned 16 = .ok (.istore 4, 2) := by decide +kernel
theorem dX8_isSameTurned_18 : decode cX8_isSameTurned 18 = .ok (.aload_n 1, 1) := by decide +kernel
theorem dX8_isSameTurned_19 : decode cX8_isSameTurned 19 = .ok (.iload_n 3, 1) := by decide +kernel
theorem dX8_isSameTurned_20 : decode cX8_isSameTurned 20 = .ok (.invokevirtual 104, 3) := by decide +kernel
theorem dX8_isSameTurned_23 : decode cX8_isSameTurned 23 = .ok (.iload_n 3, 1) := by decide +kernel
theorem dX8_isSameTurned_24 : decode cX8_isSameTurned 24 = .ok (.if_icmp .ne 18, 3) := by decide +kernel
theorem dX8_isSameTurned_27 : decode cX8_isSameTurned 27 = .ok (.aload_n 1, 1) := by decide +kernel
theorem dX8_isSameTurned_28 : decode cX8_isSameTurned 28 = .ok (.iload 4, 2) := by decide +kernel
theorem dX8_isSameTurned_30 : decode cX8_isSameTurned 30 = .ok (.invokevirtual 104, 3) := by decide +kernel
theorem dX8_isSameTurned_33 : decode cX8_isSameTurned 33 = .ok (.iload 4, 2) := by decide +kernel
theorem dX8_isSameTurned_35 : decode cX8_isSameTurned 35 = .ok (.if_icmp .ne 7, 3) := by decide +kernel
theorem dX8_isSameTurned_38 : decode cX8_isSameTurned 38 = .ok (.iconst 1, 1) := by decide +kernel
theorem dX8_isSameTurned_39 : decode cX8_isSameTurned 39 = .ok (.goto 4, 3) := by decide +kernel
theorem dX8_isSameTurned_42 : decode cX8_isSameTurned 42 = .ok (.iconst 0, 1) := by decide +kernel
theorem dX8_isSameTurned_43 : decode cX8_isSameTurned 43 = .ok (.ireturn, 1) := by decide +kernel
theorem dX8_areAllSameTurned_0 : decode cX8_areAllSameTurned 0 = .ok (.iconst 0, 1) := by decide +kernel
theorem dX8_areAllSameTurned_1 : decode cX8_areAllSameTurned 1 = .ok (.istore_n 2, 1) := by decide +kernel
theorem dX8_areAllSameTurned_2 : decode cX8_areAllSameTurned 2 = .ok (.iload_n 2, 1) := by decide +kernel
theorem dX8_areAllSameTurned_3 : decode cX8_areAllSameTurned 3 = .ok (.aload_n 0, 1) := by decide +kernel
theorem dX8_areAllSameTurned_4 : decode cX8_areAllSameTurned 4 = .ok (.getfield 10, 3) := by decide +kernel
theorem dX8_areAllSameTurned_7 : decode cX8_areAllSameTurned 7 = .ok (.invokevirtual 27, 3) := by decide +kernel
theorem dX8_areAllSameTurned_10 : decode cX8_areAllSameTurned 10 = .ok (.if_icmp .ge 30, 3) := by decide +kernel
theorem dX8_areAllSameTurned_13 : decode cX8_areAllSameTurned 13 = .ok (.aload_n 0, 1) := by decide +kernel
theorem dX8_areAllSameTurned_14 : decode cX8_areAllSameTurned 14 = .ok (.aload_n 0, 1) := by decide +kernel
theorem dX8_areAllSameTurned_15 : decode cX8_areAllSameTurned 15 = .ok (.getfield 10, 3) := by decide +kernel
theorem dX8_areAllSameTurned_18 : decode cX8_areAllSameTurned 18 = .ok (.iload_n 2, 1) := by decide +kernel
theorem dX8_areAllSameTurned_19 : decode cX8_areAllSameTurned 19 = .ok (.invokevirtual 42, 3) := by decide +kernel
theorem dX8_areAllSameTurned_22 : decode cX8_areAllSameTurned 22 = .ok (.checkcast 25, 3) := by decide +kernel
theorem dX8_areAllSameTurned_25 : decode cX8_areAllSameTurned 25 = .ok (.iload_n 1, 1) := by decide +kernel
theorem dX8_areAllSameTurned_26 : decode cX8_areAllSameTurned 26 = .ok (.invokevirtual 135, 3) := by decide +kernel
theorem dX8_areAllSameTurned_29 : decode cX8_areAllSameTurned 29 = .ok (.ifCond .ne 5, 3) := by decide +kernel
theorem dX8_areAllSameTurned_32 : decode cX8_areAllSameTurned 32 = .ok (.iconst 0, 1) := by decide +kernel
theorem dX8_areAllSameTurned_33 : decode cX8_areAllSameTurned 33 = .ok (.ireturn, 1) := by decide +kernel
theorem dX8_areAllSameTurned_34 : decode cX8_areAllSameTurned 34 = .ok (.iinc 2 1, 3) := by decide +kernel
theorem dX8_areAllSameTurned_37 : decode cX8_areAllSameTurned 37 = .ok (.goto (-35), 3) := by decide +kernel
theorem dX8_areAllSameTurned_40 : decode cX8_areAllSameTurned 40 = .ok (.iconst 1, 1) := by decide +kernel
theorem dX8_areAllSameTurned_41 : decode cX8_areAllSameTurned 41 = .ok (.ireturn, 1) := by decide +kernel
theorem dX8_heldByAcross_0 : decode cX8_heldByAcross 0 = .ok (.aload_n 0, 1) := by decide +kernel
theorem dX8_heldByAcross_1 : decode cX8_heldByAcross 1 = .ok (.invokevirtual 139, 3) := by decide +kernel
theorem dX8_heldByAcross_4 : decode cX8_heldByAcross 4 = .ok (.ifCond .eq 11, 3) := by decide +kernel
theorem dX8_heldByAcross_7 : decode cX8_heldByAcross 7 = .ok (.aload_n 0, 1) := by decide +kernel
theorem dX8_heldByAcross_8 : decode cX8_heldByAcross 8 = .ok (.iload_n 1, 1) := by decide +kernel
theorem dX8_heldByAcross_9 : decode cX8_heldByAcross 9 = .ok (.invokevirtual 143, 3) := by decide +kernel
theorem dX8_heldByAcross_12 : decode cX8_heldByAcross 12 = .ok (.ifCond .ne 5, 3) := by decide +kernel
theorem dX8_heldByAcross_15 : decode cX8_heldByAcross 15 = .ok (.iconst 0, 1) := by decide +kernel
theorem dX8_heldByAcross_16 : decode cX8_heldByAcross 16 = .ok (.ireturn, 1) := by decide +kernel
theorem dX8_heldByAcross_17 : decode cX8_heldByAcross 17 = .ok (.aload_n 0, 1) := by decide +kernel
theorem dX8_heldByAcross_18 : decode cX8_heldByAcross 18 = .ok (.iload_n 1, 1) := by decide +kernel
theorem dX8_heldByAcross_19 : decode cX8_heldByAcross 19 = .ok (.invokevirtual 146, 3) := by decide +kernel
theorem dX8_heldByAcross_22 : decode cX8_heldByAcross 22 = .ok (.ifCond .eq 5, 3) := by decide +kernel
theorem dX8_heldByAcross_25 : decode cX8_heldByAcross 25 = .ok (.iconst 2, 1) := by decide +kernel
theorem dX8_heldByAcross_26 : decode cX8_heldByAcross 26 = .ok (.ireturn, 1) := by decide +kernel
theorem dX8_heldByAcross_27 : decode cX8_heldByAcross 27 = .ok (.aload_n 0, 1) := by decide +kernel
theorem dX8_heldByAcross_28 : decode cX8_heldByAcross 28 = .ok (.getfield 21, 3) := by decide +kernel
theorem dX8_heldByAcross_31 : decode cX8_heldByAcross 31 = .ok (.astore_n 2, 1) := by decide +kernel
theorem dX8_heldByAcross_32 : decode cX8_heldByAcross 32 = .ok (.aload_n 2, 1) := by decide +kernel
theorem dX8_heldByAcross_33 : decode cX8_heldByAcross 33 = .ok (.arraylength, 1) := by decide +kernel
theorem dX8_heldByAcross_34 : decode cX8_heldByAcross 34 = .ok (.istore_n 3, 1) := by decide +kernel
theorem dX8_heldByAcross_35 : decode cX8_heldByAcross 35 = .ok (.iconst 0, 1) := by decide +kernel
theorem dX8_heldByAcross_36 : decode cX8_heldByAcross 36 = .ok (.istore 4, 2) := by decide +kernel
theorem dX8_heldByAcross_38 : decode cX8_heldByAcross 38 = .ok (.iload 4, 2) := by decide +kernel
theorem dX8_heldByAcross_40 : decode cX8_heldByAcross 40 = .ok (.iload_n 3, 1) := by decide +kernel
theorem dX8_heldByAcross_41 : decode cX8_heldByAcross 41 = .ok (.if_icmp .ge 50, 3) := by decide +kernel
theorem dX8_heldByAcross_44 : decode cX8_heldByAcross 44 = .ok (.aload_n 2, 1) := by decide +kernel
theorem dX8_heldByAcross_45 : decode cX8_heldByAcross 45 = .ok (.iload 4, 2) := by decide +kernel
theorem dX8_heldByAcross_47 : decode cX8_heldByAcross 47 = .ok (.aaload, 1) := by decide +kernel
theorem dX8_heldByAcross_48 : decode cX8_heldByAcross 48 = .ok (.astore 5, 2) := by decide +kernel
theorem dX8_heldByAcross_50 : decode cX8_heldByAcross 50 = .ok (.aload 5, 2) := by decide +kernel
theorem dX8_heldByAcross_52 : decode cX8_heldByAcross 52 = .ok (.iload_n 1, 1) := by decide +kernel
theorem dX8_heldByAcross_53 : decode cX8_heldByAcross 53 = .ok (.invokevirtual 122, 3) := by decide +kernel
theorem dX8_heldByAcross_56 : decode cX8_heldByAcross 56 = .ok (.ifCond .eq 29, 3) := by decide +kernel
theorem dX8_heldByAcross_59 : decode cX8_heldByAcross 59 = .ok (.aload 5, 2) := by decide +kernel
theorem dX8_heldByAcross_61 : decode cX8_heldByAcross 61 = .ok (.getfield 69, 3) := by decide +kernel
theorem dX8_heldByAcross_64 : decode cX8_heldByAcross 64 = .ok (.aload 5, 2) := by decide +kernel
theorem dX8_heldByAcross_66 : decode cX8_heldByAcross 66 = .ok (.if_acmp .ne 19, 3) := by decide +kernel
theorem dX8_heldByAcross_69 : decode cX8_heldByAcross 69 = .ok (.aload_n 0, 1) := by decide +kernel
theorem dX8_heldByAcross_70 : decode cX8_heldByAcross 70 = .ok (.iload_n 1, 1) := by decide +kernel
theorem dX8_heldByAcross_71 : decode cX8_heldByAcross 71 = .ok (.aload 5, 2) := by decide +kernel
theorem dX8_heldByAcross_73 : decode cX8_heldByAcross 73 = .ok (.getfield 103, 3) := by decide +kernel
theorem dX8_heldByAcross_76 : decode cX8_heldByAcross 76 = .ok (.ior, 1) := by decide +kernel
theorem dX8_heldByAcross_77 : decode cX8_heldByAcross 77 = .ok (.invokevirtual 146, 3) := by decide +kernel
theorem dX8_heldByAcross_80 : decode cX8_heldByAcross 80 = .ok (.ifCond .eq 5, 3) := by decide +kernel
theorem dX8_heldByAcross_83 : decode cX8_heldByAcross 83 = .ok (.iconst 1, 1) := by decide +kernel
theorem dX8_heldByAcross_84 : decode cX8_heldByAcross 84 = .ok (.ireturn, 1) := by decide +kernel
theorem dX8_heldByAcross_85 : decode cX8_heldByAcross 85 = .ok (.iinc 4 1, 3) := by decide +kernel
theorem dX8_heldByAcross_88 : decode cX8_heldByAcross 88 = .ok (.goto (-50), 3) := by decide +kernel
theorem dX8_heldByAcross_91 : decode cX8_heldByAcross 91 = .ok (.iconst 0, 1) := by decide +kernel
theorem dX8_heldByAcross_92 : decode cX8_heldByAcross 92 = .ok (.ireturn, 1) := by decide +kernel
theorem dX8_canAnswerAllAcross_0 : decode cX8_canAnswerAllAcross 0 = .ok (.aload_n 0, 1) := by decide +kernel
theorem dX8_canAnswerAllAcross_1 : decode cX8_canAnswerAllAcross 1 = .ok (.getfield 21, 3) := by decide +kernel
theorem dX8_canAnswerAllAcross_4 : decode cX8_canAnswerAllAcross 4 = .ok (.astore_n 2, 1) := by decide +kernel
theorem dX8_canAnswerAllAcross_5 : decode cX8_canAnswerAllAcross 5 = .ok (.aload_n 2, 1) := by decide +kernel
theorem dX8_canAnswerAllAcross_6 : decode cX8_canAnswerAllAcross 6 = .ok (.arraylength, 1) := by decide +kernel
theorem dX8_canAnswerAllAcross_7 : decode cX8_canAnswerAllAcross 7 = .ok (.istore_n 3, 1) := by decide +kernel
theorem dX8_canAnswerAllAcross_8 : decode cX8_canAnswerAllAcross 8 = .ok (.iconst 0, 1) := by decide +kernel
theorem dX8_canAnswerAllAcross_9 : decode cX8_canAnswerAllAcross 9 = .ok (.istore 4, 2) := by decide +kernel
theorem dX8_canAnswerAllAcross_11 : decode cX8_canAnswerAllAcross 11 = .ok (.iload 4, 2) := by decide +kernel
theorem dX8_canAnswerAllAcross_13 : decode cX8_canAnswerAllAcross 13 = .ok (.iload_n 3, 1) := by decide +kernel
theorem dX8_canAnswerAllAcross_14 : decode cX8_canAnswerAllAcross 14 = .ok (.if_icmp .ge 51, 3) := by decide +kernel
theorem dX8_canAnswerAllAcross_17 : decode cX8_canAnswerAllAcross 17 = .ok (.aload_n 2, 1) := by decide +kernel
theorem dX8_canAnswerAllAcross_18 : decode cX8_canAnswerAllAcross 18 = .ok (.iload 4, 2) := by decide +kernel
theorem dX8_canAnswerAllAcross_20 : decode cX8_canAnswerAllAcross 20 = .ok (.aaload, 1) := by decide +kernel
theorem dX8_canAnswerAllAcross_21 : decode cX8_canAnswerAllAcross 21 = .ok (.astore 5, 2) := by decide +kernel
theorem dX8_canAnswerAllAcross_23 : decode cX8_canAnswerAllAcross 23 = .ok (.aload 5, 2) := by decide +kernel
theorem dX8_canAnswerAllAcross_25 : decode cX8_canAnswerAllAcross 25 = .ok (.iload_n 1, 1) := by decide +kernel
theorem dX8_canAnswerAllAcross_26 : decode cX8_canAnswerAllAcross 26 = .ok (.invokevirtual 122, 3) := by decide +kernel
theorem dX8_canAnswerAllAcross_29 : decode cX8_canAnswerAllAcross 29 = .ok (.ifCond .eq 30, 3) := by decide +kernel
theorem dX8_canAnswerAllAcross_32 : decode cX8_canAnswerAllAcross 32 = .ok (.aload 5, 2) := by decide +kernel
theorem dX8_canAnswerAllAcross_34 : decode cX8_canAnswerAllAcross 34 = .ok (.getfield 69, 3) := by decide +kernel
theorem dX8_canAnswerAllAcross_37 : decode cX8_canAnswerAllAcross 37 = .ok (.ifnull 20, 3) := by decide +kernel
theorem dX8_canAnswerAllAcross_40 : decode cX8_canAnswerAllAcross 40 = .ok (.aload 5, 2) := by decide +kernel
theorem dX8_canAnswerAllAcross_42 : decode cX8_canAnswerAllAcross 42 = .ok (.getfield 69, 3) := by decide +kernel
theorem dX8_canAnswerAllAcross_45 : decode cX8_canAnswerAllAcross 45 = .ok (.getfield 103, 3) := by decide +kernel
theorem dX8_canAnswerAllAcross_48 : decode cX8_canAnswerAllAcross 48 = .ok (.aload 5, 2) := by decide +kernel
theorem dX8_canAnswerAllAcross_50 : decode cX8_canAnswerAllAcross 50 = .ok (.getfield 96, 3) := by decide +kernel
theorem dX8_canAnswerAllAcross_53 : decode cX8_canAnswerAllAcross 53 = .ok (.iand, 1) := by decide +kernel
theorem dX8_canAnswerAllAcross_54 : decode cX8_canAnswerAllAcross 54 = .ok (.ifCond .eq 5, 3) := by decide +kernel
theorem dX8_canAnswerAllAcross_57 : decode cX8_canAnswerAllAcross 57 = .ok (.iconst 0, 1) := by decide +kernel
theorem dX8_canAnswerAllAcross_58 : decode cX8_canAnswerAllAcross 58 = .ok (.ireturn, 1) := by decide +kernel
theorem dX8_canAnswerAllAcross_59 : decode cX8_canAnswerAllAcross 59 = .ok (.iinc 4 1, 3) := by decide +kernel
theorem dX8_canAnswerAllAcross_62 : decode cX8_canAnswerAllAcross 62 = .ok (.goto (-51), 3) := by decide +kernel
theorem dX8_canAnswerAllAcross_65 : decode cX8_canAnswerAllAcross 65 = .ok (.iconst 1, 1) := by decide +kernel
theorem dX8_canAnswerAllAcross_66 : decode cX8_canAnswerAllAcross 66 = .ok (.ireturn, 1) := by decide +kernel
theorem dX9_init_0 : decode cX9_init 0 = .ok (.aload_n 0, 1) := by decide +kernel
theorem dX9_init_1 : decode cX9_init 1 = .ok (.invokespecial 3, 3) := by decide +kernel
theorem dX9_init_4 : decode cX9_init 4 = .ok (.aload_n 0, 1) := by decide +kernel
theorem dX9_init_5 : decode cX9_init 5 = .ok (.new 9, 3) := by decide +kernel
theorem dX9_init_8 : decode cX9_init 8 = .ok (.dup, 1) := by decide +kernel
theorem dX9_init_9 : decode cX9_init 9 = .ok (.invokespecial 11, 3) := by decide +kernel
theorem dX9_init_12 : decode cX9_init 12 = .ok (.putfield 12, 3) := by decide +kernel
theorem dX9_init_15 : decode cX9_init 15 = .ok (.aload_n 0, 1) := by decide +kernel
theorem dX9_init_16 : decode cX9_init 16 = .ok (.aload_n 1, 1) := by decide +kernel
theorem dX9_init_17 : decode cX9_init 17 = .ok (.putfield 18, 3) := by decide +kernel
theorem dX9_init_20 : decode cX9_init 20 = .ok (.aload_n 0, 1) := by decide +kernel
theorem dX9_init_21 : decode cX9_init 21 = .ok (.aload_n 2, 1) := by decide +kernel
theorem dX9_init_22 : decode cX9_init 22 = .ok (.putfield 22, 3) := by decide +kernel
theorem dX9_init_25 : decode cX9_init 25 = .ok (.return_, 1) := by decide +kernel
theorem dX9_readAll_0 : decode cX9_readAll 0 = .ok (.aload_n 0, 1) := by decide +kernel
theorem dX9_readAll_1 : decode cX9_readAll 1 = .ok (.getfield 18, 3) := by decide +kernel
theorem dX9_readAll_4 : decode cX9_readAll 4 = .ok (.invokevirtual 26, 3) := by decide +kernel
theorem dX9_readAll_7 : decode cX9_readAll 7 = .ok (.iconst 0, 1) := by decide +kernel
theorem dX9_readAll_8 : decode cX9_readAll 8 = .ok (.istore_n 1, 1) := by decide +kernel
theorem dX9_readAll_9 : decode cX9_readAll 9 = .ok (.iload_n 1, 1) := by decide +kernel
theorem dX9_readAll_10 : decode cX9_readAll 10 = .ok (.aload_n 0, 1) := by decide +kernel
theorem dX9_readAll_11 : decode cX9_readAll 11 = .ok (.getfield 18, 3) := by decide +kernel
theorem dX9_readAll_14 : decode cX9_readAll 14 = .ok (.getfield 31, 3) := by decide +kernel
theorem dX9_readAll_17 : decode cX9_readAll 17 = .ok (.if_icmp .gt 142, 3) := by decide +kernel
theorem dX9_readAll_20 : decode cX9_readAll 20 = .ok (.aload_n 0, 1) := by decide +kernel
theorem dX9_readAll_21 : decode cX9_readAll 21 = .ok (.getfield 18, 3) := by decide +kernel
theorem dX9_readAll_24 : decode cX9_readAll 24 = .ok (.ldc 35, 2) := by decide +kernel
theorem dX9_readAll_26 : decode cX9_readAll 26 = .ok (.invokevirtual 36, 3) := by decide +kernel
theorem dX9_readAll_29 : decode cX9_readAll 29 = .ok (.ifCond .eq 10, 3) := by decide +kernel
theorem dX9_readAll_32 : decode cX9_readAll 32 = .ok (.aload_n 0, 1) := by decide +kernel
theorem dX9_readAll_33 : decode cX9_readAll 33 = .ok (.invokevirtual 40, 3) := by decide +kernel
theorem dX9_readAll_36 : decode cX9_readAll 36 = .ok (.goto 84, 3) := by decide +kernel
theorem dX9_readAll_39 : decode cX9_readAll 39 = .ok (.aload_n 0, 1) := by decide +kernel
theorem dX9_readAll_40 : decode cX9_readAll 40 = .ok (.getfield 18, 3) := by decide +kernel
theorem dX9_readAll_43 : decode cX9_readAll 43 = .ok (.ldc 44, 2) := by decide +kernel
theorem dX9_readAll_45 : decode cX9_readAll 45 = .ok (.invokevirtual 36, 3) := by decide +kernel
theorem dX9_readAll_48 : decode cX9_readAll 48 = .ok (.ifCond .eq 10, 3) := by decide +kernel
theorem dX9_readAll_51 : decode cX9_readAll 51 = .ok (.aload_n 0, 1) := by decide +kernel
theorem dX9_readAll_52 : decode cX9_readAll 52 = .ok (.invokevirtual 46, 3) := by decide +kernel
theorem dX9_readAll_55 : decode cX9_readAll 55 = .ok (.goto 65, 3) := by decide +kernel
theorem dX9_readAll_58 : decode cX9_readAll 58 = .ok (.aload_n 0, 1) := by decide +kernel
theorem dX9_readAll_59 : decode cX9_readAll 59 = .ok (.getfield 18, 3) := by decide +kernel
theorem dX9_readAll_62 : decode cX9_readAll 62 = .ok (.ldc 49, 2) := by decide +kernel
theorem dX9_readAll_64 : decode cX9_readAll 64 = .ok (.invokevirtual 36, 3) := by decide +kernel
theorem dX9_readAll_67 : decode cX9_readAll 67 = .ok (.ifCond .eq 10, 3) := by decide +kernel
theorem dX9_readAll_70 : decode cX9_readAll 70 = .ok (.aload_n 0, 1) := by decide +kernel
theorem dX9_readAll_71 : decode cX9_readAll 71 = .ok (.invokevirtual 51, 3) := by decide +kernel
theorem dX9_readAll_74 : decode cX9_readAll 74 = .ok (.goto 46, 3) := by decide +kernel
theorem dX9_readAll_77 : decode cX9_readAll 77 = .ok (.aload_n 0, 1) := by decide +kernel
theorem dX9_readAll_78 : decode cX9_readAll 78 = .ok (.getfield 18, 3) := by decide +kernel
theorem dX9_readAll_81 : decode cX9_readAll 81 = .ok (.ldc 54, 2) := by decide +kernel
theorem dX9_readAll_83 : decode cX9_readAll 83 = .ok (.invokevirtual 36, 3) := by decide +kernel
theorem dX9_readAll_86 : decode cX9_readAll 86 = .ok (.ifCond .eq 10, 3) := by decide +kernel
theorem dX9_readAll_89 : decode cX9_readAll 89 = .ok (.aload_n 0, 1) := by decide +kernel
theorem dX9_readAll_90 : decode cX9_readAll 90 = .ok (.invokevirtual 56, 3) := by decide +kernel
theorem dX9_readAll_93 : decode cX9_readAll 93 = .ok (.goto 27, 3) := by decide +kernel
theorem dX9_readAll_96 : decode cX9_readAll 96 = .ok (.aload_n 0, 1) := by decide +kernel
theorem dX9_readAll_97 : decode cX9_readAll 97 = .ok (.getfield 18, 3) := by decide +kernel
theorem dX9_readAll_100 : decode cX9_readAll 100 = .ok (.ldc 59, 2) := by decide +kernel
theorem dX9_readAll_102 : decode cX9_readAll 102 = .ok (.invokevirtual 36, 3) := by decide +kernel
theorem dX9_readAll_105 : decode cX9_readAll 105 = .ok (.ifCond .eq 10, 3) := by decide +kernel
theorem dX9_readAll_108 : decode cX9_readAll 108 = .ok (.aload_n 0, 1) := by decide +kernel
theorem dX9_readAll_109 : decode cX9_readAll 109 = .ok (.invokevirtual 61, 3) := by decide +kernel
theorem dX9_readAll_112 : decode cX9_readAll 112 = .ok (.goto 8, 3) := by decide +kernel
theorem dX9_readAll_115 : decode cX9_readAll 115 = .ok (.aload_n 0, 1) := by decide +kernel
theorem dX9_readAll_116 : decode cX9_readAll 116 = .ok (.iconst 1, 1) := by decide +kernel
theorem dX9_readAll_117 : decode cX9_readAll 117 = .ok (.invokevirtual 64, 3) := by decide +kernel
theorem dX9_readAll_120 : decode cX9_readAll 120 = .ok (.istore_n 2, 1) := by decide +kernel
theorem dX9_readAll_121 : decode cX9_readAll 121 = .ok (.iload_n 2, 1) := by decide +kernel
theorem dX9_readAll_122 : decode cX9_readAll 122 = .ok (.ifCond .ne 5, 3) := by decide +kernel
theorem dX9_readAll_125 : decode cX9_readAll 125 = .ok (.iconst 0, 1) := by decide +kernel
theorem dX9_readAll_126 : decode cX9_readAll 126 = .ok (.ireturn, 1) := by decide +kernel
theorem dX9_readAll_127 : decode cX9_readAll 127 = .ok (.aload_n 0, 1) := by decide +kernel
theorem dX9_readAll_128 : decode cX9_readAll 128 = .ok (.getfield 18, 3) := by decide +kernel
theorem dX9_readAll_131 : decode cX9_readAll 131 = .ok (.getfield 68, 3) := by decide +kernel
theorem dX9_readAll_134 : decode cX9_readAll 134 = .ok (.ifCond .ne 8, 3) := by decide +kernel
theorem dX9_readAll_137 : decode cX9_readAll 137 = .ok (.aload_n 0, 1) := by decide +kernel
theorem dX9_readAll_138 : decode cX9_readAll 138 = .ok (.invokevirtual 71, 3) := by decide +kernel
theorem dX9_readAll_141 : decode cX9_readAll 141 = .ok (.ireturn, 1) := by decide +kernel
theorem dX9_readAll_142 : decode cX9_readAll 142 = .ok (.aload_n 0, 1) := by decide +kernel
theorem dX9_readAll_143 : decode cX9_readAll 143 = .ok (.bipush 59, 2) := by decide +kernel
theorem dX9_readAll_145 : decode cX9_readAll 145 = .ok (.invokevirtual 74, 3) := by decide +kernel
theorem dX9_readAll_148 : decode cX9_readAll 148 = .ok (.ifCond .ne 5, 3) := by decide +kernel
theorem dX9_readAll_151 : decode cX9_readAll 151 = .ok (.iconst 0, 1) := by decide +kernel
theorem dX9_readAll_152 : decode cX9_readAll 152 = .ok (.ireturn, 1) := by decide +kernel
theorem dX9_readAll_153 : decode cX9_readAll 153 = .ok (.iinc 1 1, 3) := by decide +kernel
theorem dX9_readAll_156 : decode cX9_readAll 156 = .ok (.goto (-147), 3) := by decide +kernel
theorem dX9_readAll_159 : decode cX9_readAll 159 = .ok (.aload_n 0, 1) := by decide +kernel
theorem dX9_readAll_160 : decode cX9_readAll 160 = .ok (.iconst 1, 1) := by decide +kernel
theorem dX9_readAll_161 : decode cX9_readAll 161 = .ok (.invokevirtual 64, 3) := by decide +kernel
theorem dX9_readAll_164 : decode cX9_readAll 164 = .ok (.ireturn, 1) := by decide +kernel
theorem dX9_readEnd_0 : decode cX9_readEnd 0 = .ok (.aload_n 0, 1) := by decide +kernel
theorem dX9_readEnd_1 : decode cX9_readEnd 1 = .ok (.getfield 12, 3) := by decide +kernel
theorem dX9_readEnd_4 : decode cX9_readEnd 4 = .ok (.getfield 78, 3) := by decide +kernel
theorem dX9_readEnd_7 : decode cX9_readEnd 7 = .ok (.ifCond .eq 29, 3) := by decide +kernel
theorem dX9_readEnd_10 : decode cX9_readEnd 10 = .ok (.aload_n 0, 1) := by decide +kernel
theorem dX9_readEnd_11 : decode cX9_readEnd 11 = .ok (.getfield 12, 3) := by decide +kernel
theorem dX9_readEnd_14 : decode cX9_readEnd 14 = .ok (.getfield 82, 3) := by decide +kernel
theorem dX9_readEnd_17 : decode cX9_readEnd 17 = .ok (.invokevirtual 86, 3) := by decide +kernel
theorem dX9_readEnd_20 : decode cX9_readEnd 20 = .ok (.ifCond .ne 16, 3) := by decide +kernel
theorem dX9_readEnd_23 : decode cX9_readEnd 23 = .ok (.aload_n 0, 1) := by decide +kernel
theorem dX9_readEnd_24 : decode cX9_readEnd 24 = .ok (.getfield 12, 3) := by decide +kernel
theorem dX9_readEnd_27 : decode cX9_readEnd 27 = .ok (.getfield 91, 3) := by decide +kernel
theorem dX9_readEnd_30 : decode cX9_readEnd 30 = .ok (.invokevirtual 86, 3) := by decide +kernel
theorem dX9_readEnd_33 : decode cX9_readEnd 33 = .ok (.ifCond .eq 10, 3) := by decide +kernel
theorem dX9_readEnd_36 : decode cX9_readEnd 36 = .ok (.aload_n 0, 1) := by decide +kernel
theorem dX9_readEnd_37 : decode cX9_readEnd 37 = .ok (.bipush 6, 2) := by decide +kernel
theorem dX9_readEnd_39 : decode cX9_readEnd 39 = .ok (.invokevirtual 64, 3) := by decide +kernel
theorem dX9_readEnd_42 : decode cX9_readEnd 42 = .ok (.ireturn, 1) := by decide +kernel
theorem dX9_readEnd_43 : decode cX9_readEnd 43 = .ok (.aload_n 0, 1) := by decide +kernel
theorem dX9_readEnd_44 : decode cX9_readEnd 44 = .ok (.getfield 12, 3) := by decide +kernel
theorem dX9_readEnd_47 : decode cX9_readEnd 47 = .ok (.invokevirtual 94, 3) := by decide +kernel
theorem dX9_readEnd_50 : decode cX9_readEnd 50 = .ok (.iconst 1, 1) := by decide +kernel
theorem dX9_readEnd_51 : decode cX9_readEnd 51 = .ok (.ireturn, 1) := by decide +kernel
theorem dX9_readTable_0 : decode cX9_readTable 0 = .ok (.aload_n 0, 1) := by decide +kernel
theorem dX9_readTable_1 : decode cX9_readTable 1 = .ok (.getfield 12, 3) := by decide +kernel
theorem dX9_readTable_4 : decode cX9_readTable 4 = .ok (.getfield 78, 3) := by decide +kernel
theorem dX9_readTable_7 : decode cX9_readTable 7 = .ok (.ifCond .eq 9, 3) := by decide +kernel
theorem dX9_readTable_10 : decode cX9_readTable 10 = .ok (.aload_n 0, 1) := by decide +kernel
theorem dX9_readTable_11 : decode cX9_readTable 11 = .ok (.iconst 3, 1) := by decide +kernel
theorem dX9_readTable_12 : decode cX9_readTable 12 = .ok (.invokevirtual 64, 3) := by decide +kernel
theorem dX9_readTable_15 : decode cX9_readTable 15 = .ok (.ireturn, 1) := by decide +kernel
theorem dX9_readTable_16 : decode cX9_readTable 16 = .ok (.aload_n 0, 1) := by decide +kernel
theorem dX9_readTable_17 : decode cX9_readTable 17 = .ok (.getfield 18, 3) := by decide +kernel
theorem dX9_readTable_20 : decode cX9_readTable 20 = .ok (.invokevirtual 26, 3) := by decide +kernel
theorem dX9_readTable_23 : decode cX9_readTable 23 = .ok (.aload_n 0, 1) := by decide +kernel
theorem dX9_readTable_24 : decode cX9_readTable 24 = .ok (.getfield 18, 3) := by decide +kernel
theorem dX9_readTable_27 : decode cX9_readTable 27 = .ok (.ldc 97, 2) := by decide +kernel
theorem dX9_readTable_29 : decode cX9_readTable 29 = .ok (.invokevirtual 36, 3) := by decide +kernel
theorem dX9_readTable_32 : decode cX9_readTable 32 = .ok (.ifCond .ne 21, 3) := by decide +kernel
theorem dX9_readTable_35 : decode cX9_readTable 35 = .ok (.aload_n 0, 1) := by decide +kernel
theorem dX9_readTable_36 : decode cX9_readTable 36 = .ok (.getfield 18, 3) := by decide +kernel
theorem dX9_readTable_39 : decode cX9_readTable 39 = .ok (.ldc 99, 2) := by decide +kernel
theorem dX9_readTable_41 : decode cX9_readTable 41 = .ok (.invokevirtual 36, 3) := by decide +kernel
theorem dX9_readTable_44 : decode cX9_readTable 44 = .ok (.ifCond .ne 9, 3) := by decide +kernel
theorem dX9_readTable_47 : decode cX9_readTable 47 = .ok (.aload_n 0, 1) := by decide +kernel
theorem dX9_readTable_48 : decode cX9_readTable 48 = .ok (.iconst 1, 1) := by decide +kernel
theorem dX9_readTable_49 : decode cX9_readTable 49 = .ok (.invokevirtual 64, 3) := by decide +kernel
theorem dX9_readTable_52 : decode cX9_readTable 52 = .ok (.ireturn, 1) := by decide +kernel
theorem dX9_readTable_53 : decode cX9_readTable 53 = .ok (.aload_n 0, 1) := by decide +kernel
theorem dX9_readTable_54 : decode cX9_readTable 54 = .ok (.getfield 12, 3) := by decide +kernel
theorem dX9_readTable_57 : decode cX9_readTable 57 = .ok (.iconst 1, 1) := by decide +kernel
theorem dX9_readTable_58 : decode cX9_readTable 58 = .ok (.putfield 78, 3) := by decide +kernel
theorem dX9_readTable_61 : decode cX9_readTable 61 = .ok (.aload_n 0, 1) := by decide +kernel
theorem dX9_readTable_62 : decode cX9_readTable 62 = .ok (.getfield 12, 3) := by decide +kernel
theorem dX9_readTable_65 : decode cX9_readTable 65 = .ok (.aload_n 0, 1) := by decide +kernel
theorem dX9_readTable_66 : decode cX9_readTable 66 = .ok (.getfield 18, 3) := by decide +kernel
theorem dX9_readTable_69 : decode cX9_readTable 69 = .ok (.ldc 99, 2) := by decide +kernel
theorem dX9_readTable_71 : decode cX9_readTable 71 = .ok (.invokevirtual 36, 3) := by decide +kernel
theorem dX9_readTable_74 : decode cX9_readTable 74 = .ok (.putfield 101, 3) := by decide +kernel
theorem dX9_readTable_77 : decode cX9_readTable 77 = .ok (.aload_n 0, 1) := by decide +kernel
theorem dX9_readTable_78 : decode cX9_readTable 78 = .ok (.getfield 18, 3) := by decide +kernel
theorem dX9_readTable_81 : decode cX9_readTable 81 = .ok (.invokevirtual 26, 3) := by decide +kernel
theorem dX9_readTable_84 : decode cX9_readTable 84 = .ok (.aload_n 0, 1) := by decide +kernel
theorem dX9_readTable_85 : decode cX9_readTable 85 = .ok (.getfield 12, 3) := by decide +kernel
theorem dX9_readTable_88 : decode cX9_readTable 88 = .ok (.aload_n 0, 1) := by decide +kernel
theorem dX9_readTable_89 : decode cX9_readTable 89 = .ok (.ldc 103, 2) := by decide +kernel
theorem dX9_readTable_91 : decode cX9_readTable 91 = .ok (.invokevirtual 105, 3) := by decide +kernel
theorem dX9_readTable_94 : decode cX9_readTable 94 = .ok (.putfield 108, 3) := by decide +kernel
theorem dX9_readTable_97 : decode cX9_readTable 97 = .ok (.iconst 1, 1) := by decide +kernel
theorem dX9_readTable_98 : decode cX9_readTable 98 = .ok (.ireturn, 1) := by decide +kernel
theorem dX9_readBoard_0 : decode cX9_readBoard 0 = .ok (.aload_n 0, 1) := by decide +kernel
theorem dX9_readBoard_1 : decode cX9_readBoard 1 = .ok (.aload_n 0, 1) := by decide +kernel
theorem dX9_readBoard_2 : decode cX9_readBoard 2 = .ok (.getfield 12, 3) := by decide +kernel
theorem dX9_readBoard_5 : decode cX9_readBoard 5 = .ok (.getfield 82, 3) := by decide +kernel
theorem dX9_readBoard_8 : decode cX9_readBoard 8 = .ok (.invokevirtual 110, 3) := by decide +kernel
theorem dX9_readBoard_11 : decode cX9_readBoard 11 = .ok (.iconst 3, 1) := by decide +kernel
theorem dX9_readBoard_12 : decode cX9_readBoard 12 = .ok (.if_icmp .ge 7, 3) := by decide +kernel
theorem dX9_readBoard_15 : decode cX9_readBoard 15 = .ok (.iconst 1, 1) := by decide +kernel
theorem dX9_readBoard_16 : decode cX9_readBoard 16 = .ok (.goto 4, 3) := by decide +kernel
theorem dX9_readBoard_19 : decode cX9_readBoard 19 = .ok (.iconst 0, 1) := by decide +kernel
theorem dX9_readBoard_20 : decode cX9_readBoard 20 = .ok (.invokevirtual 114, 3) := by decide +kernel
theorem dX9_readBoard_23 : decode cX9_readBoard 23 = .ok (.ifCond .eq 10, 3) := by decide +kernel
theorem dX9_readBoard_26 : decode cX9_readBoard 26 = .ok (.aload_n 0, 1) := by decide +kernel
theorem dX9_readBoard_27 : decode cX9_readBoard 27 = .ok (.invokevirtual 118, 3) := by decide +kernel
theorem dX9_readBoard_30 : decode cX9_readBoard 30 = .ok (.ifCond .ne 5, 3) := by decide +kernel
theorem dX9_readBoard_33 : decode cX9_readBoard 33 = .ok (.iconst 0, 1) := by decide +kernel
theorem dX9_readBoard_34 : decode cX9_readBoard 34 = .ok (.ireturn, 1) := by decide +kernel
theorem dX9_readBoard_35 : decode cX9_readBoard 35 = .ok (.aload_n 0, 1) := by decide +kernel
theorem dX9_readBoard_36 : decode cX9_readBoard 36 = .ok (.ldc 121, 2) := by decide +kernel
theorem dX9_readBoard_38 : decode cX9_readBoard 38 = .ok (.invokevirtual 123, 3) := by decide +kernel
theorem dX9_readBoard_41 : decode cX9_readBoard 41 = .ok (.ifCond .eq 13, 3) := by decide +kernel
theorem dX9_readBoard_44 : decode cX9_readBoard 44 = .ok (.aload_n 0, 1) := by decide +kernel
theorem dX9_readBoard_45 : decode cX9_readBoard 45 = .ok (.iconst 1, 1) := by decide +kernel
theorem dX9_readBoard_46 : decode cX9_readBoard 46 = .ok (.bipush 8, 2) := by decide +kernel
theorem dX9_readBoard_48 : decode cX9_readBoard 48 = .ok (.invokevirtual 126, 3) := by decide +kernel
theorem dX9_readBoard_51 : decode cX9_readBoard 51 = .ok (.ifCond .ne 5, 3) := by decide +kernel
theorem dX9_readBoard_54 : decode cX9_readBoard 54 = .ok (.iconst 0, 1) := by decide +kernel
theorem dX9_readBoard_55 : decode cX9_readBoard 55 = .ok (.ireturn, 1) := by decide +kernel
theorem dX9_readBoard_56 : decode cX9_readBoard 56 = .ok (.aload_n 0, 1) := by decide +kernel
theorem dX9_readBoard_57 : decode cX9_readBoard 57 = .ok (.getfield 18, 3) := by decide +kernel
theorem dX9_readBoard_60 : decode cX9_readBoard 60 = .ok (.invokevirtual 130, 3) := by decide +kernel
theorem dX9_readBoard_63 : decode cX9_readBoard 63 = .ok (.istore_n 1, 1) := by decide +kernel
theorem dX9_readBoard_64 : decode cX9_readBoard 64 = .ok (.aload_n 0, 1) := by decide +kernel
theorem dX9_readBoard_65 : decode cX9_readBoard 65 = .ok (.getfield 18, 3) := by decide +kernel
theorem dX9_readBoard_68 : decode cX9_readBoard 68 = .ok (.invokevirtual 26, 3) := by decide +kernel
theorem dX9_readBoard_71 : decode cX9_readBoard 71 = .ok (.aload_n 0, 1) := by decide +kernel
theorem dX9_readBoard_72 : decode cX9_readBoard 72 = .ok (.ldc 133, 2) := by decide +kernel
theorem dX9_readBoard_74 : decode cX9_readBoard 74 = .ok (.invokevirtual 123, 3) := by decide +kernel
theorem dX9_readBoard_77 : decode cX9_readBoard 77 = .ok (.ifCond .eq 12, 3) := by decide +kernel
theorem dX9_readBoard_80 : decode cX9_readBoard 80 = .ok (.aload_n 0, 1) := by decide +kernel
theorem dX9_readBoard_81 : decode cX9_readBoard 81 = .ok (.iconst 1, 1) := by decide +kernel
theorem dX9_readBoard_82 : decode cX9_readBoard 82 = .ok (.iconst 4, 1) := by decide +kernel
theorem dX9_readBoard_83 : decode cX9_readBoard 83 = .ok (.invokevirtual 126, 3) := by decide +kernel
theorem dX9_readBoard_86 : decode cX9_readBoard 86 = .ok (.ifCond .ne 5, 3) := by decide +kernel
theorem dX9_readBoard_89 : decode cX9_readBoard 89 = .ok (.iconst 0, 1) := by decide +kernel
theorem dX9_readBoard_90 : decode cX9_readBoard 90 = .ok (.ireturn, 1) := by decide +kernel
theorem dX9_readBoard_91 : decode cX9_readBoard 91 = .ok (.aload_n 0, 1) := by decide +kernel
theorem dX9_readBoard_92 : decode cX9_readBoard 92 = .ok (.getfield 18, 3) := by decide +kernel
theorem dX9_readBoard_95 : decode cX9_readBoard 95 = .ok (.invokevirtual 130, 3) := by decide +kernel
theorem dX9_readBoard_98 : decode cX9_readBoard 98 = .ok (.istore_n 2, 1) := by decide +kernel
theorem dX9_readBoard_99 : decode cX9_readBoard 99 = .ok (.aload_n 0, 1) := by decide +kernel
theorem dX9_readBoard_100 : decode cX9_readBoard 100 = .ok (.getfield 12, 3) := by decide +kernel
theorem dX9_readBoard_103 : decode cX9_readBoard 103 = .ok (.getfield 135, 3) := by decide +kernel
theorem dX9_readBoard_106 : decode cX9_readBoard 106 = .ok (.iload_n 1, 1) := by decide +kernel
theorem dX9_readBoard_107 : decode cX9_readBoard 107 = .ok (.iload_n 2, 1) := by decide +kernel
theorem dX9_readBoard_108 : decode cX9_readBoard 108 = .ok (.imul, 1) := by decide +kernel
theorem dX9_readBoard_109 : decode cX9_readBoard 109 = .ok (.iadd, 1) := by decide +kernel
theorem dX9_readBoard_110 : decode cX9_readBoard 110 = .ok (.bipush 14, 2) := by decide +kernel
theorem dX9_readBoard_112 : decode cX9_readBoard 112 = .ok (.if_icmp .le 9, 3) := by decide +kernel
theorem dX9_readBoard_115 : decode cX9_readBoard 115 = .ok (.aload_n 0, 1) := by decide +kernel
theorem dX9_readBoard_116 : decode cX9_readBoard 116 = .ok (.iconst 4, 1) := by decide +kernel
theorem dX9_readBoard_117 : decode cX9_readBoard 117 = .ok (.invokevirtual 64, 3) := by decide +kernel
theorem dX9_readBoard_120 : decode cX9_readBoard 120 = .ok (.ireturn, 1) := by decide +kernel
theorem dX9_readBoard_121 : decode cX9_readBoard 121 = .ok (.aload_n 0, 1) := by decide +kernel
theorem dX9_readBoard_122 : decode cX9_readBoard 122 = .ok (.getfield 12, 3) := by decide +kernel
theorem dX9_readBoard_125 : decode cX9_readBoard 125 = .ok (.aload_n 0, 1) := by decide +kernel
theorem dX9_readBoard_126 : decode cX9_readBoard 126 = .ok (.getfield 138, 3) := by decide +kernel
theorem dX9_readBoard_129 : decode cX9_readBoard 129 = .ok (.iload_n 1, 1) := by decide +kernel
theorem dX9_readBoard_130 : decode cX9_readBoard 130 = .ok (.iload_n 2, 1) := by decide +kernel
theorem dX9_readBoard_131 : decode cX9_readBoard 131 = .ok (.invokevirtual 142, 3) := by decide +kernel
theorem dX9_readBoard_134 : decode cX9_readBoard 134 = .ok (.aload_n 0, 1) := by decide +kernel
theorem dX9_readBoard_135 : decode cX9_readBoard 135 = .ok (.getfield 18, 3) := by decide +kernel
theorem dX9_readBoard_138 : decode cX9_readBoard 138 = .ok (.invokevirtual 26, 3) := by decide +kernel
theorem dX9_readBoard_141 : decode cX9_readBoard 141 = .ok (.iconst 1, 1) := by decide +kernel
theorem dX9_readBoard_142 : decode cX9_readBoard 142 = .ok (.ireturn, 1) := by decide +kernel
theorem dX9_readJug_0 : decode cX9_readJug 0 = .ok (.aload_n 0, 1) := by decide +kernel
theorem dX9_readJug_1 : decode cX9_readJug 1 = .ok (.iconst 1, 1) := by decide +kernel
theorem dX9_readJug_2 : decode cX9_readJug 2 = .ok (.invokevirtual 114, 3) := by decide +kernel
theorem dX9_readJug_5 : decode cX9_readJug 5 = .ok (.ifCond .ne 5, 3) := by decide +kernel
theorem dX9_readJug_8 : decode cX9_readJug 8 = .ok (.iconst 0, 1) := by decide +kernel
theorem dX9_readJug_9 : decode cX9_readJug 9 = .ok (.ireturn, 1) := by decide +kernel
theorem dX9_readJug_10 : decode cX9_readJug 10 = .ok (.aload_n 0, 1) := by decide +kernel
theorem dX9_readJug_11 : decode cX9_readJug 11 = .ok (.getfield 18, 3) := by decide +kernel
theorem dX9_readJug_14 : decode cX9_readJug 14 = .ok (.invokevirtual 146, 3) := by decide +kernel
theorem dX9_readJug_17 : decode cX9_readJug 17 = .ok (.ifCond .ne 9, 3) := by decide +kernel
theorem dX9_readJug_20 : decode cX9_readJug 20 = .ok (.aload_n 0, 1) := by decide +kernel
theorem dX9_readJug_21 : decode cX9_readJug 21 = .ok (.iconst 1, 1) := by decide +kernel
theorem dX9_readJug_22 : decode cX9_readJug 22 = .ok (.invokevirtual 64, 3) := by decide +kernel
theorem dX9_readJug_25 : decode cX9_readJug 25 = .ok (.ireturn, 1) := by decide +kernel
theorem dX9_readJug_26 : decode cX9_readJug 26 = .ok (.aload_n 0, 1) := by decide +kernel
theorem dX9_readJug_27 : decode cX9_readJug 27 = .ok (.getfield 12, 3) := by decide +kernel
theorem dX9_readJug_30 : decode cX9_readJug 30 = .ok (.aload_n 0, 1) := by decide +kernel
theorem dX9_readJug_31 : decode cX9_readJug 31 = .ok (.getfield 18, 3) := by decide +kernel
theorem dX9_readJug_34 : decode cX9_readJug 34 = .ok (.invokevirtual 149, 3) := by decide +kernel
theorem dX9_readJug_37 : decode cX9_readJug 37 = .ok (.invokevirtual 153, 3) := by decide +kernel
theorem dX9_readJug_40 : decode cX9_readJug 40 = .ok (.astore_n 1, 1) := by decide +kernel
theorem dX9_readJug_41 : decode cX9_readJug 41 = .ok (.aload_n 1, 1) := by decide +kernel
theorem dX9_readJug_42 : decode cX9_readJug 42 = .ok (.ifnonnull 9, 3) := by decide +kernel
theorem dX9_readJug_45 : decode cX9_readJug 45 = .ok (.aload_n 0, 1) := by decide +kernel
theorem dX9_readJug_46 : decode cX9_readJug 46 = .ok (.iconst 2, 1) := by decide +kernel
theorem dX9_readJug_47 : decode cX9_readJug 47 = .ok (.invokevirtual 64, 3) := by decide +kernel
theorem dX9_readJug_50 : decode cX9_readJug 50 = .ok (.ireturn, 1) := by decide +kernel
theorem dX9_readJug_51 : decode cX9_readJug 51 = .ok (.aload_n 0, 1) := by decide +kernel
theorem dX9_readJug_52 : decode cX9_readJug 52 = .ok (.getfield 18, 3) := by decide +kernel
theorem dX9_readJug_55 : decode cX9_readJug 55 = .ok (.invokevirtual 26, 3) := by decide +kernel
theorem dX9_readJug_58 : decode cX9_readJug 58 = .ok (.aload_n 0, 1) := by decide +kernel
theorem dX9_readJug_59 : decode cX9_readJug 59 = .ok (.iconst 0, 1) := by decide +kernel
theorem dX9_readJug_60 : decode cX9_readJug 60 = .ok (.aload_n 1, 1) := by decide +kernel
theorem dX9_readJug_61 : decode cX9_readJug 61 = .ok (.getfield 157, 3) := by decide +kernel
theorem dX9_readJug_64 : decode cX9_readJug 64 = .ok (.iconst 1, 1) := by decide +kernel
theorem dX9_readJug_65 : decode cX9_readJug 65 = .ok (.isub, 1) := by decide +kernel
theorem dX9_readJug_66 : decode cX9_readJug 66 = .ok (.aload_n 1, 1) := by decide +kernel
theorem dX9_readJug_67 : decode cX9_readJug 67 = .ok (.getfield 161, 3) := by decide +kernel
theorem dX9_readJug_70 : decode cX9_readJug 70 = .ok (.iconst 1, 1) := by decide +kernel
theorem dX9_readJug_71 : decode cX9_readJug 71 = .ok (.isub, 1) := by decide +kernel
theorem dX9_readJug_72 : decode cX9_readJug 72 = .ok (.invokevirtual 163, 3) := by decide +kernel
theorem dX9_readJug_75 : decode cX9_readJug 75 = .ok (.ifCond .ne 5, 3) := by decide +kernel
theorem dX9_readJug_78 : decode cX9_readJug 78 = .ok (.iconst 0, 1) := by decide +kernel
theorem dX9_readJug_79 : decode cX9_readJug 79 = .ok (.ireturn, 1) := by decide +kernel
theorem dX9_readJug_80 : decode cX9_readJug 80 = .ok (.aload_n 1, 1) := by decide +kernel
theorem dX9_readJug_81 : decode cX9_readJug 81 = .ok (.aload_n 0, 1) := by decide +kernel
theorem dX9_readJug_82 : decode cX9_readJug 82 = .ok (.getfield 167, 3) := by decide +kernel
theorem dX9_readJug_85 : decode cX9_readJug 85 = .ok (.aload_n 0, 1) := by decide +kernel
theorem dX9_readJug_86 : decode cX9_readJug 86 = .ok (.getfield 170, 3) := by decide +kernel
theorem dX9_readJug_89 : decode cX9_readJug 89 = .ok (.invokevirtual 173, 3) := by decide +kernel
theorem dX9_readJug_92 : decode cX9_readJug 92 = .ok (.istore_n 2, 1) := by decide +kernel
theorem dX9_readJug_93 : decode cX9_readJug 93 = .ok (.aload_n 0, 1) := by decide +kernel
theorem dX9_readJug_94 : decode cX9_readJug 94 = .ok (.getfield 12, 3) := by decide +kernel
theorem dX9_readJug_97 : decode cX9_readJug 97 = .ok (.getfield 177, 3) := by decide +kernel
theorem dX9_readJug_100 : decode cX9_readJug 100 = .ok (.iload_n 2, 1) := by decide +kernel
theorem dX9_readJug_101 : decode cX9_readJug 101 = .ok (.iand, 1) := by decide +kernel
theorem dX9_readJug_102 : decode cX9_readJug 102 = .ok (.ifCond .eq 9, 3) := by decide +kernel
theorem dX9_readJug_105 : decode cX9_readJug 105 = .ok (.aload_n 0, 1) := by decide +kernel
theorem dX9_readJug_106 : decode cX9_readJug 106 = .ok (.iconst 3, 1) := by decide +kernel
theorem dX9_readJug_107 : decode cX9_readJug 107 = .ok (.invokevirtual 64, 3) := by decide +kernel
theorem dX9_readJug_110 : decode cX9_readJug 110 = .ok (.ireturn, 1) := by decide +kernel
theorem dX9_readJug_111 : decode cX9_readJug 111 = .ok (.aload_n 0, 1) := by decide +kernel
theorem dX9_readJug_112 : decode cX9_readJug 112 = .ok (.getfield 12, 3) := by decide +kernel
theorem dX9_readJug_115 : decode cX9_readJug 115 = .ok (.dup, 1) := by decide +kernel
theorem dX9_readJug_116 : decode cX9_readJug 116 = .ok (.getfield 177, 3) := by decide +kernel
theorem dX9_readJug_119 : decode cX9_readJug 119 = .ok (.iload_n 2, 1) := by decide +kernel
theorem dX9_readJug_120 : decode cX9_readJug 120 = .ok (.ior, 1) := by decide +kernel
theorem dX9_readJug_121 : decode cX9_readJug 121 = .ok (.putfield 177, 3) := by decide +kernel
theorem dX9_readJug_124 : decode cX9_readJug 124 = .ok (.aload_n 0, 1) := by decide +kernel
theorem dX9_readJug_125 : decode cX9_readJug 125 = .ok (.getfield 18, 3) := by decide +kernel
theorem dX9_readJug_128 : decode cX9_readJug 128 = .ok (.invokevirtual 26, 3) := by decide +kernel
theorem dX9_readJug_131 : decode cX9_readJug 131 = .ok (.iconst 1, 1) := by decide +kernel
theorem dX9_readJug_132 : decode cX9_readJug 132 = .ok (.ireturn, 1) := by decide +kernel
theorem dX9_readPiece_0 : decode cX9_readPiece 0 = .ok (.aload_n 0, 1) := by decide +kernel
theorem dX9_readPiece_1 : decode cX9_readPiece 1 = .ok (.aload_n 0, 1) := by decide +kernel
theorem dX9_readPiece_2 : decode cX9_readPiece 2 = .ok (.getfield 12, 3) := by decide +kernel
theorem dX9_readPiece_5 : decode cX9_readPiece 5 = .ok (.getfield 91, 3) := by decide +kernel
theorem dX9_readPiece_8 : decode cX9_readPiece 8 = .ok (.invokevirtual 110, 3) := by decide +kernel
theorem dX9_readPiece_11 : decode cX9_readPiece 11 = .ok (.iconst 4, 1) := by decide +kernel
theorem dX9_readPiece_12 : decode cX9_readPiece 12 = .ok (.if_icmp .ge 7, 3) := by decide +kernel
theorem dX9_readPiece_15 : decode cX9_readPiece 15 = .ok (.iconst 1, 1) := by decide +kernel
theorem dX9_readPiece_16 : decode cX9_readPiece 16 = .ok (.goto 4, 3) := by decide +kernel
theorem dX9_readPiece_19 : decode cX9_readPiece 19 = .ok (.iconst 0, 1) := by decide +kernel
theorem dX9_readPiece_20 : decode cX9_readPiece 20 = .ok (.invokevirtual 114, 3) := by decide +kernel
theorem dX9_readPiece_23 : decode cX9_readPiece 23 = .ok (.ifCond .eq 10, 3) := by decide +kernel
theorem dX9_readPiece_26 : decode cX9_readPiece 26 = .ok (.aload_n 0, 1) := by decide +kernel
theorem dX9_readPiece_27 : decode cX9_readPiece 27 = .ok (.invokevirtual 118, 3) := by decide +kernel
theorem dX9_readPiece_30 : decode cX9_readPiece 30 = .ok (.ifCond .ne 5, 3) := by decide +kernel
theorem dX9_readPiece_33 : decode cX9_readPiece 33 = .ok (.iconst 0, 1) := by decide +kernel
theorem dX9_readPiece_34 : decode cX9_readPiece 34 = .ok (.ireturn, 1) := by decide +kernel
theorem dX9_readPiece_35 : decode cX9_readPiece 35 = .ok (.aload_n 0, 1) := by decide +kernel
theorem dX9_readPiece_36 : decode cX9_readPiece 36 = .ok (.invokevirtual 180, 3) := by decide +kernel
theorem dX9_readPiece_39 : decode cX9_readPiece 39 = .ok (.istore_n 1, 1) := by decide +kernel
theorem dX9_readPiece_40 : decode cX9_readPiece 40 = .ok (.iload_n 1, 1) := by decide +kernel
theorem dX9_readPiece_41 : decode cX9_readPiece 41 = .ok (.iconst (-1), 1) := by decide +kernel
theorem dX9_readPiece_42 : decode cX9_readPiece 42 = .ok (.if_icmp .ne 9, 3) := by decide +kernel
theorem dX9_readPiece_45 : decode cX9_readPiece 45 = .ok (.aload_n 0, 1) := by decide +kernel
theorem dX9_readPiece_46 : decode cX9_readPiece 46 = .ok (.iconst 1, 1) := by decide +kernel
theorem dX9_readPiece_47 : decode cX9_readPiece 47 = .ok (.invokevirtual 64, 3) := by decide +kernel
theorem dX9_readPiece_50 : decode cX9_readPiece 50 = .ok (.ireturn, 1) := by decide +kernel
theorem dX9_readPiece_51 : decode cX9_readPiece 51 = .ok (.aload_n 0, 1) := by decide +kernel
theorem dX9_readPiece_52 : decode cX9_readPiece 52 = .ok (.getfield 18, 3) := by decide +kernel
theorem dX9_readPiece_55 : decode cX9_readPiece 55 = .ok (.invokevirtual 26, 3) := by decide +kernel
theorem dX9_readPiece_58 : decode cX9_readPiece 58 = .ok (.aload_n 0, 1) := by decide +kernel
theorem dX9_readPiece_59 : decode cX9_readPiece 59 = .ok (.iconst 1, 1) := by decide +kernel
theorem dX9_readPiece_60 : decode cX9_readPiece 60 = .ok (.putfield 167, 3) := by decide +kernel
theorem dX9_readPiece_63 : decode cX9_readPiece 63 = .ok (.aload_n 0, 1) := by decide +kernel
theorem dX9_readPiece_64 : decode cX9_readPiece 64 = .ok (.iconst 1, 1) := by decide +kernel
theorem dX9_readPiece_65 : decode cX9_readPiece 65 = .ok (.putfield 170, 3) := by decide +kernel
theorem dX9_readPiece_68 : decode cX9_readPiece 68 = .ok (.iload_n 1, 1) := by decide +kernel
theorem dX9_readPiece_69 : decode cX9_readPiece 69 = .ok (.ifCond .eq 44, 3) := by decide +kernel
theorem dX9_readPiece_72 : decode cX9_readPiece 72 = .ok (.iload_n 1, 1) := by decide +kernel
theorem dX9_readPiece_73 : decode cX9_readPiece 73 = .ok (.iconst 2, 1) := by decide +kernel
theorem dX9_readPiece_74 : decode cX9_readPiece 74 = .ok (.if_icmp .ne 7, 3) := by decide +kernel
theorem dX9_readPiece_77 : decode cX9_readPiece 77 = .ok (.iconst 2, 1) := by decide +kernel
theorem dX9_readPiece_78 : decode cX9_readPiece 78 = .ok (.goto 4, 3) := by decide +kernel
theorem dX9_readPiece_81 : decode cX9_readPiece 81 = .ok (.iconst 1, 1) := by decide +kernel
theorem dX9_readPiece_82 : decode cX9_readPiece 82 = .ok (.istore_n 2, 1) := by decide +kernel
theorem dX9_readPiece_83 : decode cX9_readPiece 83 = .ok (.iload_n 1, 1) := by decide +kernel
theorem dX9_readPiece_84 : decode cX9_readPiece 84 = .ok (.iconst 2, 1) := by decide +kernel
theorem dX9_readPiece_85 : decode cX9_readPiece 85 = .ok (.if_icmp .ne 7, 3) := by decide +kernel
theorem dX9_readPiece_88 : decode cX9_readPiece 88 = .ok (.iconst 3, 1) := by decide +kernel
theorem dX9_readPiece_89 : decode cX9_readPiece 89 = .ok (.goto 4, 3) := by decide +kernel
theorem dX9_readPiece_92 : decode cX9_readPiece 92 = .ok (.iconst 4, 1) := by decide +kernel
theorem dX9_readPiece_93 : decode cX9_readPiece 93 = .ok (.istore_n 3, 1) := by decide +kernel
theorem dX9_readPiece_94 : decode cX9_readPiece 94 = .ok (.aload_n 0, 1) := by decide +kernel
theorem dX9_readPiece_95 : decode cX9_readPiece 95 = .ok (.iload_n 2, 1) := by decide +kernel
theorem dX9_readPiece_96 : decode cX9_readPiece 96 = .ok (.iload_n 3, 1) := by decide +kernel
theorem dX9_readPiece_97 : decode cX9_readPiece 97 = .ok (.iload_n 3, 1) := by decide +kernel
theorem dX9_readPiece_98 : decode cX9_readPiece 98 = .ok (.invokevirtual 163, 3) := by decide +kernel
theorem dX9_readPiece_101 : decode cX9_readPiece 101 = .ok (.ifCond .ne 5, 3) := by decide +kernel
theorem dX9_readPiece_104 : decode cX9_readPiece 104 = .ok (.iconst 0, 1) := by decide +kernel
theorem dX9_readPiece_105 : decode cX9_readPiece 105 = .ok (.ireturn, 1) := by decide +kernel
theorem dX9_readPiece_106 : decode cX9_readPiece 106 = .ok (.aload_n 0, 1) := by decide +kernel
theorem dX9_readPiece_107 : decode cX9_readPiece 107 = .ok (.getfield 18, 3) := by decide +kernel
theorem dX9_readPiece_110 : decode cX9_readPiece 110 = .ok (.invokevirtual 26, 3) := by decide +kernel
theorem dX9_readPiece_113 : decode cX9_readPiece 113 = .ok (.new 183, 3) := by decide +kernel
theorem dX9_readPiece_116 : decode cX9_readPiece 116 = .ok (.dup, 1) := by decide +kernel
theorem dX9_readPiece_117 : decode cX9_readPiece 117 = .ok (.aload_n 0, 1) := by decide +kernel
theorem dX9_readPiece_118 : decode cX9_readPiece 118 = .ok (.getfield 12, 3) := by decide +kernel
theorem dX9_readPiece_121 : decode cX9_readPiece 121 = .ok (.getfield 91, 3) := by decide +kernel
theorem dX9_readPiece_124 : decode cX9_readPiece 124 = .ok (.invokevirtual 110, 3) := by decide +kernel
theorem dX9_readPiece_127 : decode cX9_readPiece 127 = .ok (.aload_n 0, 1) := by decide +kernel
theorem dX9_readPiece_128 : decode cX9_readPiece 128 = .ok (.getfield 138, 3) := by decide +kernel
theorem dX9_readPiece_131 : decode cX9_readPiece 131 = .ok (.iload_n 1, 1) := by decide +kernel
theorem dX9_readPiece_132 : decode cX9_readPiece 132 = .ok (.aload_n 0, 1) := by decide +kernel
theorem dX9_readPiece_133 : decode cX9_readPiece 133 = .ok (.getfield 167, 3) := by decide +kernel
theorem dX9_readPiece_136 : decode cX9_readPiece 136 = .ok (.aload_n 0, 1) := by decide +kernel
theorem dX9_readPiece_137 : decode cX9_readPiece 137 = .ok (.getfield 170, 3) := by decide +kernel
theorem dX9_readPiece_140 : decode cX9_readPiece 140 = .ok (.invokespecial 185, 3) := by decide +kernel
theorem dX9_readPiece_143 : decode cX9_readPiece 143 = .ok (.astore_n 2, 1) := by decide +kernel
theorem dX9_readPiece_144 : decode cX9_readPiece 144 = .ok (.aload_n 2, 1) := by decide +kernel
theorem dX9_readPiece_145 : decode cX9_readPiece 145 = .ok (.aload_n 0, 1) := by decide +kernel
theorem dX9_readPiece_146 : decode cX9_readPiece 146 = .ok (.ldc 188, 2) := by decide +kernel
theorem dX9_readPiece_148 : decode cX9_readPiece 148 = .ok (.invokevirtual 105, 3) := by decide +kernel
theorem dX9_readPiece_151 : decode cX9_readPiece 151 = .ok (.putfield 190, 3) := by decide +kernel
theorem dX9_readPiece_154 : decode cX9_readPiece 154 = .ok (.aload_n 2, 1) := by decide +kernel
theorem dX9_readPiece_155 : decode cX9_readPiece 155 = .ok (.aload_n 0, 1) := by decide +kernel
theorem dX9_readPiece_156 : decode cX9_readPiece 156 = .ok (.invokevirtual 192, 3) := by decide +kernel
theorem dX9_readPiece_159 : decode cX9_readPiece 159 = .ok (.putfield 195, 3) := by decide +kernel
theorem dX9_readPiece_162 : decode cX9_readPiece 162 = .ok (.aload_n 0, 1) := by decide +kernel
theorem dX9_readPiece_163 : decode cX9_readPiece 163 = .ok (.getfield 12, 3) := by decide +kernel
theorem dX9_readPiece_166 : decode cX9_readPiece 166 = .ok (.getfield 91, 3) := by decide +kernel
theorem dX9_readPiece_169 : decode cX9_readPiece 169 = .ok (.aload_n 2, 1) := by decide +kernel
theorem dX9_readPiece_170 : decode cX9_readPiece 170 = .ok (.invokevirtual 198, 3) := by decide +kernel
theorem dX9_readPiece_173 : decode cX9_readPiece 173 = .ok (.pop, 1) := by decide +kernel
theorem dX9_readPiece_174 : decode cX9_readPiece 174 = .ok (.iconst 1, 1) := by decide +kernel
theorem dX9_readPiece_175 : decode cX9_readPiece 175 = .ok (.ireturn, 1) := by decide +kernel
theorem dX9_kindTold_0 : decode cX9_kindTold 0 = .ok (.aload_n 0, 1) := by decide +kernel
theorem dX9_kindTold_1 : decode cX9_kindTold 1 = .ok (.getfield 18, 3) := by decide +kernel
theorem dX9_kindTold_4 : decode cX9_kindTold 4 = .ok (.ldc 202, 2) := by decide +kernel
theorem dX9_kindTold_6 : decode cX9_kindTold 6 = .ok (.invokevirtual 36, 3) := by decide +kernel
theorem dX9_kindTold_9 : decode cX9_kindTold 9 = .ok (.ifCond .eq 5, 3) := by decide +kernel
theorem dX9_kindTold_12 : decode cX9_kindTold 12 = .ok (.iconst 0, 1) := by decide +kernel
theorem dX9_kindTold_13 : decode cX9_kindTold 13 = .ok (.ireturn, 1) := by decide +kernel
theorem dX9_kindTold_14 : decode cX9_kindTold 14 = .ok (.aload_n 0, 1) := by decide +kernel
theorem dX9_kindTold_15 : decode cX9_kindTold 15 = .ok (.getfield 18, 3) := by decide +kernel
theorem dX9_kindTold_18 : decode cX9_kindTold 18 = .ok (.ldc 204, 2) := by decide +kernel
theorem dX9_kindTold_20 : decode cX9_kindTold 20 = .ok (.invokevirtual 36, 3) := by decide +kernel
theorem dX9_kindTold_23 : decode cX9_kindTold 23 = .ok (.ifCond .eq 5, 3) := by decide +kernel
theorem dX9_kindTold_26 : decode cX9_kindTold 26 = .ok (.iconst 1, 1) := by decide +kernel
theorem dX9_kindTold_27 : decode cX9_kindTold 27 = .ok (.ireturn, 1) := by decide +kernel
theorem dX9_kindTold_28 : decode cX9_kindTold 28 = .ok (.aload_n 0, 1) := by decide +kernel
theorem dX9_kindTold_29 : decode cX9_kindTold 29 = .ok (.getfield 18, 3) := by decide +kernel
theorem dX9_kindTold_32 : decode cX9_kindTold 32 = .ok (.ldc 206, 2) := by decide +kernel
theorem dX9_kindTold_34 : decode cX9_kindTold 34 = .ok (.invokevirtual 36, 3) := by decide +kernel
theorem dX9_kindTold_37 : decode cX9_kindTold 37 = .ok (.ifCond .eq 7, 3) := by decide +kernel
theorem dX9_kindTold_40 : decode cX9_kindTold 40 = .ok (.iconst 2, 1) := by decide +kernel
theorem dX9_kindTold_41 : decode cX9_kindTold 41 = .ok (.goto 4, 3) := by decide +kernel
theorem dX9_kindTold_44 : decode cX9_kindTold 44 = .ok (.iconst (-1), 1) := by decide +kernel
theorem dX9_kindTold_45 : decode cX9_kindTold 45 = .ok (.ireturn, 1) := by decide +kernel
theorem dX9_ownerTold_0 : decode cX9_ownerTold 0 = .ok (.aload_n 0, 1) := by decide +kernel
theorem dX9_ownerTold_1 : decode cX9_ownerTold 1 = .ok (.ldc 208, 2) := by decide +kernel
theorem dX9_ownerTold_3 : decode cX9_ownerTold 3 = .ok (.invokevirtual 105, 3) := by decide +kernel
theorem dX9_ownerTold_6 : decode cX9_ownerTold 6 = .ok (.ifCond .eq 5, 3) := by decide +kernel
theorem dX9_ownerTold_9 : decode cX9_ownerTold 9 = .ok (.iconst 0, 1) := by decide +kernel
theorem dX9_ownerTold_10 : decode cX9_ownerTold 10 = .ok (.ireturn, 1) := by decide +kernel
theorem dX9_ownerTold_11 : decode cX9_ownerTold 11 = .ok (.aload_n 0, 1) := by decide +kernel
theorem dX9_ownerTold_12 : decode cX9_ownerTold 12 = .ok (.ldc 210, 2) := by decide +kernel
theorem dX9_ownerTold_14 : decode cX9_ownerTold 14 = .ok (.invokevirtual 105, 3) := by decide +kernel
theorem dX9_ownerTold_17 : decode cX9_ownerTold 17 = .ok (.ifCond .eq 7, 3) := by decide +kernel
theorem dX9_ownerTold_20 : decode cX9_ownerTold 20 = .ok (.iconst 1, 1) := by decide +kernel
theorem dX9_ownerTold_21 : decode cX9_ownerTold 21 = .ok (.goto 4, 3) := by decide +kernel
theorem dX9_ownerTold_24 : decode cX9_ownerTold 24 = .ok (.iconst (-1), 1) := by decide +kernel
theorem dX9_ownerTold_25 : decode cX9_ownerTold 25 = .ok (.ireturn, 1) := by decide +kernel
theorem dX9_readLay_0 : decode cX9_readLay 0 = .ok (.aload_n 0, 1) := by decide +kernel
theorem dX9_readLay_1 : decode cX9_readLay 1 = .ok (.getfield 22, 3) := by decide +kernel
theorem dX9_readLay_4 : decode cX9_readLay 4 = .ok (.getfield 212, 3) := by decide +kernel
theorem dX9_readLay_7 : decode cX9_readLay 7 = .ok (.bipush 8, 2) := by decide +kernel
theorem dX9_readLay_9 : decode cX9_readLay 9 = .ok (.if_icmp .lt 9, 3) := by decide +kernel
theorem dX9_readLay_12 : decode cX9_readLay 12 = .ok (.aload_n 0, 1) := by decide +kernel
theorem dX9_readLay_13 : decode cX9_readLay 13 = .ok (.iconst 5, 1) := by decide +kernel
theorem dX9_readLay_14 : decode cX9_readLay 14 = .ok (.invokevirtual 64, 3) := by decide +kernel
theorem dX9_readLay_17 : decode cX9_readLay 17 = .ok (.ireturn, 1) := by decide +kernel
theorem dX9_readLay_18 : decode cX9_readLay 18 = .ok (.aload_n 0, 1) := by decide +kernel
theorem dX9_readLay_19 : decode cX9_readLay 19 = .ok (.getfield 12, 3) := by decide +kernel
theorem dX9_readLay_22 : decode cX9_readLay 22 = .ok (.getfield 78, 3) := by decide +kernel
theorem dX9_readLay_25 : decode cX9_readLay 25 = .ok (.ifCond .ne 10, 3) := by decide +kernel
theorem dX9_readLay_28 : decode cX9_readLay 28 = .ok (.aload_n 0, 1) := by decide +kernel
theorem dX9_readLay_29 : decode cX9_readLay 29 = .ok (.bipush 6, 2) := by decide +kernel
theorem dX9_readLay_31 : decode cX9_readLay 31 = .ok (.invokevirtual 64, 3) := by decide +kernel
theorem dX9_readLay_34 : decode cX9_readLay 34 = .ok (.ireturn, 1) := by decide +kernel
theorem dX9_readLay_35 : decode cX9_readLay 35 = .ok (.aload_n 0, 1) := by decide +kernel
theorem dX9_readLay_36 : decode cX9_readLay 36 = .ok (.getfield 18, 3) := by decide +kernel
theorem dX9_readLay_39 : decode cX9_readLay 39 = .ok (.invokevirtual 26, 3) := by decide +kernel
theorem dX9_readLay_42 : decode cX9_readLay 42 = .ok (.aload_n 0, 1) := by decide +kernel
theorem dX9_readLay_43 : decode cX9_readLay 43 = .ok (.getfield 18, 3) := by decide +kernel
theorem dX9_readLay_46 : decode cX9_readLay 46 = .ok (.getfield 68, 3) := by decide +kernel
theorem dX9_readLay_49 : decode cX9_readLay 49 = .ok (.iconst 2, 1) := by decide +kernel
theorem dX9_readLay_50 : decode cX9_readLay 50 = .ok (.if_icmp .eq 9, 3) := by decide +kernel
theorem dX9_readLay_53 : decode cX9_readLay 53 = .ok (.aload_n 0, 1) := by decide +kernel
theorem dX9_readLay_54 : decode cX9_readLay 54 = .ok (.iconst 1, 1) := by decide +kernel
theorem dX9_readLay_55 : decode cX9_readLay 55 = .ok (.invokevirtual 64, 3) := by decide +kernel
theorem dX9_readLay_58 : decode cX9_readLay 58 = .ok (.ireturn, 1) := by decide +kernel
theorem dX9_readLay_59 : decode cX9_readLay 59 = .ok (.aload_n 0, 1) := by decide +kernel
theorem dX9_readLay_60 : decode cX9_readLay 60 = .ok (.getfield 12, 3) := by decide +kernel
theorem dX9_readLay_63 : decode cX9_readLay 63 = .ok (.invokevirtual 94, 3) := by decide +kernel
theorem dX9_readLay_66 : decode cX9_readLay 66 = .ok (.aload_n 0, 1) := by decide +kernel
theorem dX9_readLay_67 : decode cX9_readLay 67 = .ok (.getfield 12, 3) := by decide +kernel
theorem dX9_readLay_70 : decode cX9_readLay 70 = .ok (.aload_n 0, 1) := by decide +kernel
theorem dX9_readLay_71 : decode cX9_readLay 71 = .ok (.getfield 18, 3) := by decide +kernel
theorem dX9_readLay_74 : decode cX9_readLay 74 = .ok (.invokevirtual 130, 3) := by decide +kernel
theorem dX9_readLay_77 : decode cX9_readLay 77 = .ok (.invokevirtual 217, 3) := by decide +kernel
theorem dX9_readLay_80 : decode cX9_readLay 80 = .ok (.astore_n 1, 1) := by decide +kernel
theorem dX9_readLay_81 : decode cX9_readLay 81 = .ok (.aload_n 1, 1) := by decide +kernel
theorem dX9_readLay_82 : decode cX9_readLay 82 = .ok (.ifnull 24, 3) := by decide +kernel
theorem dX9_readLay_85 : decode cX9_readLay 85 = .ok (.aload_n 1, 1) := by decide +kernel
theorem dX9_readLay_86 : decode cX9_readLay 86 = .ok (.aload_n 0, 1) := by decide +kernel
theorem dX9_readLay_87 : decode cX9_readLay 87 = .ok (.getfield 22, 3) := by decide +kernel
theorem dX9_readLay_90 : decode cX9_readLay 90 = .ok (.getfield 221, 3) := by decide +kernel
theorem dX9_readLay_93 : decode cX9_readLay 93 = .ok (.aload_n 0, 1) := by decide +kernel
theorem dX9_readLay_94 : decode cX9_readLay 94 = .ok (.getfield 22, 3) := by decide +kernel
theorem dX9_readLay_97 : decode cX9_readLay 97 = .ok (.invokevirtual 224, 3) := by decide +kernel
theorem dX9_readLay_100 : decode cX9_readLay 100 = .ok (.invokevirtual 227, 3) := by decide +kernel
theorem dX9_readLay_103 : decode cX9_readLay 103 = .ok (.ifCond .ne 10, 3) := by decide +kernel
theorem dX9_readLay_106 : decode cX9_readLay 106 = .ok (.aload_n 0, 1) := by decide +kernel
theorem dX9_readLay_107 : decode cX9_readLay 107 = .ok (.bipush 7, 2) := by decide +kernel
theorem dX9_readLay_109 : decode cX9_readLay 109 = .ok (.invokevirtual 64, 3) := by decide +kernel
theorem dX9_readLay_112 : decode cX9_readLay 112 = .ok (.ireturn, 1) := by decide +kernel
theorem dX9_readLay_113 : decode cX9_readLay 113 = .ok (.aload_n 0, 1) := by decide +kernel
theorem dX9_readLay_114 : decode cX9_readLay 114 = .ok (.getfield 22, 3) := by decide +kernel
theorem dX9_readLay_117 : decode cX9_readLay 117 = .ok (.aload_n 1, 1) := by decide +kernel
theorem dX9_readLay_118 : decode cX9_readLay 118 = .ok (.invokevirtual 232, 3) := by decide +kernel
theorem dX9_readLay_121 : decode cX9_readLay 121 = .ok (.aload_n 0, 1) := by decide +kernel
theorem dX9_readLay_122 : decode cX9_readLay 122 = .ok (.getfield 18, 3) := by decide +kernel
theorem dX9_readLay_125 : decode cX9_readLay 125 = .ok (.invokevirtual 26, 3) := by decide +kernel
theorem dX9_readLay_128 : decode cX9_readLay 128 = .ok (.iconst 1, 1) := by decide +kernel
theorem dX9_readLay_129 : decode cX9_readLay 129 = .ok (.ireturn, 1) := by decide +kernel
theorem dX9_readPair_0 : decode cX9_readPair 0 = .ok (.aload_n 0, 1) := by decide +kernel
theorem dX9_readPair_1 : decode cX9_readPair 1 = .ok (.iload_n 1, 1) := by decide +kernel
theorem dX9_readPair_2 : decode cX9_readPair 2 = .ok (.iload_n 2, 1) := by decide +kernel
theorem dX9_readPair_3 : decode cX9_readPair 3 = .ok (.invokevirtual 126, 3) := by decide +kernel
theorem dX9_readPair_6 : decode cX9_readPair 6 = .ok (.ifCond .ne 5, 3) := by decide +kernel
theorem dX9_readPair_9 : decode cX9_readPair 9 = .ok (.iconst 0, 1) := by decide +kernel
theorem dX9_readPair_10 : decode cX9_readPair 10 = .ok (.ireturn, 1) := by decide +kernel
theorem dX9_readPair_11 : decode cX9_readPair 11 = .ok (.aload_n 0, 1) := by decide +kernel
theorem dX9_readPair_12 : decode cX9_readPair 12 = .ok (.aload_n 0, 1) := by decide +kernel
theorem dX9_readPair_13 : decode cX9_readPair 13 = .ok (.getfield 18, 3) := by decide +kernel
theorem dX9_readPair_16 : decode cX9_readPair 16 = .ok (.invokevirtual 130, 3) := by decide +kernel
theorem dX9_readPair_19 : decode cX9_readPair 19 = .ok (.putfield 167, 3) := by decide +kernel
theorem dX9_readPair_22 : decode cX9_readPair 22 = .ok (.aload_n 0, 1) := by decide +kernel
theorem dX9_readPair_23 : decode cX9_readPair 23 = .ok (.getfield 18, 3) := by decide +kernel
theorem dX9_readPair_26 : decode cX9_readPair 26 = .ok (.invokevirtual 26, 3) := by decide +kernel
theorem dX9_readPair_29 : decode cX9_readPair 29 = .ok (.aload_n 0, 1) := by decide +kernel
theorem dX9_readPair_30 : decode cX9_readPair 30 = .ok (.bipush 44, 2) := by decide +kernel
theorem dX9_readPair_32 : decode cX9_readPair 32 = .ok (.invokevirtual 74, 3) := by decide +kernel
theorem dX9_readPair_35 : decode cX9_readPair 35 = .ok (.ifCond .eq 12, 3) := by decide +kernel
theorem dX9_readPair_38 : decode cX9_readPair 38 = .ok (.aload_n 0, 1) := by decide +kernel
theorem dX9_readPair_39 : decode cX9_readPair 39 = .ok (.iload_n 1, 1) := by decide +kernel
theorem dX9_readPair_40 : decode cX9_readPair 40 = .ok (.iload_n 3, 1) := by decide +kernel
theorem dX9_readPair_41 : decode cX9_readPair 41 = .ok (.invokevirtual 126, 3) := by decide +kernel
theorem dX9_readPair_44 : decode cX9_readPair 44 = .ok (.ifCond .ne 5, 3) := by decide +kernel
theorem dX9_readPair_47 : decode cX9_readPair 47 = .ok (.iconst 0, 1) := by decide +kernel
theorem dX9_readPair_48 : decode cX9_readPair 48 = .ok (.ireturn, 1) := by decide +kernel
theorem dX9_readPair_49 : decode cX9_readPair 49 = .ok (.aload_n 0, 1) := by decide +kernel
theorem dX9_readPair_50 : decode cX9_readPair 50 = .ok (.aload_n 0, 1) := by decide +kernel
theorem dX9_readPair_51 : decode cX9_readPair 51 = .ok (.getfield 18, 3) := by decide +kernel
theorem dX9_readPair_54 : decode cX9_readPair 54 = .ok (.invokevirtual 130, 3) := by decide +kernel
theorem dX9_readPair_57 : decode cX9_readPair 57 = .ok (.putfield 170, 3) := by decide +kernel
theorem dX9_readPair_60 : decode cX9_readPair 60 = .ok (.iconst 1, 1) := by decide +kernel
theorem dX9_readPair_61 : decode cX9_readPair 61 = .ok (.ireturn, 1) := by decide +kernel
theorem dX9_passFirstWord_0 : decode cX9_passFirstWord 0 = .ok (.iload_n 1, 1) := by decide +kernel
theorem dX9_passFirstWord_1 : decode cX9_passFirstWord 1 = .ok (.ifCond .ne 9, 3) := by decide +kernel
theorem dX9_passFirstWord_4 : decode cX9_passFirstWord 4 = .ok (.aload_n 0, 1) := by decide +kernel
theorem dX9_passFirstWord_5 : decode cX9_passFirstWord 5 = .ok (.iconst 5, 1) := by decide +kernel
theorem dX9_passFirstWord_6 : decode cX9_passFirstWord 6 = .ok (.invokevirtual 64, 3) := by decide +kernel
theorem dX9_passFirstWord_9 : decode cX9_passFirstWord 9 = .ok (.ireturn, 1) := by decide +kernel
theorem dX9_passFirstWord_10 : decode cX9_passFirstWord 10 = .ok (.aload_n 0, 1) := by decide +kernel
theorem dX9_passFirstWord_11 : decode cX9_passFirstWord 11 = .ok (.getfield 12, 3) := by decide +kernel
theorem dX9_passFirstWord_14 : decode cX9_passFirstWord 14 = .ok (.getfield 235, 3) := by decide +kernel
theorem dX9_passFirstWord_17 : decode cX9_passFirstWord 17 = .ok (.ifCond .eq 10, 3) := by decide +kernel
theorem dX9_passFirstWord_20 : decode cX9_passFirstWord 20 = .ok (.aload_n 0, 1) := by decide +kernel
theorem dX9_passFirstWord_21 : decode cX9_passFirstWord 21 = .ok (.bipush 6, 2) := by decide +kernel
theorem dX9_passFirstWord_23 : decode cX9_passFirstWord 23 = .ok (.invokevirtual 64, 3) := by decide +kernel
theorem dX9_passFirstWord_26 : decode cX9_passFirstWord 26 = .ok (.ireturn, 1) := by decide +kernel
theorem dX9_passFirstWord_27 : decode cX9_passFirstWord 27 = .ok (.aload_n 0, 1) := by decide +kernel
theorem dX9_passFirstWord_28 : decode cX9_passFirstWord 28 = .ok (.getfield 18, 3) := by decide +kernel
theorem dX9_passFirstWord_31 : decode cX9_passFirstWord 31 = .ok (.invokevirtual 26, 3) := by decide +kernel
theorem dX9_passFirstWord_34 : decode cX9_passFirstWord 34 = .ok (.iconst 1, 1) := by decide +kernel
theorem dX9_passFirstWord_35 : decode cX9_passFirstWord 35 = .ok (.ireturn, 1) := by decide +kernel
theorem dX9_passNewName_0 : decode cX9_passNewName 0 = .ok (.aload_n 0, 1) := by decide +kernel
theorem dX9_passNewName_1 : decode cX9_passNewName 1 = .ok (.getfield 18, 3) := by decide +kernel
theorem dX9_passNewName_4 : decode cX9_passNewName 4 = .ok (.invokevirtual 146, 3) := by decide +kernel
theorem dX9_passNewName_7 : decode cX9_passNewName 7 = .ok (.ifCond .ne 9, 3) := by decide +kernel
theorem dX9_passNewName_10 : decode cX9_passNewName 10 = .ok (.aload_n 0, 1) := by decide +kernel
theorem dX9_passNewName_11 : decode cX9_passNewName 11 = .ok (.iconst 1, 1) := by decide +kernel
theorem dX9_passNewName_12 : decode cX9_passNewName 12 = .ok (.invokevirtual 64, 3) := by decide +kernel
theorem dX9_passNewName_15 : decode cX9_passNewName 15 = .ok (.ireturn, 1) := by decide +kernel
theorem dX9_passNewName_16 : decode cX9_passNewName 16 = .ok (.aload_n 0, 1) := by decide +kernel
theorem dX9_passNewName_17 : decode cX9_passNewName 17 = .ok (.aload_n 0, 1) := by decide +kernel
theorem dX9_passNewName_18 : decode cX9_passNewName 18 = .ok (.getfield 18, 3) := by decide +kernel
theorem dX9_passNewName_21 : decode cX9_passNewName 21 = .ok (.invokevirtual 149, 3) := by decide +kernel
theorem dX9_passNewName_24 : decode cX9_passNewName 24 = .ok (.putfield 138, 3) := by decide +kernel
theorem dX9_passNewName_27 : decode cX9_passNewName 27 = .ok (.aload_n 0, 1) := by decide +kernel
theorem dX9_passNewName_28 : decode cX9_passNewName 28 = .ok (.getfield 12, 3) := by decide +kernel
theorem dX9_passNewName_31 : decode cX9_passNewName 31 = .ok (.aload_n 0, 1) := by decide +kernel
theorem dX9_passNewName_32 : decode cX9_passNewName 32 = .ok (.getfield 138, 3) := by decide +kernel
theorem dX9_passNewName_35 : decode cX9_passNewName 35 = .ok (.invokevirtual 238, 3) := by decide +kernel
theorem dX9_passNewName_38 : decode cX9_passNewName 38 = .ok (.ifCond .eq 9, 3) := by decide +kernel
theorem dX9_passNewName_41 : decode cX9_passNewName 41 = .ok (.aload_n 0, 1) := by decide +kernel
theorem dX9_passNewName_42 : decode cX9_passNewName 42 = .ok (.iconst 3, 1) := by decide +kernel
theorem dX9_passNewName_43 : decode cX9_passNewName 43 = .ok (.invokevirtual 64, 3) := by decide +kernel
theorem dX9_passNewName_46 : decode cX9_passNewName 46 = .ok (.ireturn, 1) := by decide +kernel
theorem dX9_passNewName_47 : decode cX9_passNewName 47 = .ok (.aload_n 0, 1) := by decide +kernel
theorem dX9_passNewName_48 : decode cX9_passNewName 48 = .ok (.getfield 18, 3) := by decide +kernel
theorem dX9_passNewName_51 : decode cX9_passNewName 51 = .ok (.invokevirtual 26, 3) := by decide +kernel
theorem dX9_passNewName_54 : decode cX9_passNewName 54 = .ok (.iconst 1, 1) := by decide +kernel
theorem dX9_passNewName_55 : decode cX9_passNewName 55 = .ok (.ireturn, 1) := by decide +kernel
theorem dX9_isWholeWithin_0 : decode cX9_isWholeWithin 0 = .ok (.aload_n 0, 1) := by decide +kernel
theorem dX9_isWholeWithin_1 : decode cX9_isWholeWithin 1 = .ok (.getfield 18, 3) := by decide +kernel
theorem dX9_isWholeWithin_4 : decode cX9_isWholeWithin 4 = .ok (.getfield 68, 3) := by decide +kernel
theorem dX9_isWholeWithin_7 : decode cX9_isWholeWithin 7 = .ok (.iconst 2, 1) := by decide +kernel
theorem dX9_isWholeWithin_8 : decode cX9_isWholeWithin 8 = .ok (.if_icmp .eq 9, 3) := by decide +kernel
theorem dX9_isWholeWithin_11 : decode cX9_isWholeWithin 11 = .ok (.aload_n 0, 1) := by decide +kernel
theorem dX9_isWholeWithin_12 : decode cX9_isWholeWithin 12 = .ok (.iconst 1, 1) := by decide +kernel
theorem dX9_isWholeWithin_13 : decode cX9_isWholeWithin 13 = .ok (.invokevirtual 64, 3) := by decide +kernel
theorem dX9_isWholeWithin_16 : decode cX9_isWholeWithin 16 = .ok (.ireturn, 1) := by decide +kernel
theorem dX9_isWholeWithin_17 : decode cX9_isWholeWithin 17 = .ok (.aload_n 0, 1) := by decide +kernel
theorem dX9_isWholeWithin_18 : decode cX9_isWholeWithin 18 = .ok (.getfield 18, 3) := by decide +kernel
theorem dX9_isWholeWithin_21 : decode cX9_isWholeWithin 21 = .ok (.invokevirtual 130, 3) := by decide +kernel
theorem dX9_isWholeWithin_24 : decode cX9_isWholeWithin 24 = .ok (.istore_n 3, 1) := by decide +kernel
theorem dX9_isWholeWithin_25 : decode cX9_isWholeWithin 25 = .ok (.iload_n 3, 1) := by decide +kernel
theorem dX9_isWholeWithin_26 : decode cX9_isWholeWithin 26 = .ok (.iload_n 1, 1) := by decide +kernel
theorem dX9_isWholeWithin_27 : decode cX9_isWholeWithin 27 = .ok (.if_icmp .lt 8, 3) := by decide +kernel
theorem dX9_isWholeWithin_30 : decode cX9_isWholeWithin 30 = .ok (.iload_n 3, 1) := by decide +kernel
theorem dX9_isWholeWithin_31 : decode cX9_isWholeWithin 31 = .ok (.iload_n 2, 1) := by decide +kernel
theorem dX9_isWholeWithin_32 : decode cX9_isWholeWithin 32 = .ok (.if_icmp .le 11, 3) := by decide +kernel
theorem dX9_isWholeWithin_35 : decode cX9_isWholeWithin 35 = .ok (.aload_n 0, 1) := by decide +kernel
theorem dX9_isWholeWithin_36 : decode cX9_isWholeWithin 36 = .ok (.iconst 4, 1) := by decide +kernel
theorem dX9_isWholeWithin_37 : decode cX9_isWholeWithin 37 = .ok (.invokevirtual 64, 3) := by decide +kernel
theorem dX9_isWholeWithin_40 : decode cX9_isWholeWithin 40 = .ok (.goto 4, 3) := by decide +kernel
theorem dX9_isWholeWithin_43 : decode cX9_isWholeWithin 43 = .ok (.iconst 1, 1) := by decide +kernel
theorem dX9_isWholeWithin_44 : decode cX9_isWholeWithin 44 = .ok (.ireturn, 1) := by decide +kernel
theorem dX9_passWord_0 : decode cX9_passWord 0 = .ok (.aload_n 0, 1) := by decide +kernel
theorem dX9_passWord_1 : decode cX9_passWord 1 = .ok (.aload_n 1, 1) := by decide +kernel
theorem dX9_passWord_2 : decode cX9_passWord 2 = .ok (.invokevirtual 105, 3) := by decide +kernel
theorem dX9_passWord_5 : decode cX9_passWord 5 = .ok (.ifCond .eq 7, 3) := by decide +kernel
theorem dX9_passWord_8 : decode cX9_passWord 8 = .ok (.iconst 1, 1) := by decide +kernel
theorem dX9_passWord_9 : decode cX9_passWord 9 = .ok (.goto 8, 3) := by decide +kernel
theorem dX9_passWord_12 : decode cX9_passWord 12 = .ok (.aload_n 0, 1) := by decide +kernel
theorem dX9_passWord_13 : decode cX9_passWord 13 = .ok (.iconst 1, 1) := by decide +kernel
theorem dX9_passWord_14 : decode cX9_passWord 14 = .ok (.invokevirtual 64, 3) := by decide +kernel
theorem dX9_passWord_17 : decode cX9_passWord 17 = .ok (.ireturn, 1) := by decide +kernel
theorem dX9_passPerhaps_0 : decode cX9_passPerhaps 0 = .ok (.aload_n 0, 1) := by decide +kernel
theorem dX9_passPerhaps_1 : decode cX9_passPerhaps 1 = .ok (.getfield 18, 3) := by decide +kernel
theorem dX9_passPerhaps_4 : decode cX9_passPerhaps 4 = .ok (.aload_n 1, 1) := by decide +kernel
theorem dX9_passPerhaps_5 : decode cX9_passPerhaps 5 = .ok (.invokevirtual 36, 3) := by decide +kernel
theorem dX9_passPerhaps_8 : decode cX9_passPerhaps 8 = .ok (.ifCond .ne 5, 3) := by decide +kernel
theorem dX9_passPerhaps_11 : decode cX9_passPerhaps 11 = .ok (.iconst 0, 1) := by decide +kernel
theorem dX9_passPerhaps_12 : decode cX9_passPerhaps 12 = .ok (.ireturn, 1) := by decide +kernel
theorem dX9_passPerhaps_13 : decode cX9_passPerhaps 13 = .ok (.aload_n 0, 1) := by decide +kernel
theorem dX9_passPerhaps_14 : decode cX9_passPerhaps 14 = .ok (.getfield 18, 3) := by decide +kernel
theorem dX9_passPerhaps_17 : decode cX9_passPerhaps 17 = .ok (.invokevirtual 26, 3) := by decide +kernel
theorem dX9_passPerhaps_20 : decode cX9_passPerhaps 20 = .ok (.iconst 1, 1) := by decide +kernel
theorem dX9_passPerhaps_21 : decode cX9_passPerhaps 21 = .ok (.ireturn, 1) := by decide +kernel
theorem dX9_passSign_0 : decode cX9_passSign 0 = .ok (.aload_n 0, 1) := by decide +kernel
theorem dX9_passSign_1 : decode cX9_passSign 1 = .ok (.getfield 18, 3) := by decide +kernel
theorem dX9_passSign_4 : decode cX9_passSign 4 = .ok (.iload_n 1, 1) := by decide +kernel
theorem dX9_passSign_5 : decode cX9_passSign 5 = .ok (.invokevirtual 242, 3) := by decide +kernel
theorem dX9_passSign_8 : decode cX9_passSign 8 = .ok (.ifCond .ne 9, 3) := by decide +kernel
theorem dX9_passSign_11 : decode cX9_passSign 11 = .ok (.aload_n 0, 1) := by decide +kernel
theorem dX9_passSign_12 : decode cX9_passSign 12 = .ok (.iconst 1, 1) := by decide +kernel
theorem dX9_passSign_13 : decode cX9_passSign 13 = .ok (.invokevirtual 64, 3) := by decide +kernel
theorem dX9_passSign_16 : decode cX9_passSign 16 = .ok (.ireturn, 1) := by decide +kernel
theorem dX9_passSign_17 : decode cX9_passSign 17 = .ok (.aload_n 0, 1) := by decide +kernel
theorem dX9_passSign_18 : decode cX9_passSign 18 = .ok (.getfield 18, 3) := by decide +kernel
theorem dX9_passSign_21 : decode cX9_passSign 21 = .ok (.invokevirtual 26, 3) := by decide +kernel
theorem dX9_passSign_24 : decode cX9_passSign 24 = .ok (.iconst 1, 1) := by decide +kernel
theorem dX9_passSign_25 : decode cX9_passSign 25 = .ok (.ireturn, 1) := by decide +kernel
theorem dX9_fail_0 : decode cX9_fail 0 = .ok (.aload_n 0, 1) := by decide +kernel
theorem dX9_fail_1 : decode cX9_fail 1 = .ok (.iload_n 1, 1) := by decide +kernel
theorem dX9_fail_2 : decode cX9_fail 2 = .ok (.putfield 245, 3) := by decide +kernel
theorem dX9_fail_5 : decode cX9_fail 5 = .ok (.aload_n 0, 1) := by decide +kernel
theorem dX9_fail_6 : decode cX9_fail 6 = .ok (.aload_n 0, 1) := by decide +kernel
theorem dX9_fail_7 : decode cX9_fail 7 = .ok (.getfield 18, 3) := by decide +kernel
theorem dX9_fail_10 : decode cX9_fail 10 = .ok (.getfield 248, 3) := by decide +kernel
theorem dX9_fail_13 : decode cX9_fail 13 = .ok (.putfield 251, 3) := by decide +kernel
theorem dX9_fail_16 : decode cX9_fail 16 = .ok (.iconst 0, 1) := by decide +kernel
theorem dX9_fail_17 : decode cX9_fail 17 = .ok (.ireturn, 1) := by decide +kernel
theorem dX10_init_0 : decode cX10_init 0 = .ok (.aload_n 0, 1) := by decide +kernel
theorem dX10_init_1 : decode cX10_init 1 = .ok (.invokespecial 3, 3) := by decide +kernel
theorem dX10_init_4 : decode cX10_init 4 = .ok (.aload_n 0, 1) := by decide +kernel
theorem dX10_init_5 : decode cX10_init 5 = .ok (.aload_n 1, 1) := by decide +kernel
theorem dX10_init_6 : decode cX10_init 6 = .ok (.putfield 9, 3) := by decide +kernel
theorem dX10_init_9 : decode cX10_init 9 = .ok (.aload_n 0, 1) := by decide +kernel
theorem dX10_init_10 : decode cX10_init 10 = .ok (.iload_n 2, 1) := by decide +kernel
theorem dX10_init_11 : decode cX10_init 11 = .ok (.putfield 15, 3) := by decide +kernel
theorem dX10_init_14 : decode cX10_init 14 = .ok (.return_, 1) := by decide +kernel
theorem dX10_advance_0 : decode cX10_advance 0 = .ok (.aload_n 0, 1) := by decide +kernel
theorem dX10_advance_1 : decode cX10_advance 1 = .ok (.getfield 19, 3) := by decide +kernel
theorem dX10_advance_4 : decode cX10_advance 4 = .ok (.aload_n 0, 1) := by decide +kernel
theorem dX10_advance_5 : decode cX10_advance 5 = .ok (.getfield 22, 3) := by decide +kernel
theorem dX10_advance_8 : decode cX10_advance 8 = .ok (.iadd, 1) := by decide +kernel
theorem dX10_advance_9 : decode cX10_advance 9 = .ok (.istore_n 1, 1) := by decide +kernel
theorem dX10_advance_10 : decode cX10_advance 10 = .ok (.iload_n 1, 1) := by decide +kernel
theorem dX10_advance_11 : decode cX10_advance 11 = .ok (.aload_n 0, 1) := by decide +kernel
theorem dX10_advance_12 : decode cX10_advance 12 = .ok (.getfield 15, 3) := by decide +kernel
theorem dX10_advance_15 : decode cX10_advance 15 = .ok (.if_icmp .ge 19, 3) := by decide +kernel
theorem dX10_advance_18 : decode cX10_advance 18 = .ok (.aload_n 0, 1) := by decide +kernel
theorem dX10_advance_19 : decode cX10_advance 19 = .ok (.iload_n 1, 1) := by decide +kernel
theorem dX10_advance_20 : decode cX10_advance 20 = .ok (.invokevirtual 25, 3) := by decide +kernel
theorem dX10_advance_23 : decode cX10_advance 23 = .ok (.bipush 32, 2) := by decide +kernel
theorem dX10_advance_25 : decode cX10_advance 25 = .ok (.if_icmp .ne 9, 3) := by decide +kernel
theorem dX10_advance_28 : decode cX10_advance 28 = .ok (.iinc 1 1, 3) := by decide +kernel
theorem dX10_advance_31 : decode cX10_advance 31 = .ok (.goto (-21), 3) := by decide +kernel
theorem dX10_advance_34 : decode cX10_advance 34 = .ok (.aload_n 0, 1) := by decide +kernel
theorem dX10_advance_35 : decode cX10_advance 35 = .ok (.iload_n 1, 1) := by decide +kernel
theorem dX10_advance_36 : decode cX10_advance 36 = .ok (.putfield 19, 3) := by decide +kernel
theorem dX10_advance_39 : decode cX10_advance 39 = .ok (.aload_n 0, 1) := by decide +kernel
theorem dX10_advance_40 : decode cX10_advance 40 = .ok (.aload_n 0, 1) := by decide +kernel
theorem dX10_advance_41 : decode cX10_advance 41 = .ok (.iload_n 1, 1) := by decide +kernel
theorem dX10_advance_42 : decode cX10_advance 42 = .ok (.invokevirtual 25, 3) := by decide +kernel
theorem dX10_advance_45 : decode cX10_advance 45 = .ok (.invokestatic 29, 3) := by decide +kernel
theorem dX10_advance_48 : decode cX10_advance 48 = .ok (.putfield 32, 3) := by decide +kernel
theorem dX10_advance_51 : decode cX10_advance 51 = .ok (.aload_n 0, 1) := by decide +kernel
theorem dX10_advance_52 : decode cX10_advance 52 = .ok (.aload_n 0, 1) := by decide +kernel
theorem dX10_advance_53 : decode cX10_advance 53 = .ok (.iload_n 1, 1) := by decide +kernel
theorem dX10_advance_54 : decode cX10_advance 54 = .ok (.invokevirtual 35, 3) := by decide +kernel
theorem dX10_advance_57 : decode cX10_advance 57 = .ok (.putfield 22, 3) := by decide +kernel
theorem dX10_advance_60 : decode cX10_advance 60 = .ok (.aload_n 0, 1) := by decide +kernel
theorem dX10_advance_61 : decode cX10_advance 61 = .ok (.getfield 32, 3) := by decide +kernel
theorem dX10_advance_64 : decode cX10_advance 64 = .ok (.iconst 1, 1) := by decide +kernel
theorem dX10_advance_65 : decode cX10_advance 65 = .ok (.if_icmp .ne 12, 3) := by decide +kernel
theorem dX10_advance_68 : decode cX10_advance 68 = .ok (.aload_n 0, 1) := by decide +kernel
theorem dX10_advance_69 : decode cX10_advance 69 = .ok (.getfield 22, 3) := by decide +kernel
theorem dX10_advance_72 : decode cX10_advance 72 = .ok (.bipush 8, 2) := by decide +kernel
theorem dX10_advance_74 : decode cX10_advance 74 = .ok (.if_icmp .gt 19, 3) := by decide +kernel
theorem dX10_advance_77 : decode cX10_advance 77 = .ok (.aload_n 0, 1) := by decide +kernel
theorem dX10_advance_78 : decode cX10_advance 78 = .ok (.getfield 32, 3) := by decide +kernel
theorem dX10_advance_81 : decode cX10_advance 81 = .ok (.iconst 2, 1) := by decide +kernel
theorem dX10_advance_82 : decode cX10_advance 82 = .ok (.if_icmp .ne 16, 3) := by decide +kernel
theorem dX10_advance_85 : decode cX10_advance 85 = .ok (.aload_n 0, 1) := by decide +kernel
theorem dX10_advance_86 : decode cX10_advance 86 = .ok (.getfield 22, 3) := by decide +kernel
theorem dX10_advance_89 : decode cX10_advance 89 = .ok (.iconst 3, 1) := by decide +kernel
theorem dX10_advance_90 : decode cX10_advance 90 = .ok (.if_icmp .le 8, 3) := by decide +kernel
theorem dX10_advance_93 : decode cX10_advance 93 = .ok (.aload_n 0, 1) := by decide +kernel
theorem dX10_advance_94 : decode cX10_advance 94 = .ok (.iconst 4, 1) := by decide +kernel
theorem dX10_advance_95 : decode cX10_advance 95 = .ok (.putfield 32, 3) := by decide +kernel
theorem dX10_advance_98 : decode cX10_advance 98 = .ok (.return_, 1) := by decide +kernel
theorem dX10_runFrom_0 : decode cX10_runFrom 0 = .ok (.aload_n 0, 1) := by decide +kernel
theorem dX10_runFrom_1 : decode cX10_runFrom 1 = .ok (.getfield 32, 3) := by decide +kernel
theorem dX10_runFrom_4 : decode cX10_runFrom 4 = .ok (.iconst 1, 1) := by decide +kernel
theorem dX10_runFrom_5 : decode cX10_runFrom 5 = .ok (.if_icmp .eq 24, 3) := by decide +kernel
theorem dX10_runFrom_8 : decode cX10_runFrom 8 = .ok (.aload_n 0, 1) := by decide +kernel
theorem dX10_runFrom_9 : decode cX10_runFrom 9 = .ok (.getfield 32, 3) := by decide +kernel
theorem dX10_runFrom_12 : decode cX10_runFrom 12 = .ok (.iconst 2, 1) := by decide +kernel
theorem dX10_runFrom_13 : decode cX10_runFrom 13 = .ok (.if_icmp .eq 16, 3) := by decide +kernel
theorem dX10_runFrom_16 : decode cX10_runFrom 16 = .ok (.aload_n 0, 1) := by decide +kernel
theorem dX10_runFrom_17 : decode cX10_runFrom 17 = .ok (.getfield 32, 3) := by decide +kernel
theorem dX10_runFrom_20 : decode cX10_runFrom 20 = .ok (.ifCond .ne 7, 3) := by decide +kernel
theorem dX10_runFrom_23 : decode cX10_runFrom 23 = .ok (.iconst 0, 1) := by decide +kernel
theorem dX10_runFrom_24 : decode cX10_runFrom 24 = .ok (.goto 4, 3) := by decide +kernel
theorem dX10_runFrom_27 : decode cX10_runFrom 27 = .ok (.iconst 1, 1) := by decide +kernel
theorem dX10_runFrom_28 : decode cX10_runFrom 28 = .ok (.ireturn, 1) := by decide +kernel
theorem dX10_runFrom_29 : decode cX10_runFrom 29 = .ok (.iload_n 1, 1) := by decide +kernel
theorem dX10_runFrom_30 : decode cX10_runFrom 30 = .ok (.iconst 1, 1) := by decide +kernel
theorem dX10_runFrom_31 : decode cX10_runFrom 31 = .ok (.iadd, 1) := by decide +kernel
theorem dX10_runFrom_32 : decode cX10_runFrom 32 = .ok (.istore_n 2, 1) := by decide +kernel
theorem dX10_runFrom_33 : decode cX10_runFrom 33 = .ok (.iload_n 2, 1) := by decide +kernel
theorem dX10_runFrom_34 : decode cX10_runFrom 34 = .ok (.aload_n 0, 1) := by decide +kernel
theorem dX10_runFrom_35 : decode cX10_runFrom 35 = .ok (.getfield 15, 3) := by decide +kernel
theorem dX10_runFrom_38 : decode cX10_runFrom 38 = .ok (.if_icmp .ge 24, 3) := by decide +kernel
theorem dX10_runFrom_41 : decode cX10_runFrom 41 = .ok (.aload_n 0, 1) := by decide +kernel
theorem dX10_runFrom_42 : decode cX10_runFrom 42 = .ok (.iload_n 2, 1) := by decide +kernel
theorem dX10_runFrom_43 : decode cX10_runFrom 43 = .ok (.invokevirtual 25, 3) := by decide +kernel
theorem dX10_runFrom_46 : decode cX10_runFrom 46 = .ok (.invokestatic 29, 3) := by decide +kernel
theorem dX10_runFrom_49 : decode cX10_runFrom 49 = .ok (.aload_n 0, 1) := by decide +kernel
theorem dX10_runFrom_50 : decode cX10_runFrom 50 = .ok (.getfield 32, 3) := by decide +kernel
theorem dX10_runFrom_53 : decode cX10_runFrom 53 = .ok (.if_icmp .ne 9, 3) := by decide +kernel
theorem dX10_runFrom_56 : decode cX10_runFrom 56 = .ok (.iinc 2 1, 3) := by decide +kernel
theorem dX10_runFrom_59 : decode cX10_runFrom 59 = .ok (.goto (-26), 3) := by decide +kernel
theorem dX10_runFrom_62 : decode cX10_runFrom 62 = .ok (.iload_n 2, 1) := by decide +kernel
theorem dX10_runFrom_63 : decode cX10_runFrom 63 = .ok (.iload_n 1, 1) := by decide +kernel
theorem dX10_runFrom_64 : decode cX10_runFrom 64 = .ok (.isub, 1) := by decide +kernel
theorem dX10_runFrom_65 : decode cX10_runFrom 65 = .ok (.ireturn, 1) := by decide +kernel
theorem dX10_kindOf_0 : decode cX10_kindOf 0 = .ok (.iload_n 0, 1) := by decide +kernel
theorem dX10_kindOf_1 : decode cX10_kindOf 1 = .ok (.iconst (-1), 1) := by decide +kernel
theorem dX10_kindOf_2 : decode cX10_kindOf 2 = .ok (.if_icmp .ne 5, 3) := by decide +kernel
theorem dX10_kindOf_5 : decode cX10_kindOf 5 = .ok (.iconst 0, 1) := by decide +kernel
theorem dX10_kindOf_6 : decode cX10_kindOf 6 = .ok (.ireturn, 1) := by decide +kernel
theorem dX10_kindOf_7 : decode cX10_kindOf 7 = .ok (.iload_n 0, 1) := by decide +kernel
theorem dX10_kindOf_8 : decode cX10_kindOf 8 = .ok (.bipush 97, 2) := by decide +kernel
theorem dX10_kindOf_10 : decode cX10_kindOf 10 = .ok (.if_icmp .lt 11, 3) := by decide +kernel
theorem dX10_kindOf_13 : decode cX10_kindOf 13 = .ok (.iload_n 0, 1) := by decide +kernel
theorem dX10_kindOf_14 : decode cX10_kindOf 14 = .ok (.bipush 122, 2) := by decide +kernel
theorem dX10_kindOf_16 : decode cX10_kindOf 16 = .ok (.if_icmp .gt 5, 3) := by decide +kernel
theorem dX10_kindOf_19 : decode cX10_kindOf 19 = .ok (.iconst 1, 1) := by decide +kernel
theorem dX10_kindOf_20 : decode cX10_kindOf 20 = .ok (.ireturn, 1) := by decide +kernel
theorem dX10_kindOf_21 : decode cX10_kindOf 21 = .ok (.iload_n 0, 1) := by decide +kernel
theorem dX10_kindOf_22 : decode cX10_kindOf 22 = .ok (.bipush 48, 2) := by decide +kernel
theorem dX10_kindOf_24 : decode cX10_kindOf 24 = .ok (.if_icmp .lt 11, 3) := by decide +kernel
theorem dX10_kindOf_27 : decode cX10_kindOf 27 = .ok (.iload_n 0, 1) := by decide +kernel
theorem dX10_kindOf_28 : decode cX10_kindOf 28 = .ok (.bipush 57, 2) := by decide +kernel
theorem dX10_kindOf_30 : decode cX10_kindOf 30 = .ok (.if_icmp .gt 5, 3) := by decide +kernel
theorem dX10_kindOf_33 : decode cX10_kindOf 33 = .ok (.iconst 2, 1) := by decide +kernel
theorem dX10_kindOf_34 : decode cX10_kindOf 34 = .ok (.ireturn, 1) := by decide +kernel
theorem dX10_kindOf_35 : decode cX10_kindOf 35 = .ok (.iload_n 0, 1) := by decide +kernel
theorem dX10_kindOf_36 : decode cX10_kindOf 36 = .ok (.bipush 59, 2) := by decide +kernel
theorem dX10_kindOf_38 : decode cX10_kindOf 38 = .ok (.if_icmp .eq 9, 3) := by decide +kernel
theorem dX10_kindOf_41 : decode cX10_kindOf 41 = .ok (.iload_n 0, 1) := by decide +kernel
theorem dX10_kindOf_42 : decode cX10_kindOf 42 = .ok (.bipush 44, 2) := by decide +kernel
theorem dX10_kindOf_44 : decode cX10_kindOf 44 = .ok (.if_icmp .ne 7, 3) := by decide +kernel
theorem dX10_kindOf_47 : decode cX10_kindOf 47 = .ok (.iconst 3, 1) := by decide +kernel
theorem dX10_kindOf_48 : decode cX10_kindOf 48 = .ok (.goto 4, 3) := by decide +kernel
theorem dX10_kindOf_51 : decode cX10_kindOf 51 = .ok (.iconst 4, 1) := by decide +kernel
theorem dX10_kindOf_52 : decode cX10_kindOf 52 = .ok (.ireturn, 1) := by decide +kernel
theorem dX10_byteAt_0 : decode cX10_byteAt 0 = .ok (.iload_n 1, 1) := by decide +kernel
theorem dX10_byteAt_1 : decode cX10_byteAt 1 = .ok (.ifCond .lt 29, 3) := by decide +kernel
theorem dX10_byteAt_4 : decode cX10_byteAt 4 = .ok (.iload_n 1, 1) := by decide +kernel
theorem dX10_byteAt_5 : decode cX10_byteAt 5 = .ok (.aload_n 0, 1) := by decide +kernel
theorem dX10_byteAt_6 : decode cX10_byteAt 6 = .ok (.getfield 15, 3) := by decide +kernel
theorem dX10_byteAt_9 : decode cX10_byteAt 9 = .ok (.if_icmp .ge 21, 3) := by decide +kernel
theorem dX10_byteAt_12 : decode cX10_byteAt 12 = .ok (.iload_n 1, 1) := by decide +kernel
theorem dX10_byteAt_13 : decode cX10_byteAt 13 = .ok (.aload_n 0, 1) := by decide +kernel
theorem dX10_byteAt_14 : decode cX10_byteAt 14 = .ok (.getfield 9, 3) := by decide +kernel
theorem dX10_byteAt_17 : decode cX10_byteAt 17 = .ok (.arraylength, 1) := by decide +kernel
theorem dX10_byteAt_18 : decode cX10_byteAt 18 = .ok (.if_icmp .ge 12, 3) := by decide +kernel
theorem dX10_byteAt_21 : decode cX10_byteAt 21 = .ok (.aload_n 0, 1) := by decide +kernel
theorem dX10_byteAt_22 : decode cX10_byteAt 22 = .ok (.getfield 9, 3) := by decide +kernel
theorem dX10_byteAt_25 : decode cX10_byteAt 25 = .ok (.iload_n 1, 1) := by decide +kernel
theorem dX10_byteAt_26 : decode cX10_byteAt 26 = .ok (.iaload, 1) := by decide +kernel
theorem dX10_byteAt_27 : decode cX10_byteAt 27 = .ok (.goto 4, 3) := by decide +kernel
theorem dX10_byteAt_30 : decode cX10_byteAt 30 = .ok (.iconst (-1), 1) := by decide +kernel
theorem dX10_byteAt_31 : decode cX10_byteAt 31 = .ok (.ireturn, 1) := by decide +kernel
theorem dX10_isWord_0 : decode cX10_isWord 0 = .ok (.aload_n 0, 1) := by decide +kernel
theorem dX10_isWord_1 : decode cX10_isWord 1 = .ok (.getfield 32, 3) := by decide +kernel
theorem dX10_isWord_4 : decode cX10_isWord 4 = .ok (.iconst 1, 1) := by decide +kernel
theorem dX10_isWord_5 : decode cX10_isWord 5 = .ok (.if_icmp .ne 14, 3) := by decide +kernel
theorem dX10_isWord_8 : decode cX10_isWord 8 = .ok (.aload_n 0, 1) := by decide +kernel
theorem dX10_isWord_9 : decode cX10_isWord 9 = .ok (.getfield 22, 3) := by decide +kernel
theorem dX10_isWord_12 : decode cX10_isWord 12 = .ok (.aload_n 1, 1) := by decide +kernel
theorem dX10_isWord_13 : decode cX10_isWord 13 = .ok (.invokevirtual 38, 3) := by decide +kernel
theorem dX10_isWord_16 : decode cX10_isWord 16 = .ok (.if_icmp .eq 5, 3) := by decide +kernel
theorem dX10_isWord_19 : decode cX10_isWord 19 = .ok (.iconst 0, 1) := by decide +kernel
theorem dX10_isWord_20 : decode cX10_isWord 20 = .ok (.ireturn, 1) := by decide +kernel
theorem dX10_isWord_21 : decode cX10_isWord 21 = .ok (.iconst 0, 1) := by decide +kernel
theorem dX10_isWord_22 : decode cX10_isWord 22 = .ok (.istore_n 2, 1) := by decide +kernel
theorem dX10_isWord_23 : decode cX10_isWord 23 = .ok (.iload_n 2, 1) := by decide +kernel
theorem dX10_isWord_24 : decode cX10_isWord 24 = .ok (.aload_n 0, 1) := by decide +kernel
theorem dX10_isWord_25 : decode cX10_isWord 25 = .ok (.getfield 22, 3) := by decide +kernel
theorem dX10_isWord_28 : decode cX10_isWord 28 = .ok (.if_icmp .ge 29, 3) := by decide +kernel
theorem dX10_isWord_31 : decode cX10_isWord 31 = .ok (.aload_n 0, 1) := by decide +kernel
theorem dX10_isWord_32 : decode cX10_isWord 32 = .ok (.aload_n 0, 1) := by decide +kernel
theorem dX10_isWord_33 : decode cX10_isWord 33 = .ok (.getfield 19, 3) := by decide +kernel
theorem dX10_isWord_36 : decode cX10_isWord 36 = .ok (.iload_n 2, 1) := by decide +kernel
theorem dX10_isWord_37 : decode cX10_isWord 37 = .ok (.iadd, 1) := by decide +kernel
theorem dX10_isWord_38 : decode cX10_isWord 38 = .ok (.invokevirtual 25, 3) := by decide +kernel
theorem dX10_isWord_41 : decode cX10_isWord 41 = .ok (.aload_n 1, 1) := by decide +kernel
theorem dX10_isWord_42 : decode cX10_isWord 42 = .ok (.iload_n 2, 1) := by decide +kernel
theorem dX10_isWord_43 : decode cX10_isWord 43 = .ok (.invokevirtual 43, 3) := by decide +kernel
theorem dX10_isWord_46 : decode cX10_isWord 46 = .ok (.if_icmp .eq 5, 3) := by decide +kernel
theorem dX10_isWord_49 : decode cX10_isWord 49 = .ok (.iconst 0, 1) := by decide +kernel
theorem dX10_isWord_50 : decode cX10_isWord 50 = .ok (.ireturn, 1) := by decide +kernel
theorem dX10_isWord_51 : decode cX10_isWord 51 = .ok (.iinc 2 1, 3) := by decide +kernel
theorem dX10_isWord_54 : decode cX10_isWord 54 = .ok (.goto (-31), 3) := by decide +kernel
theorem dX10_isWord_57 : decode cX10_isWord 57 = .ok (.iconst 1, 1) := by decide +kernel
theorem dX10_isWord_58 : decode cX10_isWord 58 = .ok (.ireturn, 1) := by decide +kernel
theorem dX10_isSign_0 : decode cX10_isSign 0 = .ok (.aload_n 0, 1) := by decide +kernel
theorem dX10_isSign_1 : decode cX10_isSign 1 = .ok (.getfield 32, 3) := by decide +kernel
theorem dX10_isSign_4 : decode cX10_isSign 4 = .ok (.iconst 3, 1) := by decide +kernel
theorem dX10_isSign_5 : decode cX10_isSign 5 = .ok (.if_icmp .ne 19, 3) := by decide +kernel
theorem dX10_isSign_8 : decode cX10_isSign 8 = .ok (.aload_n 0, 1) := by decide +kernel
theorem dX10_isSign_9 : decode cX10_isSign 9 = .ok (.aload_n 0, 1) := by decide +kernel
theorem dX10_isSign_10 : decode cX10_isSign 10 = .ok (.getfield 19, 3) := by decide +kernel
theorem dX10_isSign_13 : decode cX10_isSign 13 = .ok (.invokevirtual 25, 3) := by decide +kernel
theorem dX10_isSign_16 : decode cX10_isSign 16 = .ok (.iload_n 1, 1) := by decide +kernel
theorem dX10_isSign_17 : decode cX10_isSign 17 = .ok (.if_icmp .ne 7, 3) := by decide +kernel
theorem dX10_isSign_20 : decode cX10_isSign 20 = .ok (.iconst 1, 1) := by decide +kernel
theorem dX10_isSign_21 : decode cX10_isSign 21 = .ok (.goto 4, 3) := by decide +kernel
theorem dX10_isSign_24 : decode cX10_isSign 24 = .ok (.iconst 0, 1) := by decide +kernel
theorem dX10_isSign_25 : decode cX10_isSign 25 = .ok (.ireturn, 1) := by decide +kernel
theorem dX10_isName_0 : decode cX10_isName 0 = .ok (.aload_n 0, 1) := by decide +kernel
theorem dX10_isName_1 : decode cX10_isName 1 = .ok (.getfield 32, 3) := by decide +kernel
theorem dX10_isName_4 : decode cX10_isName 4 = .ok (.iconst 1, 1) := by decide +kernel
theorem dX10_isName_5 : decode cX10_isName 5 = .ok (.if_icmp .ne 52, 3) := by decide +kernel
theorem dX10_isName_8 : decode cX10_isName 8 = .ok (.aload_n 0, 1) := by decide +kernel
theorem dX10_isName_9 : decode cX10_isName 9 = .ok (.ldc 47, 2) := by decide +kernel
theorem dX10_isName_11 : decode cX10_isName 11 = .ok (.invokevirtual 49, 3) := by decide +kernel
theorem dX10_isName_14 : decode cX10_isName 14 = .ok (.ifCond .ne 43, 3) := by decide +kernel
theorem dX10_isName_17 : decode cX10_isName 17 = .ok (.aload_n 0, 1) := by decide +kernel
theorem dX10_isName_18 : decode cX10_isName 18 = .ok (.ldc 53, 2) := by decide +kernel
theorem dX10_isName_20 : decode cX10_isName 20 = .ok (.invokevirtual 49, 3) := by decide +kernel
theorem dX10_isName_23 : decode cX10_isName 23 = .ok (.ifCond .ne 34, 3) := by decide +kernel
theorem dX10_isName_26 : decode cX10_isName 26 = .ok (.aload_n 0, 1) := by decide +kernel
theorem dX10_isName_27 : decode cX10_isName 27 = .ok (.ldc 55, 2) := by decide +kernel
theorem dX10_isName_29 : decode cX10_isName 29 = .ok (.invokevirtual 49, 3) := by decide +kernel
theorem dX10_isName_32 : decode cX10_isName 32 = .ok (.ifCond .ne 25, 3) := by decide +kernel
theorem dX10_isName_35 : decode cX10_isName 35 = .ok (.aload_n 0, 1) := by decide +kernel
theorem dX10_isName_36 : decode cX10_isName 36 = .ok (.ldc 57, 2) := by decide +kernel
theorem dX10_isName_38 : decode cX10_isName 38 = .ok (.invokevirtual 49, 3) := by decide +kernel
theorem dX10_isName_41 : decode cX10_isName 41 = .ok (.ifCond .ne 16, 3) := by decide +kernel
theorem dX10_isName_44 : decode cX10_isName 44 = .ok (.aload_n 0, 1) := by decide +kernel
theorem dX10_isName_45 : decode cX10_isName 45 = .ok (.ldc 59, 2) := by decide +kernel
theorem dX10_isName_47 : decode cX10_isName 47 = .ok (.invokevirtual 49, 3) := by decide +kernel
theorem dX10_isName_50 : decode cX10_isName 50 = .ok (.ifCond .ne 7, 3) := by decide +kernel
theorem dX10_isName_53 : decode cX10_isName 53 = .ok (.iconst 1, 1) := by decide +kernel
theorem dX10_isName_54 : decode cX10_isName 54 = .ok (.goto 4, 3) := by decide +kernel
theorem dX10_isName_57 : decode cX10_isName 57 = .ok (.iconst 0, 1) := by decide +kernel
theorem dX10_isName_58 : decode cX10_isName 58 = .ok (.ireturn, 1) := by decide +kernel
theorem dX10_wordCode_0 : decode cX10_wordCode 0 = .ok (.lconst 0, 1) := by decide +kernel
theorem dX10_wordCode_1 : decode cX10_wordCode 1 = .ok (.lstore_n 1, 1) := by decide +kernel
theorem dX10_wordCode_2 : decode cX10_wordCode 2 = .ok (.iconst 0, 1) := by decide +kernel
theorem dX10_wordCode_3 : decode cX10_wordCode 3 = .ok (.istore_n 3, 1) := by decide +kernel
theorem dX10_wordCode_4 : decode cX10_wordCode 4 = .ok (.iload_n 3, 1) := by decide +kernel
theorem dX10_wordCode_5 : decode cX10_wordCode 5 = .ok (.aload_n 0, 1) := by decide +kernel
theorem dX10_wordCode_6 : decode cX10_wordCode 6 = .ok (.getfield 22, 3) := by decide +kernel
theorem dX10_wordCode_9 : decode cX10_wordCode 9 = .ok (.if_icmp .ge 38, 3) := by decide +kernel
theorem dX10_wordCode_12 : decode cX10_wordCode 12 = .ok (.iload_n 3, 1) := by decide +kernel
theorem dX10_wordCode_13 : decode cX10_wordCode 13 = .ok (.bipush 8, 2) := by decide +kernel
theorem dX10_wordCode_15 : decode cX10_wordCode 15 = .ok (.if_icmp .ge 32, 3) := by decide +kernel
theorem dX10_wordCode_18 : decode cX10_wordCode 18 = .ok (.lload_n 1, 1) := by decide +kernel
theorem dX10_wordCode_19 : decode cX10_wordCode 19 = .ok (.ldc2_w 61, 3) := by decide +kernel
theorem dX10_wordCode_22 : decode cX10_wordCode 22 = .ok (.lmul, 1) := by decide +kernel
theorem dX10_wordCode_23 : decode cX10_wordCode 23 = .ok (.aload_n 0, 1) := by decide +kernel
theorem dX10_wordCode_24 : decode cX10_wordCode 24 = .ok (.aload_n 0, 1) := by decide +kernel
theorem dX10_wordCode_25 : decode cX10_wordCode 25 = .ok (.getfield 19, 3) := by decide +kernel
theorem dX10_wordCode_28 : decode cX10_wordCode 28 = .ok (.iload_n 3, 1) := by decide +kernel
theorem dX10_wordCode_29 : decode cX10_wordCode 29 = .ok (.iadd, 1) := by decide +kernel
theorem dX10_wordCode_30 : decode cX10_wordCode 30 = .ok (.invokevirtual 25, 3) := by decide +kernel
theorem dX10_wordCode_33 : decode cX10_wordCode 33 = .ok (.bipush 97, 2) := by decide +kernel
theorem dX10_wordCode_35 : decode cX10_wordCode 35 = .ok (.isub, 1) := by decide +kernel
theorem dX10_wordCode_36 : decode cX10_wordCode 36 = .ok (.iconst 1, 1) := by decide +kernel
theorem dX10_wordCode_37 : decode cX10_wordCode 37 = .ok (.iadd, 1) := by decide +kernel
theorem dX10_wordCode_38 : decode cX10_wordCode 38 = .ok (.i2l, 1) := by decide +kernel
theorem dX10_wordCode_39 : decode cX10_wordCode 39 = .ok (.ladd, 1) := by decide +kernel
theorem dX10_wordCode_40 : decode cX10_wordCode 40 = .ok (.lstore_n 1, 1) := by decide +kernel
theorem dX10_wordCode_41 : decode cX10_wordCode 41 = .ok (.iinc 3 1, 3) := by decide +kernel
theorem dX10_wordCode_44 : decode cX10_wordCode 44 = .ok (.goto (-40), 3) := by decide +kernel
theorem dX10_wordCode_47 : decode cX10_wordCode 47 = .ok (.lload_n 1, 1) := by decide +kernel
theorem dX10_wordCode_48 : decode cX10_wordCode 48 = .ok (.lreturn, 1) := by decide +kernel
theorem dX10_wholeValue_0 : decode cX10_wholeValue 0 = .ok (.iconst 0, 1) := by decide +kernel
theorem dX10_wholeValue_1 : decode cX10_wholeValue 1 = .ok (.istore_n 1, 1) := by decide +kernel
theorem dX10_wholeValue_2 : decode cX10_wholeValue 2 = .ok (.iconst 0, 1) := by decide +kernel
theorem dX10_wholeValue_3 : decode cX10_wholeValue 3 = .ok (.istore_n 2, 1) := by decide +kernel
theorem dX10_wholeValue_4 : decode cX10_wholeValue 4 = .ok (.iload_n 2, 1) := by decide +kernel
theorem dX10_wholeValue_5 : decode cX10_wholeValue 5 = .ok (.aload_n 0, 1) := by decide +kernel
theorem dX10_wholeValue_6 : decode cX10_wholeValue 6 = .ok (.getfield 22, 3) := by decide +kernel
theorem dX10_wholeValue_9 : decode cX10_wholeValue 9 = .ok (.if_icmp .ge 33, 3) := by decide +kernel
theorem dX10_wholeValue_12 : decode cX10_wholeValue 12 = .ok (.iload_n 2, 1) := by decide +kernel
theorem dX10_wholeValue_13 : decode cX10_wholeValue 13 = .ok (.iconst 3, 1) := by decide +kernel
theorem dX10_wholeValue_14 : decode cX10_wholeValue 14 = .ok (.if_icmp .ge 28, 3) := by decide +kernel
theorem dX10_wholeValue_17 : decode cX10_wholeValue 17 = .ok (.iload_n 1, 1) := by decide +kernel
theorem dX10_wholeValue_18 : decode cX10_wholeValue 18 = .ok (.bipush 10, 2) := by decide +kernel
theorem dX10_wholeValue_20 : decode cX10_wholeValue 20 = .ok (.imul, 1) := by decide +kernel
theorem dX10_wholeValue_21 : decode cX10_wholeValue 21 = .ok (.aload_n 0, 1) := by decide +kernel
theorem dX10_wholeValue_22 : decode cX10_wholeValue 22 = .ok (.aload_n 0, 1) := by decide +kernel
theorem dX10_wholeValue_23 : decode cX10_wholeValue 23 = .ok (.getfield 19, 3) := by decide +kernel
theorem dX10_wholeValue_26 : decode cX10_wholeValue 26 = .ok (.iload_n 2, 1) := by decide +kernel
theorem dX10_wholeValue_27 : decode cX10_wholeValue 27 = .ok (.iadd, 1) := by decide +kernel
theorem dX10_wholeValue_28 : decode cX10_wholeValue 28 = .ok (.invokevirtual 25, 3) := by decide +kernel
theorem dX10_wholeValue_31 : decode cX10_wholeValue 31 = .ok (.bipush 48, 2) := by decide +kernel
theorem dX10_wholeValue_33 : decode cX10_wholeValue 33 = .ok (.isub, 1) := by decide +kernel
theorem dX10_wholeValue_34 : decode cX10_wholeValue 34 = .ok (.iadd, 1) := by decide +kernel
theorem dX10_wholeValue_35 : decode cX10_wholeValue 35 = .ok (.istore_n 1, 1) := by decide +kernel
theorem dX10_wholeValue_36 : decode cX10_wholeValue 36 = .ok (.iinc 2 1, 3) := by decide +kernel
theorem dX10_wholeValue_39 : decode cX10_wholeValue 39 = .ok (.goto (-35), 3) := by decide +kernel
theorem dX10_wholeValue_42 : decode cX10_wholeValue 42 = .ok (.iload_n 1, 1) := by decide +kernel
theorem dX10_wholeValue_43 : decode cX10_wholeValue 43 = .ok (.ireturn, 1) := by decide +kernel
theorem dX11_init_0 : decode cX11_init 0 = .ok (.aload_n 0, 1) := by decide +kernel
theorem dX11_init_1 : decode cX11_init 1 = .ok (.invokespecial 1, 3) := by decide +kernel
theorem dX11_init_4 : decode cX11_init 4 = .ok (.aload_n 0, 1) := by decide +kernel
theorem dX11_init_5 : decode cX11_init 5 = .ok (.sipush 900, 3) := by decide +kernel
theorem dX11_init_8 : decode cX11_init 8 = .ok (.newarray .int, 2) := by decide +kernel
theorem dX11_init_10 : decode cX11_init 10 = .ok (.putfield 9, 3) := by decide +kernel
theorem dX11_init_13 : decode cX11_init 13 = .ok (.aload_n 0, 1) := by decide +kernel
theorem dX11_init_14 : decode cX11_init 14 = .ok (.new 13, 3) := by decide +kernel
theorem dX11_init_17 : decode cX11_init 17 = .ok (.dup, 1) := by decide +kernel
theorem dX11_init_18 : decode cX11_init 18 = .ok (.iconst 0, 1) := by decide +kernel
theorem dX11_init_19 : decode cX11_init 19 = .ok (.invokespecial 15, 3) := by decide +kernel
theorem dX11_init_22 : decode cX11_init 22 = .ok (.putfield 18, 3) := by decide +kernel
theorem dX11_init_25 : decode cX11_init 25 = .ok (.aload_n 0, 1) := by decide +kernel
theorem dX11_init_26 : decode cX11_init 26 = .ok (.new 22, 3) := by decide +kernel
theorem dX11_init_29 : decode cX11_init 29 = .ok (.dup, 1) := by decide +kernel
theorem dX11_init_30 : decode cX11_init 30 = .ok (.invokespecial 24, 3) := by decide +kernel
theorem dX11_init_33 : decode cX11_init 33 = .ok (.putfield 25, 3) := by decide +kernel
theorem dX11_init_36 : decode cX11_init 36 = .ok (.aload_n 0, 1) := by decide +kernel
theorem dX11_init_37 : decode cX11_init 37 = .ok (.new 22, 3) := by decide +kernel
theorem dX11_init_40 : decode cX11_init 40 = .ok (.dup, 1) := by decide +kernel
theorem dX11_init_41 : decode cX11_init 41 = .ok (.invokespecial 24, 3) := by decide +kernel
theorem dX11_init_44 : decode cX11_init 44 = .ok (.putfield 29, 3) := by decide +kernel
theorem dX11_init_47 : decode cX11_init 47 = .ok (.aload_n 0, 1) := by decide +kernel
theorem dX11_init_48 : decode cX11_init 48 = .ok (.new 32, 3) := by decide +kernel
theorem dX11_init_51 : decode cX11_init 51 = .ok (.dup, 1) := by decide +kernel
theorem dX11_init_52 : decode cX11_init 52 = .ok (.invokespecial 34, 3) := by decide +kernel
theorem dX11_init_55 : decode cX11_init 55 = .ok (.putfield 35, 3) := by decide +kernel
theorem dX11_init_58 : decode cX11_init 58 = .ok (.aload_n 0, 1) := by decide +kernel
theorem dX11_init_59 : decode cX11_init 59 = .ok (.new 39, 3) := by decide +kernel
theorem dX11_init_62 : decode cX11_init 62 = .ok (.dup, 1) := by decide +kernel
theorem dX11_init_63 : decode cX11_init 63 = .ok (.invokespecial 41, 3) := by decide +kernel
theorem dX11_init_66 : decode cX11_init 66 = .ok (.putfield 42, 3) := by decide +kernel
theorem dX11_init_69 : decode cX11_init 69 = .ok (.aload_n 0, 1) := by decide +kernel
theorem dX11_init_70 : decode cX11_init 70 = .ok (.new 46, 3) := by decide +kernel
theorem dX11_init_73 : decode cX11_init 73 = .ok (.dup, 1) := by decide +kernel
theorem dX11_init_74 : decode cX11_init 74 = .ok (.invokespecial 48, 3) := by decide +kernel
theorem dX11_init_77 : decode cX11_init 77 = .ok (.putfield 49, 3) := by decide +kernel
theorem dX11_init_80 : decode cX11_init 80 = .ok (.return_, 1) := by decide +kernel
theorem dX11_feed_0 : decode cX11_feed 0 = .ok (.aload_n 0, 1) := by decide +kernel
theorem dX11_feed_1 : decode cX11_feed 1 = .ok (.getfield 53, 3) := by decide +kernel
theorem dX11_feed_4 : decode cX11_feed 4 = .ok (.sipush 880, 3) := by decide +kernel
theorem dX11_feed_7 : decode cX11_feed 7 = .ok (.if_icmp .le 5, 3) := by decide +kernel
theorem dX11_feed_10 : decode cX11_feed 10 = .ok (.iconst (-1), 1) := by decide +kernel
theorem dX11_feed_11 : decode cX11_feed 11 = .ok (.ireturn, 1) := by decide +kernel
theorem dX11_feed_12 : decode cX11_feed 12 = .ok (.aload_n 0, 1) := by decide +kernel
theorem dX11_feed_13 : decode cX11_feed 13 = .ok (.iload_n 1, 1) := by decide +kernel
theorem dX11_feed_14 : decode cX11_feed 14 = .ok (.invokevirtual 57, 3) := by decide +kernel
theorem dX11_feed_17 : decode cX11_feed 17 = .ok (.aload_n 0, 1) := by decide +kernel
theorem dX11_feed_18 : decode cX11_feed 18 = .ok (.iload_n 2, 1) := by decide +kernel
theorem dX11_feed_19 : decode cX11_feed 19 = .ok (.invokevirtual 57, 3) := by decide +kernel
theorem dX11_feed_22 : decode cX11_feed 22 = .ok (.aload_n 0, 1) := by decide +kernel
theorem dX11_feed_23 : decode cX11_feed 23 = .ok (.iload_n 3, 1) := by decide +kernel
theorem dX11_feed_24 : decode cX11_feed 24 = .ok (.invokevirtual 57, 3) := by decide +kernel
theorem dX11_feed_27 : decode cX11_feed 27 = .ok (.aload_n 0, 1) := by decide +kernel
theorem dX11_feed_28 : decode cX11_feed 28 = .ok (.iload 4, 2) := by decide +kernel
theorem dX11_feed_30 : decode cX11_feed 30 = .ok (.invokevirtual 57, 3) := by decide +kernel
theorem dX11_feed_33 : decode cX11_feed 33 = .ok (.aload_n 0, 1) := by decide +kernel
theorem dX11_feed_34 : decode cX11_feed 34 = .ok (.iload 5, 2) := by decide +kernel
theorem dX11_feed_36 : decode cX11_feed 36 = .ok (.invokevirtual 57, 3) := by decide +kernel
theorem dX11_feed_39 : decode cX11_feed 39 = .ok (.aload_n 0, 1) := by decide +kernel
theorem dX11_feed_40 : decode cX11_feed 40 = .ok (.getfield 53, 3) := by decide +kernel
theorem dX11_feed_43 : decode cX11_feed 43 = .ok (.ireturn, 1) := by decide +kernel
theorem dX11_append_0 : decode cX11_append 0 = .ok (.bipush 24, 2) := by decide +kernel
theorem dX11_append_2 : decode cX11_append 2 = .ok (.istore_n 2, 1) := by decide +kernel
theorem dX11_append_3 : decode cX11_append 3 = .ok (.iload_n 2, 1) := by decide +kernel
theorem dX11_append_4 : decode cX11_append 4 = .ok (.ifCond .lt 54, 3) := by decide +kernel
theorem dX11_append_7 : decode cX11_append 7 = .ok (.aload_n 0, 1) := by decide +kernel
theorem dX11_append_8 : decode cX11_append 8 = .ok (.getfield 53, 3) := by decide +kernel
theorem dX11_append_11 : decode cX11_append 11 = .ok (.ifCond .lt 41, 3) := by decide +kernel
theorem dX11_append_14 : decode cX11_append 14 = .ok (.aload_n 0, 1) := by decide +kernel
theorem dX11_append_15 : decode cX11_append 15 = .ok (.getfield 53, 3) := by decide +kernel
theorem dX11_append_18 : decode cX11_append 18 = .ok (.aload_n 0, 1) := by decide +kernel
theorem dX11_append_19 : decode cX11_append 19 = .ok (.getfield 9, 3) := by decide +kernel
theorem dX11_append_22 : decode cX11_append 22 = .ok (.arraylength, 1) := by decide +kernel
theorem dX11_append_23 : decode cX11_append 23 = .ok (.if_icmp .ge 29, 3) := by decide +kernel
theorem dX11_append_26 : decode cX11_append 26 = .ok (.aload_n 0, 1) := by decide +kernel
theorem dX11_append_27 : decode cX11_append 27 = .ok (.getfield 9, 3) := by decide +kernel
theorem dX11_append_30 : decode cX11_append 30 = .ok (.aload_n 0, 1) := by decide +kernel
theorem dX11_append_31 : decode cX11_append 31 = .ok (.getfield 53, 3) := by decide +kernel
theorem dX11_append_34 : decode cX11_append 34 = .ok (.iload_n 1, 1) := by decide +kernel
theorem dX11_append_35 : decode cX11_append 35 = .ok (.iload_n 2, 1) := by decide +kernel
theorem dX11_append_36 : decode cX11_append 36 = .ok (.iushr, 1) := by decide +kernel
theorem dX11_append_37 : decode cX11_append 37 = .ok (.sipush 255, 3) := by decide +kernel
theorem dX11_append_40 : decode cX11_append 40 = .ok (.iand, 1) := by decide +kernel
theorem dX11_append_41 : decode cX11_append 41 = .ok (.iastore, 1) := by decide +kernel
theorem dX11_append_42 : decode cX11_append 42 = .ok (.aload_n 0, 1) := by decide +kernel
theorem dX11_append_43 : decode cX11_append 43 = .ok (.dup, 1) := by decide +kernel
theorem dX11_append_44 : decode cX11_append 44 = .ok (.getfield 53, 3) := by decide +kernel
theorem dX11_append_47 : decode cX11_append 47 = .ok (.iconst 1, 1) := by decide +kernel
theorem dX11_append_48 : decode cX11_append 48 = .ok (.iadd, 1) := by decide +kernel
theorem dX11_append_49 : decode cX11_append 49 = .ok (.putfield 53, 3) := by decide +kernel
theorem dX11_append_52 : decode cX11_append 52 = .ok (.iinc 2 (-8), 3) := by decide +kernel
theorem dX11_append_55 : decode cX11_append 55 = .ok (.goto (-52), 3) := by decide +kernel
theorem dX11_append_58 : decode cX11_append 58 = .ok (.return_, 1) := by decide +kernel
theorem dX11_table_0 : decode cX11_table 0 = .ok (.iload_n 1, 1) := by decide +kernel
theorem dX11_table_1 : decode cX11_table 1 = .ok (.ifCond .lt 11, 3) := by decide +kernel
theorem dX11_table_4 : decode cX11_table 4 = .ok (.iload_n 1, 1) := by decide +kernel
theorem dX11_table_5 : decode cX11_table 5 = .ok (.aload_n 0, 1) := by decide +kernel
theorem dX11_table_6 : decode cX11_table 6 = .ok (.getfield 53, 3) := by decide +kernel
theorem dX11_table_9 : decode cX11_table 9 = .ok (.if_icmp .le 9, 3) := by decide +kernel
theorem dX11_table_12 : decode cX11_table 12 = .ok (.aload_n 0, 1) := by decide +kernel
theorem dX11_table_13 : decode cX11_table 13 = .ok (.iconst 2, 1) := by decide +kernel
theorem dX11_table_14 : decode cX11_table 14 = .ok (.invokevirtual 60, 3) := by decide +kernel
theorem dX11_table_17 : decode cX11_table 17 = .ok (.ireturn, 1) := by decide +kernel
theorem dX11_table_18 : decode cX11_table 18 = .ok (.aload_n 0, 1) := by decide +kernel
theorem dX11_table_19 : decode cX11_table 19 = .ok (.iconst 0, 1) := by decide +kernel
theorem dX11_table_20 : decode cX11_table 20 = .ok (.putfield 53, 3) := by decide +kernel
theorem dX11_table_23 : decode cX11_table 23 = .ok (.aload_n 0, 1) := by decide +kernel
theorem dX11_table_24 : decode cX11_table 24 = .ok (.getfield 29, 3) := by decide +kernel
theorem dX11_table_27 : decode cX11_table 27 = .ok (.invokevirtual 64, 3) := by decide +kernel
theorem dX11_table_30 : decode cX11_table 30 = .ok (.new 67, 3) := by decide +kernel
theorem dX11_table_33 : decode cX11_table 33 = .ok (.dup, 1) := by decide +kernel
theorem dX11_table_34 : decode cX11_table 34 = .ok (.new 69, 3) := by decide +kernel
theorem dX11_table_37 : decode cX11_table 37 = .ok (.dup, 1) := by decide +kernel
theorem dX11_table_38 : decode cX11_table 38 = .ok (.aload_n 0, 1) := by decide +kernel
theorem dX11_table_39 : decode cX11_table 39 = .ok (.getfield 9, 3) := by decide +kernel
theorem dX11_table_42 : decode cX11_table 42 = .ok (.iload_n 1, 1) := by decide +kernel
theorem dX11_table_43 : decode cX11_table 43 = .ok (.invokespecial 71, 3) := by decide +kernel
theorem dX11_table_46 : decode cX11_table 46 = .ok (.aload_n 0, 1) := by decide +kernel
theorem dX11_table_47 : decode cX11_table 47 = .ok (.getfield 29, 3) := by decide +kernel
theorem dX11_table_50 : decode cX11_table 50 = .ok (.invokespecial 74, 3) := by decide +kernel
theorem dX11_table_53 : decode cX11_table 53 = .ok (.astore_n 2, 1) := by decide +kernel
theorem dX11_table_54 : decode cX11_table 54 = .ok (.aload_n 2, 1) := by decide +kernel
theorem dX11_table_55 : decode cX11_table 55 = .ok (.invokevirtual 77, 3) := by decide +kernel
theorem dX11_table_58 : decode cX11_table 58 = .ok (.istore_n 3, 1) := by decide +kernel
theorem dX11_table_59 : decode cX11_table 59 = .ok (.aload_n 0, 1) := by decide +kernel
theorem dX11_table_60 : decode cX11_table 60 = .ok (.aload_n 2, 1) := by decide +kernel
theorem dX11_table_61 : decode cX11_table 61 = .ok (.getfield 81, 3) := by decide +kernel
theorem dX11_table_64 : decode cX11_table 64 = .ok (.putfield 84, 3) := by decide +kernel
theorem dX11_table_67 : decode cX11_table 67 = .ok (.aload_n 0, 1) := by decide +kernel
theorem dX11_table_68 : decode cX11_table 68 = .ok (.aload_n 2, 1) := by decide +kernel
theorem dX11_table_69 : decode cX11_table 69 = .ok (.getfield 87, 3) := by decide +kernel
theorem dX11_table_72 : decode cX11_table 72 = .ok (.putfield 90, 3) := by decide +kernel
theorem dX11_table_75 : decode cX11_table 75 = .ok (.iload_n 3, 1) := by decide +kernel
theorem dX11_table_76 : decode cX11_table 76 = .ok (.ifCond .ne 9, 3) := by decide +kernel
theorem dX11_table_79 : decode cX11_table 79 = .ok (.aload_n 0, 1) := by decide +kernel
theorem dX11_table_80 : decode cX11_table 80 = .ok (.iconst 4, 1) := by decide +kernel
theorem dX11_table_81 : decode cX11_table 81 = .ok (.invokevirtual 60, 3) := by decide +kernel
theorem dX11_table_84 : decode cX11_table 84 = .ok (.ireturn, 1) := by decide +kernel
theorem dX11_table_85 : decode cX11_table 85 = .ok (.aload_n 0, 1) := by decide +kernel
theorem dX11_table_86 : decode cX11_table 86 = .ok (.aload_n 2, 1) := by decide +kernel
theorem dX11_table_87 : decode cX11_table 87 = .ok (.getfield 93, 3) := by decide +kernel
theorem dX11_table_90 : decode cX11_table 90 = .ok (.invokevirtual 97, 3) := by decide +kernel
theorem dX11_table_93 : decode cX11_table 93 = .ok (.aload_n 0, 1) := by decide +kernel
theorem dX11_table_94 : decode cX11_table 94 = .ok (.aload_n 0, 1) := by decide +kernel
theorem dX11_table_95 : decode cX11_table 95 = .ok (.getfield 101, 3) := by decide +kernel
theorem dX11_table_98 : decode cX11_table 98 = .ok (.getfield 104, 3) := by decide +kernel
theorem dX11_table_101 : decode cX11_table 101 = .ok (.arraylength, 1) := by decide +kernel
theorem dX11_table_102 : decode cX11_table 102 = .ok (.invokevirtual 110, 3) := by decide +kernel
theorem dX11_table_105 : decode cX11_table 105 = .ok (.ireturn, 1) := by decide +kernel
theorem dX11_begin_0 : decode cX11_begin 0 = .ok (.aload_n 0, 1) := by decide +kernel
theorem dX11_begin_1 : decode cX11_begin 1 = .ok (.aload_n 1, 1) := by decide +kernel
theorem dX11_begin_2 : decode cX11_begin 2 = .ok (.putfield 101, 3) := by decide +kernel
theorem dX11_begin_5 : decode cX11_begin 5 = .ok (.aload_n 0, 1) := by decide +kernel
theorem dX11_begin_6 : decode cX11_begin 6 = .ok (.getfield 25, 3) := by decide +kernel
theorem dX11_begin_9 : decode cX11_begin 9 = .ok (.aload_n 0, 1) := by decide +kernel
theorem dX11_begin_10 : decode cX11_begin 10 = .ok (.getfield 29, 3) := by decide +kernel
theorem dX11_begin_13 : decode cX11_begin 13 = .ok (.invokevirtual 113, 3) := by decide +kernel
theorem dX11_begin_16 : decode cX11_begin 16 = .ok (.aload_n 0, 1) := by decide +kernel
theorem dX11_begin_17 : decode cX11_begin 17 = .ok (.getfield 35, 3) := by decide +kernel
theorem dX11_begin_20 : decode cX11_begin 20 = .ok (.invokevirtual 117, 3) := by decide +kernel
theorem dX11_begin_23 : decode cX11_begin 23 = .ok (.aload_n 0, 1) := by decide +kernel
theorem dX11_begin_24 : decode cX11_begin 24 = .ok (.getfield 18, 3) := by decide +kernel
theorem dX11_begin_27 : decode cX11_begin 27 = .ok (.aload_n 1, 1) := by decide +kernel
theorem dX11_begin_28 : decode cX11_begin 28 = .ok (.invokevirtual 118, 3) := by decide +kernel
theorem dX11_begin_31 : decode cX11_begin 31 = .ok (.ifCond .ne 18, 3) := by decide +kernel
theorem dX11_begin_34 : decode cX11_begin 34 = .ok (.aload_n 0, 1) := by decide +kernel
theorem dX11_begin_35 : decode cX11_begin 35 = .ok (.new 13, 3) := by decide +kernel
theorem dX11_begin_38 : decode cX11_begin 38 = .ok (.dup, 1) := by decide +kernel
theorem dX11_begin_39 : decode cX11_begin 39 = .ok (.aload_n 1, 1) := by decide +kernel
theorem dX11_begin_40 : decode cX11_begin 40 = .ok (.getfield 122, 3) := by decide +kernel
theorem dX11_begin_43 : decode cX11_begin 43 = .ok (.invokespecial 15, 3) := by decide +kernel
theorem dX11_begin_46 : decode cX11_begin 46 = .ok (.putfield 18, 3) := by decide +kernel
theorem dX11_begin_49 : decode cX11_begin 49 = .ok (.aload_n 0, 1) := by decide +kernel
theorem dX11_begin_50 : decode cX11_begin 50 = .ok (.getfield 18, 3) := by decide +kernel
theorem dX11_begin_53 : decode cX11_begin 53 = .ok (.aload_n 1, 1) := by decide +kernel
theorem dX11_begin_54 : decode cX11_begin 54 = .ok (.invokevirtual 125, 3) := by decide +kernel
theorem dX11_begin_57 : decode cX11_begin 57 = .ok (.return_, 1) := by decide +kernel
theorem dX11_fault_0 : decode cX11_fault 0 = .ok (.aload_n 0, 1) := by decide +kernel
theorem dX11_fault_1 : decode cX11_fault 1 = .ok (.getfield 84, 3) := by decide +kernel
theorem dX11_fault_4 : decode cX11_fault 4 = .ok (.ireturn, 1) := by decide +kernel
theorem dX11_where_0 : decode cX11_where 0 = .ok (.aload_n 0, 1) := by decide +kernel
theorem dX11_where_1 : decode cX11_where 1 = .ok (.getfield 128, 3) := by decide +kernel
theorem dX11_where_4 : decode cX11_where 4 = .ok (.iconst 4, 1) := by decide +kernel
theorem dX11_where_5 : decode cX11_where 5 = .ok (.if_icmp .ne 10, 3) := by decide +kernel
theorem dX11_where_8 : decode cX11_where 8 = .ok (.aload_n 0, 1) := by decide +kernel
theorem dX11_where_9 : decode cX11_where 9 = .ok (.getfield 90, 3) := by decide +kernel
theorem dX11_where_12 : decode cX11_where 12 = .ok (.goto 4, 3) := by decide +kernel
theorem dX11_where_15 : decode cX11_where 15 = .ok (.iconst (-1), 1) := by decide +kernel
theorem dX11_where_16 : decode cX11_where 16 = .ok (.ireturn, 1) := by decide +kernel
theorem dX11_lay_0 : decode cX11_lay 0 = .ok (.aload_n 0, 1) := by decide +kernel
theorem dX11_lay_1 : decode cX11_lay 1 = .ok (.iload_n 1, 1) := by decide +kernel
theorem dX11_lay_2 : decode cX11_lay 2 = .ok (.invokevirtual 131, 3) := by decide +kernel
theorem dX11_lay_5 : decode cX11_lay 5 = .ok (.astore_n 3, 1) := by decide +kernel
theorem dX11_lay_6 : decode cX11_lay 6 = .ok (.aload_n 3, 1) := by decide +kernel
theorem dX11_lay_7 : decode cX11_lay 7 = .ok (.ifnull 12, 3) := by decide +kernel
theorem dX11_lay_10 : decode cX11_lay 10 = .ok (.iload_n 2, 1) := by decide +kernel
theorem dX11_lay_11 : decode cX11_lay 11 = .ok (.ifCond .lt 8, 3) := by decide +kernel
theorem dX11_lay_14 : decode cX11_lay 14 = .ok (.iload_n 2, 1) := by decide +kernel
theorem dX11_lay_15 : decode cX11_lay 15 = .ok (.iconst 5, 1) := by decide +kernel
theorem dX11_lay_16 : decode cX11_lay 16 = .ok (.if_icmp .le 9, 3) := by decide +kernel
theorem dX11_lay_19 : decode cX11_lay 19 = .ok (.aload_n 0, 1) := by decide +kernel
theorem dX11_lay_20 : decode cX11_lay 20 = .ok (.iconst 1, 1) := by decide +kernel
theorem dX11_lay_21 : decode cX11_lay 21 = .ok (.invokevirtual 60, 3) := by decide +kernel
theorem dX11_lay_24 : decode cX11_lay 24 = .ok (.ireturn, 1) := by decide +kernel
theorem dX11_lay_25 : decode cX11_lay 25 = .ok (.aload_n 0, 1) := by decide +kernel
theorem dX11_lay_26 : decode cX11_lay 26 = .ok (.aload_n 3, 1) := by decide +kernel
theorem dX11_lay_27 : decode cX11_lay 27 = .ok (.iload_n 2, 1) := by decide +kernel
theorem dX11_lay_28 : decode cX11_lay 28 = .ok (.invokevirtual 135, 3) := by decide +kernel
theorem dX11_lay_31 : decode cX11_lay 31 = .ok (.invokevirtual 110, 3) := by decide +kernel
theorem dX11_lay_34 : decode cX11_lay 34 = .ok (.ireturn, 1) := by decide +kernel
theorem dX11_layOf_0 : decode cX11_layOf 0 = .ok (.aload_n 0, 1) := by decide +kernel
theorem dX11_layOf_1 : decode cX11_layOf 1 = .ok (.getfield 101, 3) := by decide +kernel
theorem dX11_layOf_4 : decode cX11_layOf 4 = .ok (.ifnull 25, 3) := by decide +kernel
theorem dX11_layOf_7 : decode cX11_layOf 7 = .ok (.aload_n 0, 1) := by decide +kernel
theorem dX11_layOf_8 : decode cX11_layOf 8 = .ok (.getfield 101, 3) := by decide +kernel
theorem dX11_layOf_11 : decode cX11_layOf 11 = .ok (.iload_n 1, 1) := by decide +kernel
theorem dX11_layOf_12 : decode cX11_layOf 12 = .ok (.invokevirtual 140, 3) := by decide +kernel
theorem dX11_layOf_15 : decode cX11_layOf 15 = .ok (.ifnull 14, 3) := by decide +kernel
theorem dX11_layOf_18 : decode cX11_layOf 18 = .ok (.aload_n 0, 1) := by decide +kernel
theorem dX11_layOf_19 : decode cX11_layOf 19 = .ok (.getfield 101, 3) := by decide +kernel
theorem dX11_layOf_22 : decode cX11_layOf 22 = .ok (.iload_n 2, 1) := by decide +kernel
theorem dX11_layOf_23 : decode cX11_layOf 23 = .ok (.invokevirtual 144, 3) := by decide +kernel
theorem dX11_layOf_26 : decode cX11_layOf 26 = .ok (.ifnonnull 9, 3) := by decide +kernel
theorem dX11_layOf_29 : decode cX11_layOf 29 = .ok (.aload_n 0, 1) := by decide +kernel
theorem dX11_layOf_30 : decode cX11_layOf 30 = .ok (.iconst 1, 1) := by decide +kernel
theorem dX11_layOf_31 : decode cX11_layOf 31 = .ok (.invokevirtual 60, 3) := by decide +kernel
theorem dX11_layOf_34 : decode cX11_layOf 34 = .ok (.ireturn, 1) := by decide +kernel
theorem dX11_layOf_35 : decode cX11_layOf 35 = .ok (.iload 5, 2) := by decide +kernel
theorem dX11_layOf_37 : decode cX11_layOf 37 = .ok (.ifCond .lt 9, 3) := by decide +kernel
theorem dX11_layOf_40 : decode cX11_layOf 40 = .ok (.iload 5, 2) := by decide +kernel
theorem dX11_layOf_42 : decode cX11_layOf 42 = .ok (.iconst 3, 1) := by decide +kernel
theorem dX11_layOf_43 : decode cX11_layOf 43 = .ok (.if_icmp .le 9, 3) := by decide +kernel
theorem dX11_layOf_46 : decode cX11_layOf 46 = .ok (.aload_n 0, 1) := by decide +kernel
theorem dX11_layOf_47 : decode cX11_layOf 47 = .ok (.iconst 2, 1) := by decide +kernel
theorem dX11_layOf_48 : decode cX11_layOf 48 = .ok (.invokevirtual 60, 3) := by decide +kernel
theorem dX11_layOf_51 : decode cX11_layOf 51 = .ok (.ireturn, 1) := by decide +kernel
theorem dX11_layOf_52 : decode cX11_layOf 52 = .ok (.aload_n 0, 1) := by decide +kernel
theorem dX11_layOf_53 : decode cX11_layOf 53 = .ok (.aload_n 0, 1) := by decide +kernel
theorem dX11_layOf_54 : decode cX11_layOf 54 = .ok (.getfield 101, 3) := by decide +kernel
theorem dX11_layOf_57 : decode cX11_layOf 57 = .ok (.iload_n 1, 1) := by decide +kernel
theorem dX11_layOf_58 : decode cX11_layOf 58 = .ok (.iload_n 2, 1) := by decide +kernel
theorem dX11_layOf_59 : decode cX11_layOf 59 = .ok (.iload_n 3, 1) := by decide +kernel
theorem dX11_layOf_60 : decode cX11_layOf 60 = .ok (.iload 4, 2) := by decide +kernel
theorem dX11_layOf_62 : decode cX11_layOf 62 = .ok (.iload 5, 2) := by decide +kernel
theorem dX11_layOf_64 : decode cX11_layOf 64 = .ok (.invokevirtual 148, 3) := by decide +kernel
theorem dX11_layOf_67 : decode cX11_layOf 67 = .ok (.invokestatic 152, 3) := by decide +kernel
theorem dX11_layOf_70 : decode cX11_layOf 70 = .ok (.invokevirtual 110, 3) := by decide +kernel
theorem dX11_layOf_73 : decode cX11_layOf 73 = .ok (.ireturn, 1) := by decide +kernel
theorem dX11_may_0 : decode cX11_may 0 = .ok (.aload_n 0, 1) := by decide +kernel
theorem dX11_may_1 : decode cX11_may 1 = .ok (.iload_n 1, 1) := by decide +kernel
theorem dX11_may_2 : decode cX11_may 2 = .ok (.invokevirtual 131, 3) := by decide +kernel
theorem dX11_may_5 : decode cX11_may 5 = .ok (.astore_n 2, 1) := by decide +kernel
theorem dX11_may_6 : decode cX11_may 6 = .ok (.aload_n 2, 1) := by decide +kernel
theorem dX11_may_7 : decode cX11_may 7 = .ok (.ifnonnull 9, 3) := by decide +kernel
theorem dX11_may_10 : decode cX11_may 10 = .ok (.aload_n 0, 1) := by decide +kernel
theorem dX11_may_11 : decode cX11_may 11 = .ok (.iconst 1, 1) := by decide +kernel
theorem dX11_may_12 : decode cX11_may 12 = .ok (.invokevirtual 60, 3) := by decide +kernel
theorem dX11_may_15 : decode cX11_may 15 = .ok (.ireturn, 1) := by decide +kernel
theorem dX11_may_16 : decode cX11_may 16 = .ok (.aload_n 0, 1) := by decide +kernel
theorem dX11_may_17 : decode cX11_may 17 = .ok (.aload_n 2, 1) := by decide +kernel
theorem dX11_may_18 : decode cX11_may 18 = .ok (.aload_n 0, 1) := by decide +kernel
theorem dX11_may_19 : decode cX11_may 19 = .ok (.getfield 25, 3) := by decide +kernel
theorem dX11_may_22 : decode cX11_may 22 = .ok (.getfield 156, 3) := by decide +kernel
theorem dX11_may_25 : decode cX11_may 25 = .ok (.aload_n 0, 1) := by decide +kernel
theorem dX11_may_26 : decode cX11_may 26 = .ok (.getfield 25, 3) := by decide +kernel
theorem dX11_may_29 : decode cX11_may 29 = .ok (.invokevirtual 159, 3) := by decide +kernel
theorem dX11_may_32 : decode cX11_may 32 = .ok (.invokevirtual 163, 3) := by decide +kernel
theorem dX11_may_35 : decode cX11_may 35 = .ok (.ifCond .eq 7, 3) := by decide +kernel
theorem dX11_may_38 : decode cX11_may 38 = .ok (.iconst 1, 1) := by decide +kernel
theorem dX11_may_39 : decode cX11_may 39 = .ok (.goto 4, 3) := by decide +kernel
theorem dX11_may_42 : decode cX11_may 42 = .ok (.iconst 0, 1) := by decide +kernel
theorem dX11_may_43 : decode cX11_may 43 = .ok (.invokevirtual 110, 3) := by decide +kernel
theorem dX11_may_46 : decode cX11_may 46 = .ok (.ireturn, 1) := by decide +kernel
theorem dX11_lays_0 : decode cX11_lays 0 = .ok (.aload_n 0, 1) := by decide +kernel
theorem dX11_lays_1 : decode cX11_lays 1 = .ok (.getfield 101, 3) := by decide +kernel
theorem dX11_lays_4 : decode cX11_lays 4 = .ok (.ifnonnull 9, 3) := by decide +kernel
theorem dX11_lays_7 : decode cX11_lays 7 = .ok (.aload_n 0, 1) := by decide +kernel
theorem dX11_lays_8 : decode cX11_lays 8 = .ok (.iconst 1, 1) := by decide +kernel
theorem dX11_lays_9 : decode cX11_lays 9 = .ok (.invokevirtual 60, 3) := by decide +kernel
theorem dX11_lays_12 : decode cX11_lays 12 = .ok (.ireturn, 1) := by decide +kernel
theorem dX11_lays_13 : decode cX11_lays 13 = .ok (.aload_n 0, 1) := by decide +kernel
theorem dX11_lays_14 : decode cX11_lays 14 = .ok (.aload_n 0, 1) := by decide +kernel
theorem dX11_lays_15 : decode cX11_lays 15 = .ok (.getfield 101, 3) := by decide +kernel
theorem dX11_lays_18 : decode cX11_lays 18 = .ok (.aload_n 0, 1) := by decide +kernel
theorem dX11_lays_19 : decode cX11_lays 19 = .ok (.getfield 25, 3) := by decide +kernel
theorem dX11_lays_22 : decode cX11_lays 22 = .ok (.getfield 156, 3) := by decide +kernel
theorem dX11_lays_25 : decode cX11_lays 25 = .ok (.aload_n 0, 1) := by decide +kernel
theorem dX11_lays_26 : decode cX11_lays 26 = .ok (.getfield 25, 3) := by decide +kernel
theorem dX11_lays_29 : decode cX11_lays 29 = .ok (.invokevirtual 159, 3) := by decide +kernel
theorem dX11_lays_32 : decode cX11_lays 32 = .ok (.invokevirtual 167, 3) := by decide +kernel
theorem dX11_lays_35 : decode cX11_lays 35 = .ok (.invokevirtual 110, 3) := by decide +kernel
theorem dX11_lays_38 : decode cX11_lays 38 = .ok (.ireturn, 1) := by decide +kernel
theorem dX11_layAt_0 : decode cX11_layAt 0 = .ok (.aload_n 0, 1) := by decide +kernel
theorem dX11_layAt_1 : decode cX11_layAt 1 = .ok (.getfield 101, 3) := by decide +kernel
theorem dX11_layAt_4 : decode cX11_layAt 4 = .ok (.ifnonnull 7, 3) := by decide +kernel
theorem dX11_layAt_7 : decode cX11_layAt 7 = .ok (.aconst_null, 1) := by decide +kernel
theorem dX11_layAt_8 : decode cX11_layAt 8 = .ok (.goto 25, 3) := by decide +kernel
theorem dX11_layAt_11 : decode cX11_layAt 11 = .ok (.aload_n 0, 1) := by decide +kernel
theorem dX11_layAt_12 : decode cX11_layAt 12 = .ok (.getfield 101, 3) := by decide +kernel
theorem dX11_layAt_15 : decode cX11_layAt 15 = .ok (.aload_n 0, 1) := by decide +kernel
theorem dX11_layAt_16 : decode cX11_layAt 16 = .ok (.getfield 25, 3) := by decide +kernel
theorem dX11_layAt_19 : decode cX11_layAt 19 = .ok (.getfield 156, 3) := by decide +kernel
theorem dX11_layAt_22 : decode cX11_layAt 22 = .ok (.aload_n 0, 1) := by decide +kernel
theorem dX11_layAt_23 : decode cX11_layAt 23 = .ok (.getfield 25, 3) := by decide +kernel
theorem dX11_layAt_26 : decode cX11_layAt 26 = .ok (.invokevirtual 159, 3) := by decide +kernel
theorem dX11_layAt_29 : decode cX11_layAt 29 = .ok (.iload_n 1, 1) := by decide +kernel
theorem dX11_layAt_30 : decode cX11_layAt 30 = .ok (.invokevirtual 171, 3) := by decide +kernel
theorem dX11_layAt_33 : decode cX11_layAt 33 = .ok (.astore_n 2, 1) := by decide +kernel
theorem dX11_layAt_34 : decode cX11_layAt 34 = .ok (.aload_n 2, 1) := by decide +kernel
theorem dX11_layAt_35 : decode cX11_layAt 35 = .ok (.ifnonnull 9, 3) := by decide +kernel
theorem dX11_layAt_38 : decode cX11_layAt 38 = .ok (.aload_n 0, 1) := by decide +kernel
theorem dX11_layAt_39 : decode cX11_layAt 39 = .ok (.iconst 1, 1) := by decide +kernel
theorem dX11_layAt_40 : decode cX11_layAt 40 = .ok (.invokevirtual 60, 3) := by decide +kernel
theorem dX11_layAt_43 : decode cX11_layAt 43 = .ok (.ireturn, 1) := by decide +kernel
theorem dX11_layAt_44 : decode cX11_layAt 44 = .ok (.aload_n 0, 1) := by decide +kernel
theorem dX11_layAt_45 : decode cX11_layAt 45 = .ok (.aload_n 2, 1) := by decide +kernel
theorem dX11_layAt_46 : decode cX11_layAt 46 = .ok (.getfield 175, 3) := by decide +kernel
theorem dX11_layAt_49 : decode cX11_layAt 49 = .ok (.invokevirtual 110, 3) := by decide +kernel
theorem dX11_layAt_52 : decode cX11_layAt 52 = .ok (.ireturn, 1) := by decide +kernel
theorem dX11_across_0 : decode cX11_across 0 = .ok (.aload_n 0, 1) := by decide +kernel
theorem dX11_across_1 : decode cX11_across 1 = .ok (.iload_n 1, 1) := by decide +kernel
theorem dX11_across_2 : decode cX11_across 2 = .ok (.invokevirtual 131, 3) := by decide +kernel
theorem dX11_across_5 : decode cX11_across 5 = .ok (.astore_n 2, 1) := by decide +kernel
theorem dX11_across_6 : decode cX11_across 6 = .ok (.aload_n 2, 1) := by decide +kernel
theorem dX11_across_7 : decode cX11_across 7 = .ok (.ifnonnull 9, 3) := by decide +kernel
theorem dX11_across_10 : decode cX11_across 10 = .ok (.aload_n 0, 1) := by decide +kernel
theorem dX11_across_11 : decode cX11_across 11 = .ok (.iconst 1, 1) := by decide +kernel
theorem dX11_across_12 : decode cX11_across 12 = .ok (.invokevirtual 60, 3) := by decide +kernel
theorem dX11_across_15 : decode cX11_across 15 = .ok (.ireturn, 1) := by decide +kernel
theorem dX11_across_16 : decode cX11_across 16 = .ok (.aload_n 0, 1) := by decide +kernel
theorem dX11_across_17 : decode cX11_across 17 = .ok (.aload_n 2, 1) := by decide +kernel
theorem dX11_across_18 : decode cX11_across 18 = .ok (.getfield 178, 3) := by decide +kernel
theorem dX11_across_21 : decode cX11_across 21 = .ok (.invokestatic 152, 3) := by decide +kernel
theorem dX11_across_24 : decode cX11_across 24 = .ok (.invokevirtual 110, 3) := by decide +kernel
theorem dX11_across_27 : decode cX11_across 27 = .ok (.ireturn, 1) := by decide +kernel
theorem dX11_taken_0 : decode cX11_taken 0 = .ok (.aload_n 0, 1) := by decide +kernel
theorem dX11_taken_1 : decode cX11_taken 1 = .ok (.getfield 101, 3) := by decide +kernel
theorem dX11_taken_4 : decode cX11_taken 4 = .ok (.ifnonnull 9, 3) := by decide +kernel
theorem dX11_taken_7 : decode cX11_taken 7 = .ok (.aload_n 0, 1) := by decide +kernel
theorem dX11_taken_8 : decode cX11_taken 8 = .ok (.iconst 1, 1) := by decide +kernel
theorem dX11_taken_9 : decode cX11_taken 9 = .ok (.invokevirtual 60, 3) := by decide +kernel
theorem dX11_taken_12 : decode cX11_taken 12 = .ok (.ireturn, 1) := by decide +kernel
theorem dX11_taken_13 : decode cX11_taken 13 = .ok (.aload_n 0, 1) := by decide +kernel
theorem dX11_taken_14 : decode cX11_taken 14 = .ok (.aload_n 0, 1) := by decide +kernel
theorem dX11_taken_15 : decode cX11_taken 15 = .ok (.getfield 25, 3) := by decide +kernel
theorem dX11_taken_18 : decode cX11_taken 18 = .ok (.getfield 156, 3) := by decide +kernel
theorem dX11_taken_21 : decode cX11_taken 21 = .ok (.invokevirtual 110, 3) := by decide +kernel
theorem dX11_taken_24 : decode cX11_taken 24 = .ok (.ireturn, 1) := by decide +kernel
theorem dX11_dead_0 : decode cX11_dead 0 = .ok (.aload_n 0, 1) := by decide +kernel
theorem dX11_dead_1 : decode cX11_dead 1 = .ok (.getfield 101, 3) := by decide +kernel
theorem dX11_dead_4 : decode cX11_dead 4 = .ok (.ifnonnull 9, 3) := by decide +kernel
theorem dX11_dead_7 : decode cX11_dead 7 = .ok (.aload_n 0, 1) := by decide +kernel
theorem dX11_dead_8 : decode cX11_dead 8 = .ok (.iconst 1, 1) := by decide +kernel
theorem dX11_dead_9 : decode cX11_dead 9 = .ok (.invokevirtual 60, 3) := by decide +kernel
theorem dX11_dead_12 : decode cX11_dead 12 = .ok (.ireturn, 1) := by decide +kernel
theorem dX11_dead_13 : decode cX11_dead 13 = .ok (.aload_n 0, 1) := by decide +kernel
theorem dX11_dead_14 : decode cX11_dead 14 = .ok (.aload_n 0, 1) := by decide +kernel
theorem dX11_dead_15 : decode cX11_dead 15 = .ok (.getfield 101, 3) := by decide +kernel
theorem dX11_dead_18 : decode cX11_dead 18 = .ok (.aload_n 0, 1) := by decide +kernel
theorem dX11_dead_19 : decode cX11_dead 19 = .ok (.getfield 25, 3) := by decide +kernel
theorem dX11_dead_22 : decode cX11_dead 22 = .ok (.getfield 156, 3) := by decide +kernel
theorem dX11_dead_25 : decode cX11_dead 25 = .ok (.invokevirtual 182, 3) := by decide +kernel
theorem dX11_dead_28 : decode cX11_dead 28 = .ok (.invokevirtual 110, 3) := by decide +kernel
theorem dX11_dead_31 : decode cX11_dead 31 = .ok (.ireturn, 1) := by decide +kernel
theorem dX11_over_0 : decode cX11_over 0 = .ok (.aload_n 0, 1) := by decide +kernel
theorem dX11_over_1 : decode cX11_over 1 = .ok (.getfield 101, 3) := by decide +kernel
theorem dX11_over_4 : decode cX11_over 4 = .ok (.ifnonnull 9, 3) := by decide +kernel
theorem dX11_over_7 : decode cX11_over 7 = .ok (.aload_n 0, 1) := by decide +kernel
theorem dX11_over_8 : decode cX11_over 8 = .ok (.iconst 1, 1) := by decide +kernel
theorem dX11_over_9 : decode cX11_over 9 = .ok (.invokevirtual 60, 3) := by decide +kernel
theorem dX11_over_12 : decode cX11_over 12 = .ok (.ireturn, 1) := by decide +kernel
theorem dX11_over_13 : decode cX11_over 13 = .ok (.aload_n 0, 1) := by decide +kernel
theorem dX11_over_14 : decode cX11_over 14 = .ok (.aload_n 0, 1) := by decide +kernel
theorem dX11_over_15 : decode cX11_over 15 = .ok (.invokevirtual 185, 3) := by decide +kernel
theorem dX11_over_18 : decode cX11_over 18 = .ok (.ifCond .eq 7, 3) := by decide +kernel
theorem dX11_over_21 : decode cX11_over 21 = .ok (.iconst 1, 1) := by decide +kernel
theorem dX11_over_22 : decode cX11_over 22 = .ok (.goto 4, 3) := by decide +kernel
theorem dX11_over_25 : decode cX11_over 25 = .ok (.iconst 0, 1) := by decide +kernel
theorem dX11_over_26 : decode cX11_over 26 = .ok (.invokevirtual 110, 3) := by decide +kernel
theorem dX11_over_29 : decode cX11_over 29 = .ok (.ireturn, 1) := by decide +kernel
theorem dX11_has_0 : decode cX11_has 0 = .ok (.aload_n 0, 1) := by decide +kernel
theorem dX11_has_1 : decode cX11_has 1 = .ok (.getfield 101, 3) := by decide +kernel
theorem dX11_has_4 : decode cX11_has 4 = .ok (.ifnonnull 9, 3) := by decide +kernel
theorem dX11_has_7 : decode cX11_has 7 = .ok (.aload_n 0, 1) := by decide +kernel
theorem dX11_has_8 : decode cX11_has 8 = .ok (.iconst 1, 1) := by decide +kernel
theorem dX11_has_9 : decode cX11_has 9 = .ok (.invokevirtual 60, 3) := by decide +kernel
theorem dX11_has_12 : decode cX11_has 12 = .ok (.ireturn, 1) := by decide +kernel
theorem dX11_has_13 : decode cX11_has 13 = .ok (.aload_n 0, 1) := by decide +kernel
theorem dX11_has_14 : decode cX11_has 14 = .ok (.aload_n 0, 1) := by decide +kernel
theorem dX11_has_15 : decode cX11_has 15 = .ok (.getfield 18, 3) := by decide +kernel
theorem dX11_has_18 : decode cX11_has 18 = .ok (.aload_n 0, 1) := by decide +kernel
theorem dX11_has_19 : decode cX11_has 19 = .ok (.getfield 25, 3) := by decide +kernel
theorem dX11_has_22 : decode cX11_has 22 = .ok (.getfield 156, 3) := by decide +kernel
theorem dX11_has_25 : decode cX11_has 25 = .ok (.aload_n 0, 1) := by decide +kernel
theorem dX11_has_26 : decode cX11_has 26 = .ok (.getfield 25, 3) := by decide +kernel
theorem dX11_has_29 : decode cX11_has 29 = .ok (.invokevirtual 159, 3) := by decide +kernel
theorem dX11_has_32 : decode cX11_has 32 = .ok (.invokevirtual 188, 3) := by decide +kernel
theorem dX11_has_35 : decode cX11_has 35 = .ok (.ifCond .eq 7, 3) := by decide +kernel
theorem dX11_has_38 : decode cX11_has 38 = .ok (.iconst 1, 1) := by decide +kernel
theorem dX11_has_39 : decode cX11_has 39 = .ok (.goto 4, 3) := by decide +kernel
theorem dX11_has_42 : decode cX11_has 42 = .ok (.iconst 0, 1) := by decide +kernel
theorem dX11_has_43 : decode cX11_has 43 = .ok (.invokevirtual 110, 3) := by decide +kernel
theorem dX11_has_46 : decode cX11_has 46 = .ok (.ireturn, 1) := by decide +kernel
theorem dX11_best_0 : decode cX11_best 0 = .ok (.aload_n 0, 1) := by decide +kernel
theorem dX11_best_1 : decode cX11_best 1 = .ok (.getfield 101, 3) := by decide +kernel
theorem dX11_best_4 : decode cX11_best 4 = .ok (.ifnonnull 9, 3) := by decide +kernel
theorem dX11_best_7 : decode cX11_best 7 = .ok (.aload_n 0, 1) := by decide +kernel
theorem dX11_best_8 : decode cX11_best 8 = .ok (.iconst 1, 1) := by decide +kernel
theorem dX11_best_9 : decode cX11_best 9 = .ok (.invokevirtual 60, 3) := by decide +kernel
theorem dX11_best_12 : decode cX11_best 12 = .ok (.ireturn, 1) := by decide +kernel
theorem dX11_best_13 : decode cX11_best 13 = .ok (.aload_n 0, 1) := by decide +kernel
theorem dX11_best_14 : decode cX11_best 14 = .ok (.aload_n 0, 1) := by decide +kernel
theorem dX11_best_15 : decode cX11_best 15 = .ok (.getfield 18, 3) := by decide +kernel
theorem dX11_best_18 : decode cX11_best 18 = .ok (.aload_n 0, 1) := by decide +kernel
theorem dX11_best_19 : decode cX11_best 19 = .ok (.getfield 25, 3) := by decide +kernel
theorem dX11_best_22 : decode cX11_best 22 = .ok (.getfield 156, 3) := by decide +kernel
theorem dX11_best_25 : decode cX11_best 25 = .ok (.aload_n 0, 1) := by decide +kernel
theorem dX11_best_26 : decode cX11_best 26 = .ok (.getfield 25, 3) := by decide +kernel
theorem dX11_best_29 : decode cX11_best 29 = .ok (.invokevirtual 159, 3) := by decide +kernel
theorem dX11_best_32 : decode cX11_best 32 = .ok (.invokevirtual 191, 3) := by decide +kernel
theorem dX11_best_35 : decode cX11_best 35 = .ok (.invokestatic 152, 3) := by decide +kernel
theorem dX11_best_38 : decode cX11_best 38 = .ok (.invokevirtual 110, 3) := by decide +kernel
theorem dX11_best_41 : decode cX11_best 41 = .ok (.ireturn, 1) := by decide +kernel
theorem dX11_good_0 : decode cX11_good 0 = .ok (.aload_n 0, 1) := by decide +kernel
theorem dX11_good_1 : decode cX11_good 1 = .ok (.getfield 101, 3) := by decide +kernel
theorem dX11_good_4 : decode cX11_good 4 = .ok (.ifnonnull 9, 3) := by decide +kernel
theorem dX11_good_7 : decode cX11_good 7 = .ok (.aload_n 0, 1) := by decide +kernel
theorem dX11_good_8 : decode cX11_good 8 = .ok (.iconst 1, 1) := by decide +kernel
theorem dX11_good_9 : decode cX11_good 9 = .ok (.invokevirtual 60, 3) := by decide +kernel
theorem dX11_good_12 : decode cX11_good 12 = .ok (.ireturn, 1) := by decide +kernel
theorem dX11_good_13 : decode cX11_good 13 = .ok (.aload_n 0, 1) := by decide +kernel
theorem dX11_good_14 : decode cX11_good 14 = .ok (.aload_n 0, 1) := by decide +kernel
theorem dX11_good_15 : decode cX11_good 15 = .ok (.getfield 18, 3) := by decide +kernel
theorem dX11_good_18 : decode cX11_good 18 = .ok (.aload_n 0, 1) := by decide +kernel
theorem dX11_good_19 : decode cX11_good 19 = .ok (.getfield 25, 3) := by decide +kernel
theorem dX11_good_22 : decode cX11_good 22 = .ok (.getfield 156, 3) := by decide +kernel
theorem dX11_good_25 : decode cX11_good 25 = .ok (.aload_n 0, 1) := by decide +kernel
theorem dX11_good_26 : decode cX11_good 26 = .ok (.getfield 25, 3) := by decide +kernel
theorem dX11_good_29 : decode cX11_good 29 = .ok (.invokevirtual 159, 3) := by decide +kernel
theorem dX11_good_32 : decode cX11_good 32 = .ok (.invokevirtual 195, 3) := by decide +kernel
theorem dX11_good_35 : decode cX11_good 35 = .ok (.invokevirtual 110, 3) := by decide +kernel
theorem dX11_good_38 : decode cX11_good 38 = .ok (.ireturn, 1) := by decide +kernel
theorem dX11_soonest_0 : decode cX11_soonest 0 = .ok (.aload_n 0, 1) := by decide +kernel
theorem dX11_soonest_1 : decode cX11_soonest 1 = .ok (.iconst 0, 1) := by decide +kernel
theorem dX11_soonest_2 : decode cX11_soonest 2 = .ok (.invokevirtual 198, 3) := by decide +kernel
theorem dX11_soonest_5 : decode cX11_soonest 5 = .ok (.ireturn, 1) := by decide +kernel
theorem dX11_ways_0 : decode cX11_ways 0 = .ok (.aload_n 0, 1) := by decide +kernel
theorem dX11_ways_1 : decode cX11_ways 1 = .ok (.getfield 101, 3) := by decide +kernel
theorem dX11_ways_4 : decode cX11_ways 4 = .ok (.ifnonnull 10, 3) := by decide +kernel
theorem dX11_ways_7 : decode cX11_ways 7 = .ok (.aload_n 0, 1) := by decide +kernel
theorem dX11_ways_8 : decode cX11_ways 8 = .ok (.iconst 1, 1) := by decide +kernel
theorem dX11_ways_9 : decode cX11_ways 9 = .ok (.invokevirtual 60, 3) := by decide +kernel
theorem dX11_ways_12 : decode cX11_ways 12 = .ok (.i2l, 1) := by decide +kernel
theorem dX11_ways_13 : decode cX11_ways 13 = .ok (.lreturn, 1) := by decide +kernel
theorem dX11_ways_14 : decode cX11_ways 14 = .ok (.aload_n 0, 1) := by decide +kernel
theorem dX11_ways_15 : decode cX11_ways 15 = .ok (.iconst 0, 1) := by decide +kernel
theorem dX11_ways_16 : decode cX11_ways 16 = .ok (.invokevirtual 110, 3) := by decide +kernel
theorem dX11_ways_19 : decode cX11_ways 19 = .ok (.pop, 1) := by decide +kernel
theorem dX11_ways_20 : decode cX11_ways 20 = .ok (.aload_n 0, 1) := by decide +kernel
theorem dX11_ways_21 : decode cX11_ways 21 = .ok (.getfield 18, 3) := by decide +kernel
theorem dX11_ways_24 : decode cX11_ways 24 = .ok (.aload_n 0, 1) := by decide +kernel
theorem dX11_ways_25 : decode cX11_ways 25 = .ok (.getfield 25, 3) := by decide +kernel
theorem dX11_ways_28 : decode cX11_ways 28 = .ok (.getfield 156, 3) := by decide +kernel
theorem dX11_ways_31 : decode cX11_ways 31 = .ok (.aload_n 0, 1) := by decide +kernel
theorem dX11_ways_32 : decode cX11_ways 32 = .ok (.getfield 25, 3) := by decide +kernel
theorem dX11_ways_35 : decode cX11_ways 35 = .ok (.invokevirtual 159, 3) := by decide +kernel
theorem dX11_ways_38 : decode cX11_ways 38 = .ok (.invokevirtual 201, 3) := by decide +kernel
theorem dX11_ways_41 : decode cX11_ways 41 = .ok (.lreturn, 1) := by decide +kernel
theorem dX11_heap_0 : decode cX11_heap 0 = .ok (.aload_n 0, 1) := by decide +kernel
theorem dX11_heap_1 : decode cX11_heap 1 = .ok (.getfield 101, 3) := by decide +kernel
theorem dX11_heap_4 : decode cX11_heap 4 = .ok (.ifnonnull 9, 3) := by decide +kernel
theorem dX11_heap_7 : decode cX11_heap 7 = .ok (.aload_n 0, 1) := by decide +kernel
theorem dX11_heap_8 : decode cX11_heap 8 = .ok (.iconst 1, 1) := by decide +kernel
theorem dX11_heap_9 : decode cX11_heap 9 = .ok (.invokevirtual 60, 3) := by decide +kernel
theorem dX11_heap_12 : decode cX11_heap 12 = .ok (.ireturn, 1) := by decide +kernel
theorem dX11_heap_13 : decode cX11_heap 13 = .ok (.iload_n 1, 1) := by decide +kernel
theorem dX11_heap_14 : decode cX11_heap 14 = .ok (.iconst (-1), 1) := by decide +kernel
theorem dX11_heap_15 : decode cX11_heap 15 = .ok (.if_icmp .eq 20, 3) := by decide +kernel
theorem dX11_heap_18 : decode cX11_heap 18 = .ok (.aload_n 0, 1) := by decide +kernel
theorem dX11_heap_19 : decode cX11_heap 19 = .ok (.getfield 101, 3) := by decide +kernel
theorem dX11_heap_22 : decode cX11_heap 22 = .ok (.iload_n 1, 1) := by decide +kernel
theorem dX11_heap_23 : decode cX11_heap 23 = .ok (.invokevirtual 144, 3) := by decide +kernel
theorem dX11_heap_26 : decode cX11_heap 26 = .ok (.ifnonnull 9, 3) := by decide +kernel
theorem dX11_heap_29 : decode cX11_heap 29 = .ok (.aload_n 0, 1) := by decide +kernel
theorem dX11_heap_30 : decode cX11_heap 30 = .ok (.iconst 1, 1) := by decide +kernel
theorem dX11_heap_31 : decode cX11_heap 31 = .ok (.invokevirtual 60, 3) := by decide +kernel
theorem dX11_heap_34 : decode cX11_heap 34 = .ok (.ireturn, 1) := by decide +kernel
theorem dX11_heap_35 : decode cX11_heap 35 = .ok (.aload_n 0, 1) := by decide +kernel
theorem dX11_heap_36 : decode cX11_heap 36 = .ok (.getfield 101, 3) := by decide +kernel
theorem dX11_heap_39 : decode cX11_heap 39 = .ok (.invokevirtual 205, 3) := by decide +kernel
theorem dX11_heap_42 : decode cX11_heap 42 = .ok (.ifCond .ne 9, 3) := by decide +kernel
theorem dX11_heap_45 : decode cX11_heap 45 = .ok (.aload_n 0, 1) := by decide +kernel
theorem dX11_heap_46 : decode cX11_heap 46 = .ok (.iconst 5, 1) := by decide +kernel
theorem dX11_heap_47 : decode cX11_heap 47 = .ok (.invokevirtual 60, 3) := by decide +kernel
theorem dX11_heap_50 : decode cX11_heap 50 = .ok (.ireturn, 1) := by decide +kernel
theorem dX11_heap_51 : decode cX11_heap 51 = .ok (.iload_n 1, 1) := by decide +kernel
theorem dX11_heap_52 : decode cX11_heap 52 = .ok (.iconst (-1), 1) := by decide +kernel
theorem dX11_heap_53 : decode cX11_heap 53 = .ok (.if_icmp .ne 22, 3) := by decide +kernel
theorem dX11_heap_56 : decode cX11_heap 56 = .ok (.aload_n 0, 1) := by decide +kernel
theorem dX11_heap_57 : decode cX11_heap 57 = .ok (.aload_n 0, 1) := by decide +kernel
theorem dX11_heap_58 : decode cX11_heap 58 = .ok (.getfield 18, 3) := by decide +kernel
theorem dX11_heap_61 : decode cX11_heap 61 = .ok (.aload_n 0, 1) := by decide +kernel
theorem dX11_heap_62 : decode cX11_heap 62 = .ok (.getfield 25, 3) := by decide +kernel
theorem dX11_heap_65 : decode cX11_heap 65 = .ok (.getfield 156, 3) := by decide +kernel
theorem dX11_heap_68 : decode cX11_heap 68 = .ok (.invokevirtual 208, 3) := by decide +kernel
theorem dX11_heap_71 : decode cX11_heap 71 = .ok (.invokevirtual 110, 3) := by decide +kernel
theorem dX11_heap_74 : decode cX11_heap 74 = .ok (.ireturn, 1) := by decide +kernel
theorem dX11_heap_75 : decode cX11_heap 75 = .ok (.aload_n 0, 1) := by decide +kernel
theorem dX11_heap_76 : decode cX11_heap 76 = .ok (.aload_n 0, 1) := by decide +kernel
theorem dX11_heap_77 : decode cX11_heap 77 = .ok (.getfield 18, 3) := by decide +kernel
theorem dX11_heap_80 : decode cX11_heap 80 = .ok (.aload_n 0, 1) := by decide +kernel
theorem dX11_heap_81 : decode cX11_heap 81 = .ok (.getfield 101, 3) := by decide +kernel
theorem dX11_heap_84 : decode cX11_heap 84 = .ok (.iload_n 1, 1) := by decide +kernel
theorem dX11_heap_85 : decode cX11_heap 85 = .ok (.invokevirtual 144, 3) := by decide +kernel
theorem dX11_heap_88 : decode cX11_heap 88 = .ok (.aload_n 0, 1) := by decide +kernel
theorem dX11_heap_89 : decode cX11_heap 89 = .ok (.getfield 25, 3) := by decide +kernel
theorem dX11_heap_92 : decode cX11_heap 92 = .ok (.getfield 156, 3) := by decide +kernel
theorem dX11_heap_95 : decode cX11_heap 95 = .ok (.invokevirtual 211, 3) := by decide +kernel
theorem dX11_heap_98 : decode cX11_heap 98 = .ok (.invokevirtual 110, 3) := by decide +kernel
theorem dX11_heap_101 : decode cX11_heap 101 = .ok (.ireturn, 1) := by decide +kernel
theorem dX11_byAcross_0 : decode cX11_byAcross 0 = .ok (.aload_n 0, 1) := by decide +kernel
theorem dX11_byAcross_1 : decode cX11_byAcross 1 = .ok (.getfield 101, 3) := by decide +kernel
theorem dX11_byAcross_4 : decode cX11_byAcross 4 = .ok (.ifnonnull 9, 3) := by decide +kernel
theorem dX11_byAcross_7 : decode cX11_byAcross 7 = .ok (.aload_n 0, 1) := by decide +kernel
theorem dX11_byAcross_8 : decode cX11_byAcross 8 = .ok (.iconst 1, 1) := by decide +kernel
theorem dX11_byAcross_9 : decode cX11_byAcross 9 = .ok (.invokevirtual 60, 3) := by decide +kernel
theorem dX11_byAcross_12 : decode cX11_byAcross 12 = .ok (.ireturn, 1) := by decide +kernel
theorem dX11_byAcross_13 : decode cX11_byAcross 13 = .ok (.aload_n 0, 1) := by decide +kernel
theorem dX11_byAcross_14 : decode cX11_byAcross 14 = .ok (.aload_n 0, 1) := by decide +kernel
theorem dX11_byAcross_15 : decode cX11_byAcross 15 = .ok (.getfield 101, 3) := by decide +kernel
theorem dX11_byAcross_18 : decode cX11_byAcross 18 = .ok (.aload_n 0, 1) := by decide +kernel
theorem dX11_byAcross_19 : decode cX11_byAcross 19 = .ok (.getfield 25, 3) := by decide +kernel
theorem dX11_byAcross_22 : decode cX11_byAcross 22 = .ok (.getfield 156, 3) := by decide +kernel
theorem dX11_byAcross_25 : decode cX11_byAcross 25 = .ok (.invokevirtual 215, 3) := by decide +kernel
theorem dX11_byAcross_28 : decode cX11_byAcross 28 = .ok (.invokevirtual 110, 3) := by decide +kernel
theorem dX11_byAcross_31 : decode cX11_byAcross 31 = .ok (.ireturn, 1) := by decide +kernel
theorem dX11_half_0 : decode cX11_half 0 = .ok (.aload_n 0, 1) := by decide +kernel
theorem dX11_half_1 : decode cX11_half 1 = .ok (.getfield 101, 3) := by decide +kernel
theorem dX11_half_4 : decode cX11_half 4 = .ok (.ifnonnull 7, 3) := by decide +kernel
theorem dX11_half_7 : decode cX11_half 7 = .ok (.aconst_null, 1) := by decide +kernel
theorem dX11_half_8 : decode cX11_half 8 = .ok (.goto 11, 3) := by decide +kernel
theorem dX11_half_11 : decode cX11_half 11 = .ok (.aload_n 0, 1) := by decide +kernel
theorem dX11_half_12 : decode cX11_half 12 = .ok (.getfield 101, 3) := by decide +kernel
theorem dX11_half_15 : decode cX11_half 15 = .ok (.iload_n 1, 1) := by decide +kernel
theorem dX11_half_16 : decode cX11_half 16 = .ok (.invokevirtual 144, 3) := by decide +kernel
theorem dX11_half_19 : decode cX11_half 19 = .ok (.astore_n 2, 1) := by decide +kernel
theorem dX11_half_20 : decode cX11_half 20 = .ok (.aload_n 2, 1) := by decide +kernel
theorem dX11_half_21 : decode cX11_half 21 = .ok (.ifnonnull 9, 3) := by decide +kernel
theorem dX11_half_24 : decode cX11_half 24 = .ok (.aload_n 0, 1) := by decide +kernel
theorem dX11_half_25 : decode cX11_half 25 = .ok (.iconst 1, 1) := by decide +kernel
theorem dX11_half_26 : decode cX11_half 26 = .ok (.invokevirtual 60, 3) := by decide +kernel
theorem dX11_half_29 : decode cX11_half 29 = .ok (.ireturn, 1) := by decide +kernel
theorem dX11_half_30 : decode cX11_half 30 = .ok (.aload_n 0, 1) := by decide +kernel
theorem dX11_half_31 : decode cX11_half 31 = .ok (.aload_n 0, 1) := by decide +kernel
theorem dX11_half_32 : decode cX11_half 32 = .ok (.getfield 101, 3) := by decide +kernel
theorem dX11_half_35 : decode cX11_half 35 = .ok (.aload_n 2, 1) := by decide +kernel
theorem dX11_half_36 : decode cX11_half 36 = .ok (.aload_n 0, 1) := by decide +kernel
theorem dX11_half_37 : decode cX11_half 37 = .ok (.getfield 25, 3) := by decide +kernel
theorem dX11_half_40 : decode cX11_half 40 = .ok (.getfield 156, 3) := by decide +kernel
theorem dX11_half_43 : decode cX11_half 43 = .ok (.invokevirtual 218, 3) := by decide +kernel
theorem dX11_half_46 : decode cX11_half 46 = .ok (.ifCond .eq 7, 3) := by decide +kernel
theorem dX11_half_49 : decode cX11_half 49 = .ok (.iconst 1, 1) := by decide +kernel
theorem dX11_half_50 : decode cX11_half 50 = .ok (.goto 4, 3) := by decide +kernel
theorem dX11_half_53 : decode cX11_half 53 = .ok (.iconst 0, 1) := by decide +kernel
theorem dX11_half_54 : decode cX11_half 54 = .ok (.invokevirtual 110, 3) := by decide +kernel
theorem dX11_half_57 : decode cX11_half 57 = .ok (.ireturn, 1) := by decide +kernel
theorem dX11_spoils_0 : decode cX11_spoils 0 = .ok (.aload_n 0, 1) := by decide +kernel
theorem dX11_spoils_1 : decode cX11_spoils 1 = .ok (.iload_n 1, 1) := by decide +kernel
theorem dX11_spoils_2 : decode cX11_spoils 2 = .ok (.invokevirtual 131, 3) := by decide +kernel
theorem dX11_spoils_5 : decode cX11_spoils 5 = .ok (.astore_n 2, 1) := by decide +kernel
theorem dX11_spoils_6 : decode cX11_spoils 6 = .ok (.aload_n 2, 1) := by decide +kernel
theorem dX11_spoils_7 : decode cX11_spoils 7 = .ok (.ifnonnull 9, 3) := by decide +kernel
theorem dX11_spoils_10 : decode cX11_spoils 10 = .ok (.aload_n 0, 1) := by decide +kernel
theorem dX11_spoils_11 : decode cX11_spoils 11 = .ok (.iconst 1, 1) := by decide +kernel
theorem dX11_spoils_12 : decode cX11_spoils 12 = .ok (.invokevirtual 60, 3) := by decide +kernel
theorem dX11_spoils_15 : decode cX11_spoils 15 = .ok (.ireturn, 1) := by decide +kernel
theorem dX11_spoils_16 : decode cX11_spoils 16 = .ok (.aload_n 2, 1) := by decide +kernel
theorem dX11_spoils_17 : decode cX11_spoils 17 = .ok (.aload_n 0, 1) := by decide +kernel
theorem dX11_spoils_18 : decode cX11_spoils 18 = .ok (.getfield 25, 3) := by decide +kernel
theorem dX11_spoils_21 : decode cX11_spoils 21 = .ok (.getfield 156, 3) := by decide +kernel
theorem dX11_spoils_24 : decode cX11_spoils 24 = .ok (.aload_n 0, 1) := by decide +kernel
theorem dX11_spoils_25 : decode cX11_spoils 25 = .ok (.getfield 25, 3) := by decide +kernel
theorem dX11_spoils_28 : decode cX11_spoils 28 = .ok (.invokevirtual 159, 3) := by decide +kernel
theorem dX11_spoils_31 : decode cX11_spoils 31 = .ok (.invokevirtual 163, 3) := by decide +kernel
theorem dX11_spoils_34 : decode cX11_spoils 34 = .ok (.ifCond .ne 9, 3) := by decide +kernel
theorem dX11_spoils_37 : decode cX11_spoils 37 = .ok (.aload_n 0, 1) := by decide +kernel
theorem dX11_spoils_38 : decode cX11_spoils 38 = .ok (.iconst 5, 1) := by decide +kernel
theorem dX11_spoils_39 : decode cX11_spoils 39 = .ok (.invokevirtual 60, 3) := by decide +kernel
theorem dX11_spoils_42 : decode cX11_spoils 42 = .ok (.ireturn, 1) := by decide +kernel
theorem dX11_spoils_43 : decode cX11_spoils 43 = .ok (.aload_n 0, 1) := by decide +kernel
theorem dX11_spoils_44 : decode cX11_spoils 44 = .ok (.aload_n 0, 1) := by decide +kernel
theorem dX11_spoils_45 : decode cX11_spoils 45 = .ok (.getfield 101, 3) := by decide +kernel
theorem dX11_spoils_48 : decode cX11_spoils 48 = .ok (.aload_n 0, 1) := by decide +kernel
theorem dX11_spoils_49 : decode cX11_spoils 49 = .ok (.getfield 25, 3) := by decide +kernel
theorem dX11_spoils_52 : decode cX11_spoils 52 = .ok (.getfield 156, 3) := by decide +kernel
theorem dX11_spoils_55 : decode cX11_spoils 55 = .ok (.aload_n 2, 1) := by decide +kernel
theorem dX11_spoils_56 : decode cX11_spoils 56 = .ok (.invokevirtual 222, 3) := by decide +kernel
theorem dX11_spoils_59 : decode cX11_spoils 59 = .ok (.invokevirtual 110, 3) := by decide +kernel
theorem dX11_spoils_62 : decode cX11_spoils 62 = .ok (.ireturn, 1) := by decide +kernel
theorem dX11_open_0 : decode cX11_open 0 = .ok (.aload_n 0, 1) := by decide +kernel
theorem dX11_open_1 : decode cX11_open 1 = .ok (.getfield 101, 3) := by decide +kernel
theorem dX11_open_4 : decode cX11_open 4 = .ok (.ifnull 18, 3) := by decide +kernel
theorem dX11_open_7 : decode cX11_open 7 = .ok (.iload_n 1, 1) := by decide +kernel
theorem dX11_open_8 : decode cX11_open 8 = .ok (.ifCond .lt 14, 3) := by decide +kernel
theorem dX11_open_11 : decode cX11_open 11 = .ok (.iload_n 1, 1) := by decide +kernel
theorem dX11_open_12 : decode cX11_open 12 = .ok (.aload_n 0, 1) := by decide +kernel
theorem dX11_open_13 : decode cX11_open 13 = .ok (.getfield 101, 3) := by decide +kernel
theorem dX11_open_16 : decode cX11_open 16 = .ok (.getfield 122, 3) := by decide +kernel
theorem dX11_open_19 : decode cX11_open 19 = .ok (.if_icmp .lt 9, 3) := by decide +kernel
theorem dX11_open_22 : decode cX11_open 22 = .ok (.aload_n 0, 1) := by decide +kernel
theorem dX11_open_23 : decode cX11_open 23 = .ok (.iconst 1, 1) := by decide +kernel
theorem dX11_open_24 : decode cX11_open 24 = .ok (.invokevirtual 60, 3) := by decide +kernel
theorem dX11_open_27 : decode cX11_open 27 = .ok (.ireturn, 1) := by decide +kernel
theorem dX11_open_28 : decode cX11_open 28 = .ok (.aload_n 0, 1) := by decide +kernel
theorem dX11_open_29 : decode cX11_open 29 = .ok (.aload_n 0, 1) := by decide +kernel
theorem dX11_open_30 : decode cX11_open 30 = .ok (.getfield 101, 3) := by decide +kernel
theorem dX11_open_33 : decode cX11_open 33 = .ok (.aload_n 0, 1) := by decide +kernel
theorem dX11_open_34 : decode cX11_open 34 = .ok (.getfield 25, 3) := by decide +kernel
theorem dX11_open_37 : decode cX11_open 37 = .ok (.getfield 156, 3) := by decide +kernel
theorem dX11_open_40 : decode cX11_open 40 = .ok (.iload_n 1, 1) := by decide +kernel
theorem dX11_open_41 : decode cX11_open 41 = .ok (.invokevirtual 226, 3) := by decide +kernel
theorem dX11_open_44 : decode cX11_open 44 = .ok (.invokevirtual 110, 3) := by decide +kernel
theorem dX11_open_47 : decode cX11_open 47 = .ok (.ireturn, 1) := by decide +kernel
theorem dX11_elbow_0 : decode cX11_elbow 0 = .ok (.aload_n 0, 1) := by decide +kernel
theorem dX11_elbow_1 : decode cX11_elbow 1 = .ok (.getfield 101, 3) := by decide +kernel
theorem dX11_elbow_4 : decode cX11_elbow 4 = .ok (.ifnonnull 9, 3) := by decide +kernel
theorem dX11_elbow_7 : decode cX11_elbow 7 = .ok (.aload_n 0, 1) := by decide +kernel
theorem dX11_elbow_8 : decode cX11_elbow 8 = .ok (.iconst 1, 1) := by decide +kernel
theorem dX11_elbow_9 : decode cX11_elbow 9 = .ok (.invokevirtual 60, 3) := by decide +kernel
theorem dX11_elbow_12 : decode cX11_elbow 12 = .ok (.ireturn, 1) := by decide +kernel
theorem dX11_elbow_13 : decode cX11_elbow 13 = .ok (.aload_n 0, 1) := by decide +kernel
theorem dX11_elbow_14 : decode cX11_elbow 14 = .ok (.aload_n 0, 1) := by decide +kernel
theorem dX11_elbow_15 : decode cX11_elbow 15 = .ok (.getfield 18, 3) := by decide +kernel
theorem dX11_elbow_18 : decode cX11_elbow 18 = .ok (.aload_n 0, 1) := by decide +kernel
theorem dX11_elbow_19 : decode cX11_elbow 19 = .ok (.getfield 25, 3) := by decide +kernel
theorem dX11_elbow_22 : decode cX11_elbow 22 = .ok (.getfield 156, 3) := by decide +kernel
theorem dX11_elbow_25 : decode cX11_elbow 25 = .ok (.aload_n 0, 1) := by decide +kernel
theorem dX11_elbow_26 : decode cX11_elbow 26 = .ok (.getfield 25, 3) := by decide +kernel
theorem dX11_elbow_29 : decode cX11_elbow 29 = .ok (.invokevirtual 159, 3) := by decide +kernel
theorem dX11_elbow_32 : decode cX11_elbow 32 = .ok (.invokevirtual 229, 3) := by decide +kernel
theorem dX11_elbow_35 : decode cX11_elbow 35 = .ok (.invokevirtual 110, 3) := by decide +kernel
theorem dX11_elbow_38 : decode cX11_elbow 38 = .ok (.ireturn, 1) := by decide +kernel
theorem dX11_fewest_0 : decode cX11_fewest 0 = .ok (.aload_n 0, 1) := by decide +kernel
theorem dX11_fewest_1 : decode cX11_fewest 1 = .ok (.iconst 1, 1) := by decide +kernel
theorem dX11_fewest_2 : decode cX11_fewest 2 = .ok (.invokevirtual 198, 3) := by decide +kernel
theorem dX11_fewest_5 : decode cX11_fewest 5 = .ok (.ireturn, 1) := by decide +kernel
theorem dX11_most_0 : decode cX11_most 0 = .ok (.aload_n 0, 1) := by decide +kernel
theorem dX11_most_1 : decode cX11_most 1 = .ok (.iconst 2, 1) := by decide +kernel
theorem dX11_most_2 : decode cX11_most 2 = .ok (.invokevirtual 198, 3) := by decide +kernel
theorem dX11_most_5 : decode cX11_most 5 = .ok (.ireturn, 1) := by decide +kernel
theorem dX11_lot_0 : decode cX11_lot 0 = .ok (.aload_n 0, 1) := by decide +kernel
theorem dX11_lot_1 : decode cX11_lot 1 = .ok (.iconst 3, 1) := by decide +kernel
theorem dX11_lot_2 : decode cX11_lot 2 = .ok (.invokevirtual 198, 3) := by decide +kernel
theorem dX11_lot_5 : decode cX11_lot 5 = .ok (.ireturn, 1) := by decide +kernel
theorem dX11_size_0 : decode cX11_size 0 = .ok (.iload_n 1, 1) := by decide +kernel
theorem dX11_size_1 : decode cX11_size 1 = .ok (.invokestatic 232, 3) := by decide +kernel
theorem dX11_size_4 : decode cX11_size 4 = .ok (.ifCond .eq 10, 3) := by decide +kernel
theorem dX11_size_7 : decode cX11_size 7 = .ok (.iload_n 2, 1) := by decide +kernel
theorem dX11_size_8 : decode cX11_size 8 = .ok (.invokestatic 236, 3) := by decide +kernel
theorem dX11_size_11 : decode cX11_size 11 = .ok (.ifCond .ne 9, 3) := by decide +kernel
theorem dX11_size_14 : decode cX11_size 14 = .ok (.aload_n 0, 1) := by decide +kernel
theorem dX11_size_15 : decode cX11_size 15 = .ok (.iconst 2, 1) := by decide +kernel
theorem dX11_size_16 : decode cX11_size 16 = .ok (.invokevirtual 60, 3) := by decide +kernel
theorem dX11_size_19 : decode cX11_size 19 = .ok (.ireturn, 1) := by decide +kernel
theorem dX11_size_20 : decode cX11_size 20 = .ok (.aload_n 0, 1) := by decide +kernel
theorem dX11_size_21 : decode cX11_size 21 = .ok (.aload_n 0, 1) := by decide +kernel
theorem dX11_size_22 : decode cX11_size 22 = .ok (.getfield 49, 3) := by decide +kernel
theorem dX11_size_25 : decode cX11_size 25 = .ok (.iload_n 1, 1) := by decide +kernel
theorem dX11_size_26 : decode cX11_size 26 = .ok (.iload_n 2, 1) := by decide +kernel
theorem dX11_size_27 : decode cX11_size 27 = .ok (.invokevirtual 239, 3) := by decide +kernel
theorem dX11_size_30 : decode cX11_size 30 = .ok (.invokevirtual 110, 3) := by decide +kernel
theorem dX11_size_33 : decode cX11_size 33 = .ok (.ireturn, 1) := by decide +kernel
theorem dX11_rows_0 : decode cX11_rows 0 = .ok (.iload_n 1, 1) := by decide +kernel
theorem dX11_rows_1 : decode cX11_rows 1 = .ok (.invokestatic 232, 3) := by decide +kernel
theorem dX11_rows_4 : decode cX11_rows 4 = .ok (.ifCond .eq 25, 3) := by decide +kernel
theorem dX11_rows_7 : decode cX11_rows 7 = .ok (.iload_n 2, 1) := by decide +kernel
theorem dX11_rows_8 : decode cX11_rows 8 = .ok (.invokestatic 232, 3) := by decide +kernel
theorem dX11_rows_11 : decode cX11_rows 11 = .ok (.ifCond .eq 18, 3) := by decide +kernel
theorem dX11_rows_14 : decode cX11_rows 14 = .ok (.iload_n 3, 1) := by decide +kernel
theorem dX11_rows_15 : decode cX11_rows 15 = .ok (.invokestatic 232, 3) := by decide +kernel
theorem dX11_rows_18 : decode cX11_rows 18 = .ok (.ifCond .eq 11, 3) := by decide +kernel
theorem dX11_rows_21 : decode cX11_rows 21 = .ok (.iload 4, 2) := by decide +kernel
theorem dX11_rows_23 : decode cX11_rows 23 = .ok (.invokestatic 236, 3) := by decide +kernel
theorem dX11_rows_26 : decode cX11_rows 26 = .ok (.ifCond .ne 9, 3) := by decide +kernel
theorem dX11_rows_29 : decode cX11_rows 29 = .ok (.aload_n 0, 1) := by decide +kernel
theorem dX11_rows_30 : decode cX11_rows 30 = .ok (.iconst 2, 1) := by decide +kernel
theorem dX11_rows_31 : decode cX11_rows 31 = .ok (.invokevirtual 60, 3) := by decide +kernel
theorem dX11_rows_34 : decode cX11_rows 34 = .ok (.ireturn, 1) := by decide +kernel
theorem dX11_rows_35 : decode cX11_rows 35 = .ok (.aload_n 0, 1) := by decide +kernel
theorem dX11_rows_36 : decode cX11_rows 36 = .ok (.getfield 49, 3) := by decide +kernel
theorem dX11_rows_39 : decode cX11_rows 39 = .ok (.iload_n 1, 1) := by decide +kernel
theorem dX11_rows_40 : decode cX11_rows 40 = .ok (.iload 4, 2) := by decide +kernel
theorem dX11_rows_42 : decode cX11_rows 42 = .ok (.invokevirtual 239, 3) := by decide +kernel
theorem dX11_rows_45 : decode cX11_rows 45 = .ok (.aload_n 0, 1) := by decide +kernel
theorem dX11_rows_46 : decode cX11_rows 46 = .ok (.getfield 49, 3) := by decide +kernel
theorem dX11_rows_49 : decode cX11_rows 49 = .ok (.iload_n 2, 1) := by decide +kernel
theorem dX11_rows_50 : decode cX11_rows 50 = .ok (.iload 4, 2) := by decide +kernel
theorem dX11_rows_52 : decode cX11_rows 52 = .ok (.invokevirtual 239, 3) := by decide +kernel
theorem dX11_rows_55 : decode cX11_rows 55 = .ok (.ixor, 1) := by decide +kernel
theorem dX11_rows_56 : decode cX11_rows 56 = .ok (.aload_n 0, 1) := by decide +kernel
theorem dX11_rows_57 : decode cX11_rows 57 = .ok (.getfield 49, 3) := by decide +kernel
theorem dX11_rows_60 : decode cX11_rows 60 = .ok (.iload_n 3, 1) := by decide +kernel
theorem dX11_rows_61 : decode cX11_rows 61 = .ok (.iload 4, 2) := by decide +kernel
theorem dX11_rows_63 : decode cX11_rows 63 = .ok (.invokevirtual 239, 3) := by decide +kernel
theorem dX11_rows_66 : decode cX11_rows 66 = .ok (.ixor, 1) := by decide +kernel
theorem dX11_rows_67 : decode cX11_rows 67 = .ok (.istore 5, 2) := by decide +kernel
theorem dX11_rows_69 : decode cX11_rows 69 = .ok (.aload_n 0, 1) := by decide +kernel
theorem dX11_rows_70 : decode cX11_rows 70 = .ok (.iload 5, 2) := by decide +kernel
theorem dX11_rows_72 : decode cX11_rows 72 = .ok (.ifCond .eq 7, 3) := by decide +kernel
theorem dX11_rows_75 : decode cX11_rows 75 = .ok (.iconst 1, 1) := by decide +kernel
theorem dX11_rows_76 : decode cX11_rows 76 = .ok (.goto 4, 3) := by decide +kernel
theorem dX11_rows_79 : decode cX11_rows 79 = .ok (.iconst 0, 1) := by decide +kernel
theorem dX11_rows_80 : decode cX11_rows 80 = .ok (.invokevirtual 110, 3) := by decide +kernel
theorem dX11_rows_83 : decode cX11_rows 83 = .ok (.ireturn, 1) := by decide +kernel
theorem dX11_rowLay_0 : decode cX11_rowLay 0 = .ok (.iload_n 1, 1) := by decide +kernel
theorem dX11_rowLay_1 : decode cX11_rowLay 1 = .ok (.invokestatic 232, 3) := by decide +kernel
theorem dX11_rowLay_4 : decode cX11_rowLay 4 = .ok (.ifCond .eq 20, 3) := by decide +kernel
theorem dX11_rowLay_7 : decode cX11_rowLay 7 = .ok (.iload_n 2, 1) := by decide +kernel
theorem dX11_rowLay_8 : decode cX11_rowLay 8 = .ok (.invokestatic 236, 3) := by decide +kernel
theorem dX11_rowLay_11 : decode cX11_rowLay 11 = .ok (.ifCond .eq 13, 3) := by decide +kernel
theorem dX11_rowLay_14 : decode cX11_rowLay 14 = .ok (.iload_n 3, 1) := by decide +kernel
theorem dX11_rowLay_15 : decode cX11_rowLay 15 = .ok (.ifCond .lt 9, 3) := by decide +kernel
theorem dX11_rowLay_18 : decode cX11_rowLay 18 = .ok (.iload_n 3, 1) := by decide +kernel
theorem dX11_rowLay_19 : decode cX11_rowLay 19 = .ok (.bipush 99, 2) := by decide +kernel
theorem dX11_rowLay_21 : decode cX11_rowLay 21 = .ok (.if_icmp .le 9, 3) := by decide +kernel
theorem dX11_rowLay_24 : decode cX11_rowLay 24 = .ok (.aload_n 0, 1) := by decide +kernel
theorem dX11_rowLay_25 : decode cX11_rowLay 25 = .ok (.iconst 2, 1) := by decide +kernel
theorem dX11_rowLay_26 : decode cX11_rowLay 26 = .ok (.invokevirtual 60, 3) := by decide +kernel
theorem dX11_rowLay_29 : decode cX11_rowLay 29 = .ok (.ireturn, 1) := by decide +kernel
theorem dX11_rowLay_30 : decode cX11_rowLay 30 = .ok (.aload_n 0, 1) := by decide +kernel
theorem dX11_rowLay_31 : decode cX11_rowLay 31 = .ok (.aload_n 0, 1) := by decide +kernel
theorem dX11_rowLay_32 : decode cX11_rowLay 32 = .ok (.getfield 49, 3) := by decide +kernel
theorem dX11_rowLay_35 : decode cX11_rowLay 35 = .ok (.iload_n 1, 1) := by decide +kernel
theorem dX11_rowLay_36 : decode cX11_rowLay 36 = .ok (.iload_n 2, 1) := by decide +kernel
theorem dX11_rowLay_37 : decode cX11_rowLay 37 = .ok (.iload_n 3, 1) := by decide +kernel
theorem dX11_rowLay_38 : decode cX11_rowLay 38 = .ok (.invokevirtual 242, 3) := by decide +kernel
theorem dX11_rowLay_41 : decode cX11_rowLay 41 = .ok (.invokevirtual 110, 3) := by decide +kernel
theorem dX11_rowLay_44 : decode cX11_rowLay 44 = .ok (.ireturn, 1) := by decide +kernel
theorem dX11_round_0 : decode cX11_round 0 = .ok (.iload_n 1, 1) := by decide +kernel
theorem dX11_round_1 : decode cX11_round 1 = .ok (.invokestatic 236, 3) := by decide +kernel
theorem dX11_round_4 : decode cX11_round 4 = .ok (.ifCond .ne 9, 3) := by decide +kernel
theorem dX11_round_7 : decode cX11_round 7 = .ok (.aload_n 0, 1) := by decide +kernel
theorem dX11_round_8 : decode cX11_round 8 = .ok (.iconst 2, 1) := by decide +kernel
theorem dX11_round_9 : decode cX11_round 9 = .ok (.invokevirtual 60, 3) := by decide +kernel
theorem dX11_round_12 : decode cX11_round 12 = .ok (.ireturn, 1) := by decide +kernel
theorem dX11_round_13 : decode cX11_round 13 = .ok (.aload_n 0, 1) := by decide +kernel
theorem dX11_round_14 : decode cX11_round 14 = .ok (.getfield 49, 3) := by decide +kernel
theorem dX11_round_17 : decode cX11_round 17 = .ok (.iload_n 1, 1) := by decide +kernel
theorem dX11_round_18 : decode cX11_round 18 = .ok (.invokevirtual 246, 3) := by decide +kernel
theorem dX11_round_21 : decode cX11_round 21 = .ok (.istore_n 3, 1) := by decide +kernel
theorem dX11_round_22 : decode cX11_round 22 = .ok (.iload_n 3, 1) := by decide +kernel
theorem dX11_round_23 : decode cX11_round 23 = .ok (.iconst (-1), 1) := by decide +kernel
theorem dX11_round_24 : decode cX11_round 24 = .ok (.if_icmp .ne 10, 3) := by decide +kernel
theorem dX11_round_27 : decode cX11_round 27 = .ok (.aload_n 0, 1) := by decide +kernel
theorem dX11_round_28 : decode cX11_round 28 = .ok (.bipush (-2), 2) := by decide +kernel
theorem dX11_round_30 : decode cX11_round 30 = .ok (.invokevirtual 110, 3) := by decide +kernel
theorem dX11_round_33 : decode cX11_round 33 = .ok (.ireturn, 1) := by decide +kernel
theorem dX11_round_34 : decode cX11_round 34 = .ok (.aload_n 0, 1) := by decide +kernel
theorem dX11_round_35 : decode cX11_round 35 = .ok (.iload_n 2, 1) := by decide +kernel
theorem dX11_round_36 : decode cX11_round 36 = .ok (.ifCond .eq 15, 3) := by decide +kernel
theorem dX11_round_39 : decode cX11_round 39 = .ok (.aload_n 0, 1) := by decide +kernel
theorem dX11_round_40 : decode cX11_round 40 = .ok (.getfield 49, 3) := by decide +kernel
theorem dX11_round_43 : decode cX11_round 43 = .ok (.iload_n 1, 1) := by decide +kernel
theorem dX11_round_44 : decode cX11_round 44 = .ok (.iload_n 3, 1) := by decide +kernel
theorem dX11_round_45 : decode cX11_round 45 = .ok (.invokevirtual 249, 3) := by decide +kernel
theorem dX11_round_48 : decode cX11_round 48 = .ok (.goto 4, 3) := by decide +kernel
theorem dX11_round_51 : decode cX11_round 51 = .ok (.iload_n 3, 1) := by decide +kernel
theorem dX11_round_52 : decode cX11_round 52 = .ok (.invokevirtual 110, 3) := by decide +kernel
theorem dX11_round_55 : decode cX11_round 55 = .ok (.ireturn, 1) := by decide +kernel
theorem dX11_would_0 : decode cX11_would 0 = .ok (.aload_n 0, 1) := by decide +kernel
theorem dX11_would_1 : decode cX11_would 1 = .ok (.getfield 101, 3) := by decide +kernel
theorem dX11_would_4 : decode cX11_would 4 = .ok (.ifnull 10, 3) := by decide +kernel
theorem dX11_would_7 : decode cX11_would 7 = .ok (.iload_n 1, 1) := by decide +kernel
theorem dX11_would_8 : decode cX11_would 8 = .ok (.invokestatic 252, 3) := by decide +kernel
theorem dX11_would_11 : decode cX11_would 11 = .ok (.ifCond .ne 9, 3) := by decide +kernel
theorem dX11_would_14 : decode cX11_would 14 = .ok (.aload_n 0, 1) := by decide +kernel
theorem dX11_would_15 : decode cX11_would 15 = .ok (.iconst 1, 1) := by decide +kernel
theorem dX11_would_16 : decode cX11_would 16 = .ok (.invokevirtual 60, 3) := by decide +kernel
theorem dX11_would_19 : decode cX11_would 19 = .ok (.ireturn, 1) := by decide +kernel
theorem dX11_would_20 : decode cX11_would 20 = .ok (.aload_n 0, 1) := by decide +kernel
theorem dX11_would_21 : decode cX11_would 21 = .ok (.aload_n 0, 1) := by decide +kernel
theorem dX11_would_22 : decode cX11_would 22 = .ok (.getfield 42, 3) := by decide +kernel
theorem dX11_would_25 : decode cX11_would 25 = .ok (.iload_n 1, 1) := by decide +kernel
theorem dX11_would_26 : decode cX11_would 26 = .ok (.aload_n 0, 1) := by decide +kernel
theorem dX11_would_27 : decode cX11_would 27 = .ok (.getfield 18, 3) := by decide +kernel
theorem dX11_would_30 : decode cX11_would 30 = .ok (.aload_n 0, 1) := by decide +kernel
theorem dX11_would_31 : decode cX11_would 31 = .ok (.getfield 25, 3) := by decide +kernel
theorem dX11_would_34 : decode cX11_would 34 = .ok (.invokevirtual 255, 3) := by decide +kernel
theorem dX11_would_37 : decode cX11_would 37 = .ok (.invokestatic 152, 3) := by decide +kernel
theorem dX11_would_40 : decode cX11_would 40 = .ok (.invokevirtual 110, 3) := by decide +kernel
theorem dX11_would_43 : decode cX11_would 43 = .ok (.ireturn, 1) := by decide +kernel
theorem dX11_match_0 : decode cX11_match 0 = .ok (.aload_n 0, 1) := by decide +kernel
theorem dX11_match_1 : decode cX11_match 1 = .ok (.getfield 101, 3) := by decide +kernel
theorem dX11_match_4 : decode cX11_match 4 = .ok (.ifnull 17, 3) := by decide +kernel
theorem dX11_match_7 : decode cX11_match 7 = .ok (.iload_n 1, 1) := by decide +kernel
theorem dX11_match_8 : decode cX11_match 8 = .ok (.invokestatic 252, 3) := by decide +kernel
theorem dX11_match_11 : decode cX11_match 11 = .ok (.ifCond .eq 10, 3) := by decide +kernel
theorem dX11_match_14 : decode cX11_match 14 = .ok (.iload_n 2, 1) := by decide +kernel
theorem dX11_match_15 : decode cX11_match 15 = .ok (.invokestatic 252, 3) := by decide +kernel
theorem dX11_match_18 : decode cX11_match 18 = .ok (.ifCond .ne 9, 3) := by decide +kernel
theorem dX11_match_21 : decode cX11_match 21 = .ok (.aload_n 0, 1) := by decide +kernel
theorem dX11_match_22 : decode cX11_match 22 = .ok (.iconst 1, 1) := by decide +kernel
theorem dX11_match_23 : decode cX11_match 23 = .ok (.invokevirtual 60, 3) := by decide +kernel
theorem dX11_match_26 : decode cX11_match 26 = .ok (.ireturn, 1) := by decide +kernel
theorem dX11_match_27 : decode cX11_match 27 = .ok (.aload_n 0, 1) := by decide +kernel
theorem dX11_match_28 : decode cX11_match 28 = .ok (.aload_n 0, 1) := by decide +kernel
theorem dX11_match_29 : decode cX11_match 29 = .ok (.aload_n 0, 1) := by decide +kernel
theorem dX11_match_30 : decode cX11_match 30 = .ok (.getfield 42, 3) := by decide +kernel
theorem dX11_match_33 : decode cX11_match 33 = .ok (.iload_n 1, 1) := by decide +kernel
theorem dX11_match_34 : decode cX11_match 34 = .ok (.iload_n 2, 1) := by decide +kernel
theorem dX11_match_35 : decode cX11_match 35 = .ok (.aload_n 0, 1) := by decide +kernel
theorem dX11_match_36 : decode cX11_match 36 = .ok (.getfield 18, 3) := by decide +kernel
theorem dX11_match_39 : decode cX11_match 39 = .ok (.aload_n 0, 1) := by decide +kernel
theorem dX11_match_40 : decode cX11_match 40 = .ok (.getfield 25, 3) := by decide +kernel
theorem dX11_match_43 : decode cX11_match 43 = .ok (.invokevirtual 259, 3) := by decide +kernel
theorem dX11_match_46 : decode cX11_match 46 = .ok (.invokevirtual 263, 3) := by decide +kernel
theorem dX11_match_49 : decode cX11_match 49 = .ok (.invokevirtual 110, 3) := by decide +kernel
theorem dX11_match_52 : decode cX11_match 52 = .ok (.ireturn, 1) := by decide +kernel
theorem dX11_matchLong_0 : decode cX11_matchLong 0 = .ok (.aload_n 0, 1) := by decide +kernel
theorem dX11_matchLong_1 : decode cX11_matchLong 1 = .ok (.getfield 101, 3) := by decide +kernel
theorem dX11_matchLong_4 : decode cX11_matchLong 4 = .ok (.ifnull 17, 3) := by decide +kernel
theorem dX11_matchLong_7 : decode cX11_matchLong 7 = .ok (.iload_n 1, 1) := by decide +kernel
theorem dX11_matchLong_8 : decode cX11_matchLong 8 = .ok (.invokestatic 252, 3) := by decide +kernel
theorem dX11_matchLong_11 : decode cX11_matchLong 11 = .ok (.ifCond .eq 10, 3) := by decide +kernel
theorem dX11_matchLong_14 : decode cX11_matchLong 14 = .ok (.iload_n 2, 1) := by decide +kernel
theorem dX11_matchLong_15 : decode cX11_matchLong 15 = .ok (.invokestatic 252, 3) := by decide +kernel
theorem dX11_matchLong_18 : decode cX11_matchLong 18 = .ok (.ifCond .ne 9, 3) := by decide +kernel
theorem dX11_matchLong_21 : decode cX11_matchLong 21 = .ok (.aload_n 0, 1) := by decide +kernel
theorem dX11_matchLong_22 : decode cX11_matchLong 22 = .ok (.iconst 1, 1) := by decide +kernel
theorem dX11_matchLong_23 : decode cX11_matchLong 23 = .ok (.invokevirtual 60, 3) := by decide +kernel
theorem dX11_matchLong_26 : decode cX11_matchLong 26 = .ok (.ireturn, 1) := by decide +kernel
theorem dX11_matchLong_27 : decode cX11_matchLong 27 = .ok (.aload_n 0, 1) := by decide +kernel
theorem dX11_matchLong_28 : decode cX11_matchLong 28 = .ok (.aload_n 0, 1) := by decide +kernel
theorem dX11_matchLong_29 : decode cX11_matchLong 29 = .ok (.getfield 42, 3) := by decide +kernel
theorem dX11_matchLong_32 : decode cX11_matchLong 32 = .ok (.iload_n 1, 1) := by decide +kernel
theorem dX11_matchLong_33 : decode cX11_matchLong 33 = .ok (.iload_n 2, 1) := by decide +kernel
theorem dX11_matchLong_34 : decode cX11_matchLong 34 = .ok (.aload_n 0, 1) := by decide +kernel
theorem dX11_matchLong_35 : decode cX11_matchLong 35 = .ok (.getfield 18, 3) := by decide +kernel
theorem dX11_matchLong_38 : decode cX11_matchLong 38 = .ok (.aload_n 0, 1) := by decide +kernel
theorem dX11_matchLong_39 : decode cX11_matchLong 39 = .ok (.getfield 25, 3) := by decide +kernel
theorem dX11_matchLong_42 : decode cX11_matchLong 42 = .ok (.invokevirtual 259, 3) := by decide +kernel
theorem dX11_matchLong_45 : decode cX11_matchLong 45 = .ok (.invokevirtual 110, 3) := by decide +kernel
theorem dX11_matchLong_48 : decode cX11_matchLong 48 = .ok (.ireturn, 1) := by decide +kernel
theorem dX11_beats_0 : decode cX11_beats 0 = .ok (.aload_n 0, 1) := by decide +kernel
theorem dX11_beats_1 : decode cX11_beats 1 = .ok (.getfield 101, 3) := by decide +kernel
theorem dX11_beats_4 : decode cX11_beats 4 = .ok (.ifnull 10, 3) := by decide +kernel
theorem dX11_beats_7 : decode cX11_beats 7 = .ok (.iload_n 1, 1) := by decide +kernel
theorem dX11_beats_8 : decode cX11_beats 8 = .ok (.invokestatic 252, 3) := by decide +kernel
theorem dX11_beats_11 : decode cX11_beats 11 = .ok (.ifCond .ne 9, 3) := by decide +kernel
theorem dX11_beats_14 : decode cX11_beats 14 = .ok (.aload_n 0, 1) := by decide +kernel
theorem dX11_beats_15 : decode cX11_beats 15 = .ok (.iconst 1, 1) := by decide +kernel
theorem dX11_beats_16 : decode cX11_beats 16 = .ok (.invokevirtual 60, 3) := by decide +kernel
theorem dX11_beats_19 : decode cX11_beats 19 = .ok (.ireturn, 1) := by decide +kernel
theorem dX11_beats_20 : decode cX11_beats 20 = .ok (.iconst 0, 1) := by decide +kernel
theorem dX11_beats_21 : decode cX11_beats 21 = .ok (.istore_n 2, 1) := by decide +kernel
theorem dX11_beats_22 : decode cX11_beats 22 = .ok (.iconst 0, 1) := by decide +kernel
theorem dX11_beats_23 : decode cX11_beats 23 = .ok (.istore_n 3, 1) := by decide +kernel
theorem dX11_beats_24 : decode cX11_beats 24 = .ok (.iload_n 3, 1) := by decide +kernel
theorem dX11_beats_25 : decode cX11_beats 25 = .ok (.iconst 5, 1) := by decide +kernel
theorem dX11_beats_26 : decode cX11_beats 26 = .ok (.if_icmp .ge 39, 3) := by decide +kernel
theorem dX11_beats_29 : decode cX11_beats 29 = .ok (.aload_n 0, 1) := by decide +kernel
theorem dX11_beats_30 : decode cX11_beats 30 = .ok (.aload_n 0, 1) := by decide +kernel
theorem dX11_beats_31 : decode cX11_beats 31 = .ok (.getfield 42, 3) := by decide +kernel
theorem dX11_beats_34 : decode cX11_beats 34 = .ok (.iload_n 1, 1) := by decide +kernel
theorem dX11_beats_35 : decode cX11_beats 35 = .ok (.iload_n 3, 1) := by decide +kernel
theorem dX11_beats_36 : decode cX11_beats 36 = .ok (.aload_n 0, 1) := by decide +kernel
theorem dX11_beats_37 : decode cX11_beats 37 = .ok (.getfield 18, 3) := by decide +kernel
theorem dX11_beats_40 : decode cX11_beats 40 = .ok (.aload_n 0, 1) := by decide +kernel
theorem dX11_beats_41 : decode cX11_beats 41 = .ok (.getfield 25, 3) := by decide +kernel
theorem dX11_beats_44 : decode cX11_beats 44 = .ok (.invokevirtual 259, 3) := by decide +kernel
theorem dX11_beats_47 : decode cX11_beats 47 = .ok (.invokevirtual 263, 3) := by decide +kernel
theorem dX11_beats_50 : decode cX11_beats 50 = .ok (.ifCond .ne 9, 3) := by decide +kernel
theorem dX11_beats_53 : decode cX11_beats 53 = .ok (.iload_n 2, 1) := by decide +kernel
theorem dX11_beats_54 : decode cX11_beats 54 = .ok (.iconst 1, 1) := by decide +kernel
theorem dX11_beats_55 : decode cX11_beats 55 = .ok (.iload_n 3, 1) := by decide +kernel
theorem dX11_beats_56 : decode cX11_beats 56 = .ok (.ishl, 1) := by decide +kernel
theorem dX11_beats_57 : decode cX11_beats 57 = .ok (.ior, 1) := by decide +kernel
theorem dX11_beats_58 : decode cX11_beats 58 = .ok (.istore_n 2, 1) := by decide +kernel
theorem dX11_beats_59 : decode cX11_beats 59 = .ok (.iinc 3 1, 3) := by decide +kernel
theorem dX11_beats_62 : decode cX11_beats 62 = .ok (.goto (-38), 3) := by decide +kernel
theorem dX11_beats_65 : decode cX11_beats 65 = .ok (.aload_n 0, 1) := by decide +kernel
theorem dX11_beats_66 : decode cX11_beats 66 = .ok (.iload_n 2, 1) := by decide +kernel
theorem dX11_beats_67 : decode cX11_beats 67 = .ok (.invokevirtual 110, 3) := by decide +kernel
theorem dX11_beats_70 : decode cX11_beats 70 = .ok (.ireturn, 1) := by decide +kernel
theorem dX11_puts_0 : decode cX11_puts 0 = .ok (.aload_n 0, 1) := by decide +kernel
theorem dX11_puts_1 : decode cX11_puts 1 = .ok (.iload_n 1, 1) := by decide +kernel
theorem dX11_puts_2 : decode cX11_puts 2 = .ok (.invokevirtual 131, 3) := by decide +kernel
theorem dX11_puts_5 : decode cX11_puts 5 = .ok (.astore_n 2, 1) := by decide +kernel
theorem dX11_puts_6 : decode cX11_puts 6 = .ok (.aload_n 2, 1) := by decide +kernel
theorem dX11_puts_7 : decode cX11_puts 7 = .ok (.ifnonnull 9, 3) := by decide +kernel
theorem dX11_puts_10 : decode cX11_puts 10 = .ok (.aload_n 0, 1) := by decide +kernel
theorem dX11_puts_11 : decode cX11_puts 11 = .ok (.iconst 1, 1) := by decide +kernel
theorem dX11_puts_12 : decode cX11_puts 12 = .ok (.invokevirtual 266, 3) := by decide +kernel
theorem dX11_puts_15 : decode cX11_puts 15 = .ok (.ireturn, 1) := by decide +kernel
theorem dX11_puts_16 : decode cX11_puts 16 = .ok (.aload_n 2, 1) := by decide +kernel
theorem dX11_puts_17 : decode cX11_puts 17 = .ok (.aload_n 0, 1) := by decide +kernel
theorem dX11_puts_18 : decode cX11_puts 18 = .ok (.getfield 25, 3) := by decide +kernel
theorem dX11_puts_21 : decode cX11_puts 21 = .ok (.getfield 156, 3) := by decide +kernel
theorem dX11_puts_24 : decode cX11_puts 24 = .ok (.aload_n 0, 1) := by decide +kernel
theorem dX11_puts_25 : decode cX11_puts 25 = .ok (.getfield 25, 3) := by decide +kernel
theorem dX11_puts_28 : decode cX11_puts 28 = .ok (.invokevirtual 159, 3) := by decide +kernel
theorem dX11_puts_31 : decode cX11_puts 31 = .ok (.invokevirtual 163, 3) := by decide +kernel
theorem dX11_puts_34 : decode cX11_puts 34 = .ok (.ifCond .ne 9, 3) := by decide +kernel
theorem dX11_puts_37 : decode cX11_puts 37 = .ok (.aload_n 0, 1) := by decide +kernel
theorem dX11_puts_38 : decode cX11_puts 38 = .ok (.iconst 5, 1) := by decide +kernel
theorem dX11_puts_39 : decode cX11_puts 39 = .ok (.invokevirtual 266, 3) := by decide +kernel
theorem dX11_puts_42 : decode cX11_puts 42 = .ok (.ireturn, 1) := by decide +kernel
theorem dX11_puts_43 : decode cX11_puts 43 = .ok (.aload_n 0, 1) := by decide +kernel
theorem dX11_puts_44 : decode cX11_puts 44 = .ok (.getfield 35, 3) := by decide +kernel
theorem dX11_puts_47 : decode cX11_puts 47 = .ok (.aload_n 0, 1) := by decide +kernel
theorem dX11_puts_48 : decode cX11_puts 48 = .ok (.getfield 25, 3) := by decide +kernel
theorem dX11_puts_51 : decode cX11_puts 51 = .ok (.invokevirtual 269, 3) := by decide +kernel
theorem dX11_puts_54 : decode cX11_puts 54 = .ok (.aload_n 0, 1) := by decide +kernel
theorem dX11_puts_55 : decode cX11_puts 55 = .ok (.getfield 25, 3) := by decide +kernel
theorem dX11_puts_58 : decode cX11_puts 58 = .ok (.aload_n 2, 1) := by decide +kernel
theorem dX11_puts_59 : decode cX11_puts 59 = .ok (.invokevirtual 272, 3) := by decide +kernel
theorem dX11_puts_62 : decode cX11_puts 62 = .ok (.aload_n 0, 1) := by decide +kernel
theorem dX11_puts_63 : decode cX11_puts 63 = .ok (.invokevirtual 276, 3) := by decide +kernel
theorem dX11_puts_66 : decode cX11_puts 66 = .ok (.ireturn, 1) := by decide +kernel
theorem dX11_takes_0 : decode cX11_takes 0 = .ok (.aload_n 0, 1) := by decide +kernel
theorem dX11_takes_1 : decode cX11_takes 1 = .ok (.getfield 101, 3) := by decide +kernel
theorem dX11_takes_4 : decode cX11_takes 4 = .ok (.ifnonnull 9, 3) := by decide +kernel
theorem dX11_takes_7 : decode cX11_takes 7 = .ok (.aload_n 0, 1) := by decide +kernel
theorem dX11_takes_8 : decode cX11_takes 8 = .ok (.iconst 1, 1) := by decide +kernel
theorem dX11_takes_9 : decode cX11_takes 9 = .ok (.invokevirtual 60, 3) := by decide +kernel
theorem dX11_takes_12 : decode cX11_takes 12 = .ok (.ireturn, 1) := by decide +kernel
theorem dX11_takes_13 : decode cX11_takes 13 = .ok (.aload_n 0, 1) := by decide +kernel
theorem dX11_takes_14 : decode cX11_takes 14 = .ok (.getfield 25, 3) := by decide +kernel
theorem dX11_takes_17 : decode cX11_takes 17 = .ok (.invokevirtual 279, 3) := by decide +kernel
theorem dX11_takes_20 : decode cX11_takes 20 = .ok (.astore_n 1, 1) := by decide +kernel
theorem dX11_takes_21 : decode cX11_takes 21 = .ok (.aload_n 1, 1) := by decide +kernel
theorem dX11_takes_22 : decode cX11_takes 22 = .ok (.ifnonnull 10, 3) := by decide +kernel
theorem dX11_takes_25 : decode cX11_takes 25 = .ok (.aload_n 0, 1) := by decide +kernel
theorem dX11_takes_26 : decode cX11_takes 26 = .ok (.bipush 6, 2) := by decide +kernel
theorem dX11_takes_28 : decode cX11_takes 28 = .ok (.invokevirtual 60, 3) := by decide +kernel
theorem dX11_takes_31 : decode cX11_takes 31 = .ok (.ireturn, 1) := by decide +kernel
theorem dX11_takes_32 : decode cX11_takes 32 = .ok (.aload_n 0, 1) := by decide +kernel
theorem dX11_takes_33 : decode cX11_takes 33 = .ok (.getfield 35, 3) := by decide +kernel
theorem dX11_takes_36 : decode cX11_takes 36 = .ok (.aload_n 0, 1) := by decide +kernel
theorem dX11_takes_37 : decode cX11_takes 37 = .ok (.getfield 25, 3) := by decide +kernel
theorem dX11_takes_40 : decode cX11_takes 40 = .ok (.invokevirtual 269, 3) := by decide +kernel
theorem dX11_takes_43 : decode cX11_takes 43 = .ok (.aload_n 0, 1) := by decide +kernel
theorem dX11_takes_44 : decode cX11_takes 44 = .ok (.getfield 25, 3) := by decide +kernel
theorem dX11_takes_47 : decode cX11_takes 47 = .ok (.invokevirtual 283, 3) := by decide +kernel
theorem dX11_takes_50 : decode cX11_takes 50 = .ok (.aload_n 0, 1) := by decide +kernel
theorem dX11_takes_51 : decode cX11_takes 51 = .ok (.aload_n 1, 1) := by decide +kernel
theorem dX11_takes_52 : decode cX11_takes 52 = .ok (.getfield 175, 3) := by decide +kernel
theorem dX11_takes_55 : decode cX11_takes 55 = .ok (.invokevirtual 110, 3) := by decide +kernel
theorem dX11_takes_58 : decode cX11_takes 58 = .ok (.ireturn, 1) := by decide +kernel
theorem dX11_plays_0 : decode cX11_plays 0 = .ok (.aload_n 0, 1) := by decide +kernel
theorem dX11_plays_1 : decode cX11_plays 1 = .ok (.getfield 101, 3) := by decide +kernel
theorem dX11_plays_4 : decode cX11_plays 4 = .ok (.ifnull 10, 3) := by decide +kernel
theorem dX11_plays_7 : decode cX11_plays 7 = .ok (.iload_n 1, 1) := by decide +kernel
theorem dX11_plays_8 : decode cX11_plays 8 = .ok (.invokestatic 252, 3) := by decide +kernel
theorem dX11_plays_11 : decode cX11_plays 11 = .ok (.ifCond .ne 9, 3) := by decide +kernel
theorem dX11_plays_14 : decode cX11_plays 14 = .ok (.aload_n 0, 1) := by decide +kernel
theorem dX11_plays_15 : decode cX11_plays 15 = .ok (.iconst 1, 1) := by decide +kernel
theorem dX11_plays_16 : decode cX11_plays 16 = .ok (.invokevirtual 60, 3) := by decide +kernel
theorem dX11_plays_19 : decode cX11_plays 19 = .ok (.ireturn, 1) := by decide +kernel
theorem dX11_plays_20 : decode cX11_plays 20 = .ok (.aload_n 0, 1) := by decide +kernel
theorem dX11_plays_21 : decode cX11_plays 21 = .ok (.invokevirtual 185, 3) := by decide +kernel
theorem dX11_plays_24 : decode cX11_plays 24 = .ok (.ifCond .eq 10, 3) := by decide +kernel
theorem dX11_plays_27 : decode cX11_plays 27 = .ok (.aload_n 0, 1) := by decide +kernel
theorem dX11_plays_28 : decode cX11_plays 28 = .ok (.bipush 6, 2) := by decide +kernel
theorem dX11_plays_30 : decode cX11_plays 30 = .ok (.invokevirtual 60, 3) := by decide +kernel
theorem dX11_plays_33 : decode cX11_plays 33 = .ok (.ireturn, 1) := by decide +kernel
theorem dX11_plays_34 : decode cX11_plays 34 = .ok (.aload_n 0, 1) := by decide +kernel
theorem dX11_plays_35 : decode cX11_plays 35 = .ok (.getfield 35, 3) := by decide +kernel
theorem dX11_plays_38 : decode cX11_plays 38 = .ok (.aload_n 0, 1) := by decide +kernel
theorem dX11_plays_39 : decode cX11_plays 39 = .ok (.getfield 25, 3) := by decide +kernel
theorem dX11_plays_42 : decode cX11_plays 42 = .ok (.invokevirtual 269, 3) := by decide +kernel
theorem dX11_plays_45 : decode cX11_plays 45 = .ok (.aload_n 0, 1) := by decide +kernel
theorem dX11_plays_46 : decode cX11_plays 46 = .ok (.getfield 42, 3) := by decide +kernel
theorem dX11_plays_49 : decode cX11_plays 49 = .ok (.iload_n 1, 1) := by decide +kernel
theorem dX11_plays_50 : decode cX11_plays 50 = .ok (.aload_n 0, 1) := by decide +kernel
theorem dX11_plays_51 : decode cX11_plays 51 = .ok (.getfield 18, 3) := by decide +kernel
theorem dX11_plays_54 : decode cX11_plays 54 = .ok (.aload_n 0, 1) := by decide +kernel
theorem dX11_plays_55 : decode cX11_plays 55 = .ok (.getfield 25, 3) := by decide +kernel
theorem dX11_plays_58 : decode cX11_plays 58 = .ok (.invokevirtual 286, 3) := by decide +kernel
theorem dX11_plays_61 : decode cX11_plays 61 = .ok (.astore_n 2, 1) := by decide +kernel
theorem dX11_plays_62 : decode cX11_plays 62 = .ok (.aload_n 0, 1) := by decide +kernel
theorem dX11_plays_63 : decode cX11_plays 63 = .ok (.getfield 25, 3) := by decide +kernel
theorem dX11_plays_66 : decode cX11_plays 66 = .ok (.aload_n 2, 1) := by decide +kernel
theorem dX11_plays_67 : decode cX11_plays 67 = .ok (.invokevirtual 272, 3) := by decide +kernel
theorem dX11_plays_70 : decode cX11_plays 70 = .ok (.aload_n 0, 1) := by decide +kernel
theorem dX11_plays_71 : decode cX11_plays 71 = .ok (.aload_n 2, 1) := by decide +kernel
theorem dX11_plays_72 : decode cX11_plays 72 = .ok (.invokestatic 152, 3) := by decide +kernel
theorem dX11_plays_75 : decode cX11_plays 75 = .ok (.invokevirtual 110, 3) := by decide +kernel
theorem dX11_plays_78 : decode cX11_plays 78 = .ok (.ireturn, 1) := by decide +kernel
theorem dX11_seed_0 : decode cX11_seed 0 = .ok (.aload_n 0, 1) := by decide +kernel
theorem dX11_seed_1 : decode cX11_seed 1 = .ok (.getfield 101, 3) := by decide +kernel
theorem dX11_seed_4 : decode cX11_seed 4 = .ok (.ifnonnull 9, 3) := by decide +kernel
theorem dX11_seed_7 : decode cX11_seed 7 = .ok (.aload_n 0, 1) := by decide +kernel
theorem dX11_seed_8 : decode cX11_seed 8 = .ok (.iconst 1, 1) := by decide +kernel
theorem dX11_seed_9 : decode cX11_seed 9 = .ok (.invokevirtual 266, 3) := by decide +kernel
theorem dX11_seed_12 : decode cX11_seed 12 = .ok (.ireturn, 1) := by decide +kernel
theorem dX11_seed_13 : decode cX11_seed 13 = .ok (.iload_n 1, 1) := by decide +kernel
theorem dX11_seed_14 : decode cX11_seed 14 = .ok (.ifCond .lt 10, 3) := by decide +kernel
theorem dX11_seed_17 : decode cX11_seed 17 = .ok (.iload_n 1, 1) := by decide +kernel
theorem dX11_seed_18 : decode cX11_seed 18 = .ok (.ldc_w 289, 3) := by decide +kernel
theorem dX11_seed_21 : decode cX11_seed 21 = .ok (.if_icmp .lt 9, 3) := by decide +kernel
theorem dX11_seed_24 : decode cX11_seed 24 = .ok (.aload_n 0, 1) := by decide +kernel
theorem dX11_seed_25 : decode cX11_seed 25 = .ok (.iconst 2, 1) := by decide +kernel
theorem dX11_seed_26 : decode cX11_seed 26 = .ok (.invokevirtual 266, 3) := by decide +kernel
theorem dX11_seed_29 : decode cX11_seed 29 = .ok (.ireturn, 1) := by decide +kernel
theorem dX11_seed_30 : decode cX11_seed 30 = .ok (.aload_n 0, 1) := by decide +kernel
theorem dX11_seed_31 : decode cX11_seed 31 = .ok (.getfield 25, 3) := by decide +kernel
theorem dX11_seed_34 : decode cX11_seed 34 = .ok (.iload_n 1, 1) := by decide +kernel
theorem dX11_seed_35 : decode cX11_seed 35 = .ok (.putfield 290, 3) := by decide +kernel
theorem dX11_seed_38 : decode cX11_seed 38 = .ok (.aload_n 0, 1) := by decide +kernel
theorem dX11_seed_39 : decode cX11_seed 39 = .ok (.invokevirtual 276, 3) := by decide +kernel
theorem dX11_seed_42 : decode cX11_seed 42 = .ok (.ireturn, 1) := by decide +kernel
theorem dX11_undo_0 : decode cX11_undo 0 = .ok (.aload_n 0, 1) := by decide +kernel
theorem dX11_undo_1 : decode cX11_undo 1 = .ok (.getfield 35, 3) := by decide +kernel
theorem dX11_undo_4 : decode cX11_undo 4 = .ok (.aload_n 0, 1) := by decide +kernel
theorem dX11_undo_5 : decode cX11_undo 5 = .ok (.getfield 25, 3) := by decide +kernel
theorem dX11_undo_8 : decode cX11_undo 8 = .ok (.invokevirtual 293, 3) := by decide +kernel
theorem dX11_undo_11 : decode cX11_undo 11 = .ok (.ifCond .eq 10, 3) := by decide +kernel
theorem dX11_undo_14 : decode cX11_undo 14 = .ok (.aload_n 0, 1) := by decide +kernel
theorem dX11_undo_15 : decode cX11_undo 15 = .ok (.invokevirtual 276, 3) := by decide +kernel
theorem dX11_undo_18 : decode cX11_undo 18 = .ok (.goto 9, 3) := by decide +kernel
theorem dX11_undo_21 : decode cX11_undo 21 = .ok (.aload_n 0, 1) := by decide +kernel
theorem dX11_undo_22 : decode cX11_undo 22 = .ok (.bipush 6, 2) := by decide +kernel
theorem dX11_undo_24 : decode cX11_undo 24 = .ok (.invokevirtual 266, 3) := by decide +kernel
theorem dX11_undo_27 : decode cX11_undo 27 = .ok (.ireturn, 1) := by decide +kernel
theorem dX11_image_0 : decode cX11_image 0 = .ok (.aload_n 0, 1) := by decide +kernel
theorem dX11_image_1 : decode cX11_image 1 = .ok (.getfield 101, 3) := by decide +kernel
theorem dX11_image_4 : decode cX11_image 4 = .ok (.ifnonnull 9, 3) := by decide +kernel
theorem dX11_image_7 : decode cX11_image 7 = .ok (.aload_n 0, 1) := by decide +kernel
theorem dX11_image_8 : decode cX11_image 8 = .ok (.iconst 1, 1) := by decide +kernel
theorem dX11_image_9 : decode cX11_image 9 = .ok (.invokevirtual 60, 3) := by decide +kernel
theorem dX11_image_12 : decode cX11_image 12 = .ok (.ireturn, 1) := by decide +kernel
theorem dX11_image_13 : decode cX11_image 13 = .ok (.aload_n 0, 1) := by decide +kernel
theorem dX11_image_14 : decode cX11_image 14 = .ok (.getfield 35, 3) := by decide +kernel
theorem dX11_image_17 : decode cX11_image 17 = .ok (.aload_n 0, 1) := by decide +kernel
theorem dX11_image_18 : decode cX11_image 18 = .ok (.getfield 25, 3) := by decide +kernel
theorem dX11_image_21 : decode cX11_image 21 = .ok (.invokevirtual 297, 3) := by decide +kernel
theorem dX11_image_24 : decode cX11_image 24 = .ok (.istore_n 1, 1) := by decide +kernel
theorem dX11_image_25 : decode cX11_image 25 = .ok (.iload_n 1, 1) := by decide +kernel
theorem dX11_image_26 : decode cX11_image 26 = .ok (.iconst (-1), 1) := by decide +kernel
theorem dX11_image_27 : decode cX11_image 27 = .ok (.if_icmp .ne 11, 3) := by decide +kernel
theorem dX11_image_30 : decode cX11_image 30 = .ok (.aload_n 0, 1) := by decide +kernel
theorem dX11_image_31 : decode cX11_image 31 = .ok (.iconst 3, 1) := by decide +kernel
theorem dX11_image_32 : decode cX11_image 32 = .ok (.invokevirtual 60, 3) := by decide +kernel
theorem dX11_image_35 : decode cX11_image 35 = .ok (.goto 8, 3) := by decide +kernel
theorem dX11_image_38 : decode cX11_image 38 = .ok (.aload_n 0, 1) := by decide +kernel
theorem dX11_image_39 : decode cX11_image 39 = .ok (.iload_n 1, 1) := by decide +kernel
theorem dX11_image_40 : decode cX11_image 40 = .ok (.invokevirtual 110, 3) := by decide +kernel
theorem dX11_image_43 : decode cX11_image 43 = .ok (.ireturn, 1) := by decide +kernel
theorem dX11_back_0 : decode cX11_back 0 = .ok (.aload_n 0, 1) := by decide +kernel
theorem dX11_back_1 : decode cX11_back 1 = .ok (.getfield 35, 3) := by decide +kernel
theorem dX11_back_4 : decode cX11_back 4 = .ok (.iload_n 1, 1) := by decide +kernel
theorem dX11_back_5 : decode cX11_back 5 = .ok (.aload_n 0, 1) := by decide +kernel
theorem dX11_back_6 : decode cX11_back 6 = .ok (.getfield 25, 3) := by decide +kernel
theorem dX11_back_9 : decode cX11_back 9 = .ok (.invokevirtual 301, 3) := by decide +kernel
theorem dX11_back_12 : decode cX11_back 12 = .ok (.ifCond .eq 10, 3) := by decide +kernel
theorem dX11_back_15 : decode cX11_back 15 = .ok (.aload_n 0, 1) := by decide +kernel
theorem dX11_back_16 : decode cX11_back 16 = .ok (.invokevirtual 276, 3) := by decide +kernel
theorem dX11_back_19 : decode cX11_back 19 = .ok (.goto 8, 3) := by decide +kernel
theorem dX11_back_22 : decode cX11_back 22 = .ok (.aload_n 0, 1) := by decide +kernel
theorem dX11_back_23 : decode cX11_back 23 = .ok (.iconst 1, 1) := by decide +kernel
theorem dX11_back_24 : decode cX11_back 24 = .ok (.invokevirtual 266, 3) := by decide +kernel
theorem dX11_back_27 : decode cX11_back 27 = .ok (.ireturn, 1) := by decide +kernel
theorem dX11_led_0 : decode cX11_led 0 = .ok (.aload_n 0, 1) := by decide +kernel
theorem dX11_led_1 : decode cX11_led 1 = .ok (.getfield 25, 3) := by decide +kernel
theorem dX11_led_4 : decode cX11_led 4 = .ok (.iload_n 1, 1) := by decide +kernel
theorem dX11_led_5 : decode cX11_led 5 = .ok (.invokevirtual 305, 3) := by decide +kernel
theorem dX11_led_8 : decode cX11_led 8 = .ok (.astore_n 2, 1) := by decide +kernel
theorem dX11_led_9 : decode cX11_led 9 = .ok (.aload_n 2, 1) := by decide +kernel
theorem dX11_led_10 : decode cX11_led 10 = .ok (.ifnonnull 11, 3) := by decide +kernel
theorem dX11_led_13 : decode cX11_led 13 = .ok (.new 308, 3) := by decide +kernel
theorem dX11_led_16 : decode cX11_led 16 = .ok (.dup, 1) := by decide +kernel
theorem dX11_led_17 : decode cX11_led 17 = .ok (.invokespecial 310, 3) := by decide +kernel
theorem dX11_led_20 : decode cX11_led 20 = .ok (.athrow, 1) := by decide +kernel
theorem dX11_led_21 : decode cX11_led 21 = .ok (.aload_n 2, 1) := by decide +kernel
theorem dX11_led_22 : decode cX11_led 22 = .ok (.getfield 175, 3) := by decide +kernel
theorem dX11_led_25 : decode cX11_led 25 = .ok (.ireturn, 1) := by decide +kernel
theorem dX11_told_0 : decode cX11_told 0 = .ok (.iload_n 1, 1) := by decide +kernel
theorem dX11_told_1 : decode cX11_told 1 = .ok (.tableswitch 84 6 11 #[39, 47, 55, 63, 71, 79], 39) := by decide +kernel
theorem dX11_told_40 : decode cX11_told 40 = .ok (.aload_n 0, 1) := by decide +kernel
theorem dX11_told_41 : decode cX11_told 41 = .ok (.getfield 25, 3) := by decide +kernel
theorem dX11_told_44 : decode cX11_told 44 = .ok (.getfield 311, 3) := by decide +kernel
theorem dX11_told_47 : decode cX11_told 47 = .ok (.ireturn, 1) := by decide +kernel
theorem dX11_told_48 : decode cX11_told 48 = .ok (.aload_n 0, 1) := by decide +kernel
theorem dX11_told_49 : decode cX11_told 49 = .ok (.getfield 25, 3) := by decide +kernel
theorem dX11_told_52 : decode cX11_told 52 = .ok (.invokevirtual 159, 3) := by decide +kernel
theorem dX11_told_55 : decode cX11_told 55 = .ok (.ireturn, 1) := by decide +kernel
theorem dX11_told_56 : decode cX11_told 56 = .ok (.aload_n 0, 1) := by decide +kernel
theorem dX11_told_57 : decode cX11_told 57 = .ok (.getfield 25, 3) := by decide +kernel
theorem dX11_told_60 : decode cX11_told 60 = .ok (.getfield 290, 3) := by decide +kernel
theorem dX11_told_63 : decode cX11_told 63 = .ok (.ireturn, 1) := by decide +kernel
theorem dX11_told_64 : decode cX11_told 64 = .ok (.aload_n 0, 1) := by decide +kernel
theorem dX11_told_65 : decode cX11_told 65 = .ok (.getfield 35, 3) := by decide +kernel
theorem dX11_told_68 : decode cX11_told 68 = .ok (.getfield 314, 3) := by decide +kernel
theorem dX11_told_71 : decode cX11_told 71 = .ok (.ireturn, 1) := by decide +kernel
theorem dX11_told_72 : decode cX11_told 72 = .ok (.aload_n 0, 1) := by decide +kernel
theorem dX11_told_73 : decode cX11_told 73 = .ok (.getfield 35, 3) := by decide +kernel
theorem dX11_told_76 : decode cX11_told 76 = .ok (.getfield 317, 3) := by decide +kernel
theorem dX11_told_79 : decode cX11_told 79 = .ok (.ireturn, 1) := by decide +kernel
theorem dX11_told_80 : decode cX11_told 80 = .ok (.aload_n 0, 1) := by decide +kernel
theorem dX11_told_81 : decode cX11_told 81 = .ok (.getfield 53, 3) := by decide +kernel
theorem dX11_told_84 : decode cX11_told 84 = .ok (.ireturn, 1) := by decide +kernel
theorem dX11_told_85 : decode cX11_told 85 = .ok (.aload_n 0, 1) := by decide +kernel
theorem dX11_told_86 : decode cX11_told 86 = .ok (.iload_n 1, 1) := by decide +kernel
theorem dX11_told_87 : decode cX11_told 87 = .ok (.invokevirtual 320, 3) := by decide +kernel
theorem dX11_told_90 : decode cX11_told 90 = .ok (.ireturn, 1) := by decide +kernel
theorem dX11_trouble_0 : decode cX11_trouble 0 = .ok (.aload_n 0, 1) := by decide +kernel
theorem dX11_trouble_1 : decode cX11_trouble 1 = .ok (.getfield 128, 3) := by decide +kernel
theorem dX11_trouble_4 : decode cX11_trouble 4 = .ok (.ireturn, 1) := by decide +kernel
theorem dX11_toldOfTable_0 : decode cX11_toldOfTable 0 = .ok (.iload_n 1, 1) := by decide +kernel
theorem dX11_toldOfTable_1 : decode cX11_toldOfTable 1 = .ok (.ifCond .lt 8, 3) := by decide +kernel
theorem dX11_toldOfTable_4 : decode cX11_toldOfTable 4 = .ok (.iload_n 1, 1) := by decide +kernel
theorem dX11_toldOfTable_5 : decode cX11_toldOfTable 5 = .ok (.iconst 5, 1) := by decide +kernel
theorem dX11_toldOfTable_6 : decode cX11_toldOfTable 6 = .ok (.if_icmp .le 5, 3) := by decide +kernel
theorem dX11_toldOfTable_9 : decode cX11_toldOfTable 9 = .ok (.iconst (-1), 1) := by decide +kernel
theorem dX11_toldOfTable_10 : decode cX11_toldOfTable 10 = .ok (.ireturn, 1) := by decide +kernel
theorem dX11_toldOfTable_11 : decode cX11_toldOfTable 11 = .ok (.aload_n 0, 1) := by decide +kernel
theorem dX11_toldOfTable_12 : decode cX11_toldOfTable 12 = .ok (.getfield 101, 3) := by decide +kernel
theorem dX11_toldOfTable_15 : decode cX11_toldOfTable 15 = .ok (.ifnonnull 5, 3) := by decide +kernel
theorem dX11_toldOfTable_18 : decode cX11_toldOfTable 18 = .ok (.iconst 0, 1) := by decide +kernel
theorem dX11_toldOfTable_19 : decode cX11_toldOfTable 19 = .ok (.ireturn, 1) := by decide +kernel
theorem dX11_toldOfTable_20 : decode cX11_toldOfTable 20 = .ok (.iload_n 1, 1) := by decide +kernel
theorem dX11_toldOfTable_21 : decode cX11_toldOfTable 21 = .ok (.tableswitch 92 0 4 #[35, 46, 57, 65, 76], 35) := by decide +kernel
theorem dX11_toldOfTable_56 : decode cX11_toldOfTable 56 = .ok (.aload_n 0, 1) := by decide +kernel
theorem dX11_toldOfTable_57 : decode cX11_toldOfTable 57 = .ok (.getfield 101, 3) := by decide +kernel
theorem dX11_toldOfTable_60 : decode cX11_toldOfTable 60 = .ok (.getfield 323, 3) := by decide +kernel
theorem dX11_toldOfTable_63 : decode cX11_toldOfTable 63 = .ok (.invokevirtual 327, 3) := by decide +kernel
theorem dX11_toldOfTable_66 : decode cX11_toldOfTable 66 = .ok (.ireturn, 1) := by decide +kernel
theorem dX11_toldOfTable_67 : decode cX11_toldOfTable 67 = .ok (.aload_n 0, 1) := by decide +kernel
theorem dX11_toldOfTable_68 : decode cX11_toldOfTable 68 = .ok (.getfield 101, 3) := by decide +kernel
theorem dX11_toldOfTable_71 : decode cX11_toldOfTable 71 = .ok (.getfield 332, 3) := by decide +kernel
theorem dX11_toldOfTable_74 : decode cX11_toldOfTable 74 = .ok (.invokevirtual 327, 3) := by decide +kernel
theorem dX11_toldOfTable_77 : decode cX11_toldOfTable 77 = .ok (.ireturn, 1) := by decide +kernel
theorem dX11_toldOfTable_78 : decode cX11_toldOfTable 78 = .ok (.aload_n 0, 1) := by decide +kernel
theorem dX11_toldOfTable_79 : decode cX11_toldOfTable 79 = .ok (.getfield 101, 3) := by decide +kernel
theorem dX11_toldOfTable_82 : decode cX11_toldOfTable 82 = .ok (.getfield 122, 3) := by decide +kernel
theorem dX11_toldOfTable_85 : decode cX11_toldOfTable 85 = .ok (.ireturn, 1) := by decide +kernel
theorem dX11_toldOfTable_86 : decode cX11_toldOfTable 86 = .ok (.aload_n 0, 1) := by decide +kernel
theorem dX11_toldOfTable_87 : decode cX11_toldOfTable 87 = .ok (.getfield 101, 3) := by decide +kernel
theorem dX11_toldOfTable_90 : decode cX11_toldOfTable 90 = .ok (.getfield 335, 3) := by decide +kernel
theorem dX11_toldOfTable_93 : decode cX11_toldOfTable 93 = .ok (.invokestatic 338, 3) := by decide +kernel
theorem dX11_toldOfTable_96 : decode cX11_toldOfTable 96 = .ok (.ireturn, 1) := by decide +kernel
theorem dX11_toldOfTable_97 : decode cX11_toldOfTable 97 = .ok (.aload_n 0, 1) := by decide +kernel
theorem dX11_toldOfTable_98 : decode cX11_toldOfTable 98 = .ok (.getfield 101, 3) := by decide +kernel
theorem dX11_toldOfTable_101 : decode cX11_toldOfTable 101 = .ok (.getfield 343, 3) := by decide +kernel
theorem dX11_toldOfTable_104 : decode cX11_toldOfTable 104 = .ok (.ifCond .eq 7, 3) := by decide +kernel
theorem dX11_toldOfTable_107 : decode cX11_toldOfTable 107 = .ok (.iconst 1, 1) := by decide +kernel
theorem dX11_toldOfTable_108 : decode cX11_toldOfTable 108 = .ok (.goto 4, 3) := by decide +kernel
theorem dX11_toldOfTable_111 : decode cX11_toldOfTable 111 = .ok (.iconst 0, 1) := by decide +kernel
theorem dX11_toldOfTable_112 : decode cX11_toldOfTable 112 = .ok (.ireturn, 1) := by decide +kernel
theorem dX11_toldOfTable_113 : decode cX11_toldOfTable 113 = .ok (.aload_n 0, 1) := by decide +kernel
theorem dX11_toldOfTable_114 : decode cX11_toldOfTable 114 = .ok (.getfield 101, 3) := by decide +kernel
theorem dX11_toldOfTable_117 : decode cX11_toldOfTable 117 = .ok (.getfield 347, 3) := by decide +kernel
theorem dX11_toldOfTable_120 : decode cX11_toldOfTable 120 = .ok (.ifCond .eq 7, 3) := by decide +kernel
theorem dX11_toldOfTable_123 : decode cX11_toldOfTable 123 = .ok (.iconst 1, 1) := by decide +kernel
theorem dX11_toldOfTable_124 : decode cX11_toldOfTable 124 = .ok (.goto 4, 3) := by decide +kernel
theorem dX11_toldOfTable_127 : decode cX11_toldOfTable 127 = .ok (.iconst 0, 1) := by decide +kernel
theorem dX11_toldOfTable_128 : decode cX11_toldOfTable 128 = .ok (.ireturn, 1) := by decide +kernel
theorem dX11_refuse_0 : decode cX11_refuse 0 = .ok (.aload_n 0, 1) := by decide +kernel
theorem dX11_refuse_1 : decode cX11_refuse 1 = .ok (.iload_n 1, 1) := by decide +kernel
theorem dX11_refuse_2 : decode cX11_refuse 2 = .ok (.putfield 128, 3) := by decide +kernel
theorem dX11_refuse_5 : decode cX11_refuse 5 = .ok (.iconst (-1), 1) := by decide +kernel
theorem dX11_refuse_6 : decode cX11_refuse 6 = .ok (.ireturn, 1) := by decide +kernel
theorem dX11_accept_0 : decode cX11_accept 0 = .ok (.aload_n 0, 1) := by decide +kernel
theorem dX11_accept_1 : decode cX11_accept 1 = .ok (.iconst 0, 1) := by decide +kernel
theorem dX11_accept_2 : decode cX11_accept 2 = .ok (.putfield 128, 3) := by decide +kernel
theorem dX11_accept_5 : decode cX11_accept 5 = .ok (.iload_n 1, 1) := by decide +kernel
theorem dX11_accept_6 : decode cX11_accept 6 = .ok (.ireturn, 1) := by decide +kernel
theorem dX11_deny_0 : decode cX11_deny 0 = .ok (.aload_n 0, 1) := by decide +kernel
theorem dX11_deny_1 : decode cX11_deny 1 = .ok (.iload_n 1, 1) := by decide +kernel
theorem dX11_deny_2 : decode cX11_deny 2 = .ok (.putfield 128, 3) := by decide +kernel
theorem dX11_deny_5 : decode cX11_deny 5 = .ok (.iconst 0, 1) := by decide +kernel
theorem dX11_deny_6 : decode cX11_deny 6 = .ok (.ireturn, 1) := by decide +kernel
theorem dX11_grant_0 : decode cX11_grant 0 = .ok (.aload_n 0, 1) := by decide +kernel
theorem dX11_grant_1 : decode cX11_grant 1 = .ok (.iconst 0, 1) := by decide +kernel
theorem dX11_grant_2 : decode cX11_grant 2 = .ok (.putfield 128, 3) := by decide +kernel
theorem dX11_grant_5 : decode cX11_grant 5 = .ok (.iconst 1, 1) := by decide +kernel
theorem dX11_grant_6 : decode cX11_grant 6 = .ok (.ireturn, 1) := by decide +kernel
theorem dX11_read_0 : decode cX11_read 0 = .ok (.aload_n 0, 1) := by decide +kernel
theorem dX11_read_1 : decode cX11_read 1 = .ok (.getfield 101, 3) := by decide +kernel
theorem dX11_read_4 : decode cX11_read 4 = .ok (.ifnonnull 9, 3) := by decide +kernel
theorem dX11_read_7 : decode cX11_read 7 = .ok (.aload_n 0, 1) := by decide +kernel
theorem dX11_read_8 : decode cX11_read 8 = .ok (.iconst 1, 1) := by decide +kernel
theorem dX11_read_9 : decode cX11_read 9 = .ok (.invokevirtual 60, 3) := by decide +kernel
theorem dX11_read_12 : decode cX11_read 12 = .ok (.ireturn, 1) := by decide +kernel
theorem dX11_read_13 : decode cX11_read 13 = .ok (.aload_n 0, 1) := by decide +kernel
theorem dX11_read_14 : decode cX11_read 14 = .ok (.aload_n 0, 1) := by decide +kernel
theorem dX11_read_15 : decode cX11_read 15 = .ok (.getfield 18, 3) := by decide +kernel
theorem dX11_read_18 : decode cX11_read 18 = .ok (.iload_n 1, 1) := by decide +kernel
theorem dX11_read_19 : decode cX11_read 19 = .ok (.aload_n 0, 1) := by decide +kernel
theorem dX11_read_20 : decode cX11_read 20 = .ok (.getfield 25, 3) := by decide +kernel
theorem dX11_read_23 : decode cX11_read 23 = .ok (.getfield 156, 3) := by decide +kernel
theorem dX11_read_26 : decode cX11_read 26 = .ok (.aload_n 0, 1) := by decide +kernel
theorem dX11_read_27 : decode cX11_read 27 = .ok (.getfield 25, 3) := by decide +kernel
theorem dX11_read_30 : decode cX11_read 30 = .ok (.invokevirtual 159, 3) := by decide +kernel
theorem dX11_read_33 : decode cX11_read 33 = .ok (.invokevirtual 350, 3) := by decide +kernel
theorem dX11_read_36 : decode cX11_read 36 = .ok (.invokevirtual 110, 3) := by decide +kernel
theorem dX11_read_39 : decode cX11_read 39 = .ok (.ireturn, 1) := by decide +kernel
theorem dX11_layNumbered_0 : decode cX11_layNumbered 0 = .ok (.aload_n 0, 1) := by decide +kernel
theorem dX11_layNumbered_1 : decode cX11_layNumbered 1 = .ok (.getfield 101, 3) := by decide +kernel
theorem dX11_layNumbered_4 : decode cX11_layNumbered 4 = .ok (.ifnonnull 7, 3) := by decide +kernel
theorem dX11_layNumbered_7 : decode cX11_layNumbered 7 = .ok (.aconst_null, 1) := by decide +kernel
theorem dX11_layNumbered_8 : decode cX11_layNumbered 8 = .ok (.goto 11, 3) := by decide +kernel
theorem dX11_layNumbered_11 : decode cX11_layNumbered 11 = .ok (.aload_n 0, 1) := by decide +kernel
theorem dX11_layNumbered_12 : decode cX11_layNumbered 12 = .ok (.getfield 101, 3) := by decide +kernel
theorem dX11_layNumbered_15 : decode cX11_layNumbered 15 = .ok (.iload_n 1, 1) := by decide +kernel
theorem dX11_layNumbered_16 : decode cX11_layNumbered 16 = .ok (.invokevirtual 353, 3) := by decide +kernel
theorem dX11_layNumbered_19 : decode cX11_layNumbered 19 = .ok (.areturn, 1) := by decide +kernel
theorem dX11_isOver_0 : decode cX11_isOver 0 = .ok (.aload_n 0, 1) := by decide +kernel
theorem dX11_isOver_1 : decode cX11_isOver 1 = .ok (.getfield 101, 3) := by decide +kernel
theorem dX11_isOver_4 : decode cX11_isOver 4 = .ok (.ifnull 28, 3) := by decide +kernel
theorem dX11_isOver_7 : decode cX11_isOver 7 = .ok (.aload_n 0, 1) := by decide +kernel
theorem dX11_isOver_8 : decode cX11_isOver 8 = .ok (.getfield 101, 3) := by decide +kernel
theorem dX11_isOver_11 : decode cX11_isOver 11 = .ok (.aload_n 0, 1) := by decide +kernel
theorem dX11_isOver_12 : decode cX11_isOver 12 = .ok (.getfield 25, 3) := by decide +kernel
theorem dX11_isOver_15 : decode cX11_isOver 15 = .ok (.getfield 156, 3) := by decide +kernel
theorem dX11_isOver_18 : decode cX11_isOver 18 = .ok (.aload_n 0, 1) := by decide +kernel
theorem dX11_isOver_19 : decode cX11_isOver 19 = .ok (.getfield 25, 3) := by decide +kernel
theorem dX11_isOver_22 : decode cX11_isOver 22 = .ok (.invokevirtual 159, 3) := by decide +kernel
theorem dX11_isOver_25 : decode cX11_isOver 25 = .ok (.iconst 0, 1) := by decide +kernel
theorem dX11_isOver_26 : decode cX11_isOver 26 = .ok (.invokevirtual 171, 3) := by decide +kernel
theorem dX11_isOver_29 : decode cX11_isOver 29 = .ok (.ifnonnull 7, 3) := by decide +kernel
theorem dX11_isOver_32 : decode cX11_isOver 32 = .ok (.iconst 1, 1) := by decide +kernel
theorem dX11_isOver_33 : decode cX11_isOver 33 = .ok (.goto 4, 3) := by decide +kernel
theorem dX11_isOver_36 : decode cX11_isOver 36 = .ok (.iconst 0, 1) := by decide +kernel
theorem dX11_isOver_37 : decode cX11_isOver 37 = .ok (.ireturn, 1) := by decide +kernel
theorem dX11_winnerBehind_0 : decode cX11_winnerBehind 0 = .ok (.iload_n 1, 1) := by decide +kernel
theorem dX11_winnerBehind_1 : decode cX11_winnerBehind 1 = .ok (.iconst 1, 1) := by decide +kernel
theorem dX11_winnerBehind_2 : decode cX11_winnerBehind 2 = .ok (.iand, 1) := by decide +kernel
theorem dX11_winnerBehind_3 : decode cX11_winnerBehind 3 = .ok (.istore_n 2, 1) := by decide +kernel
theorem dX11_winnerBehind_4 : decode cX11_winnerBehind 4 = .ok (.aload_n 0, 1) := by decide +kernel
theorem dX11_winnerBehind_5 : decode cX11_winnerBehind 5 = .ok (.getfield 101, 3) := by decide +kernel
theorem dX11_winnerBehind_8 : decode cX11_winnerBehind 8 = .ok (.ifnull 17, 3) := by decide +kernel
theorem dX11_winnerBehind_11 : decode cX11_winnerBehind 11 = .ok (.aload_n 0, 1) := by decide +kernel
theorem dX11_winnerBehind_12 : decode cX11_winnerBehind 12 = .ok (.getfield 101, 3) := by decide +kernel
theorem dX11_winnerBehind_15 : decode cX11_winnerBehind 15 = .ok (.getfield 343, 3) := by decide +kernel
theorem dX11_winnerBehind_18 : decode cX11_winnerBehind 18 = .ok (.ifCond .eq 7, 3) := by decide +kernel
theorem dX11_winnerBehind_21 : decode cX11_winnerBehind 21 = .ok (.iload_n 2, 1) := by decide +kernel
theorem dX11_winnerBehind_22 : decode cX11_winnerBehind 22 = .ok (.goto 6, 3) := by decide +kernel
theorem dX11_winnerBehind_25 : decode cX11_winnerBehind 25 = .ok (.iconst 1, 1) := by decide +kernel
theorem dX11_winnerBehind_26 : decode cX11_winnerBehind 26 = .ok (.iload_n 2, 1) := by decide +kernel
theorem dX11_winnerBehind_27 : decode cX11_winnerBehind 27 = .ok (.isub, 1) := by decide +kernel
theorem dX11_winnerBehind_28 : decode cX11_winnerBehind 28 = .ok (.ireturn, 1) := by decide +kernel
theorem dX11_numberOf_0 : decode cX11_numberOf 0 = .ok (.aload_n 0, 1) := by decide +kernel
theorem dX11_numberOf_1 : decode cX11_numberOf 1 = .ok (.ifnonnull 8, 3) := by decide +kernel
theorem dX11_numberOf_4 : decode cX11_numberOf 4 = .ok (.bipush (-2), 2) := by decide +kernel
theorem dX11_numberOf_6 : decode cX11_numberOf 6 = .ok (.goto 7, 3) := by decide +kernel
theorem dX11_numberOf_9 : decode cX11_numberOf 9 = .ok (.aload_n 0, 1) := by decide +kernel
theorem dX11_numberOf_10 : decode cX11_numberOf 10 = .ok (.getfield 175, 3) := by decide +kernel
theorem dX11_numberOf_13 : decode cX11_numberOf 13 = .ok (.ireturn, 1) := by decide +kernel
theorem dX11_isPlayer_0 : decode cX11_isPlayer 0 = .ok (.iload_n 0, 1) := by decide +kernel
theorem dX11_isPlayer_1 : decode cX11_isPlayer 1 = .ok (.ifCond .lt 12, 3) := by decide +kernel
theorem dX11_isPlayer_4 : decode cX11_isPlayer 4 = .ok (.iload_n 0, 1) := by decide +kernel
theorem dX11_isPlayer_5 : decode cX11_isPlayer 5 = .ok (.iconst 5, 1) := by decide +kernel
theorem dX11_isPlayer_6 : decode cX11_isPlayer 6 = .ok (.if_icmp .ge 7, 3) := by decide +kernel
theorem dX11_isPlayer_9 : decode cX11_isPlayer 9 = .ok (.iconst 1, 1) := by decide +kernel
theorem dX11_isPlayer_10 : decode cX11_isPlayer 10 = .ok (.goto 4, 3) := by decide +kernel
theorem dX11_isPlayer_13 : decode cX11_isPlayer 13 = .ok (.iconst 0, 1) := by decide +kernel
theorem dX11_isPlayer_14 : decode cX11_isPlayer 14 = .ok (.ireturn, 1) := by decide +kernel
theorem dJ6_numberOfTrailingZeros_0f7a4_0 : decode cJ6_numberOfTrailingZeros_0f7a4 0 = .ok (.iload_n 0, 1) := by decide +kernel
theorem dJ6_numberOfTrailingZeros_0f7a4_1 : decode cJ6_numberOfTrailingZeros_0f7a4 1 = .ok (.iconst (-1), 1) := by decide +kernel
theorem dJ6_numberOfTrailingZeros_0f7a4_2 : decode cJ6_numberOfTrailingZeros_0f7a4 2 = .ok (.ixor, 1) := by decide +kernel
theorem dJ6_numberOfTrailingZeros_0f7a4_3 : decode cJ6_numberOfTrailingZeros_0f7a4 3 = .ok (.iload_n 0, 1) := by decide +kernel
theorem dJ6_numberOfTrailingZeros_0f7a4_4 : decode cJ6_numberOfTrailingZeros_0f7a4 4 = .ok (.iconst 1, 1) := by decide +kernel
theorem dJ6_numberOfTrailingZeros_0f7a4_5 : decode cJ6_numberOfTrailingZeros_0f7a4 5 = .ok (.isub, 1) := by decide +kernel
theorem dJ6_numberOfTrailingZeros_0f7a4_6 : decode cJ6_numberOfTrailingZeros_0f7a4 6 = .ok (.iand, 1) := by decide +kernel
theorem dJ6_numberOfTrailingZeros_0f7a4_7 : decode cJ6_numberOfTrailingZeros_0f7a4 7 = .ok (.istore_n 0, 1) := by decide +kernel
theorem dJ6_numberOfTrailingZeros_0f7a4_8 : decode cJ6_numberOfTrailingZeros_0f7a4 8 = .ok (.iload_n 0, 1) := by decide +kernel
theorem dJ6_numberOfTrailingZeros_0f7a4_9 : decode cJ6_numberOfTrailingZeros_0f7a4 9 = .ok (.ifCond .gt 8, 3) := by decide +kernel
theorem dJ6_numberOfTrailingZeros_0f7a4_12 : decode cJ6_numberOfTrailingZeros_0f7a4 12 = .ok (.iload_n 0, 1) := by decide +kernel
theorem dJ6_numberOfTrailingZeros_0f7a4_13 : decode cJ6_numberOfTrailingZeros_0f7a4 13 = .ok (.bipush 32, 2) := by decide +kernel
theorem dJ6_numberOfTrailingZeros_0f7a4_15 : decode cJ6_numberOfTrailingZeros_0f7a4 15 = .ok (.iand, 1) := by decide +kernel
theorem dJ6_numberOfTrailingZeros_0f7a4_16 : decode cJ6_numberOfTrailingZeros_0f7a4 16 = .ok (.ireturn, 1) := by decide +kernel
theorem dJ6_numberOfTrailingZeros_0f7a4_17 : decode cJ6_numberOfTrailingZeros_0f7a4 17 = .ok (.iconst 1, 1) := by decide +kernel
theorem dJ6_numberOfTrailingZeros_0f7a4_18 : decode cJ6_numberOfTrailingZeros_0f7a4 18 = .ok (.istore_n 1, 1) := by decide +kernel
theorem dJ6_numberOfTrailingZeros_0f7a4_19 : decode cJ6_numberOfTrailingZeros_0f7a4 19 = .ok (.iload_n 0, 1) := by decide +kernel
theorem dJ6_numberOfTrailingZeros_0f7a4_20 : decode cJ6_numberOfTrailingZeros_0f7a4 20 = .ok (.ldc_w 264, 3) := by decide +kernel
theorem dJ6_numberOfTrailingZeros_0f7a4_23 : decode cJ6_numberOfTrailingZeros_0f7a4 23 = .ok (.if_icmp .le 11, 3) := by decide +kernel
theorem dJ6_numberOfTrailingZeros_0f7a4_26 : decode cJ6_numberOfTrailingZeros_0f7a4 26 = .ok (.iinc 1 16, 3) := by decide +kernel
theorem dJ6_numberOfTrailingZeros_0f7a4_29 : decode cJ6_numberOfTrailingZeros_0f7a4 29 = .ok (.iload_n 0, 1) := by decide +kernel
theorem dJ6_numberOfTrailingZeros_0f7a4_30 : decode cJ6_numberOfTrailingZeros_0f7a4 30 = .ok (.bipush 16, 2) := by decide +kernel
theorem dJ6_numberOfTrailingZeros_0f7a4_32 : decode cJ6_numberOfTrailingZeros_0f7a4 32 = .ok (.iushr, 1) := by decide +kernel
theorem dJ6_numberOfTrailingZeros_0f7a4_33 : decode cJ6_numberOfTrailingZeros_0f7a4 33 = .ok (.istore_n 0, 1) := by decide +kernel
theorem dJ6_numberOfTrailingZeros_0f7a4_34 : decode cJ6_numberOfTrailingZeros_0f7a4 34 = .ok (.iload_n 0, 1) := by decide +kernel
theorem dJ6_numberOfTrailingZeros_0f7a4_35 : decode cJ6_numberOfTrailingZeros_0f7a4 35 = .ok (.sipush 256, 3) := by decide +kernel
theorem dJ6_numberOfTrailingZeros_0f7a4_38 : decode cJ6_numberOfTrailingZeros_0f7a4 38 = .ok (.if_icmp .le 11, 3) := by decide +kernel
theorem dJ6_numberOfTrailingZeros_0f7a4_41 : decode cJ6_numberOfTrailingZeros_0f7a4 41 = .ok (.iinc 1 8, 3) := by decide +kernel
theorem dJ6_numberOfTrailingZeros_0f7a4_44 : decode cJ6_numberOfTrailingZeros_0f7a4 44 = .ok (.iload_n 0, 1) := by decide +kernel
theorem dJ6_numberOfTrailingZeros_0f7a4_45 : decode cJ6_numberOfTrailingZeros_0f7a4 45 = .ok (.bipush 8, 2) := by decide +kernel
theorem dJ6_numberOfTrailingZeros_0f7a4_47 : decode cJ6_numberOfTrailingZeros_0f7a4 47 = .ok (.iushr, 1) := by decide +kernel
theorem dJ6_numberOfTrailingZeros_0f7a4_48 : decode cJ6_numberOfTrailingZeros_0f7a4 48 = .ok (.istore_n 0, 1) := by decide +kernel
theorem dJ6_numberOfTrailingZeros_0f7a4_49 : decode cJ6_numberOfTrailingZeros_0f7a4 49 = .ok (.iload_n 0, 1) := by decide +kernel
theorem dJ6_numberOfTrailingZeros_0f7a4_50 : decode cJ6_numberOfTrailingZeros_0f7a4 50 = .ok (.bipush 16, 2) := by decide +kernel
theorem dJ6_numberOfTrailingZeros_0f7a4_52 : decode cJ6_numberOfTrailingZeros_0f7a4 52 = .ok (.if_icmp .le 10, 3) := by decide +kernel
theorem dJ6_numberOfTrailingZeros_0f7a4_55 : decode cJ6_numberOfTrailingZeros_0f7a4 55 = .ok (.iinc 1 4, 3) := by decide +kernel
theorem dJ6_numberOfTrailingZeros_0f7a4_58 : decode cJ6_numberOfTrailingZeros_0f7a4 58 = .ok (.iload_n 0, 1) := by decide +kernel
theorem dJ6_numberOfTrailingZeros_0f7a4_59 : decode cJ6_numberOfTrailingZeros_0f7a4 59 = .ok (.iconst 4, 1) := by decide +kernel
theorem dJ6_numberOfTrailingZeros_0f7a4_60 : decode cJ6_numberOfTrailingZeros_0f7a4 60 = .ok (.iushr, 1) := by decide +kernel
theorem dJ6_numberOfTrailingZeros_0f7a4_61 : decode cJ6_numberOfTrailingZeros_0f7a4 61 = .ok (.istore_n 0, 1) := by decide +kernel
theorem dJ6_numberOfTrailingZeros_0f7a4_62 : decode cJ6_numberOfTrailingZeros_0f7a4 62 = .ok (.iload_n 0, 1) := by decide +kernel
theorem dJ6_numberOfTrailingZeros_0f7a4_63 : decode cJ6_numberOfTrailingZeros_0f7a4 63 = .ok (.iconst 4, 1) := by decide +kernel
theorem dJ6_numberOfTrailingZeros_0f7a4_64 : decode cJ6_numberOfTrailingZeros_0f7a4 64 = .ok (.if_icmp .le 10, 3) := by decide +kernel
theorem dJ6_numberOfTrailingZeros_0f7a4_67 : decode cJ6_numberOfTrailingZeros_0f7a4 67 = .ok (.iinc 1 2, 3) := by decide +kernel
theorem dJ6_numberOfTrailingZeros_0f7a4_70 : decode cJ6_numberOfTrailingZeros_0f7a4 70 = .ok (.iload_n 0, 1) := by decide +kernel
theorem dJ6_numberOfTrailingZeros_0f7a4_71 : decode cJ6_numberOfTrailingZeros_0f7a4 71 = .ok (.iconst 2, 1) := by decide +kernel
theorem dJ6_numberOfTrailingZeros_0f7a4_72 : decode cJ6_numberOfTrailingZeros_0f7a4 72 = .ok (.iushr, 1) := by decide +kernel
theorem dJ6_numberOfTrailingZeros_0f7a4_73 : decode cJ6_numberOfTrailingZeros_0f7a4 73 = .ok (.istore_n 0, 1) := by decide +kernel
theorem dJ6_numberOfTrailingZeros_0f7a4_74 : decode cJ6_numberOfTrailingZeros_0f7a4 74 = .ok (.iload_n 1, 1) := by decide +kernel
theorem dJ6_numberOfTrailingZeros_0f7a4_75 : decode cJ6_numberOfTrailingZeros_0f7a4 75 = .ok (.iload_n 0, 1) := by decide +kernel
theorem dJ6_numberOfTrailingZeros_0f7a4_76 : decode cJ6_numberOfTrailingZeros_0f7a4 76 = .ok (.iconst 1, 1) := by decide +kernel
theorem dJ6_numberOfTrailingZeros_0f7a4_77 : decode cJ6_numberOfTrailingZeros_0f7a4 77 = .ok (.iushr, 1) := by decide +kernel
theorem dJ6_numberOfTrailingZeros_0f7a4_78 : decode cJ6_numberOfTrailingZeros_0f7a4 78 = .ok (.iadd, 1) := by decide +kernel
theorem dJ6_numberOfTrailingZeros_0f7a4_79 : decode cJ6_numberOfTrailingZeros_0f7a4 79 = .ok (.ireturn, 1) := by decide +kernel
theorem dJ6_bitCount_0f7a4_0 : decode cJ6_bitCount_0f7a4 0 = .ok (.iload_n 0, 1) := by decide +kernel
theorem dJ6_bitCount_0f7a4_1 : decode cJ6_bitCount_0f7a4 1 = .ok (.iload_n 0, 1) := by decide +kernel
theorem dJ6_bitCount_0f7a4_2 : decode cJ6_bitCount_0f7a4 2 = .ok (.iconst 1, 1) := by decide +kernel
theorem dJ6_bitCount_0f7a4_3 : decode cJ6_bitCount_0f7a4 3 = .ok (.iushr, 1) := by decide +kernel
theorem dJ6_bitCount_0f7a4_4 : decode cJ6_bitCount_0f7a4 4 = .ok (.ldc_w 265, 3) := by decide +kernel
theorem dJ6_bitCount_0f7a4_7 : decode cJ6_bitCount_0f7a4 7 = .ok (.iand, 1) := by decide +kernel
theorem dJ6_bitCount_0f7a4_8 : decode cJ6_bitCount_0f7a4 8 = .ok (.isub, 1) := by decide +kernel
theorem dJ6_bitCount_0f7a4_9 : decode cJ6_bitCount_0f7a4 9 = .ok (.istore_n 0, 1) := by decide +kernel
theorem dJ6_bitCount_0f7a4_10 : decode cJ6_bitCount_0f7a4 10 = .ok (.iload_n 0, 1) := by decide +kernel
theorem dJ6_bitCount_0f7a4_11 : decode cJ6_bitCount_0f7a4 11 = .ok (.ldc_w 266, 3) := by decide +kernel
theorem dJ6_bitCount_0f7a4_14 : decode cJ6_bitCount_0f7a4 14 = .ok (.iand, 1) := by decide +kernel
theorem dJ6_bitCount_0f7a4_15 : decode cJ6_bitCount_0f7a4 15 = .ok (.iload_n 0, 1) := by decide +kernel
theorem dJ6_bitCount_0f7a4_16 : decode cJ6_bitCount_0f7a4 16 = .ok (.iconst 2, 1) := by decide +kernel
theorem dJ6_bitCount_0f7a4_17 : decode cJ6_bitCount_0f7a4 17 = .ok (.iushr, 1) := by decide +kernel
theorem dJ6_bitCount_0f7a4_18 : decode cJ6_bitCount_0f7a4 18 = .ok (.ldc_w 266, 3) := by decide +kernel
theorem dJ6_bitCount_0f7a4_21 : decode cJ6_bitCount_0f7a4 21 = .ok (.iand, 1) := by decide +kernel
theorem dJ6_bitCount_0f7a4_22 : decode cJ6_bitCount_0f7a4 22 = .ok (.iadd, 1) := by decide +kernel
theorem dJ6_bitCount_0f7a4_23 : decode cJ6_bitCount_0f7a4 23 = .ok (.istore_n 0, 1) := by decide +kernel
theorem dJ6_bitCount_0f7a4_24 : decode cJ6_bitCount_0f7a4 24 = .ok (.iload_n 0, 1) := by decide +kernel
theorem dJ6_bitCount_0f7a4_25 : decode cJ6_bitCount_0f7a4 25 = .ok (.iload_n 0, 1) := by decide +kernel
theorem dJ6_bitCount_0f7a4_26 : decode cJ6_bitCount_0f7a4 26 = .ok (.iconst 4, 1) := by decide +kernel
theorem dJ6_bitCount_0f7a4_27 : decode cJ6_bitCount_0f7a4 27 = .ok (.iushr, 1) := by decide +kernel
theorem dJ6_bitCount_0f7a4_28 : decode cJ6_bitCount_0f7a4 28 = .ok (.iadd, 1) := by decide +kernel
theorem dJ6_bitCount_0f7a4_29 : decode cJ6_bitCount_0f7a4 29 = .ok (.ldc_w 267, 3) := by decide +kernel
theorem dJ6_bitCount_0f7a4_32 : decode cJ6_bitCount_0f7a4 32 = .ok (.iand, 1) := by decide +kernel
theorem dJ6_bitCount_0f7a4_33 : decode cJ6_bitCount_0f7a4 33 = .ok (.istore_n 0, 1) := by decide +kernel
theorem dJ6_bitCount_0f7a4_34 : decode cJ6_bitCount_0f7a4 34 = .ok (.iload_n 0, 1) := by decide +kernel
theorem dJ6_bitCount_0f7a4_35 : decode cJ6_bitCount_0f7a4 35 = .ok (.iload_n 0, 1) := by decide +kernel
theorem dJ6_bitCount_0f7a4_36 : decode cJ6_bitCount_0f7a4 36 = .ok (.bipush 8, 2) := by decide +kernel
theorem dJ6_bitCount_0f7a4_38 : decode cJ6_bitCount_0f7a4 38 = .ok (.iushr, 1) := by decide +kernel
theorem dJ6_bitCount_0f7a4_39 : decode cJ6_bitCount_0f7a4 39 = .ok (.iadd, 1) := by decide +kernel
theorem dJ6_bitCount_0f7a4_40 : decode cJ6_bitCount_0f7a4 40 = .ok (.istore_n 0, 1) := by decide +kernel
theorem dJ6_bitCount_0f7a4_41 : decode cJ6_bitCount_0f7a4 41 = .ok (.iload_n 0, 1) := by decide +kernel
theorem dJ6_bitCount_0f7a4_42 : decode cJ6_bitCount_0f7a4 42 = .ok (.iload_n 0, 1) := by decide +kernel
theorem dJ6_bitCount_0f7a4_43 : decode cJ6_bitCount_0f7a4 43 = .ok (.bipush 16, 2) := by decide +kernel
theorem dJ6_bitCount_0f7a4_45 : decode cJ6_bitCount_0f7a4 45 = .ok (.iushr, 1) := by decide +kernel
theorem dJ6_bitCount_0f7a4_46 : decode cJ6_bitCount_0f7a4 46 = .ok (.iadd, 1) := by decide +kernel
theorem dJ6_bitCount_0f7a4_47 : decode cJ6_bitCount_0f7a4 47 = .ok (.istore_n 0, 1) := by decide +kernel
theorem dJ6_bitCount_0f7a4_48 : decode cJ6_bitCount_0f7a4 48 = .ok (.iload_n 0, 1) := by decide +kernel
theorem dJ6_bitCount_0f7a4_49 : decode cJ6_bitCount_0f7a4 49 = .ok (.bipush 63, 2) := by decide +kernel
theorem dJ6_bitCount_0f7a4_51 : decode cJ6_bitCount_0f7a4 51 = .ok (.iand, 1) := by decide +kernel
theorem dJ6_bitCount_0f7a4_52 : decode cJ6_bitCount_0f7a4 52 = .ok (.ireturn, 1) := by decide +kernel
theorem dJ9_max_7cf53_0 : decode cJ9_max_7cf53 0 = .ok (.iload_n 0, 1) := by decide +kernel
theorem dJ9_max_7cf53_1 : decode cJ9_max_7cf53 1 = .ok (.iload_n 1, 1) := by decide +kernel
theorem dJ9_max_7cf53_2 : decode cJ9_max_7cf53 2 = .ok (.if_icmp .lt 7, 3) := by decide +kernel
theorem dJ9_max_7cf53_5 : decode cJ9_max_7cf53 5 = .ok (.iload_n 0, 1) := by decide +kernel
theorem dJ9_max_7cf53_6 : decode cJ9_max_7cf53 6 = .ok (.goto 4, 3) := by decide +kernel
theorem dJ9_max_7cf53_9 : decode cJ9_max_7cf53 9 = .ok (.iload_n 1, 1) := by decide +kernel
theorem dJ9_max_7cf53_10 : decode cJ9_max_7cf53 10 = .ok (.ireturn, 1) := by decide +kernel
theorem dJ9_min_7cf53_0 : decode cJ9_min_7cf53 0 = .ok (.iload_n 0, 1) := by decide +kernel
theorem dJ9_min_7cf53_1 : decode cJ9_min_7cf53 1 = .ok (.iload_n 1, 1) := by decide +kernel
theorem dJ9_min_7cf53_2 : decode cJ9_min_7cf53 2 = .ok (.if_icmp .gt 7, 3) := by decide +kernel
theorem dJ9_min_7cf53_5 : decode cJ9_min_7cf53 5 = .ok (.iload_n 0, 1) := by decide +kernel
theorem dJ9_min_7cf53_6 : decode cJ9_min_7cf53 6 = .ok (.goto 4, 3) := by decide +kernel
theorem dJ9_min_7cf53_9 : decode cJ9_min_7cf53 9 = .ok (.iload_n 1, 1) := by decide +kernel
theorem dJ9_min_7cf53_10 : decode cJ9_min_7cf53 10 = .ok (.ireturn, 1) := by decide +kernel
theorem dJ9_min_f86c9_0 : decode cJ9_min_f86c9 0 = .ok (.lload_n 0, 1) := by decide +kernel
theorem dJ9_min_f86c9_1 : decode cJ9_min_f86c9 1 = .ok (.lload_n 2, 1) := by decide +kernel
theorem dJ9_min_f86c9_2 : decode cJ9_min_f86c9 2 = .ok (.lcmp, 1) := by decide +kernel
theorem dJ9_min_f86c9_3 : decode cJ9_min_f86c9 3 = .ok (.ifCond .gt 7, 3) := by decide +kernel
theorem dJ9_min_f86c9_6 : decode cJ9_min_f86c9 6 = .ok (.lload_n 0, 1) := by decide +kernel
theorem dJ9_min_f86c9_7 : decode cJ9_min_f86c9 7 = .ok (.goto 4, 3) := by decide +kernel
theorem dJ9_min_f86c9_10 : decode cJ9_min_f86c9 10 = .ok (.lload_n 2, 1) := by decide +kernel
theorem dJ9_min_f86c9_11 : decode cJ9_min_f86c9 11 = .ok (.lreturn, 1) := by decide +kernel
theorem dJ0_length_8abf5_0 : decode cJ0_length_8abf5 0 = .ok (.aload_n 0, 1) := by decide +kernel
theorem dJ0_length_8abf5_1 : decode cJ0_length_8abf5 1 = .ok (.getfield 9, 3) := by decide +kernel
theorem dJ0_length_8abf5_4 : decode cJ0_length_8abf5 4 = .ok (.arraylength, 1) := by decide +kernel
theorem dJ0_length_8abf5_5 : decode cJ0_length_8abf5 5 = .ok (.aload_n 0, 1) := by decide +kernel
theorem dJ0_length_8abf5_6 : decode cJ0_length_8abf5 6 = .ok (.invokevirtual 335, 3) := by decide +kernel
theorem dJ0_length_8abf5_9 : decode cJ0_length_8abf5 9 = .ok (.ishr, 1) := by decide +kernel
theorem dJ0_length_8abf5_10 : decode cJ0_length_8abf5 10 = .ok (.ireturn, 1) := by decide +kernel
theorem dJ0_charAt_5068e_0 : decode cJ0_charAt_5068e 0 = .ok (.aload_n 0, 1) := by decide +kernel
theorem dJ0_charAt_5068e_1 : decode cJ0_charAt_5068e 1 = .ok (.invokevirtual 492, 3) := by decide +kernel
theorem dJ0_charAt_5068e_4 : decode cJ0_charAt_5068e 4 = .ok (.ifCond .eq 12, 3) := by decide +kernel
theorem dJ0_charAt_5068e_7 : decode cJ0_charAt_5068e 7 = .ok (.aload_n 0, 1) := by decide +kernel
theorem dJ0_charAt_5068e_8 : decode cJ0_charAt_5068e 8 = .ok (.getfield 9, 3) := by decide +kernel
theorem dJ0_charAt_5068e_11 : decode cJ0_charAt_5068e 11 = .ok (.iload_n 1, 1) := by decide +kernel
theorem dJ0_charAt_5068e_12 : decode cJ0_charAt_5068e 12 = .ok (.invokestatic 495, 3) := by decide +kernel
theorem dJ0_charAt_5068e_15 : decode cJ0_charAt_5068e 15 = .ok (.ireturn, 1) := by decide +kernel
theorem dJ0_charAt_5068e_16 : decode cJ0_charAt_5068e 16 = .ok (.aload_n 0, 1) := by decide +kernel
theorem dJ0_charAt_5068e_17 : decode cJ0_charAt_5068e 17 = .ok (.getfield 9, 3) := by decide +kernel
theorem dJ0_charAt_5068e_20 : decode cJ0_charAt_5068e 20 = .ok (.iload_n 1, 1) := by decide +kernel
theorem dJ0_charAt_5068e_21 : decode cJ0_charAt_5068e 21 = .ok (.invokestatic 498, 3) := by decide +kernel
theorem dJ0_charAt_5068e_24 : decode cJ0_charAt_5068e 24 = .ok (.ireturn, 1) := by decide +kernel
theorem dJ0_coder_7d493_0 : decode cJ0_coder_7d493 0 = .ok (.getstatic 38, 3) := by decide +kernel
theorem dJ0_coder_7d493_3 : decode cJ0_coder_7d493 3 = .ok (.ifCond .eq 10, 3) := by decide +kernel
theorem dJ0_coder_7d493_6 : decode cJ0_coder_7d493 6 = .ok (.aload_n 0, 1) := by decide +kernel
theorem dJ0_coder_7d493_7 : decode cJ0_coder_7d493 7 = .ok (.getfield 15, 3) := by decide +kernel
theorem dJ0_coder_7d493_10 : decode cJ0_coder_7d493 10 = .ok (.goto 4, 3) := by decide +kernel
theorem dJ0_coder_7d493_13 : decode cJ0_coder_7d493 13 = .ok (.iconst 1, 1) := by decide +kernel
theorem dJ0_coder_7d493_14 : decode cJ0_coder_7d493 14 = .ok (.ireturn, 1) := by decide +kernel
theorem dJ0_isLatin1_aae02_0 : decode cJ0_isLatin1_aae02 0 = .ok (.getstatic 38, 3) := by decide +kernel
theorem dJ0_isLatin1_aae02_3 : decode cJ0_isLatin1_aae02 3 = .ok (.ifCond .eq 14, 3) := by decide +kernel
theorem dJ0_isLatin1_aae02_6 : decode cJ0_isLatin1_aae02 6 = .ok (.aload_n 0, 1) := by decide +kernel
theorem dJ0_isLatin1_aae02_7 : decode cJ0_isLatin1_aae02 7 = .ok (.getfield 15, 3) := by decide +kernel
theorem dJ0_isLatin1_aae02_10 : decode cJ0_isLatin1_aae02 10 = .ok (.ifCond .ne 7, 3) := by decide +kernel
theorem dJ0_isLatin1_aae02_13 : decode cJ0_isLatin1_aae02 13 = .ok (.iconst 1, 1) := by decide +kernel
theorem dJ0_isLatin1_aae02_14 : decode cJ0_isLatin1_aae02 14 = .ok (.goto 4, 3) := by decide +kernel
theorem dJ0_isLatin1_aae02_17 : decode cJ0_isLatin1_aae02 17 = .ok (.iconst 0, 1) := by decide +kernel
theorem dJ0_isLatin1_aae02_18 : decode cJ0_isLatin1_aae02 18 = .ok (.ireturn, 1) := by decide +kernel
theorem dJ0_checkIndex_df160_0 : decode cJ0_checkIndex_df160 0 = .ok (.iload_n 0, 1) := by decide +kernel
theorem dJ0_checkIndex_df160_1 : decode cJ0_checkIndex_df160 1 = .ok (.iload_n 1, 1) := by decide +kernel
theorem dJ0_checkIndex_df160_2 : decode cJ0_checkIndex_df160 2 = .ok (.getstatic 1053, 3) := by decide +kernel
theorem dJ0_checkIndex_df160_5 : decode cJ0_checkIndex_df160 5 = .ok (.invokestatic 1059, 3) := by decide +kernel
theorem dJ0_checkIndex_df160_8 : decode cJ0_checkIndex_df160 8 = .ok (.pop, 1) := by decide +kernel
theorem dJ0_checkIndex_df160_9 : decode cJ0_checkIndex_df160 9 = .ok (.return_, 1) := by decide +kernel
theorem dJ1_charAt_3b067_0 : decode cJ1_charAt_3b067 0 = .ok (.iload_n 1, 1) := by decide +kernel
theorem dJ1_charAt_3b067_1 : decode cJ1_charAt_3b067 1 = .ok (.aload_n 0, 1) := by decide +kernel
theorem dJ1_charAt_3b067_2 : decode cJ1_charAt_3b067 2 = .ok (.arraylength, 1) := by decide +kernel
theorem dJ1_charAt_3b067_3 : decode cJ1_charAt_3b067 3 = .ok (.invokestatic 9, 3) := by decide +kernel
theorem dJ1_charAt_3b067_6 : decode cJ1_charAt_3b067 6 = .ok (.aload_n 0, 1) := by decide +kernel
theorem dJ1_charAt_3b067_7 : decode cJ1_charAt_3b067 7 = .ok (.iload_n 1, 1) := by decide +kernel
theorem dJ1_charAt_3b067_8 : decode cJ1_charAt_3b067 8 = .ok (.baload, 1) := by decide +kernel
theorem dJ1_charAt_3b067_9 : decode cJ1_charAt_3b067 9 = .ok (.sipush 255, 3) := by decide +kernel
theorem dJ1_charAt_3b067_12 : decode cJ1_charAt_3b067 12 = .ok (.iand, 1) := by decide +kernel
theorem dJ1_charAt_3b067_13 : decode cJ1_charAt_3b067 13 = .ok (.i2c, 1) := by decide +kernel
theorem dJ1_charAt_3b067_14 : decode cJ1_charAt_3b067 14 = .ok (.ireturn, 1) := by decide +kernel
theorem dJ2_getChar_3b067_0 : decode cJ2_getChar_3b067 0 = .ok (.getstatic 44, 3) := by decide +kernel
theorem dJ2_getChar_3b067_3 : decode cJ2_getChar_3b067 3 = .ok (.ifCond .ne 25, 3) := by decide +kernel
theorem dJ2_getChar_3b067_6 : decode cJ2_getChar_3b067 6 = .ok (.iload_n 1, 1) := by decide +kernel
theorem dJ2_getChar_3b067_7 : decode cJ2_getChar_3b067 7 = .ok (.ifCond .lt 11, 3) := by decide +kernel
theorem dJ2_getChar_3b067_10 : decode cJ2_getChar_3b067 10 = .ok (.iload_n 1, 1) := by decide +kernel
theorem dJ2_getChar_3b067_11 : decode cJ2_getChar_3b067 11 = .ok (.aload_n 0, 1) := by decide +kernel
theorem dJ2_getChar_3b067_12 : decode cJ2_getChar_3b067 12 = .ok (.invokestatic 48, 3) := by decide +kernel
theorem dJ2_getChar_3b067_15 : decode cJ2_getChar_3b067 15 = .ok (.if_icmp .lt 13, 3) := by decide +kernel
theorem dJ2_getChar_3b067_18 : decode cJ2_getChar_3b067 18 = .ok (.new 52, 3) := by decide +kernel
theorem dJ2_getChar_3b067_21 : decode cJ2_getChar_3b067 21 = .ok (.dup, 1) := by decide +kernel
theorem dJ2_getChar_3b067_22 : decode cJ2_getChar_3b067 22 = .ok (.ldc 54, 2) := by decide +kernel
theorem dJ2_getChar_3b067_24 : decode cJ2_getChar_3b067 24 = .ok (.invokespecial 56, 3) := by decide +kernel
theorem dJ2_getChar_3b067_27 : decode cJ2_getChar_3b067 27 = .ok (.athrow, 1) := by decide +kernel
theorem dJ2_getChar_3b067_28 : decode cJ2_getChar_3b067 28 = .ok (.iload_n 1, 1) := by decide +kernel
theorem dJ2_getChar_3b067_29 : decode cJ2_getChar_3b067 29 = .ok (.iconst 1, 1) := by decide +kernel
theorem dJ2_getChar_3b067_30 : decode cJ2_getChar_3b067 30 = .ok (.ishl, 1) := by decide +kernel
theorem dJ2_getChar_3b067_31 : decode cJ2_getChar_3b067 31 = .ok (.istore_n 1, 1) := by decide +kernel
theorem dJ2_getChar_3b067_32 : decode cJ2_getChar_3b067 32 = .ok (.aload_n 0, 1) := by decide +kernel
theorem dJ2_getChar_3b067_33 : decode cJ2_getChar_3b067 33 = .ok (.iload_n 1, 1) := by decide +kernel
theorem dJ2_getChar_3b067_34 : decode cJ2_getChar_3b067 34 = .ok (.iinc 1 1, 3) := by decide +kernel
theorem dJ2_getChar_3b067_37 : decode cJ2_getChar_3b067 37 = .ok (.baload, 1) := by decide +kernel
theorem dJ2_getChar_3b067_38 : decode cJ2_getChar_3b067 38 = .ok (.sipush 255, 3) := by decide +kernel
theorem dJ2_getChar_3b067_41 : decode cJ2_getChar_3b067 41 = .ok (.iand, 1) := by decide +kernel
theorem dJ2_getChar_3b067_42 : decode cJ2_getChar_3b067 42 = .ok (.getstatic 59, 3) := by decide +kernel
theorem dJ2_getChar_3b067_45 : decode cJ2_getChar_3b067 45 = .ok (.ishl, 1) := by decide +kernel
theorem dJ2_getChar_3b067_46 : decode cJ2_getChar_3b067 46 = .ok (.aload_n 0, 1) := by decide +kernel
theorem dJ2_getChar_3b067_47 : decode cJ2_getChar_3b067 47 = .ok (.iload_n 1, 1) := by decide +kernel
theorem dJ2_getChar_3b067_48 : decode cJ2_getChar_3b067 48 = .ok (.baload, 1) := by decide +kernel
theorem dJ2_getChar_3b067_49 : decode cJ2_getChar_3b067 49 = .ok (.sipush 255, 3) := by decide +kernel
theorem dJ2_getChar_3b067_52 : decode cJ2_getChar_3b067 52 = .ok (.iand, 1) := by decide +kernel
theorem dJ2_getChar_3b067_53 : decode cJ2_getChar_3b067 53 = .ok (.getstatic 63, 3) := by decide +kernel
theorem dJ2_getChar_3b067_56 : decode cJ2_getChar_3b067 56 = .ok (.ishl, 1) := by decide +kernel
theorem dJ2_getChar_3b067_57 : decode cJ2_getChar_3b067 57 = .ok (.ior, 1) := by decide +kernel
theorem dJ2_getChar_3b067_58 : decode cJ2_getChar_3b067 58 = .ok (.i2c, 1) := by decide +kernel
theorem dJ2_getChar_3b067_59 : decode cJ2_getChar_3b067 59 = .ok (.ireturn, 1) := by decide +kernel
theorem dJ2_length_9d52b_0 : decode cJ2_length_9d52b 0 = .ok (.aload_n 0, 1) := by decide +kernel
theorem dJ2_length_9d52b_1 : decode cJ2_length_9d52b 1 = .ok (.arraylength, 1) := by decide +kernel
theorem dJ2_length_9d52b_2 : decode cJ2_length_9d52b 2 = .ok (.iconst 1, 1) := by decide +kernel
theorem dJ2_length_9d52b_3 : decode cJ2_length_9d52b 3 = .ok (.ishr, 1) := by decide +kernel
theorem dJ2_length_9d52b_4 : decode cJ2_length_9d52b 4 = .ok (.ireturn, 1) := by decide +kernel
theorem dJ2_charAt_3b067_0 : decode cJ2_charAt_3b067 0 = .ok (.iload_n 1, 1) := by decide +kernel
theorem dJ2_charAt_3b067_1 : decode cJ2_charAt_3b067 1 = .ok (.aload_n 0, 1) := by decide +kernel
theorem dJ2_charAt_3b067_2 : decode cJ2_charAt_3b067 2 = .ok (.invokestatic 67, 3) := by decide +kernel
theorem dJ2_charAt_3b067_5 : decode cJ2_charAt_3b067 5 = .ok (.aload_n 0, 1) := by decide +kernel
theorem dJ2_charAt_3b067_6 : decode cJ2_charAt_3b067 6 = .ok (.iload_n 1, 1) := by decide +kernel
theorem dJ2_charAt_3b067_7 : decode cJ2_charAt_3b067 7 = .ok (.invokestatic 71, 3) := by decide +kernel
theorem dJ2_charAt_3b067_10 : decode cJ2_charAt_3b067 10 = .ok (.ireturn, 1) := by decide +kernel
theorem dJ2_checkIndex_2214a_0 : decode cJ2_checkIndex_2214a 0 = .ok (.iload_n 0, 1) := by decide +kernel
theorem dJ2_checkIndex_2214a_1 : decode cJ2_checkIndex_2214a 1 = .ok (.aload_n 1, 1) := by decide +kernel
theorem dJ2_checkIndex_2214a_2 : decode cJ2_checkIndex_2214a 2 = .ok (.invokestatic 48, 3) := by decide +kernel
theorem dJ2_checkIndex_2214a_5 : decode cJ2_checkIndex_2214a 5 = .ok (.invokestatic 414, 3) := by decide +kernel
theorem dJ2_checkIndex_2214a_8 : decode cJ2_checkIndex_2214a 8 = .ok (.return_, 1) := by decide +kernel
theorem dJxa1e45_init_da8c8_0 : decode cJxa1e45_init_da8c8 0 = .ok (.aload_n 0, 1) := by decide +kernel
theorem dJxa1e45_init_da8c8_1 : decode cJxa1e45_init_da8c8 1 = .ok (.invokespecial 1, 3) := by decide +kernel
theorem dJxa1e45_init_da8c8_4 : decode cJxa1e45_init_da8c8 4 = .ok (.return_, 1) := by decide +kernel
theorem dJxc12de_init_da8c8_0 : decode cJxc12de_init_da8c8 0 = .ok (.aload_n 0, 1) := by decide +kernel
theorem dJxc12de_init_da8c8_1 : decode cJxc12de_init_da8c8 1 = .ok (.invokespecial 1, 3) := by decide +kernel
theorem dJxc12de_init_da8c8_4 : decode cJxc12de_init_da8c8 4 = .ok (.aload_n 0, 1) := by decide +kernel
theorem dJxc12de_init_da8c8_5 : decode cJxc12de_init_da8c8 5 = .ok (.iconst 0, 1) := by decide +kernel
theorem dJxc12de_init_da8c8_6 : decode cJxc12de_init_da8c8 6 = .ok (.putfield 7, 3) := by decide +kernel
theorem dJxc12de_init_da8c8_9 : decode cJxc12de_init_da8c8 9 = .ok (.return_, 1) := by decide +kernel
theorem dJx4a65c_init_da8c8_0 : decode cJx4a65c_init_da8c8 0 = .ok (.aload_n 0, 1) := by decide +kernel
theorem dJx4a65c_init_da8c8_1 : decode cJx4a65c_init_da8c8 1 = .ok (.invokespecial 1, 3) := by decide +kernel
theorem dJx4a65c_init_da8c8_4 : decode cJx4a65c_init_da8c8 4 = .ok (.aload_n 0, 1) := by decide +kernel
theorem dJx4a65c_init_da8c8_5 : decode cJx4a65c_init_da8c8 5 = .ok (.getstatic 39, 3) := by decide +kernel
theorem dJx4a65c_init_da8c8_8 : decode cJx4a65c_init_da8c8 8 = .ok (.putfield 9, 3) := by decide +kernel
theorem dJx4a65c_init_da8c8_11 : decode cJx4a65c_init_da8c8 11 = .ok (.return_, 1) := by decide +kernel
theorem dJx4a65c_grow_92f84_0 : decode cJx4a65c_grow_92f84 0 = .ok (.aload_n 0, 1) := by decide +kernel
theorem dJx4a65c_grow_92f84_1 : decode cJx4a65c_grow_92f84 1 = .ok (.getfield 9, 3) := by decide +kernel
theorem dJx4a65c_grow_92f84_4 : decode cJx4a65c_grow_92f84 4 = .ok (.arraylength, 1) := by decide +kernel
theorem dJx4a65c_grow_92f84_5 : decode cJx4a65c_grow_92f84 5 = .ok (.istore_n 2, 1) := by decide +kernel
theorem dJx4a65c_grow_92f84_6 : decode cJx4a65c_grow_92f84 6 = .ok (.iload_n 2, 1) := by decide +kernel
theorem dJx4a65c_grow_92f84_7 : decode cJx4a65c_grow_92f84 7 = .ok (.ifCond .gt 13, 3) := by decide +kernel
theorem dJx4a65c_grow_92f84_10 : decode cJx4a65c_grow_92f84 10 = .ok (.aload_n 0, 1) := by decide +kernel
theorem dJx4a65c_grow_92f84_11 : decode cJx4a65c_grow_92f84 11 = .ok (.getfield 9, 3) := by decide +kernel
theorem dJx4a65c_grow_92f84_14 : decode cJx4a65c_grow_92f84 14 = .ok (.getstatic 39, 3) := by decide +kernel
theorem dJx4a65c_grow_92f84_17 : decode cJx4a65c_grow_92f84 17 = .ok (.if_acmp .eq 28, 3) := by decide +kernel
theorem dJx4a65c_grow_92f84_20 : decode cJx4a65c_grow_92f84 20 = .ok (.iload_n 2, 1) := by decide +kernel
theorem dJx4a65c_grow_92f84_21 : decode cJx4a65c_grow_92f84 21 = .ok (.iload_n 1, 1) := by decide +kernel
theorem dJx4a65c_grow_92f84_22 : decode cJx4a65c_grow_92f84 22 = .ok (.iload_n 2, 1) := by decide +kernel
theorem dJx4a65c_grow_92f84_23 : decode cJx4a65c_grow_92f84 23 = .ok (.isub, 1) := by decide +kernel
theorem dJx4a65c_grow_92f84_24 : decode cJx4a65c_grow_92f84 24 = .ok (.iload_n 2, 1) := by decide +kernel
theorem dJx4a65c_grow_92f84_25 : decode cJx4a65c_grow_92f84 25 = .ok (.iconst 1, 1) := by decide +kernel
theorem dJx4a65c_grow_92f84_26 : decode cJx4a65c_grow_92f84 26 = .ok (.ishr, 1) := by decide +kernel
theorem dJx4a65c_grow_92f84_27 : decode cJx4a65c_grow_92f84 27 = .ok (.invokestatic 73, 3) := by decide +kernel
theorem dJx4a65c_grow_92f84_30 : decode cJx4a65c_grow_92f84 30 = .ok (.istore_n 3, 1) := by decide +kernel
theorem dJx4a65c_grow_92f84_31 : decode cJx4a65c_grow_92f84 31 = .ok (.aload_n 0, 1) := by decide +kernel
theorem dJx4a65c_grow_92f84_32 : decode cJx4a65c_grow_92f84 32 = .ok (.aload_n 0, 1) := by decide +kernel
theorem dJx4a65c_grow_92f84_33 : decode cJx4a65c_grow_92f84 33 = .ok (.getfield 9, 3) := by decide +kernel
theorem dJx4a65c_grow_92f84_36 : decode cJx4a65c_grow_92f84 36 = .ok (.iload_n 3, 1) := by decide +kernel
theorem dJx4a65c_grow_92f84_37 : decode cJx4a65c_grow_92f84 37 = .ok (.invokestatic 66, 3) := by decide +kernel
theorem dJx4a65c_grow_92f84_40 : decode cJx4a65c_grow_92f84 40 = .ok (.dup_x1, 1) := by decide +kernel
theorem dJx4a65c_grow_92f84_41 : decode cJx4a65c_grow_92f84 41 = .ok (.putfield 9, 3) := by decide +kernel
theorem dJx4a65c_grow_92f84_44 : decode cJx4a65c_grow_92f84 44 = .ok (.areturn, 1) := by decide +kernel
theorem dJx4a65c_grow_92f84_45 : decode cJx4a65c_grow_92f84 45 = .ok (.aload_n 0, 1) := by decide +kernel
theorem dJx4a65c_grow_92f84_46 : decode cJx4a65c_grow_92f84 46 = .ok (.bipush 10, 2) := by decide +kernel
theorem dJx4a65c_grow_92f84_48 : decode cJx4a65c_grow_92f84 48 = .ok (.iload_n 1, 1) := by decide +kernel
theorem dJx4a65c_grow_92f84_49 : decode cJx4a65c_grow_92f84 49 = .ok (.invokestatic 79, 3) := by decide +kernel
theorem dJx4a65c_grow_92f84_52 : decode cJx4a65c_grow_92f84 52 = .ok (.anewarray 7, 3) := by decide +kernel
theorem dJx4a65c_grow_92f84_55 : decode cJx4a65c_grow_92f84 55 = .ok (.dup_x1, 1) := by decide +kernel
theorem dJx4a65c_grow_92f84_56 : decode cJx4a65c_grow_92f84 56 = .ok (.putfield 9, 3) := by decide +kernel
theorem dJx4a65c_grow_92f84_59 : decode cJx4a65c_grow_92f84 59 = .ok (.areturn, 1) := by decide +kernel
theorem dJx4a65c_grow_d5877_0 : decode cJx4a65c_grow_d5877 0 = .ok (.aload_n 0, 1) := by decide +kernel
theorem dJx4a65c_grow_d5877_1 : decode cJx4a65c_grow_d5877 1 = .ok (.aload_n 0, 1) := by decide +kernel
theorem dJx4a65c_grow_d5877_2 : decode cJx4a65c_grow_d5877 2 = .ok (.getfield 48, 3) := by decide +kernel
theorem dJx4a65c_grow_d5877_5 : decode cJx4a65c_grow_d5877 5 = .ok (.iconst 1, 1) := by decide +kernel
theorem dJx4a65c_grow_d5877_6 : decode cJx4a65c_grow_d5877 6 = .ok (.iadd, 1) := by decide +kernel
theorem dJx4a65c_grow_d5877_7 : decode cJx4a65c_grow_d5877 7 = .ok (.invokevirtual 69, 3) := by decide +kernel
theorem dJx4a65c_grow_d5877_10 : decode cJx4a65c_grow_d5877 10 = .ok (.areturn, 1) := by decide +kernel
theorem dJx4a65c_size_8abf5_0 : decode cJx4a65c_size_8abf5 0 = .ok (.aload_n 0, 1) := by decide +kernel
theorem dJx4a65c_size_8abf5_1 : decode cJx4a65c_size_8abf5 1 = .ok (.getfield 48, 3) := by decide +kernel
theorem dJx4a65c_size_8abf5_4 : decode cJx4a65c_size_8abf5 4 = .ok (.ireturn, 1) := by decide +kernel
theorem dJx4a65c_isEmpty_aae02_0 : decode cJx4a65c_isEmpty_aae02 0 = .ok (.aload_n 0, 1) := by decide +kernel
theorem dJx4a65c_isEmpty_aae02_1 : decode cJx4a65c_isEmpty_aae02 1 = .ok (.getfield 48, 3) := by decide +kernel
theorem dJx4a65c_isEmpty_aae02_4 : decode cJx4a65c_isEmpty_aae02 4 = .ok (.ifCond .ne 7, 3) := by decide +kernel
theorem dJx4a65c_isEmpty_aae02_7 : decode cJx4a65c_isEmpty_aae02 7 = .ok (.iconst 1, 1) := by decide +kernel
theorem dJx4a65c_isEmpty_aae02_8 : decode cJx4a65c_isEmpty_aae02 8 = .ok (.goto 4, 3) := by decide +kernel
theorem dJx4a65c_isEmpty_aae02_11 : decode cJx4a65c_isEmpty_aae02 11 = .ok (.iconst 0, 1) := by decide +kernel
theorem dJx4a65c_isEmpty_aae02_12 : decode cJx4a65c_isEmpty_aae02 12 = .ok (.ireturn, 1) := by decide +kernel
theorem dJx4a65c_elementData_915e3_0 : decode cJx4a65c_elementData_915e3 0 = .ok (.aload_n 0, 1) := by decide +kernel
theorem dJx4a65c_elementData_915e3_1 : decode cJx4a65c_elementData_915e3 1 = .ok (.getfield 9, 3) := by decide +kernel
theorem dJx4a65c_elementData_915e3_4 : decode cJx4a65c_elementData_915e3 4 = .ok (.iload_n 1, 1) := by decide +kernel
theorem dJx4a65c_elementData_915e3_5 : decode cJx4a65c_elementData_915e3 5 = .ok (.aaload, 1) := by decide +kernel
theorem dJx4a65c_elementData_915e3_6 : decode cJx4a65c_elementData_915e3 6 = .ok (.areturn, 1) := by decide +kernel
theorem dJx4a65c_get_915e3_0 : decode cJx4a65c_get_915e3 0 = .ok (.iload_n 1, 1) := by decide +kernel
theorem dJx4a65c_get_915e3_1 : decode cJx4a65c_get_915e3 1 = .ok (.aload_n 0, 1) := by decide +kernel
theorem dJx4a65c_get_915e3_2 : decode cJx4a65c_get_915e3 2 = .ok (.getfield 48, 3) := by decide +kernel
theorem dJx4a65c_get_915e3_5 : decode cJx4a65c_get_915e3 5 = .ok (.invokestatic 118, 3) := by decide +kernel
theorem dJx4a65c_get_915e3_8 : decode cJx4a65c_get_915e3 8 = .ok (.pop, 1) := by decide +kernel
theorem dJx4a65c_get_915e3_9 : decode cJx4a65c_get_915e3 9 = .ok (.aload_n 0, 1) := by decide +kernel
theorem dJx4a65c_get_915e3_10 : decode cJx4a65c_get_915e3 10 = .ok (.iload_n 1, 1) := by decide +kernel
theorem dJx4a65c_get_915e3_11 : decode cJx4a65c_get_915e3 11 = .ok (.invokevirtual 123, 3) := by decide +kernel
theorem dJx4a65c_get_915e3_14 : decode cJx4a65c_get_915e3 14 = .ok (.areturn, 1) := by decide +kernel
theorem dJx4a65c_add_72be8_0 : decode cJx4a65c_add_72be8 0 = .ok (.iload_n 3, 1) := by decide +kernel
theorem dJx4a65c_add_72be8_1 : decode cJx4a65c_add_72be8 1 = .ok (.aload_n 2, 1) := by decide +kernel
theorem dJx4a65c_add_72be8_2 : decode cJx4a65c_add_72be8 2 = .ok (.arraylength, 1) := by decide +kernel
theorem dJx4a65c_add_72be8_3 : decode cJx4a65c_add_72be8 3 = .ok (.if_icmp .ne 8, 3) := by decide +kernel
theorem dJx4a65c_add_72be8_6 : decode cJx4a65c_add_72be8 6 = .ok (.aload_n 0, 1) := by decide +kernel
theorem dJx4a65c_add_72be8_7 : decode cJx4a65c_add_72be8 7 = .ok (.invokevirtual 129, 3) := by decide +kernel
theorem dJx4a65c_add_72be8_10 : decode cJx4a65c_add_72be8 10 = .ok (.astore_n 2, 1) := by decide +kernel
theorem dJx4a65c_add_72be8_11 : decode cJx4a65c_add_72be8 11 = .ok (.aload_n 2, 1) := by decide +kernel
theorem dJx4a65c_add_72be8_12 : decode cJx4a65c_add_72be8 12 = .ok (.iload_n 3, 1) := by decide +kernel
theorem dJx4a65c_add_72be8_13 : decode cJx4a65c_add_72be8 13 = .ok (.aload_n 1, 1) := by decide +kernel
theorem dJx4a65c_add_72be8_14 : decode cJx4a65c_add_72be8 14 = .ok (.aastore, 1) := by decide +kernel
theorem dJx4a65c_add_72be8_15 : decode cJx4a65c_add_72be8 15 = .ok (.aload_n 0, 1) := by decide +kernel
theorem dJx4a65c_add_72be8_16 : decode cJx4a65c_add_72be8 16 = .ok (.iload_n 3, 1) := by decide +kernel
theorem dJx4a65c_add_72be8_17 : decode cJx4a65c_add_72be8 17 = .ok (.iconst 1, 1) := by decide +kernel
theorem dJx4a65c_add_72be8_18 : decode cJx4a65c_add_72be8 18 = .ok (.iadd, 1) := by decide +kernel
theorem dJx4a65c_add_72be8_19 : decode cJx4a65c_add_72be8 19 = .ok (.putfield 48, 3) := by decide +kernel
theorem dJx4a65c_add_72be8_22 : decode cJx4a65c_add_72be8 22 = .ok (.return_, 1) := by decide +kernel
theorem dJx4a65c_add_9ea2d_0 : decode cJx4a65c_add_9ea2d 0 = .ok (.aload_n 0, 1) := by decide +kernel
theorem dJx4a65c_add_9ea2d_1 : decode cJx4a65c_add_9ea2d 1 = .ok (.dup, 1) := by decide +kernel
theorem dJx4a65c_add_9ea2d_2 : decode cJx4a65c_add_9ea2d 2 = .ok (.getfield 63, 3) := by decide +kernel
theorem dJx4a65c_add_9ea2d_5 : decode cJx4a65c_add_9ea2d 5 = .ok (.iconst 1, 1) := by decide +kernel
theorem dJx4a65c_add_9ea2d_6 : decode cJx4a65c_add_9ea2d 6 = .ok (.iadd, 1) := by decide +kernel
theorem dJx4a65c_add_9ea2d_7 : decode cJx4a65c_add_9ea2d 7 = .ok (.putfield 63, 3) := by decide +kernel
theorem dJx4a65c_add_9ea2d_10 : decode cJx4a65c_add_9ea2d 10 = .ok (.aload_n 0, 1) := by decide +kernel
theorem dJx4a65c_add_9ea2d_11 : decode cJx4a65c_add_9ea2d 11 = .ok (.aload_n 1, 1) := by decide +kernel
theorem dJx4a65c_add_9ea2d_12 : decode cJx4a65c_add_9ea2d 12 = .ok (.aload_n 0, 1) := by decide +kernel
theorem dJx4a65c_add_9ea2d_13 : decode cJx4a65c_add_9ea2d 13 = .ok (.getfield 9, 3) := by decide +kernel
theorem dJx4a65c_add_9ea2d_16 : decode cJx4a65c_add_9ea2d 16 = .ok (.aload_n 0, 1) := by decide +kernel
theorem dJx4a65c_add_9ea2d_17 : decode cJx4a65c_add_9ea2d 17 = .ok (.getfield 48, 3) := by decide +kernel
theorem dJx4a65c_add_9ea2d_20 : decode cJx4a65c_add_9ea2d 20 = .ok (.invokevirtual 131, 3) := by decide +kernel
theorem dJx4a65c_add_9ea2d_23 : decode cJx4a65c_add_9ea2d 23 = .ok (.iconst 1, 1) := by decide +kernel
theorem dJx4a65c_add_9ea2d_24 : decode cJx4a65c_add_9ea2d 24 = .ok (.ireturn, 1) := by decide +kernel
theorem dJ7_copyOf_1904c_0 : decode cJ7_copyOf_1904c 0 = .ok (.aload_n 0, 1) := by decide +kernel
theorem dJ7_copyOf_1904c_1 : decode cJ7_copyOf_1904c 1 = .ok (.iload_n 1, 1) := by decide +kernel
theorem dJ7_copyOf_1904c_2 : decode cJ7_copyOf_1904c 2 = .ok (.aload_n 0, 1) := by decide +kernel
theorem dJ7_copyOf_1904c_3 : decode cJ7_copyOf_1904c 3 = .ok (.invokevirtual 86, 3) := by decide +kernel
theorem dJ7_copyOf_1904c_6 : decode cJ7_copyOf_1904c 6 = .ok (.invokestatic 300, 3) := by decide +kernel
theorem dJ7_copyOf_1904c_9 : decode cJ7_copyOf_1904c 9 = .ok (.areturn, 1) := by decide +kernel
theorem dJ7_copyOf_6403c_0 : decode cJ7_copyOf_6403c 0 = .ok (.aload_n 2, 1) := by decide +kernel
theorem dJ7_copyOf_6403c_1 : decode cJ7_copyOf_6403c 1 = .ok (.ldc 110, 2) := by decide +kernel
theorem dJ7_copyOf_6403c_3 : decode cJ7_copyOf_6403c 3 = .ok (.if_acmp .ne 10, 3) := by decide +kernel
theorem dJ7_copyOf_6403c_6 : decode cJ7_copyOf_6403c 6 = .ok (.iload_n 1, 1) := by decide +kernel
theorem dJ7_copyOf_6403c_7 : decode cJ7_copyOf_6403c 7 = .ok (.anewarray 2, 3) := by decide +kernel
theorem dJ7_copyOf_6403c_10 : decode cJ7_copyOf_6403c 10 = .ok (.goto 14, 3) := by decide +kernel
theorem dJ7_copyOf_6403c_13 : decode cJ7_copyOf_6403c 13 = .ok (.aload_n 2, 1) := by decide +kernel
theorem dJ7_copyOf_6403c_14 : decode cJ7_copyOf_6403c 14 = .ok (.invokevirtual 90, 3) := by decide +kernel
theorem dJ7_copyOf_6403c_17 : decode cJ7_copyOf_6403c 17 = .ok (.iload_n 1, 1) := by decide +kernel
theorem dJ7_copyOf_6403c_18 : decode cJ7_copyOf_6403c 18 = .ok (.invokestatic 95, 3) := by decide +kernel
theorem dJ7_copyOf_6403c_21 : decode cJ7_copyOf_6403c 21 = .ok (.checkcast 110, 3) := by decide +kernel
theorem dJ7_copyOf_6403c_24 : decode cJ7_copyOf_6403c 24 = .ok (.astore_n 3, 1) := by decide +kernel
theorem dJ7_copyOf_6403c_25 : decode cJ7_copyOf_6403c 25 = .ok (.aload_n 0, 1) := by decide +kernel
theorem dJ7_copyOf_6403c_26 : decode cJ7_copyOf_6403c 26 = .ok (.iconst 0, 1) := by decide +kernel
theorem dJ7_copyOf_6403c_27 : decode cJ7_copyOf_6403c 27 = .ok (.aload_n 3, 1) := by decide +kernel
theorem dJ7_copyOf_6403c_28 : decode cJ7_copyOf_6403c 28 = .ok (.iconst 0, 1) := by decide +kernel
theorem dJ7_copyOf_6403c_29 : decode cJ7_copyOf_6403c 29 = .ok (.aload_n 0, 1) := by decide +kernel
theorem dJ7_copyOf_6403c_30 : decode cJ7_copyOf_6403c 30 = .ok (.arraylength, 1) := by decide +kernel
theorem dJ7_copyOf_6403c_31 : decode cJ7_copyOf_6403c 31 = .ok (.iload_n 1, 1) := by decide +kernel
theorem dJ7_copyOf_6403c_32 : decode cJ7_copyOf_6403c 32 = .ok (.invokestatic 304, 3) := by decide +kernel
theorem dJ7_copyOf_6403c_35 : decode cJ7_copyOf_6403c 35 = .ok (.invokestatic 150, 3) := by decide +kernel
theorem dJ7_copyOf_6403c_38 : decode cJ7_copyOf_6403c 38 = .ok (.aload_n 3, 1) := by decide +kernel
theorem dJ7_copyOf_6403c_39 : decode cJ7_copyOf_6403c 39 = .ok (.areturn, 1) := by decide +kernel
theorem dJ15_checkIndex_7cf53_0 : decode cJ15_checkIndex_7cf53 0 = .ok (.iload_n 0, 1) := by decide +kernel
theorem dJ15_checkIndex_7cf53_1 : decode cJ15_checkIndex_7cf53 1 = .ok (.iload_n 1, 1) := by decide +kernel
theorem dJ15_checkIndex_7cf53_2 : decode cJ15_checkIndex_7cf53 2 = .ok (.aconst_null, 1) := by decide +kernel
theorem dJ15_checkIndex_7cf53_3 : decode cJ15_checkIndex_7cf53 3 = .ok (.invokestatic 105, 3) := by decide +kernel
theorem dJ15_checkIndex_7cf53_6 : decode cJ15_checkIndex_7cf53 6 = .ok (.ireturn, 1) := by decide +kernel
theorem dJ8_newLength_cabcc_0 : decode cJ8_newLength_cabcc 0 = .ok (.iload_n 0, 1) := by decide +kernel
theorem dJ8_newLength_cabcc_1 : decode cJ8_newLength_cabcc 1 = .ok (.iload_n 1, 1) := by decide +kernel
theorem dJ8_newLength_cabcc_2 : decode cJ8_newLength_cabcc 2 = .ok (.iload_n 2, 1) := by decide +kernel
theorem dJ8_newLength_cabcc_3 : decode cJ8_newLength_cabcc 3 = .ok (.invokestatic 194, 3) := by decide +kernel
theorem dJ8_newLength_cabcc_6 : decode cJ8_newLength_cabcc 6 = .ok (.iadd, 1) := by decide +kernel
theorem dJ8_newLength_cabcc_7 : decode cJ8_newLength_cabcc 7 = .ok (.istore_n 3, 1) := by decide +kernel
theorem dJ8_newLength_cabcc_8 : decode cJ8_newLength_cabcc 8 = .ok (.iconst 0, 1) := by decide +kernel
theorem dJ8_newLength_cabcc_9 : decode cJ8_newLength_cabcc 9 = .ok (.iload_n 3, 1) := by decide +kernel
theorem dJ8_newLength_cabcc_10 : decode cJ8_newLength_cabcc 10 = .ok (.if_icmp .ge 11, 3) := by decide +kernel
theorem dJ8_newLength_cabcc_13 : decode cJ8_newLength_cabcc 13 = .ok (.iload_n 3, 1) := by decide +kernel
theorem dJ8_newLength_cabcc_14 : decode cJ8_newLength_cabcc 14 = .ok (.ldc 200, 2) := by decide +kernel
theorem dJ8_newLength_cabcc_16 : decode cJ8_newLength_cabcc 16 = .ok (.if_icmp .gt 5, 3) := by decide +kernel
theorem dJ8_newLength_cabcc_19 : decode cJ8_newLength_cabcc 19 = .ok (.iload_n 3, 1) := by decide +kernel
theorem dJ8_newLength_cabcc_20 : decode cJ8_newLength_cabcc 20 = .ok (.ireturn, 1) := by decide +kernel
theorem dJ8_newLength_cabcc_21 : decode cJ8_newLength_cabcc 21 = .ok (.iload_n 0, 1) := by decide +kernel
theorem dJ8_newLength_cabcc_22 : decode cJ8_newLength_cabcc 22 = .ok (.iload_n 1, 1) := by decide +kernel
theorem dJ8_newLength_cabcc_23 : decode cJ8_newLength_cabcc 23 = .ok (.invokestatic 201, 3) := by decide +kernel
theorem dJ8_newLength_cabcc_26 : decode cJ8_newLength_cabcc 26 = .ok (.ireturn, 1) := by decide +kernel
theorem dJ8_hugeLength_7cf53_0 : decode cJ8_hugeLength_7cf53 0 = .ok (.iload_n 0, 1) := by decide +kernel
theorem dJ8_hugeLength_7cf53_1 : decode cJ8_hugeLength_7cf53 1 = .ok (.iload_n 1, 1) := by decide +kernel
theorem dJ8_hugeLength_7cf53_2 : decode cJ8_hugeLength_7cf53 2 = .ok (.iadd, 1) := by decide +kernel
theorem dJ8_hugeLength_7cf53_3 : decode cJ8_hugeLength_7cf53 3 = .ok (.istore_n 2, 1) := by decide +kernel
theorem dJ8_hugeLength_7cf53_4 : decode cJ8_hugeLength_7cf53 4 = .ok (.iload_n 2, 1) := by decide +kernel
theorem dJ8_hugeLength_7cf53_5 : decode cJ8_hugeLength_7cf53 5 = .ok (.ifCond .ge 44, 3) := by decide +kernel
theorem dJ8_hugeLength_7cf53_8 : decode cJ8_hugeLength_7cf53 8 = .ok (.new 204, 3) := by decide +kernel
theorem dJ8_hugeLength_7cf53_11 : decode cJ8_hugeLength_7cf53 11 = .ok (.dup, 1) := by decide +kernel
theorem dJ8_hugeLength_7cf53_12 : decode cJ8_hugeLength_7cf53 12 = .ok (.new 89, 3) := by decide +kernel
theorem dJ8_hugeLength_7cf53_15 : decode cJ8_hugeLength_7cf53 15 = .ok (.dup, 1) := by decide +kernel
theorem dJ8_hugeLength_7cf53_16 : decode cJ8_hugeLength_7cf53 16 = .ok (.invokespecial 91, 3) := by decide +kernel
theorem dJ8_hugeLength_7cf53_19 : decode cJ8_hugeLength_7cf53 19 = .ok (.ldc 206, 2) := by decide +kernel
theorem dJ8_hugeLength_7cf53_21 : decode cJ8_hugeLength_7cf53 21 = .ok (.invokevirtual 94, 3) := by decide +kernel
theorem dJ8_hugeLength_7cf53_24 : decode cJ8_hugeLength_7cf53 24 = .ok (.iload_n 0, 1) := by decide +kernel
theorem dJ8_hugeLength_7cf53_25 : decode cJ8_hugeLength_7cf53 25 = .ok (.invokevirtual 98, 3) := by decide +kernel
theorem dJ8_hugeLength_7cf53_28 : decode cJ8_hugeLength_7cf53 28 = .ok (.ldc 208, 2) := by decide +kernel
theorem dJ8_hugeLength_7cf53_30 : decode cJ8_hugeLength_7cf53 30 = .ok (.invokevirtual 94, 3) := by decide +kernel
theorem dJ8_hugeLength_7cf53_33 : decode cJ8_hugeLength_7cf53 33 = .ok (.iload_n 1, 1) := by decide +kernel
theorem dJ8_hugeLength_7cf53_34 : decode cJ8_hugeLength_7cf53 34 = .ok (.invokevirtual 98, 3) := by decide +kernel
theorem dJ8_hugeLength_7cf53_37 : decode cJ8_hugeLength_7cf53 37 = .ok (.ldc 210, 2) := by decide +kernel
theorem dJ8_hugeLength_7cf53_39 : decode cJ8_hugeLength_7cf53 39 = .ok (.invokevirtual 94, 3) := by decide +kernel
theorem dJ8_hugeLength_7cf53_42 : decode cJ8_hugeLength_7cf53 42 = .ok (.invokevirtual 101, 3) := by decide +kernel
theorem dJ8_hugeLength_7cf53_45 : decode cJ8_hugeLength_7cf53 45 = .ok (.invokespecial 212, 3) := by decide +kernel
theorem dJ8_hugeLength_7cf53_48 : decode cJ8_hugeLength_7cf53 48 = .ok (.athrow, 1) := by decide +kernel
theorem dJ8_hugeLength_7cf53_49 : decode cJ8_hugeLength_7cf53 49 = .ok (.iload_n 2, 1) := by decide +kernel
theorem dJ8_hugeLength_7cf53_50 : decode cJ8_hugeLength_7cf53 50 = .ok (.ldc 200, 2) := by decide +kernel
theorem dJ8_hugeLength_7cf53_52 : decode cJ8_hugeLength_7cf53 52 = .ok (.if_icmp .gt 6, 3) := by decide +kernel
theorem dJ8_hugeLength_7cf53_55 : decode cJ8_hugeLength_7cf53 55 = .ok (.ldc 200, 2) := by decide +kernel
theorem dJ8_hugeLength_7cf53_57 : decode cJ8_hugeLength_7cf53 57 = .ok (.ireturn, 1) := by decide +kernel
theorem dJ8_hugeLength_7cf53_58 : decode cJ8_hugeLength_7cf53 58 = .ok (.iload_n 2, 1) := by decide +kernel
theorem dJ8_hugeLength_7cf53_59 : decode cJ8_hugeLength_7cf53 59 = .ok (.ireturn, 1) := by decide +kernel
theorem dJ3_checkIndex_8e157_0 : decode cJ3_checkIndex_8e157 0 = .ok (.iload_n 0, 1) := by decide +kernel
theorem dJ3_checkIndex_8e157_1 : decode cJ3_checkIndex_8e157 1 = .ok (.ifCond .lt 8, 3) := by decide +kernel
theorem dJ3_checkIndex_8e157_4 : decode cJ3_checkIndex_8e157 4 = .ok (.iload_n 0, 1) := by decide +kernel
theorem dJ3_checkIndex_8e157_5 : decode cJ3_checkIndex_8e157 5 = .ok (.iload_n 1, 1) := by decide +kernel
theorem dJ3_checkIndex_8e157_6 : decode cJ3_checkIndex_8e157 6 = .ok (.if_icmp .lt 10, 3) := by decide +kernel
theorem dJ3_checkIndex_8e157_9 : decode cJ3_checkIndex_8e157 9 = .ok (.aload_n 2, 1) := by decide +kernel
theorem dJ3_checkIndex_8e157_10 : decode cJ3_checkIndex_8e157 10 = .ok (.iload_n 0, 1) := by decide +kernel
theorem dJ3_checkIndex_8e157_11 : decode cJ3_checkIndex_8e157 11 = .ok (.iload_n 1, 1) := by decide +kernel
theorem dJ3_checkIndex_8e157_12 : decode cJ3_checkIndex_8e157 12 = .ok (.invokestatic 95, 3) := by decide +kernel
theorem dJ3_checkIndex_8e157_15 : decode cJ3_checkIndex_8e157 15 = .ok (.athrow, 1) := by decide +kernel
theorem dJ3_checkIndex_8e157_16 : decode cJ3_checkIndex_8e157 16 = .ok (.iload_n 0, 1) := by decide +kernel
theorem dJ3_checkIndex_8e157_17 : decode cJ3_checkIndex_8e157 17 = .ok (.ireturn, 1) := by decide +kernel
theorem dL_led_0 : decode cL_led 0 = .ok (.aload_n 2, 1) := by decide +kernel
theorem dL_led_1 : decode cL_led 1 = .ok (.iconst 0, 1) := by decide +kernel
theorem dL_led_2 : decode cL_led 2 = .ok (.aload_n 0, 1) := by decide +kernel
theorem dL_led_3 : decode cL_led 3 = .ok (.iload_n 1, 1) := by decide +kernel
theorem dL_led_4 : decode cL_led 4 = .ok (.invokevirtual 7, 3) := by decide +kernel
theorem dL_led_7 : decode cL_led 7 = .ok (.i2l, 1) := by decide +kernel
theorem dL_led_8 : decode cL_led 8 = .ok (.lastore, 1) := by decide +kernel
theorem dL_led_9 : decode cL_led 9 = .ok (.goto 6, 3) := by decide +kernel
theorem dL_led_12 : decode cL_led 12 = .ok (.astore_n 3, 1) := by decide +kernel
theorem dL_led_13 : decode cL_led 13 = .ok (.iconst 1, 1) := by decide +kernel
theorem dL_led_14 : decode cL_led 14 = .ok (.ireturn, 1) := by decide +kernel
theorem dL_led_15 : decode cL_led 15 = .ok (.iconst 0, 1) := by decide +kernel
theorem dL_led_16 : decode cL_led 16 = .ok (.ireturn, 1) := by decide +kernel
