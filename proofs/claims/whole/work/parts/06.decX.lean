theorem dJ7_fill_d0a16_0 : decode cJ7_fill_d0a16 0 = .ok (.iconst 0, 1) := by decide +kernel
theorem dJ7_fill_d0a16_1 : decode cJ7_fill_d0a16 1 = .ok (.istore_n 3, 1) := by decide +kernel
theorem dJ7_fill_d0a16_2 : decode cJ7_fill_d0a16 2 = .ok (.aload_n 0, 1) := by decide +kernel
theorem dJ7_fill_d0a16_3 : decode cJ7_fill_d0a16 3 = .ok (.arraylength, 1) := by decide +kernel
theorem dJ7_fill_d0a16_4 : decode cJ7_fill_d0a16 4 = .ok (.istore 4, 2) := by decide +kernel
theorem dJ7_fill_d0a16_6 : decode cJ7_fill_d0a16 6 = .ok (.iload_n 3, 1) := by decide +kernel
theorem dJ7_fill_d0a16_7 : decode cJ7_fill_d0a16 7 = .ok (.iload 4, 2) := by decide +kernel
theorem dJ7_fill_d0a16_9 : decode cJ7_fill_d0a16 9 = .ok (.if_icmp .ge 13, 3) := by decide +kernel
theorem dJ7_fill_d0a16_12 : decode cJ7_fill_d0a16 12 = .ok (.aload_n 0, 1) := by decide +kernel
theorem dJ7_fill_d0a16_13 : decode cJ7_fill_d0a16 13 = .ok (.iload_n 3, 1) := by decide +kernel
theorem dJ7_fill_d0a16_14 : decode cJ7_fill_d0a16 14 = .ok (.lload_n 1, 1) := by decide +kernel
theorem dJ7_fill_d0a16_15 : decode cJ7_fill_d0a16 15 = .ok (.lastore, 1) := by decide +kernel
theorem dJ7_fill_d0a16_16 : decode cJ7_fill_d0a16 16 = .ok (.iinc 3 1, 3) := by decide +kernel
theorem dJ7_fill_d0a16_19 : decode cJ7_fill_d0a16 19 = .ok (.goto (-13), 3) := by decide +kernel
theorem dJ7_fill_d0a16_22 : decode cJ7_fill_d0a16 22 = .ok (.return_, 1) := by decide +kernel
theorem dJ7_fill_53178_0 : decode cJ7_fill_53178 0 = .ok (.iconst 0, 1) := by decide +kernel
theorem dJ7_fill_53178_1 : decode cJ7_fill_53178 1 = .ok (.istore_n 2, 1) := by decide +kernel
theorem dJ7_fill_53178_2 : decode cJ7_fill_53178 2 = .ok (.aload_n 0, 1) := by decide +kernel
theorem dJ7_fill_53178_3 : decode cJ7_fill_53178 3 = .ok (.arraylength, 1) := by decide +kernel
theorem dJ7_fill_53178_4 : decode cJ7_fill_53178 4 = .ok (.istore_n 3, 1) := by decide +kernel
theorem dJ7_fill_53178_5 : decode cJ7_fill_53178 5 = .ok (.iload_n 2, 1) := by decide +kernel
theorem dJ7_fill_53178_6 : decode cJ7_fill_53178 6 = .ok (.iload_n 3, 1) := by decide +kernel
theorem dJ7_fill_53178_7 : decode cJ7_fill_53178 7 = .ok (.if_icmp .ge 13, 3) := by decide +kernel
theorem dJ7_fill_53178_10 : decode cJ7_fill_53178 10 = .ok (.aload_n 0, 1) := by decide +kernel
theorem dJ7_fill_53178_11 : decode cJ7_fill_53178 11 = .ok (.iload_n 2, 1) := by decide +kernel
theorem dJ7_fill_53178_12 : decode cJ7_fill_53178 12 = .ok (.iload_n 1, 1) := by decide +kernel
theorem dJ7_fill_53178_13 : decode cJ7_fill_53178 13 = .ok (.iastore, 1) := by decide +kernel
theorem dJ7_fill_53178_14 : decode cJ7_fill_53178 14 = .ok (.iinc 2 1, 3) := by decide +kernel
theorem dJ7_fill_53178_17 : decode cJ7_fill_53178 17 = .ok (.goto (-12), 3) := by decide +kernel
theorem dJ7_fill_53178_20 : decode cJ7_fill_53178 20 = .ok (.return_, 1) := by decide +kernel
theorem dX0_init_0 : decode cX0_init 0 = .ok (.aload_n 0, 1) := by decide +kernel
theorem dX0_init_1 : decode cX0_init 1 = .ok (.aload_n 1, 1) := by decide +kernel
theorem dX0_init_2 : decode cX0_init 2 = .ok (.invokespecial 3, 3) := by decide +kernel
theorem dX0_init_5 : decode cX0_init 5 = .ok (.return_, 1) := by decide +kernel
theorem dX0_mostOf_0 : decode cX0_mostOf 0 = .ok (.bipush 64, 2) := by decide +kernel
theorem dX0_mostOf_2 : decode cX0_mostOf 2 = .ok (.ireturn, 1) := by decide +kernel
theorem dX0_greatest_0 : decode cX0_greatest 0 = .ok (.aload_n 0, 1) := by decide +kernel
theorem dX0_greatest_1 : decode cX0_greatest 1 = .ok (.getfield 9, 3) := by decide +kernel
theorem dX0_greatest_4 : decode cX0_greatest 4 = .ok (.iconst 1, 1) := by decide +kernel
theorem dX0_greatest_5 : decode cX0_greatest 5 = .ok (.invokevirtual 15, 3) := by decide +kernel
theorem dX0_greatest_8 : decode cX0_greatest 8 = .ok (.ifCond .lt 6, 3) := by decide +kernel
theorem dX0_greatest_11 : decode cX0_greatest 11 = .ok (.bipush 64, 2) := by decide +kernel
theorem dX0_greatest_13 : decode cX0_greatest 13 = .ok (.ireturn, 1) := by decide +kernel
theorem dX0_greatest_14 : decode cX0_greatest 14 = .ok (.iconst 0, 1) := by decide +kernel
theorem dX0_greatest_15 : decode cX0_greatest 15 = .ok (.istore_n 2, 1) := by decide +kernel
theorem dX0_greatest_16 : decode cX0_greatest 16 = .ok (.iconst 0, 1) := by decide +kernel
theorem dX0_greatest_17 : decode cX0_greatest 17 = .ok (.istore_n 3, 1) := by decide +kernel
theorem dX0_greatest_18 : decode cX0_greatest 18 = .ok (.iload_n 3, 1) := by decide +kernel
theorem dX0_greatest_19 : decode cX0_greatest 19 = .ok (.aload_n 0, 1) := by decide +kernel
theorem dX0_greatest_20 : decode cX0_greatest 20 = .ok (.getfield 9, 3) := by decide +kernel
theorem dX0_greatest_23 : decode cX0_greatest 23 = .ok (.invokevirtual 21, 3) := by decide +kernel
theorem dX0_greatest_26 : decode cX0_greatest 26 = .ok (.if_icmp .ge 35, 3) := by decide +kernel
theorem dX0_greatest_29 : decode cX0_greatest 29 = .ok (.iload_n 2, 1) := by decide +kernel
theorem dX0_greatest_30 : decode cX0_greatest 30 = .ok (.aload_n 0, 1) := by decide +kernel
theorem dX0_greatest_31 : decode cX0_greatest 31 = .ok (.getfield 9, 3) := by decide +kernel
theorem dX0_greatest_34 : decode cX0_greatest 34 = .ok (.iload_n 3, 1) := by decide +kernel
theorem dX0_greatest_35 : decode cX0_greatest 35 = .ok (.iload_n 1, 1) := by decide +kernel
theorem dX0_greatest_36 : decode cX0_greatest 36 = .ok (.invokevirtual 25, 3) := by decide +kernel
theorem dX0_greatest_39 : decode cX0_greatest 39 = .ok (.invokestatic 29, 3) := by decide +kernel
theorem dX0_greatest_42 : decode cX0_greatest 42 = .ok (.istore_n 2, 1) := by decide +kernel
theorem dX0_greatest_43 : decode cX0_greatest 43 = .ok (.iload_n 3, 1) := by decide +kernel
theorem dX0_greatest_44 : decode cX0_greatest 44 = .ok (.iconst 1, 1) := by decide +kernel
theorem dX0_greatest_45 : decode cX0_greatest 45 = .ok (.iadd, 1) := by decide +kernel
theorem dX0_greatest_46 : decode cX0_greatest 46 = .ok (.aload_n 0, 1) := by decide +kernel
theorem dX0_greatest_47 : decode cX0_greatest 47 = .ok (.getfield 9, 3) := by decide +kernel
theorem dX0_greatest_50 : decode cX0_greatest 50 = .ok (.iload_n 3, 1) := by decide +kernel
theorem dX0_greatest_51 : decode cX0_greatest 51 = .ok (.invokevirtual 34, 3) := by decide +kernel
theorem dX0_greatest_54 : decode cX0_greatest 54 = .ok (.invokestatic 29, 3) := by decide +kernel
theorem dX0_greatest_57 : decode cX0_greatest 57 = .ok (.istore_n 3, 1) := by decide +kernel
theorem dX0_greatest_58 : decode cX0_greatest 58 = .ok (.goto (-40), 3) := by decide +kernel
theorem dX0_greatest_61 : decode cX0_greatest 61 = .ok (.iload_n 2, 1) := by decide +kernel
theorem dX0_greatest_62 : decode cX0_greatest 62 = .ok (.ifCond .le 7, 3) := by decide +kernel
theorem dX0_greatest_65 : decode cX0_greatest 65 = .ok (.iload_n 2, 1) := by decide +kernel
theorem dX0_greatest_66 : decode cX0_greatest 66 = .ok (.goto 4, 3) := by decide +kernel
theorem dX0_greatest_69 : decode cX0_greatest 69 = .ok (.iconst (-1), 1) := by decide +kernel
theorem dX0_greatest_70 : decode cX0_greatest 70 = .ok (.ireturn, 1) := by decide +kernel
theorem dX0_takePiece_0 : decode cX0_takePiece 0 = .ok (.aload_n 0, 1) := by decide +kernel
theorem dX0_takePiece_1 : decode cX0_takePiece 1 = .ok (.iload_n 1, 1) := by decide +kernel
theorem dX0_takePiece_2 : decode cX0_takePiece 2 = .ok (.iload_n 2, 1) := by decide +kernel
theorem dX0_takePiece_3 : decode cX0_takePiece 3 = .ok (.invokevirtual 37, 3) := by decide +kernel
theorem dX0_takePiece_6 : decode cX0_takePiece 6 = .ok (.istore_n 3, 1) := by decide +kernel
theorem dX0_takePiece_7 : decode cX0_takePiece 7 = .ok (.iload_n 3, 1) := by decide +kernel
theorem dX0_takePiece_8 : decode cX0_takePiece 8 = .ok (.ifCond .ge 47, 3) := by decide +kernel
theorem dX0_takePiece_11 : decode cX0_takePiece 11 = .ok (.aload_n 0, 1) := by decide +kernel
theorem dX0_takePiece_12 : decode cX0_takePiece 12 = .ok (.getfield 9, 3) := by decide +kernel
theorem dX0_takePiece_15 : decode cX0_takePiece 15 = .ok (.iconst 1, 1) := by decide +kernel
theorem dX0_takePiece_16 : decode cX0_takePiece 16 = .ok (.invokevirtual 15, 3) := by decide +kernel
theorem dX0_takePiece_19 : decode cX0_takePiece 19 = .ok (.istore 4, 2) := by decide +kernel
theorem dX0_takePiece_21 : decode cX0_takePiece 21 = .ok (.iload 4, 2) := by decide +kernel
theorem dX0_takePiece_23 : decode cX0_takePiece 23 = .ok (.ifCond .ge 5, 3) := by decide +kernel
theorem dX0_takePiece_26 : decode cX0_takePiece 26 = .ok (.iconst (-1), 1) := by decide +kernel
theorem dX0_takePiece_27 : decode cX0_takePiece 27 = .ok (.ireturn, 1) := by decide +kernel
theorem dX0_takePiece_28 : decode cX0_takePiece 28 = .ok (.aload_n 0, 1) := by decide +kernel
theorem dX0_takePiece_29 : decode cX0_takePiece 29 = .ok (.getfield 9, 3) := by decide +kernel
theorem dX0_takePiece_32 : decode cX0_takePiece 32 = .ok (.getfield 40, 3) := by decide +kernel
theorem dX0_takePiece_35 : decode cX0_takePiece 35 = .ok (.iload 4, 2) := by decide +kernel
theorem dX0_takePiece_37 : decode cX0_takePiece 37 = .ok (.iload_n 1, 1) := by decide +kernel
theorem dX0_takePiece_38 : decode cX0_takePiece 38 = .ok (.iastore, 1) := by decide +kernel
theorem dX0_takePiece_39 : decode cX0_takePiece 39 = .ok (.iload 4, 2) := by decide +kernel
theorem dX0_takePiece_41 : decode cX0_takePiece 41 = .ok (.bipush 64, 2) := by decide +kernel
theorem dX0_takePiece_43 : decode cX0_takePiece 43 = .ok (.imul, 1) := by decide +kernel
theorem dX0_takePiece_44 : decode cX0_takePiece 44 = .ok (.istore_n 3, 1) := by decide +kernel
theorem dX0_takePiece_45 : decode cX0_takePiece 45 = .ok (.aload_n 0, 1) := by decide +kernel
theorem dX0_takePiece_46 : decode cX0_takePiece 46 = .ok (.getfield 9, 3) := by decide +kernel
theorem dX0_takePiece_49 : decode cX0_takePiece 49 = .ok (.iload_n 3, 1) := by decide +kernel
theorem dX0_takePiece_50 : decode cX0_takePiece 50 = .ok (.bipush 64, 2) := by decide +kernel
theorem dX0_takePiece_52 : decode cX0_takePiece 52 = .ok (.invokevirtual 44, 3) := by decide +kernel
theorem dX0_takePiece_55 : decode cX0_takePiece 55 = .ok (.aload_n 0, 1) := by decide +kernel
theorem dX0_takePiece_56 : decode cX0_takePiece 56 = .ok (.getfield 9, 3) := by decide +kernel
theorem dX0_takePiece_59 : decode cX0_takePiece 59 = .ok (.iload_n 3, 1) := by decide +kernel
theorem dX0_takePiece_60 : decode cX0_takePiece 60 = .ok (.aload_n 0, 1) := by decide +kernel
theorem dX0_takePiece_61 : decode cX0_takePiece 61 = .ok (.iload_n 3, 1) := by decide +kernel
theorem dX0_takePiece_62 : decode cX0_takePiece 62 = .ok (.aload_n 0, 1) := by decide +kernel
theorem dX0_takePiece_63 : decode cX0_takePiece 63 = .ok (.getfield 9, 3) := by decide +kernel
theorem dX0_takePiece_66 : decode cX0_takePiece 66 = .ok (.iload_n 3, 1) := by decide +kernel
theorem dX0_takePiece_67 : decode cX0_takePiece 67 = .ok (.iload_n 1, 1) := by decide +kernel
theorem dX0_takePiece_68 : decode cX0_takePiece 68 = .ok (.invokevirtual 25, 3) := by decide +kernel
theorem dX0_takePiece_71 : decode cX0_takePiece 71 = .ok (.iload_n 2, 1) := by decide +kernel
theorem dX0_takePiece_72 : decode cX0_takePiece 72 = .ok (.invokevirtual 48, 3) := by decide +kernel
theorem dX0_takePiece_75 : decode cX0_takePiece 75 = .ok (.invokevirtual 44, 3) := by decide +kernel
theorem dX0_takePiece_78 : decode cX0_takePiece 78 = .ok (.iload_n 3, 1) := by decide +kernel
theorem dX0_takePiece_79 : decode cX0_takePiece 79 = .ok (.ireturn, 1) := by decide +kernel
theorem dX0_fits_0 : decode cX0_fits 0 = .ok (.iload_n 2, 1) := by decide +kernel
theorem dX0_fits_1 : decode cX0_fits 1 = .ok (.aload_n 0, 1) := by decide +kernel
theorem dX0_fits_2 : decode cX0_fits 2 = .ok (.getfield 9, 3) := by decide +kernel
theorem dX0_fits_5 : decode cX0_fits 5 = .ok (.getfield 52, 3) := by decide +kernel
theorem dX0_fits_8 : decode cX0_fits 8 = .ok (.iload_n 1, 1) := by decide +kernel
theorem dX0_fits_9 : decode cX0_fits 9 = .ok (.iaload, 1) := by decide +kernel
theorem dX0_fits_10 : decode cX0_fits 10 = .ok (.if_icmp .gt 7, 3) := by decide +kernel
theorem dX0_fits_13 : decode cX0_fits 13 = .ok (.iconst 1, 1) := by decide +kernel
theorem dX0_fits_14 : decode cX0_fits 14 = .ok (.goto 4, 3) := by decide +kernel
theorem dX0_fits_17 : decode cX0_fits 17 = .ok (.iconst 0, 1) := by decide +kernel
theorem dX0_fits_18 : decode cX0_fits 18 = .ok (.ireturn, 1) := by decide +kernel
theorem dX0_reshape_0 : decode cX0_reshape 0 = .ok (.aload_n 0, 1) := by decide +kernel
theorem dX0_reshape_1 : decode cX0_reshape 1 = .ok (.getfield 9, 3) := by decide +kernel
theorem dX0_reshape_4 : decode cX0_reshape 4 = .ok (.getfield 52, 3) := by decide +kernel
theorem dX0_reshape_7 : decode cX0_reshape 7 = .ok (.iload_n 1, 1) := by decide +kernel
theorem dX0_reshape_8 : decode cX0_reshape 8 = .ok (.aload_n 0, 1) := by decide +kernel
theorem dX0_reshape_9 : decode cX0_reshape 9 = .ok (.aload_n 0, 1) := by decide +kernel
theorem dX0_reshape_10 : decode cX0_reshape 10 = .ok (.getfield 9, 3) := by decide +kernel
theorem dX0_reshape_13 : decode cX0_reshape 13 = .ok (.getfield 55, 3) := by decide +kernel
theorem dX0_reshape_16 : decode cX0_reshape 16 = .ok (.iload_n 1, 1) := by decide +kernel
theorem dX0_reshape_17 : decode cX0_reshape 17 = .ok (.iaload, 1) := by decide +kernel
theorem dX0_reshape_18 : decode cX0_reshape 18 = .ok (.aload_n 0, 1) := by decide +kernel
theorem dX0_reshape_19 : decode cX0_reshape 19 = .ok (.getfield 9, 3) := by decide +kernel
theorem dX0_reshape_22 : decode cX0_reshape 22 = .ok (.getfield 52, 3) := by decide +kernel
theorem dX0_reshape_25 : decode cX0_reshape 25 = .ok (.iload_n 1, 1) := by decide +kernel
theorem dX0_reshape_26 : decode cX0_reshape 26 = .ok (.iaload, 1) := by decide +kernel
theorem dX0_reshape_27 : decode cX0_reshape 27 = .ok (.iload_n 2, 1) := by decide +kernel
theorem dX0_reshape_28 : decode cX0_reshape 28 = .ok (.invokevirtual 48, 3) := by decide +kernel
theorem dX0_reshape_31 : decode cX0_reshape 31 = .ok (.iastore, 1) := by decide +kernel
theorem dX0_reshape_32 : decode cX0_reshape 32 = .ok (.return_, 1) := by decide +kernel
theorem dX0_tidy_0 : decode cX0_tidy 0 = .ok (.iconst 0, 1) := by decide +kernel
theorem dX0_tidy_1 : decode cX0_tidy 1 = .ok (.istore_n 2, 1) := by decide +kernel
theorem dX0_tidy_2 : decode cX0_tidy 2 = .ok (.iload_n 2, 1) := by decide +kernel
theorem dX0_tidy_3 : decode cX0_tidy 3 = .ok (.aload_n 0, 1) := by decide +kernel
theorem dX0_tidy_4 : decode cX0_tidy 4 = .ok (.getfield 9, 3) := by decide +kernel
theorem dX0_tidy_7 : decode cX0_tidy 7 = .ok (.getfield 58, 3) := by decide +kernel
theorem dX0_tidy_10 : decode cX0_tidy 10 = .ok (.if_icmp .ge 68, 3) := by decide +kernel
theorem dX0_tidy_13 : decode cX0_tidy 13 = .ok (.aload_n 0, 1) := by decide +kernel
theorem dX0_tidy_14 : decode cX0_tidy 14 = .ok (.getfield 9, 3) := by decide +kernel
theorem dX0_tidy_17 : decode cX0_tidy 17 = .ok (.getfield 40, 3) := by decide +kernel
theorem dX0_tidy_20 : decode cX0_tidy 20 = .ok (.iload_n 2, 1) := by decide +kernel
theorem dX0_tidy_21 : decode cX0_tidy 21 = .ok (.iaload, 1) := by decide +kernel
theorem dX0_tidy_22 : decode cX0_tidy 22 = .ok (.iload_n 1, 1) := by decide +kernel
theorem dX0_tidy_23 : decode cX0_tidy 23 = .ok (.if_icmp .ne 49, 3) := by decide +kernel
theorem dX0_tidy_26 : decode cX0_tidy 26 = .ok (.aload_n 0, 1) := by decide +kernel
theorem dX0_tidy_27 : decode cX0_tidy 27 = .ok (.iload_n 2, 1) := by decide +kernel
theorem dX0_tidy_28 : decode cX0_tidy 28 = .ok (.bipush 64, 2) := by decide +kernel
theorem dX0_tidy_30 : decode cX0_tidy 30 = .ok (.imul, 1) := by decide +kernel
theorem dX0_tidy_31 : decode cX0_tidy 31 = .ok (.invokevirtual 62, 3) := by decide +kernel
theorem dX0_tidy_34 : decode cX0_tidy 34 = .ok (.aload_n 0, 1) := by decide +kernel
theorem dX0_tidy_35 : decode cX0_tidy 35 = .ok (.getfield 9, 3) := by decide +kernel
theorem dX0_tidy_38 : decode cX0_tidy 38 = .ok (.iload_n 2, 1) := by decide +kernel
theorem dX0_tidy_39 : decode cX0_tidy 39 = .ok (.bipush 64, 2) := by decide +kernel
theorem dX0_tidy_41 : decode cX0_tidy 41 = .ok (.imul, 1) := by decide +kernel
theorem dX0_tidy_42 : decode cX0_tidy 42 = .ok (.invokevirtual 66, 3) := by decide +kernel
theorem dX0_tidy_45 : decode cX0_tidy 45 = .ok (.bipush 64, 2) := by decide +kernel
theorem dX0_tidy_47 : decode cX0_tidy 47 = .ok (.if_icmp .ne 25, 3) := by decide +kernel
theorem dX0_tidy_50 : decode cX0_tidy 50 = .ok (.aload_n 0, 1) := by decide +kernel
theorem dX0_tidy_51 : decode cX0_tidy 51 = .ok (.getfield 9, 3) := by decide +kernel
theorem dX0_tidy_54 : decode cX0_tidy 54 = .ok (.iload_n 2, 1) := by decide +kernel
theorem dX0_tidy_55 : decode cX0_tidy 55 = .ok (.bipush 64, 2) := by decide +kernel
theorem dX0_tidy_57 : decode cX0_tidy 57 = .ok (.imul, 1) := by decide +kernel
theorem dX0_tidy_58 : decode cX0_tidy 58 = .ok (.iconst 0, 1) := by decide +kernel
theorem dX0_tidy_59 : decode cX0_tidy 59 = .ok (.invokevirtual 44, 3) := by decide +kernel
theorem dX0_tidy_62 : decode cX0_tidy 62 = .ok (.aload_n 0, 1) := by decide +kernel
theorem dX0_tidy_63 : decode cX0_tidy 63 = .ok (.getfield 9, 3) := by decide +kernel
theorem dX0_tidy_66 : decode cX0_tidy 66 = .ok (.getfield 40, 3) := by decide +kernel
theorem dX0_tidy_69 : decode cX0_tidy 69 = .ok (.iload_n 2, 1) := by decide +kernel
theorem dX0_tidy_70 : decode cX0_tidy 70 = .ok (.iconst (-1), 1) := by decide +kernel
theorem dX0_tidy_71 : decode cX0_tidy 71 = .ok (.iastore, 1) := by decide +kernel
theorem dX0_tidy_72 : decode cX0_tidy 72 = .ok (.iinc 2 1, 3) := by decide +kernel
theorem dX0_tidy_75 : decode cX0_tidy 75 = .ok (.goto (-73), 3) := by decide +kernel
theorem dX0_tidy_78 : decode cX0_tidy 78 = .ok (.return_, 1) := by decide +kernel
theorem dX0_leastFree_0 : decode cX0_leastFree 0 = .ok (.iconst (-1), 1) := by decide +kernel
theorem dX0_leastFree_1 : decode cX0_leastFree 1 = .ok (.istore_n 3, 1) := by decide +kernel
theorem dX0_leastFree_2 : decode cX0_leastFree 2 = .ok (.bipush 65, 2) := by decide +kernel
theorem dX0_leastFree_4 : decode cX0_leastFree 4 = .ok (.istore 4, 2) := by decide +kernel
theorem dX0_leastFree_6 : decode cX0_leastFree 6 = .ok (.iconst 0, 1) := by decide +kernel
theorem dX0_leastFree_7 : decode cX0_leastFree 7 = .ok (.istore 5, 2) := by decide +kernel
theorem dX0_leastFree_9 : decode cX0_leastFree 9 = .ok (.iload 5, 2) := by decide +kernel
theorem dX0_leastFree_11 : decode cX0_leastFree 11 = .ok (.aload_n 0, 1) := by decide +kernel
theorem dX0_leastFree_12 : decode cX0_leastFree 12 = .ok (.getfield 9, 3) := by decide +kernel
theorem dX0_leastFree_15 : decode cX0_leastFree 15 = .ok (.invokevirtual 21, 3) := by decide +kernel
theorem dX0_leastFree_18 : decode cX0_leastFree 18 = .ok (.if_icmp .ge 61, 3) := by decide +kernel
theorem dX0_leastFree_21 : decode cX0_leastFree 21 = .ok (.aload_n 0, 1) := by decide +kernel
theorem dX0_leastFree_22 : decode cX0_leastFree 22 = .ok (.getfield 9, 3) := by decide +kernel
theorem dX0_leastFree_25 : decode cX0_leastFree 25 = .ok (.iload 5, 2) := by decide +kernel
theorem dX0_leastFree_27 : decode cX0_leastFree 27 = .ok (.iload_n 1, 1) := by decide +kernel
theorem dX0_leastFree_28 : decode cX0_leastFree 28 = .ok (.invokevirtual 25, 3) := by decide +kernel
theorem dX0_leastFree_31 : decode cX0_leastFree 31 = .ok (.istore 6, 2) := by decide +kernel
theorem dX0_leastFree_33 : decode cX0_leastFree 33 = .ok (.iload 6, 2) := by decide +kernel
theorem dX0_leastFree_35 : decode cX0_leastFree 35 = .ok (.ifCond .le 23, 3) := by decide +kernel
theorem dX0_leastFree_38 : decode cX0_leastFree 38 = .ok (.iload 6, 2) := by decide +kernel
theorem dX0_leastFree_40 : decode cX0_leastFree 40 = .ok (.iload_n 2, 1) := by decide +kernel
theorem dX0_leastFree_41 : decode cX0_leastFree 41 = .ok (.if_icmp .lt 17, 3) := by decide +kernel
theorem dX0_leastFree_44 : decode cX0_leastFree 44 = .ok (.iload 6, 2) := by decide +kernel
theorem dX0_leastFree_46 : decode cX0_leastFree 46 = .ok (.iload 4, 2) := by decide +kernel
theorem dX0_leastFree_48 : decode cX0_leastFree 48 = .ok (.if_icmp .ge 10, 3) := by decide +kernel
theorem dX0_leastFree_51 : decode cX0_leastFree 51 = .ok (.iload 5, 2) := by decide +kernel
theorem dX0_leastFree_53 : decode cX0_leastFree 53 = .ok (.istore_n 3, 1) := by decide +kernel
theorem dX0_leastFree_54 : decode cX0_leastFree 54 = .ok (.iload 6, 2) := by decide +kernel
theorem dX0_leastFree_56 : decode cX0_leastFree 56 = .ok (.istore 4, 2) := by decide +kernel
theorem dX0_leastFree_58 : decode cX0_leastFree 58 = .ok (.iload 5, 2) := by decide +kernel
theorem dX0_leastFree_60 : decode cX0_leastFree 60 = .ok (.iconst 1, 1) := by decide +kernel
theorem dX0_leastFree_61 : decode cX0_leastFree 61 = .ok (.iadd, 1) := by decide +kernel
theorem dX0_leastFree_62 : decode cX0_leastFree 62 = .ok (.aload_n 0, 1) := by decide +kernel
theorem dX0_leastFree_63 : decode cX0_leastFree 63 = .ok (.getfield 9, 3) := by decide +kernel
theorem dX0_leastFree_66 : decode cX0_leastFree 66 = .ok (.iload 5, 2) := by decide +kernel
theorem dX0_leastFree_68 : decode cX0_leastFree 68 = .ok (.invokevirtual 34, 3) := by decide +kernel
theorem dX0_leastFree_71 : decode cX0_leastFree 71 = .ok (.invokestatic 29, 3) := by decide +kernel
theorem dX0_leastFree_74 : decode cX0_leastFree 74 = .ok (.istore 5, 2) := by decide +kernel
theorem dX0_leastFree_76 : decode cX0_leastFree 76 = .ok (.goto (-67), 3) := by decide +kernel
theorem dX0_leastFree_79 : decode cX0_leastFree 79 = .ok (.iload_n 3, 1) := by decide +kernel
theorem dX0_leastFree_80 : decode cX0_leastFree 80 = .ok (.ireturn, 1) := by decide +kernel
theorem dX0_partOff_0 : decode cX0_partOff 0 = .ok (.iload_n 2, 1) := by decide +kernel
theorem dX0_partOff_1 : decode cX0_partOff 1 = .ok (.istore 4, 2) := by decide +kernel
theorem dX0_partOff_3 : decode cX0_partOff 3 = .ok (.iload_n 2, 1) := by decide +kernel
theorem dX0_partOff_4 : decode cX0_partOff 4 = .ok (.iconst 2, 1) := by decide +kernel
theorem dX0_partOff_5 : decode cX0_partOff 5 = .ok (.idiv, 1) := by decide +kernel
theorem dX0_partOff_6 : decode cX0_partOff 6 = .ok (.istore 5, 2) := by decide +kernel
theorem dX0_partOff_8 : decode cX0_partOff 8 = .ok (.iload 5, 2) := by decide +kernel
theorem dX0_partOff_10 : decode cX0_partOff 10 = .ok (.iconst 1, 1) := by decide +kernel
theorem dX0_partOff_11 : decode cX0_partOff 11 = .ok (.if_icmp .lt 35, 3) := by decide +kernel
theorem dX0_partOff_14 : decode cX0_partOff 14 = .ok (.iload 5, 2) := by decide +kernel
theorem dX0_partOff_16 : decode cX0_partOff 16 = .ok (.iload_n 3, 1) := by decide +kernel
theorem dX0_partOff_17 : decode cX0_partOff 17 = .ok (.if_icmp .lt 29, 3) := by decide +kernel
theorem dX0_partOff_20 : decode cX0_partOff 20 = .ok (.aload_n 0, 1) := by decide +kernel
theorem dX0_partOff_21 : decode cX0_partOff 21 = .ok (.getfield 9, 3) := by decide +kernel
theorem dX0_partOff_24 : decode cX0_partOff 24 = .ok (.iload_n 1, 1) := by decide +kernel
theorem dX0_partOff_25 : decode cX0_partOff 25 = .ok (.iload 5, 2) := by decide +kernel
theorem dX0_partOff_27 : decode cX0_partOff 27 = .ok (.iadd, 1) := by decide +kernel
theorem dX0_partOff_28 : decode cX0_partOff 28 = .ok (.iload 5, 2) := by decide +kernel
theorem dX0_partOff_30 : decode cX0_partOff 30 = .ok (.invokevirtual 44, 3) := by decide +kernel
theorem dX0_partOff_33 : decode cX0_partOff 33 = .ok (.iload 5, 2) := by decide +kernel
theorem dX0_partOff_35 : decode cX0_partOff 35 = .ok (.istore 4, 2) := by decide +kernel
theorem dX0_partOff_37 : decode cX0_partOff 37 = .ok (.iload 5, 2) := by decide +kernel
theorem dX0_partOff_39 : decode cX0_partOff 39 = .ok (.iconst 2, 1) := by decide +kernel
theorem dX0_partOff_40 : decode cX0_partOff 40 = .ok (.idiv, 1) := by decide +kernel
theorem dX0_partOff_41 : decode cX0_partOff 41 = .ok (.istore 5, 2) := by decide +kernel
theorem dX0_partOff_43 : decode cX0_partOff 43 = .ok (.goto (-35), 3) := by decide +kernel
theorem dX0_partOff_46 : decode cX0_partOff 46 = .ok (.iload 4, 2) := by decide +kernel
theorem dX0_partOff_48 : decode cX0_partOff 48 = .ok (.ireturn, 1) := by decide +kernel
theorem dX0_joinPairs_0 : decode cX0_joinPairs 0 = .ok (.iconst 1, 1) := by decide +kernel
theorem dX0_joinPairs_1 : decode cX0_joinPairs 1 = .ok (.istore_n 2, 1) := by decide +kernel
theorem dX0_joinPairs_2 : decode cX0_joinPairs 2 = .ok (.iload_n 2, 1) := by decide +kernel
theorem dX0_joinPairs_3 : decode cX0_joinPairs 3 = .ok (.bipush 64, 2) := by decide +kernel
theorem dX0_joinPairs_5 : decode cX0_joinPairs 5 = .ok (.if_icmp .ge 77, 3) := by decide +kernel
theorem dX0_joinPairs_8 : decode cX0_joinPairs 8 = .ok (.iload_n 1, 1) := by decide +kernel
theorem dX0_joinPairs_9 : decode cX0_joinPairs 9 = .ok (.istore_n 3, 1) := by decide +kernel
theorem dX0_joinPairs_10 : decode cX0_joinPairs 10 = .ok (.iload_n 3, 1) := by decide +kernel
theorem dX0_joinPairs_11 : decode cX0_joinPairs 11 = .ok (.iload_n 1, 1) := by decide +kernel
theorem dX0_joinPairs_12 : decode cX0_joinPairs 12 = .ok (.bipush 64, 2) := by decide +kernel
theorem dX0_joinPairs_14 : decode cX0_joinPairs 14 = .ok (.iadd, 1) := by decide +kernel
theorem dX0_joinPairs_15 : decode cX0_joinPairs 15 = .ok (.if_icmp .ge 60, 3) := by decide +kernel
theorem dX0_joinPairs_18 : decode cX0_joinPairs 18 = .ok (.aload_n 0, 1) := by decide +kernel
theorem dX0_joinPairs_19 : decode cX0_joinPairs 19 = .ok (.getfield 9, 3) := by decide +kernel
theorem dX0_joinPairs_22 : decode cX0_joinPairs 22 = .ok (.iload_n 3, 1) := by decide +kernel
theorem dX0_joinPairs_23 : decode cX0_joinPairs 23 = .ok (.invokevirtual 66, 3) := by decide +kernel
theorem dX0_joinPairs_26 : decode cX0_joinPairs 26 = .ok (.iload_n 2, 1) := by decide +kernel
theorem dX0_joinPairs_27 : decode cX0_joinPairs 27 = .ok (.if_icmp .ne 39, 3) := by decide +kernel
theorem dX0_joinPairs_30 : decode cX0_joinPairs 30 = .ok (.aload_n 0, 1) := by decide +kernel
theorem dX0_joinPairs_31 : decode cX0_joinPairs 31 = .ok (.getfield 9, 3) := by decide +kernel
theorem dX0_joinPairs_34 : decode cX0_joinPairs 34 = .ok (.iload_n 3, 1) := by decide +kernel
theorem dX0_joinPairs_35 : decode cX0_joinPairs 35 = .ok (.iload_n 2, 1) := by decide +kernel
theorem dX0_joinPairs_36 : decode cX0_joinPairs 36 = .ok (.iadd, 1) := by decide +kernel
theorem dX0_joinPairs_37 : decode cX0_joinPairs 37 = .ok (.invokevirtual 66, 3) := by decide +kernel
theorem dX0_joinPairs_40 : decode cX0_joinPairs 40 = .ok (.iload_n 2, 1) := by decide +kernel
theorem dX0_joinPairs_41 : decode cX0_joinPairs 41 = .ok (.if_icmp .ne 25, 3) := by decide +kernel
theorem dX0_joinPairs_44 : decode cX0_joinPairs 44 = .ok (.aload_n 0, 1) := by decide +kernel
theorem dX0_joinPairs_45 : decode cX0_joinPairs 45 = .ok (.getfield 9, 3) := by decide +kernel
theorem dX0_joinPairs_48 : decode cX0_joinPairs 48 = .ok (.iload_n 3, 1) := by decide +kernel
theorem dX0_joinPairs_49 : decode cX0_joinPairs 49 = .ok (.iconst 2, 1) := by decide +kernel
theorem dX0_joinPairs_50 : decode cX0_joinPairs 50 = .ok (.iload_n 2, 1) := by decide +kernel
theorem dX0_joinPairs_51 : decode cX0_joinPairs 51 = .ok (.imul, 1) := by decide +kernel
theorem dX0_joinPairs_52 : decode cX0_joinPairs 52 = .ok (.invokevirtual 44, 3) := by decide +kernel
theorem dX0_joinPairs_55 : decode cX0_joinPairs 55 = .ok (.aload_n 0, 1) := by decide +kernel
theorem dX0_joinPairs_56 : decode cX0_joinPairs 56 = .ok (.getfield 9, 3) := by decide +kernel
theorem dX0_joinPairs_59 : decode cX0_joinPairs 59 = .ok (.iload_n 3, 1) := by decide +kernel
theorem dX0_joinPairs_60 : decode cX0_joinPairs 60 = .ok (.iload_n 2, 1) := by decide +kernel
theorem dX0_joinPairs_61 : decode cX0_joinPairs 61 = .ok (.iadd, 1) := by decide +kernel
theorem dX0_joinPairs_62 : decode cX0_joinPairs 62 = .ok (.iconst 0, 1) := by decide +kernel
theorem dX0_joinPairs_63 : decode cX0_joinPairs 63 = .ok (.invokevirtual 44, 3) := by decide +kernel
theorem dX0_joinPairs_66 : decode cX0_joinPairs 66 = .ok (.iload_n 3, 1) := by decide +kernel
theorem dX0_joinPairs_67 : decode cX0_joinPairs 67 = .ok (.iconst 2, 1) := by decide +kernel
theorem dX0_joinPairs_68 : decode cX0_joinPairs 68 = .ok (.iload_n 2, 1) := by decide +kernel
theorem dX0_joinPairs_69 : decode cX0_joinPairs 69 = .ok (.imul, 1) := by decide +kernel
theorem dX0_joinPairs_70 : decode cX0_joinPairs 70 = .ok (.iadd, 1) := by decide +kernel
theorem dX0_joinPairs_71 : decode cX0_joinPairs 71 = .ok (.istore_n 3, 1) := by decide +kernel
theorem dX0_joinPairs_72 : decode cX0_joinPairs 72 = .ok (.goto (-62), 3) := by decide +kernel
theorem dX0_joinPairs_75 : decode cX0_joinPairs 75 = .ok (.iload_n 2, 1) := by decide +kernel
theorem dX0_joinPairs_76 : decode cX0_joinPairs 76 = .ok (.iconst 2, 1) := by decide +kernel
theorem dX0_joinPairs_77 : decode cX0_joinPairs 77 = .ok (.imul, 1) := by decide +kernel
theorem dX0_joinPairs_78 : decode cX0_joinPairs 78 = .ok (.istore_n 2, 1) := by decide +kernel
theorem dX0_joinPairs_79 : decode cX0_joinPairs 79 = .ok (.goto (-77), 3) := by decide +kernel
theorem dX0_joinPairs_82 : decode cX0_joinPairs 82 = .ok (.return_, 1) := by decide +kernel
theorem dX1_init_0 : decode cX1_init 0 = .ok (.aload_n 0, 1) := by decide +kernel
theorem dX1_init_1 : decode cX1_init 1 = .ok (.invokespecial 3, 3) := by decide +kernel
theorem dX1_init_4 : decode cX1_init 4 = .ok (.aload_n 0, 1) := by decide +kernel
theorem dX1_init_5 : decode cX1_init 5 = .ok (.iconst 4, 1) := by decide +kernel
theorem dX1_init_6 : decode cX1_init 6 = .ok (.newarray .int, 2) := by decide +kernel
theorem dX1_init_8 : decode cX1_init 8 = .ok (.putfield 9, 3) := by decide +kernel
theorem dX1_init_11 : decode cX1_init 11 = .ok (.aload_n 0, 1) := by decide +kernel
theorem dX1_init_12 : decode cX1_init 12 = .ok (.iconst 4, 1) := by decide +kernel
theorem dX1_init_13 : decode cX1_init 13 = .ok (.newarray .int, 2) := by decide +kernel
theorem dX1_init_15 : decode cX1_init 15 = .ok (.putfield 15, 3) := by decide +kernel
theorem dX1_init_18 : decode cX1_init 18 = .ok (.aload_n 0, 1) := by decide +kernel
theorem dX1_init_19 : decode cX1_init 19 = .ok (.aload_n 1, 1) := by decide +kernel
theorem dX1_init_20 : decode cX1_init 20 = .ok (.putfield 18, 3) := by decide +kernel
theorem dX1_init_23 : decode cX1_init 23 = .ok (.aload_n 0, 1) := by decide +kernel
theorem dX1_init_24 : decode cX1_init 24 = .ok (.iconst 0, 1) := by decide +kernel
theorem dX1_init_25 : decode cX1_init 25 = .ok (.putfield 22, 3) := by decide +kernel
theorem dX1_init_28 : decode cX1_init 28 = .ok (.aload_n 0, 1) := by decide +kernel
theorem dX1_init_29 : decode cX1_init 29 = .ok (.iconst 0, 1) := by decide +kernel
theorem dX1_init_30 : decode cX1_init 30 = .ok (.putfield 26, 3) := by decide +kernel
theorem dX1_init_33 : decode cX1_init 33 = .ok (.aload_n 0, 1) := by decide +kernel
theorem dX1_init_34 : decode cX1_init 34 = .ok (.iconst 0, 1) := by decide +kernel
theorem dX1_init_35 : decode cX1_init 35 = .ok (.putfield 29, 3) := by decide +kernel
theorem dX1_init_38 : decode cX1_init 38 = .ok (.aload_n 0, 1) := by decide +kernel
theorem dX1_init_39 : decode cX1_init 39 = .ok (.iconst 0, 1) := by decide +kernel
theorem dX1_init_40 : decode cX1_init 40 = .ok (.putfield 32, 3) := by decide +kernel
theorem dX1_init_43 : decode cX1_init 43 = .ok (.aload_n 0, 1) := by decide +kernel
theorem dX1_init_44 : decode cX1_init 44 = .ok (.iconst 0, 1) := by decide +kernel
theorem dX1_init_45 : decode cX1_init 45 = .ok (.putfield 35, 3) := by decide +kernel
theorem dX1_init_48 : decode cX1_init 48 = .ok (.return_, 1) := by decide +kernel
theorem dX1_entries_0 : decode cX1_entries 0 = .ok (.iconst 0, 1) := by decide +kernel
theorem dX1_entries_1 : decode cX1_entries 1 = .ok (.istore_n 1, 1) := by decide +kernel
theorem dX1_entries_2 : decode cX1_entries 2 = .ok (.iconst 0, 1) := by decide +kernel
theorem dX1_entries_3 : decode cX1_entries 3 = .ok (.istore_n 2, 1) := by decide +kernel
theorem dX1_entries_4 : decode cX1_entries 4 = .ok (.iload_n 2, 1) := by decide +kernel
theorem dX1_entries_5 : decode cX1_entries 5 = .ok (.aload_n 0, 1) := by decide +kernel
theorem dX1_entries_6 : decode cX1_entries 6 = .ok (.getfield 18, 3) := by decide +kernel
theorem dX1_entries_9 : decode cX1_entries 9 = .ok (.invokevirtual 38, 3) := by decide +kernel
theorem dX1_entries_12 : decode cX1_entries 12 = .ok (.if_icmp .ge 33, 3) := by decide +kernel
theorem dX1_entries_15 : decode cX1_entries 15 = .ok (.aload_n 0, 1) := by decide +kernel
theorem dX1_entries_16 : decode cX1_entries 16 = .ok (.iload_n 2, 1) := by decide +kernel
theorem dX1_entries_17 : decode cX1_entries 17 = .ok (.invokevirtual 44, 3) := by decide +kernel
theorem dX1_entries_20 : decode cX1_entries 20 = .ok (.iload_n 1, 1) := by decide +kernel
theorem dX1_entries_21 : decode cX1_entries 21 = .ok (.aload_n 0, 1) := by decide +kernel
theorem dX1_entries_22 : decode cX1_entries 22 = .ok (.getfield 22, 3) := by decide +kernel
theorem dX1_entries_25 : decode cX1_entries 25 = .ok (.iadd, 1) := by decide +kernel
theorem dX1_entries_26 : decode cX1_entries 26 = .ok (.istore_n 1, 1) := by decide +kernel
theorem dX1_entries_27 : decode cX1_entries 27 = .ok (.iload_n 2, 1) := by decide +kernel
theorem dX1_entries_28 : decode cX1_entries 28 = .ok (.iconst 1, 1) := by decide +kernel
theorem dX1_entries_29 : decode cX1_entries 29 = .ok (.iadd, 1) := by decide +kernel
theorem dX1_entries_30 : decode cX1_entries 30 = .ok (.aload_n 0, 1) := by decide +kernel
theorem dX1_entries_31 : decode cX1_entries 31 = .ok (.getfield 18, 3) := by decide +kernel
theorem dX1_entries_34 : decode cX1_entries 34 = .ok (.iload_n 2, 1) := by decide +kernel
theorem dX1_entries_35 : decode cX1_entries 35 = .ok (.invokevirtual 48, 3) := by decide +kernel
theorem dX1_entries_38 : decode cX1_entries 38 = .ok (.invokestatic 52, 3) := by decide +kernel
theorem dX1_entries_41 : decode cX1_entries 41 = .ok (.istore_n 2, 1) := by decide +kernel
theorem dX1_entries_42 : decode cX1_entries 42 = .ok (.goto (-38), 3) := by decide +kernel
theorem dX1_entries_45 : decode cX1_entries 45 = .ok (.iload_n 1, 1) := by decide +kernel
theorem dX1_entries_46 : decode cX1_entries 46 = .ok (.ireturn, 1) := by decide +kernel
theorem dX1_seek_0 : decode cX1_seek 0 = .ok (.iload_n 1, 1) := by decide +kernel
theorem dX1_seek_1 : decode cX1_seek 1 = .ok (.ifCond .ge 5, 3) := by decide +kernel
theorem dX1_seek_4 : decode cX1_seek 4 = .ok (.iconst 0, 1) := by decide +kernel
theorem dX1_seek_5 : decode cX1_seek 5 = .ok (.ireturn, 1) := by decide +kernel
theorem dX1_seek_6 : decode cX1_seek 6 = .ok (.iconst 0, 1) := by decide +kernel
theorem dX1_seek_7 : decode cX1_seek 7 = .ok (.istore_n 2, 1) := by decide +kernel
theorem dX1_seek_8 : decode cX1_seek 8 = .ok (.iconst 0, 1) := by decide +kernel
theorem dX1_seek_9 : decode cX1_seek 9 = .ok (.istore_n 3, 1) := by decide +kernel
theorem dX1_seek_10 : decode cX1_seek 10 = .ok (.iload_n 3, 1) := by decide +kernel
theorem dX1_seek_11 : decode cX1_seek 11 = .ok (.aload_n 0, 1) := by decide +kernel
theorem dX1_seek_12 : decode cX1_seek 12 = .ok (.getfield 18, 3) := by decide +kernel
theorem dX1_seek_15 : decode cX1_seek 15 = .ok (.invokevirtual 38, 3) := by decide +kernel
theorem dX1_seek_18 : decode cX1_seek 18 = .ok (.if_icmp .ge 52, 3) := by decide +kernel
theorem dX1_seek_21 : decode cX1_seek 21 = .ok (.aload_n 0, 1) := by decide +kernel
theorem dX1_seek_22 : decode cX1_seek 22 = .ok (.iload_n 3, 1) := by decide +kernel
theorem dX1_seek_23 : decode cX1_seek 23 = .ok (.invokevirtual 44, 3) := by decide +kernel
theorem dX1_seek_26 : decode cX1_seek 26 = .ok (.iload_n 1, 1) := by decide +kernel
theorem dX1_seek_27 : decode cX1_seek 27 = .ok (.iload_n 2, 1) := by decide +kernel
theorem dX1_seek_28 : decode cX1_seek 28 = .ok (.aload_n 0, 1) := by decide +kernel
theorem dX1_seek_29 : decode cX1_seek 29 = .ok (.getfield 22, 3) := by decide +kernel
theorem dX1_seek_32 : decode cX1_seek 32 = .ok (.iadd, 1) := by decide +kernel
theorem dX1_seek_33 : decode cX1_seek 33 = .ok (.if_icmp .ge 12, 3) := by decide +kernel
theorem dX1_seek_36 : decode cX1_seek 36 = .ok (.aload_n 0, 1) := by decide +kernel
theorem dX1_seek_37 : decode cX1_seek 37 = .ok (.iload_n 1, 1) := by decide +kernel
theorem dX1_seek_38 : decode cX1_seek 38 = .ok (.iload_n 2, 1) := by decide +kernel
theorem dX1_seek_39 : decode cX1_seek 39 = .ok (.isub, 1) := by decide +kernel
theorem dX1_seek_40 : decode cX1_seek 40 = .ok (.invokevirtual 58, 3) := by decide +kernel
theorem dX1_seek_43 : decode cX1_seek 43 = .ok (.iconst 1, 1) := by decide +kernel
theorem dX1_seek_44 : decode cX1_seek 44 = .ok (.ireturn, 1) := by decide +kernel
theorem dX1_seek_45 : decode cX1_seek 45 = .ok (.iload_n 2, 1) := by decide +kernel
theorem dX1_seek_46 : decode cX1_seek 46 = .ok (.aload_n 0, 1) := by decide +kernel
theorem dX1_seek_47 : decode cX1_seek 47 = .ok (.getfield 22, 3) := by decide +kernel
theorem dX1_seek_50 : decode cX1_seek 50 = .ok (.iadd, 1) := by decide +kernel
theorem dX1_seek_51 : decode cX1_seek 51 = .ok (.istore_n 2, 1) := by decide +kernel
theorem dX1_seek_52 : decode cX1_seek 52 = .ok (.iload_n 3, 1) := by decide +kernel
theorem dX1_seek_53 : decode cX1_seek 53 = .ok (.iconst 1, 1) := by decide +kernel
theorem dX1_seek_54 : decode cX1_seek 54 = .ok (.iadd, 1) := by decide +kernel
theorem dX1_seek_55 : decode cX1_seek 55 = .ok (.aload_n 0, 1) := by decide +kernel
theorem dX1_seek_56 : decode cX1_seek 56 = .ok (.getfield 18, 3) := by decide +kernel
theorem dX1_seek_59 : decode cX1_seek 59 = .ok (.iload_n 3, 1) := by decide +kernel
theorem dX1_seek_60 : decode cX1_seek 60 = .ok (.invokevirtual 48, 3) := by decide +kernel
theorem dX1_seek_63 : decode cX1_seek 63 = .ok (.invokestatic 52, 3) := by decide +kernel
theorem dX1_seek_66 : decode cX1_seek 66 = .ok (.istore_n 3, 1) := by decide +kernel
theorem dX1_seek_67 : decode cX1_seek 67 = .ok (.goto (-57), 3) := by decide +kernel
theorem dX1_seek_70 : decode cX1_seek 70 = .ok (.iconst 0, 1) := by decide +kernel
theorem dX1_seek_71 : decode cX1_seek 71 = .ok (.ireturn, 1) := by decide +kernel
theorem dX1_kindAt_0 : decode cX1_kindAt 0 = .ok (.iconst 0, 1) := by decide +kernel
theorem dX1_kindAt_1 : decode cX1_kindAt 1 = .ok (.istore_n 2, 1) := by decide +kernel
theorem dX1_kindAt_2 : decode cX1_kindAt 2 = .ok (.iload_n 2, 1) := by decide +kernel
theorem dX1_kindAt_3 : decode cX1_kindAt 3 = .ok (.aload_n 0, 1) := by decide +kernel
theorem dX1_kindAt_4 : decode cX1_kindAt 4 = .ok (.getfield 18, 3) := by decide +kernel
theorem dX1_kindAt_7 : decode cX1_kindAt 7 = .ok (.invokevirtual 38, 3) := by decide +kernel
theorem dX1_kindAt_10 : decode cX1_kindAt 10 = .ok (.if_icmp .ge 54, 3) := by decide +kernel
theorem dX1_kindAt_13 : decode cX1_kindAt 13 = .ok (.iload_n 1, 1) := by decide +kernel
theorem dX1_kindAt_14 : decode cX1_kindAt 14 = .ok (.aload_n 0, 1) := by decide +kernel
theorem dX1_kindAt_15 : decode cX1_kindAt 15 = .ok (.getfield 18, 3) := by decide +kernel
theorem dX1_kindAt_18 : decode cX1_kindAt 18 = .ok (.iload_n 2, 1) := by decide +kernel
theorem dX1_kindAt_19 : decode cX1_kindAt 19 = .ok (.invokevirtual 48, 3) := by decide +kernel
theorem dX1_kindAt_22 : decode cX1_kindAt 22 = .ok (.if_icmp .ge 24, 3) := by decide +kernel
theorem dX1_kindAt_25 : decode cX1_kindAt 25 = .ok (.aload_n 0, 1) := by decide +kernel
theorem dX1_kindAt_26 : decode cX1_kindAt 26 = .ok (.iload_n 2, 1) := by decide +kernel
theorem dX1_kindAt_27 : decode cX1_kindAt 27 = .ok (.invokevirtual 44, 3) := by decide +kernel
theorem dX1_kindAt_30 : decode cX1_kindAt 30 = .ok (.aload_n 0, 1) := by decide +kernel
theorem dX1_kindAt_31 : decode cX1_kindAt 31 = .ok (.aload_n 0, 1) := by decide +kernel
theorem dX1_kindAt_32 : decode cX1_kindAt 32 = .ok (.iload_n 1, 1) := by decide +kernel
theorem dX1_kindAt_33 : decode cX1_kindAt 33 = .ok (.iload_n 2, 1) := by decide +kernel
theorem dX1_kindAt_34 : decode cX1_kindAt 34 = .ok (.isub, 1) := by decide +kernel
theorem dX1_kindAt_35 : decode cX1_kindAt 35 = .ok (.invokevirtual 61, 3) := by decide +kernel
theorem dX1_kindAt_38 : decode cX1_kindAt 38 = .ok (.invokevirtual 58, 3) := by decide +kernel
theorem dX1_kindAt_41 : decode cX1_kindAt 41 = .ok (.aload_n 0, 1) := by decide +kernel
theorem dX1_kindAt_42 : decode cX1_kindAt 42 = .ok (.getfield 35, 3) := by decide +kernel
theorem dX1_kindAt_45 : decode cX1_kindAt 45 = .ok (.ireturn, 1) := by decide +kernel
theorem dX1_kindAt_46 : decode cX1_kindAt 46 = .ok (.iload_n 2, 1) := by decide +kernel
theorem dX1_kindAt_47 : decode cX1_kindAt 47 = .ok (.iconst 1, 1) := by decide +kernel
theorem dX1_kindAt_48 : decode cX1_kindAt 48 = .ok (.iadd, 1) := by decide +kernel
theorem dX1_kindAt_49 : decode cX1_kindAt 49 = .ok (.aload_n 0, 1) := by decide +kernel
theorem dX1_kindAt_50 : decode cX1_kindAt 50 = .ok (.getfield 18, 3) := by decide +kernel
theorem dX1_kindAt_53 : decode cX1_kindAt 53 = .ok (.iload_n 2, 1) := by decide +kernel
theorem dX1_kindAt_54 : decode cX1_kindAt 54 = .ok (.invokevirtual 48, 3) := by decide +kernel
theorem dX1_kindAt_57 : decode cX1_kindAt 57 = .ok (.invokestatic 52, 3) := by decide +kernel
theorem dX1_kindAt_60 : decode cX1_kindAt 60 = .ok (.istore_n 2, 1) := by decide +kernel
theorem dX1_kindAt_61 : decode cX1_kindAt 61 = .ok (.goto (-59), 3) := by decide +kernel
theorem dX1_kindAt_64 : decode cX1_kindAt 64 = .ok (.iconst 0, 1) := by decide +kernel
theorem dX1_kindAt_65 : decode cX1_kindAt 65 = .ok (.ireturn, 1) := by decide +kernel
theorem dX1_handle_0 : decode cX1_handle 0 = .ok (.aload_n 0, 1) := by decide +kernel
theorem dX1_handle_1 : decode cX1_handle 1 = .ok (.getfield 18, 3) := by decide +kernel
theorem dX1_handle_4 : decode cX1_handle 4 = .ok (.aload_n 0, 1) := by decide +kernel
theorem dX1_handle_5 : decode cX1_handle 5 = .ok (.getfield 26, 3) := by decide +kernel
theorem dX1_handle_8 : decode cX1_handle 8 = .ok (.invokevirtual 64, 3) := by decide +kernel
theorem dX1_handle_11 : decode cX1_handle 11 = .ok (.istore_n 1, 1) := by decide +kernel
theorem dX1_handle_12 : decode cX1_handle 12 = .ok (.aload_n 0, 1) := by decide +kernel
theorem dX1_handle_13 : decode cX1_handle 13 = .ok (.getfield 35, 3) := by decide +kernel
theorem dX1_handle_16 : decode cX1_handle 16 = .ok (.iconst 3, 1) := by decide +kernel
theorem dX1_handle_17 : decode cX1_handle 17 = .ok (.if_icmp .eq 12, 3) := by decide +kernel
theorem dX1_handle_20 : decode cX1_handle 20 = .ok (.aload_n 0, 1) := by decide +kernel
theorem dX1_handle_21 : decode cX1_handle 21 = .ok (.getfield 35, 3) := by decide +kernel
theorem dX1_handle_24 : decode cX1_handle 24 = .ok (.bipush 6, 2) := by decide +kernel
theorem dX1_handle_26 : decode cX1_handle 26 = .ok (.if_icmp .ne 7, 3) := by decide +kernel
theorem dX1_handle_29 : decode cX1_handle 29 = .ok (.iconst 1, 1) := by decide +kernel
theorem dX1_handle_30 : decode cX1_handle 30 = .ok (.goto 4, 3) := by decide +kernel
theorem dX1_handle_33 : decode cX1_handle 33 = .ok (.iconst 0, 1) := by decide +kernel
theorem dX1_handle_34 : decode cX1_handle 34 = .ok (.istore_n 2, 1) := by decide +kernel
theorem dX1_handle_35 : decode cX1_handle 35 = .ok (.iload_n 2, 1) := by decide +kernel
theorem dX1_handle_36 : decode cX1_handle 36 = .ok (.ifCond .eq 18, 3) := by decide +kernel
theorem dX1_handle_39 : decode cX1_handle 39 = .ok (.iload_n 1, 1) := by decide +kernel
theorem dX1_handle_40 : decode cX1_handle 40 = .ok (.ifCond .lt 14, 3) := by decide +kernel
theorem dX1_handle_43 : decode cX1_handle 43 = .ok (.aload_n 0, 1) := by decide +kernel
theorem dX1_handle_44 : decode cX1_handle 44 = .ok (.getfield 18, 3) := by decide +kernel
theorem dX1_handle_47 : decode cX1_handle 47 = .ok (.iload_n 1, 1) := by decide +kernel
theorem dX1_handle_48 : decode cX1_handle 48 = .ok (.invokevirtual 67, 3) := by decide +kernel
theorem dX1_handle_51 : decode cX1_handle 51 = .ok (.goto 4, 3) := by decide +kernel
theorem dX1_handle_54 : decode cX1_handle 54 = .ok (.iconst (-1), 1) := by decide +kernel
theorem dX1_handle_55 : decode cX1_handle 55 = .ok (.ireturn, 1) := by decide +kernel
theorem dX1_zoneNumber_0 : decode cX1_zoneNumber 0 = .ok (.iconst (-1), 1) := by decide +kernel
theorem dX1_zoneNumber_1 : decode cX1_zoneNumber 1 = .ok (.aload_n 0, 1) := by decide +kernel
theorem dX1_zoneNumber_2 : decode cX1_zoneNumber 2 = .ok (.getfield 18, 3) := by decide +kernel
theorem dX1_zoneNumber_5 : decode cX1_zoneNumber 5 = .ok (.aload_n 0, 1) := by decide +kernel
theorem dX1_zoneNumber_6 : decode cX1_zoneNumber 6 = .ok (.getfield 26, 3) := by decide +kernel
theorem dX1_zoneNumber_9 : decode cX1_zoneNumber 9 = .ok (.invokevirtual 70, 3) := by decide +kernel
theorem dX1_zoneNumber_12 : decode cX1_zoneNumber 12 = .ok (.invokestatic 52, 3) := by decide +kernel
theorem dX1_zoneNumber_15 : decode cX1_zoneNumber 15 = .ok (.ireturn, 1) := by decide +kernel
theorem dX1_goToPart_0 : decode cX1_goToPart 0 = .ok (.aload_n 0, 1) := by decide +kernel
theorem dX1_goToPart_1 : decode cX1_goToPart 1 = .ok (.aload_n 0, 1) := by decide +kernel
theorem dX1_goToPart_2 : decode cX1_goToPart 2 = .ok (.getfield 26, 3) := by decide +kernel
theorem dX1_goToPart_5 : decode cX1_goToPart 5 = .ok (.putfield 29, 3) := by decide +kernel
theorem dX1_goToPart_8 : decode cX1_goToPart 8 = .ok (.iconst 0, 1) := by decide +kernel
theorem dX1_goToPart_9 : decode cX1_goToPart 9 = .ok (.istore_n 2, 1) := by decide +kernel
theorem dX1_goToPart_10 : decode cX1_goToPart 10 = .ok (.iload_n 2, 1) := by decide +kernel
theorem dX1_goToPart_11 : decode cX1_goToPart 11 = .ok (.iload_n 1, 1) := by decide +kernel
theorem dX1_goToPart_12 : decode cX1_goToPart 12 = .ok (.if_icmp .ge 32, 3) := by decide +kernel
theorem dX1_goToPart_15 : decode cX1_goToPart 15 = .ok (.iload_n 2, 1) := by decide +kernel
theorem dX1_goToPart_16 : decode cX1_goToPart 16 = .ok (.aload_n 0, 1) := by decide +kernel
theorem dX1_goToPart_17 : decode cX1_goToPart 17 = .ok (.getfield 22, 3) := by decide +kernel
theorem dX1_goToPart_20 : decode cX1_goToPart 20 = .ok (.if_icmp .ge 24, 3) := by decide +kernel
theorem dX1_goToPart_23 : decode cX1_goToPart 23 = .ok (.aload_n 0, 1) := by decide +kernel
theorem dX1_goToPart_24 : decode cX1_goToPart 24 = .ok (.dup, 1) := by decide +kernel
theorem dX1_goToPart_25 : decode cX1_goToPart 25 = .ok (.getfield 29, 3) := by decide +kernel
theorem dX1_goToPart_28 : decode cX1_goToPart 28 = .ok (.aload_n 0, 1) := by decide +kernel
theorem dX1_goToPart_29 : decode cX1_goToPart 29 = .ok (.getfield 15, 3) := by decide +kernel
theorem dX1_goToPart_32 : decode cX1_goToPart 32 = .ok (.iload_n 2, 1) := by decide +kernel
theorem dX1_goToPart_33 : decode cX1_goToPart 33 = .ok (.iaload, 1) := by decide +kernel
theorem dX1_goToPart_34 : decode cX1_goToPart 34 = .ok (.iadd, 1) := by decide +kernel
theorem dX1_goToPart_35 : decode cX1_goToPart 35 = .ok (.putfield 29, 3) := by decide +kernel
theorem dX1_goToPart_38 : decode cX1_goToPart 38 = .ok (.iinc 2 1, 3) := by decide +kernel
theorem dX1_goToPart_41 : decode cX1_goToPart 41 = .ok (.goto (-31), 3) := by decide +kernel
theorem dX1_goToPart_44 : decode cX1_goToPart 44 = .ok (.iload_n 1, 1) := by decide +kernel
theorem dX1_goToPart_45 : decode cX1_goToPart 45 = .ok (.ifCond .lt 31, 3) := by decide +kernel
theorem dX1_goToPart_48 : decode cX1_goToPart 48 = .ok (.iload_n 1, 1) := by decide +kernel
theorem dX1_goToPart_49 : decode cX1_goToPart 49 = .ok (.aload_n 0, 1) := by decide +kernel
theorem dX1_goToPart_50 : decode cX1_goToPart 50 = .ok (.getfield 22, 3) := by decide +kernel
theorem dX1_goToPart_53 : decode cX1_goToPart 53 = .ok (.if_icmp .ge 23, 3) := by decide +kernel
theorem dX1_goToPart_56 : decode cX1_goToPart 56 = .ok (.aload_n 0, 1) := by decide +kernel
theorem dX1_goToPart_57 : decode cX1_goToPart 57 = .ok (.aload_n 0, 1) := by decide +kernel
theorem dX1_goToPart_58 : decode cX1_goToPart 58 = .ok (.getfield 15, 3) := by decide +kernel
theorem dX1_goToPart_61 : decode cX1_goToPart 61 = .ok (.iload_n 1, 1) := by decide +kernel
theorem dX1_goToPart_62 : decode cX1_goToPart 62 = .ok (.iaload, 1) := by decide +kernel
theorem dX1_goToPart_63 : decode cX1_goToPart 63 = .ok (.putfield 32, 3) := by decide +kernel
theorem dX1_goToPart_66 : decode cX1_goToPart 66 = .ok (.aload_n 0, 1) := by decide +kernel
theorem dX1_goToPart_67 : decode cX1_goToPart 67 = .ok (.aload_n 0, 1) := by decide +kernel
theorem dX1_goToPart_68 : decode cX1_goToPart 68 = .ok (.getfield 9, 3) := by decide +kernel
theorem dX1_goToPart_71 : decode cX1_goToPart 71 = .ok (.iload_n 1, 1) := by decide +kernel
theorem dX1_goToPart_72 : decode cX1_goToPart 72 = .ok (.iaload, 1) := by decide +kernel
theorem dX1_goToPart_73 : decode cX1_goToPart 73 = .ok (.putfield 35, 3) := by decide +kernel
theorem dX1_goToPart_76 : decode cX1_goToPart 76 = .ok (.return_, 1) := by decide +kernel
theorem dX1_partWith_0 : decode cX1_partWith 0 = .ok (.iconst 0, 1) := by decide +kernel
theorem dX1_partWith_1 : decode cX1_partWith 1 = .ok (.istore_n 2, 1) := by decide +kernel
theorem dX1_partWith_2 : decode cX1_partWith 2 = .ok (.iconst 0, 1) := by decide +kernel
theorem dX1_partWith_3 : decode cX1_partWith 3 = .ok (.istore_n 3, 1) := by decide +kernel
theorem dX1_partWith_4 : decode cX1_partWith 4 = .ok (.iload_n 3, 1) := by decide +kernel
theorem dX1_partWith_5 : decode cX1_partWith 5 = .ok (.aload_n 0, 1) := by decide +kernel
theorem dX1_partWith_6 : decode cX1_partWith 6 = .ok (.getfield 22, 3) := by decide +kernel
theorem dX1_partWith_9 : decode cX1_partWith 9 = .ok (.if_icmp .ge 25, 3) := by decide +kernel
theorem dX1_partWith_12 : decode cX1_partWith 12 = .ok (.iload_n 2, 1) := by decide +kernel
theorem dX1_partWith_13 : decode cX1_partWith 13 = .ok (.aload_n 0, 1) := by decide +kernel
theorem dX1_partWith_14 : decode cX1_partWith 14 = .ok (.getfield 15, 3) := by decide +kernel
theorem dX1_partWith_17 : decode cX1_partWith 17 = .ok (.iload_n 3, 1) := by decide +kernel
theorem dX1_partWith_18 : decode cX1_partWith 18 = .ok (.iaload, 1) := by decide +kernel
theorem dX1_partWith_19 : decode cX1_partWith 19 = .ok (.iadd, 1) := by decide +kernel
theorem dX1_partWith_20 : decode cX1_partWith 20 = .ok (.istore_n 2, 1) := by decide +kernel
theorem dX1_partWith_21 : decode cX1_partWith 21 = .ok (.iload_n 1, 1) := by decide +kernel
theorem dX1_partWith_22 : decode cX1_partWith 22 = .ok (.iload_n 2, 1) := by decide +kernel
theorem dX1_partWith_23 : decode cX1_partWith 23 = .ok (.if_icmp .ge 5, 3) := by decide +kernel
theorem dX1_partWith_26 : decode cX1_partWith 26 = .ok (.iload_n 3, 1) := by decide +kernel
theorem dX1_partWith_27 : decode cX1_partWith 27 = .ok (.ireturn, 1) := by decide +kernel
theorem dX1_partWith_28 : decode cX1_partWith 28 = .ok (.iinc 3 1, 3) := by decide +kernel
theorem dX1_partWith_31 : decode cX1_partWith 31 = .ok (.goto (-27), 3) := by decide +kernel
theorem dX1_partWith_34 : decode cX1_partWith 34 = .ok (.aload_n 0, 1) := by decide +kernel
theorem dX1_partWith_35 : decode cX1_partWith 35 = .ok (.getfield 22, 3) := by decide +kernel
theorem dX1_partWith_38 : decode cX1_partWith 38 = .ok (.iconst 1, 1) := by decide +kernel
theorem dX1_partWith_39 : decode cX1_partWith 39 = .ok (.isub, 1) := by decide +kernel
theorem dX1_partWith_40 : decode cX1_partWith 40 = .ok (.ireturn, 1) := by decide +kernel
theorem dX1_addPart_0 : decode cX1_addPart 0 = .ok (.iload_n 2, 1) := by decide +kernel
theorem dX1_addPart_1 : decode cX1_addPart 1 = .ok (.ifCond .le 45, 3) := by decide +kernel
theorem dX1_addPart_4 : decode cX1_addPart 4 = .ok (.aload_n 0, 1) := by decide +kernel
theorem dX1_addPart_5 : decode cX1_addPart 5 = .ok (.getfield 22, 3) := by decide +kernel
theorem dX1_addPart_8 : decode cX1_addPart 8 = .ok (.aload_n 0, 1) := by decide +kernel
theorem dX1_addPart_9 : decode cX1_addPart 9 = .ok (.getfield 9, 3) := by decide +kernel
theorem dX1_addPart_12 : decode cX1_addPart 12 = .ok (.arraylength, 1) := by decide +kernel
theorem dX1_addPart_13 : decode cX1_addPart 13 = .ok (.if_icmp .ge 33, 3) := by decide +kernel
theorem dX1_addPart_16 : decode cX1_addPart 16 = .ok (.aload_n 0, 1) := by decide +kernel
theorem dX1_addPart_17 : decode cX1_addPart 17 = .ok (.getfield 9, 3) := by decide +kernel
theorem dX1_addPart_20 : decode cX1_addPart 20 = .ok (.aload_n 0, 1) := by decide +kernel
theorem dX1_addPart_21 : decode cX1_addPart 21 = .ok (.getfield 22, 3) := by decide +kernel
theorem dX1_addPart_24 : decode cX1_addPart 24 = .ok (.iload_n 1, 1) := by decide +kernel
theorem dX1_addPart_25 : decode cX1_addPart 25 = .ok (.iastore, 1) := by decide +kernel
theorem dX1_addPart_26 : decode cX1_addPart 26 = .ok (.aload_n 0, 1) := by decide +kernel
theorem dX1_addPart_27 : decode cX1_addPart 27 = .ok (.getfield 15, 3) := by decide +kernel
theorem dX1_addPart_30 : decode cX1_addPart 30 = .ok (.aload_n 0, 1) := by decide +kernel
theorem dX1_addPart_31 : decode cX1_addPart 31 = .ok (.getfield 22, 3) := by decide +kernel
theorem dX1_addPart_34 : decode cX1_addPart 34 = .ok (.iload_n 2, 1) := by decide +kernel
theorem dX1_addPart_35 : decode cX1_addPart 35 = .ok (.iastore, 1) := by decide +kernel
theorem dX1_addPart_36 : decode cX1_addPart 36 = .ok (.aload_n 0, 1) := by decide +kernel
theorem dX1_addPart_37 : decode cX1_addPart 37 = .ok (.dup, 1) := by decide +kernel
theorem dX1_addPart_38 : decode cX1_addPart 38 = .ok (.getfield 22, 3) := by decide +kernel
theorem dX1_addPart_41 : decode cX1_addPart 41 = .ok (.iconst 1, 1) := by decide +kernel
theorem dX1_addPart_42 : decode cX1_addPart 42 = .ok (.iadd, 1) := by decide +kernel
theorem dX1_addPart_43 : decode cX1_addPart 43 = .ok (.putfield 22, 3) := by decide +kernel
theorem dX1_addPart_46 : decode cX1_addPart 46 = .ok (.return_, 1) := by decide +kernel
theorem dX1_lookAt_0 : decode cX1_lookAt 0 = .ok (.aload_n 0, 1) := by decide +kernel
theorem dX1_lookAt_1 : decode cX1_lookAt 1 = .ok (.iload_n 1, 1) := by decide +kernel
theorem dX1_lookAt_2 : decode cX1_lookAt 2 = .ok (.putfield 26, 3) := by decide +kernel
theorem dX1_lookAt_5 : decode cX1_lookAt 5 = .ok (.aload_n 0, 1) := by decide +kernel
theorem dX1_lookAt_6 : decode cX1_lookAt 6 = .ok (.iconst 0, 1) := by decide +kernel
theorem dX1_lookAt_7 : decode cX1_lookAt 7 = .ok (.putfield 22, 3) := by decide +kernel
theorem dX1_lookAt_10 : decode cX1_lookAt 10 = .ok (.aload_n 0, 1) := by decide +kernel
theorem dX1_lookAt_11 : decode cX1_lookAt 11 = .ok (.getfield 18, 3) := by decide +kernel
theorem dX1_lookAt_14 : decode cX1_lookAt 14 = .ok (.iload_n 1, 1) := by decide +kernel
theorem dX1_lookAt_15 : decode cX1_lookAt 15 = .ok (.invokevirtual 48, 3) := by decide +kernel
theorem dX1_lookAt_18 : decode cX1_lookAt 18 = .ok (.iload_n 1, 1) := by decide +kernel
theorem dX1_lookAt_19 : decode cX1_lookAt 19 = .ok (.isub, 1) := by decide +kernel
theorem dX1_lookAt_20 : decode cX1_lookAt 20 = .ok (.istore_n 2, 1) := by decide +kernel
theorem dX1_lookAt_21 : decode cX1_lookAt 21 = .ok (.aload_n 0, 1) := by decide +kernel
theorem dX1_lookAt_22 : decode cX1_lookAt 22 = .ok (.getfield 18, 3) := by decide +kernel
theorem dX1_lookAt_25 : decode cX1_lookAt 25 = .ok (.iload_n 1, 1) := by decide +kernel
theorem dX1_lookAt_26 : decode cX1_lookAt 26 = .ok (.invokevirtual 70, 3) := by decide +kernel
theorem dX1_lookAt_29 : decode cX1_lookAt 29 = .ok (.istore_n 3, 1) := by decide +kernel
theorem dX1_lookAt_30 : decode cX1_lookAt 30 = .ok (.iload_n 3, 1) := by decide +kernel
theorem dX1_lookAt_31 : decode cX1_lookAt 31 = .ok (.ifCond .ge 21, 3) := by decide +kernel
theorem dX1_lookAt_34 : decode cX1_lookAt 34 = .ok (.aload_n 0, 1) := by decide +kernel
theorem dX1_lookAt_35 : decode cX1_lookAt 35 = .ok (.iload_n 3, 1) := by decide +kernel
theorem dX1_lookAt_36 : decode cX1_lookAt 36 = .ok (.iconst (-1), 1) := by decide +kernel
theorem dX1_lookAt_37 : decode cX1_lookAt 37 = .ok (.if_icmp .ne 7, 3) := by decide +kernel
theorem dX1_lookAt_40 : decode cX1_lookAt 40 = .ok (.iconst 0, 1) := by decide +kernel
theorem dX1_lookAt_41 : decode cX1_lookAt 41 = .ok (.goto 4, 3) := by decide +kernel
theorem dX1_lookAt_44 : decode cX1_lookAt 44 = .ok (.iconst 1, 1) := by decide +kernel
theorem dX1_lookAt_45 : decode cX1_lookAt 45 = .ok (.iload_n 2, 1) := by decide +kernel
theorem dX1_lookAt_46 : decode cX1_lookAt 46 = .ok (.invokevirtual 73, 3) := by decide +kernel
theorem dX1_lookAt_49 : decode cX1_lookAt 49 = .ok (.goto 82, 3) := by decide +kernel
theorem dX1_lookAt_52 : decode cX1_lookAt 52 = .ok (.aload_n 0, 1) := by decide +kernel
theorem dX1_lookAt_53 : decode cX1_lookAt 53 = .ok (.getfield 18, 3) := by decide +kernel
theorem dX1_lookAt_56 : decode cX1_lookAt 56 = .ok (.iload_n 1, 1) := by decide +kernel
theorem dX1_lookAt_57 : decode cX1_lookAt 57 = .ok (.invokevirtual 77, 3) := by decide +kernel
theorem dX1_lookAt_60 : decode cX1_lookAt 60 = .ok (.ifCond .ne 23, 3) := by decide +kernel
theorem dX1_lookAt_63 : decode cX1_lookAt 63 = .ok (.aload_n 0, 1) := by decide +kernel
theorem dX1_lookAt_64 : decode cX1_lookAt 64 = .ok (.iload_n 1, 1) := by decide +kernel
theorem dX1_lookAt_65 : decode cX1_lookAt 65 = .ok (.bipush 64, 2) := by decide +kernel
theorem dX1_lookAt_67 : decode cX1_lookAt 67 = .ok (.irem, 1) := by decide +kernel
theorem dX1_lookAt_68 : decode cX1_lookAt 68 = .ok (.ifCond .ne 7, 3) := by decide +kernel
theorem dX1_lookAt_71 : decode cX1_lookAt 71 = .ok (.iconst 2, 1) := by decide +kernel
theorem dX1_lookAt_72 : decode cX1_lookAt 72 = .ok (.goto 4, 3) := by decide +kernel
theorem dX1_lookAt_75 : decode cX1_lookAt 75 = .ok (.iconst 5, 1) := by decide +kernel
theorem dX1_lookAt_76 : decode cX1_lookAt 76 = .ok (.iload_n 2, 1) := by decide +kernel
theorem dX1_lookAt_77 : decode cX1_lookAt 77 = .ok (.invokevirtual 73, 3) := by decide +kernel
theorem dX1_lookAt_80 : decode cX1_lookAt 80 = .ok (.goto 51, 3) := by decide +kernel
theorem dX1_lookAt_83 : decode cX1_lookAt 83 = .ok (.aload_n 0, 1) := by decide +kernel
theorem dX1_lookAt_84 : decode cX1_lookAt 84 = .ok (.getfield 18, 3) := by decide +kernel
theorem dX1_lookAt_87 : decode cX1_lookAt 87 = .ok (.iload_n 3, 1) := by decide +kernel
theorem dX1_lookAt_88 : decode cX1_lookAt 88 = .ok (.invokevirtual 80, 3) := by decide +kernel
theorem dX1_lookAt_91 : decode cX1_lookAt 91 = .ok (.ifCond .eq 19, 3) := by decide +kernel
theorem dX1_lookAt_94 : decode cX1_lookAt 94 = .ok (.aload_n 0, 1) := by decide +kernel
theorem dX1_lookAt_95 : decode cX1_lookAt 95 = .ok (.aload_n 0, 1) := by decide +kernel
theorem dX1_lookAt_96 : decode cX1_lookAt 96 = .ok (.getfield 18, 3) := by decide +kernel
theorem dX1_lookAt_99 : decode cX1_lookAt 99 = .ok (.iload_n 1, 1) := by decide +kernel
theorem dX1_lookAt_100 : decode cX1_lookAt 100 = .ok (.invokevirtual 64, 3) := by decide +kernel
theorem dX1_lookAt_103 : decode cX1_lookAt 103 = .ok (.iload_n 2, 1) := by decide +kernel
theorem dX1_lookAt_104 : decode cX1_lookAt 104 = .ok (.invokevirtual 84, 3) := by decide +kernel
theorem dX1_lookAt_107 : decode cX1_lookAt 107 = .ok (.goto 24, 3) := by decide +kernel
theorem dX1_lookAt_110 : decode cX1_lookAt 110 = .ok (.aload_n 0, 1) := by decide +kernel
theorem dX1_lookAt_111 : decode cX1_lookAt 111 = .ok (.aload_n 0, 1) := by decide +kernel
theorem dX1_lookAt_112 : decode cX1_lookAt 112 = .ok (.getfield 18, 3) := by decide +kernel
theorem dX1_lookAt_115 : decode cX1_lookAt 115 = .ok (.iload_n 1, 1) := by decide +kernel
theorem dX1_lookAt_116 : decode cX1_lookAt 116 = .ok (.invokevirtual 64, 3) := by decide +kernel
theorem dX1_lookAt_119 : decode cX1_lookAt 119 = .ok (.ifCond .lt 7, 3) := by decide +kernel
theorem dX1_lookAt_122 : decode cX1_lookAt 122 = .ok (.iconst 3, 1) := by decide +kernel
theorem dX1_lookAt_123 : decode cX1_lookAt 123 = .ok (.goto 4, 3) := by decide +kernel
theorem dX1_lookAt_126 : decode cX1_lookAt 126 = .ok (.iconst 4, 1) := by decide +kernel
theorem dX1_lookAt_127 : decode cX1_lookAt 127 = .ok (.iload_n 2, 1) := by decide +kernel
theorem dX1_lookAt_128 : decode cX1_lookAt 128 = .ok (.invokevirtual 73, 3) := by decide +kernel
theorem dX1_lookAt_131 : decode cX1_lookAt 131 = .ok (.return_, 1) := by decide +kernel
theorem dX1_addRowParts_0 : decode cX1_addRowParts 0 = .ok (.aload_n 0, 1) := by decide +kernel
theorem dX1_addRowParts_1 : decode cX1_addRowParts 1 = .ok (.iconst 2, 1) := by decide +kernel
theorem dX1_addRowParts_2 : decode cX1_addRowParts 2 = .ok (.iconst 1, 1) := by decide +kernel
theorem dX1_addRowParts_3 : decode cX1_addRowParts 3 = .ok (.invokevirtual 73, 3) := by decide +kernel
theorem dX1_addRowParts_6 : decode cX1_addRowParts 6 = .ok (.iload_n 1, 1) := by decide +kernel
theorem dX1_addRowParts_7 : decode cX1_addRowParts 7 = .ok (.ifCond .ge 14, 3) := by decide +kernel
theorem dX1_addRowParts_10 : decode cX1_addRowParts 10 = .ok (.aload_n 0, 1) := by decide +kernel
theorem dX1_addRowParts_11 : decode cX1_addRowParts 11 = .ok (.iconst 4, 1) := by decide +kernel
theorem dX1_addRowParts_12 : decode cX1_addRowParts 12 = .ok (.iload_n 2, 1) := by decide +kernel
theorem dX1_addRowParts_13 : decode cX1_addRowParts 13 = .ok (.iconst 1, 1) := by decide +kernel
theorem dX1_addRowParts_14 : decode cX1_addRowParts 14 = .ok (.isub, 1) := by decide +kernel
theorem dX1_addRowParts_15 : decode cX1_addRowParts 15 = .ok (.invokevirtual 73, 3) := by decide +kernel
theorem dX1_addRowParts_18 : decode cX1_addRowParts 18 = .ok (.goto 59, 3) := by decide +kernel
theorem dX1_addRowParts_21 : decode cX1_addRowParts 21 = .ok (.aload_n 0, 1) := by decide +kernel
theorem dX1_addRowParts_22 : decode cX1_addRowParts 22 = .ok (.getfield 18, 3) := by decide +kernel
theorem dX1_addRowParts_25 : decode cX1_addRowParts 25 = .ok (.iload_n 1, 1) := by decide +kernel
theorem dX1_addRowParts_26 : decode cX1_addRowParts 26 = .ok (.invokevirtual 87, 3) := by decide +kernel
theorem dX1_addRowParts_29 : decode cX1_addRowParts 29 = .ok (.ifCond .eq 34, 3) := by decide +kernel
theorem dX1_addRowParts_32 : decode cX1_addRowParts 32 = .ok (.aload_n 0, 1) := by decide +kernel
theorem dX1_addRowParts_33 : decode cX1_addRowParts 33 = .ok (.bipush 6, 2) := by decide +kernel
theorem dX1_addRowParts_35 : decode cX1_addRowParts 35 = .ok (.iconst 1, 1) := by decide +kernel
theorem dX1_addRowParts_36 : decode cX1_addRowParts 36 = .ok (.invokevirtual 73, 3) := by decide +kernel
theorem dX1_addRowParts_39 : decode cX1_addRowParts 39 = .ok (.aload_n 0, 1) := by decide +kernel
theorem dX1_addRowParts_40 : decode cX1_addRowParts 40 = .ok (.iconst 3, 1) := by decide +kernel
theorem dX1_addRowParts_41 : decode cX1_addRowParts 41 = .ok (.aload_n 0, 1) := by decide +kernel
theorem dX1_addRowParts_42 : decode cX1_addRowParts 42 = .ok (.getfield 18, 3) := by decide +kernel
theorem dX1_addRowParts_45 : decode cX1_addRowParts 45 = .ok (.getfield 90, 3) := by decide +kernel
theorem dX1_addRowParts_48 : decode cX1_addRowParts 48 = .ok (.iload_n 1, 1) := by decide +kernel
theorem dX1_addRowParts_49 : decode cX1_addRowParts 49 = .ok (.iaload, 1) := by decide +kernel
theorem dX1_addRowParts_50 : decode cX1_addRowParts 50 = .ok (.invokevirtual 73, 3) := by decide +kernel
theorem dX1_addRowParts_53 : decode cX1_addRowParts 53 = .ok (.aload_n 0, 1) := by decide +kernel
theorem dX1_addRowParts_54 : decode cX1_addRowParts 54 = .ok (.bipush 6, 2) := by decide +kernel
theorem dX1_addRowParts_56 : decode cX1_addRowParts 56 = .ok (.iconst 1, 1) := by decide +kernel
theorem dX1_addRowParts_57 : decode cX1_addRowParts 57 = .ok (.invokevirtual 73, 3) := by decide +kernel
theorem dX1_addRowParts_60 : decode cX1_addRowParts 60 = .ok (.goto 17, 3) := by decide +kernel
theorem dX1_addRowParts_63 : decode cX1_addRowParts 63 = .ok (.aload_n 0, 1) := by decide +kernel
theorem dX1_addRowParts_64 : decode cX1_addRowParts 64 = .ok (.iconst 3, 1) := by decide +kernel
theorem dX1_addRowParts_65 : decode cX1_addRowParts 65 = .ok (.aload_n 0, 1) := by decide +kernel
theorem dX1_addRowParts_66 : decode cX1_addRowParts 66 = .ok (.getfield 18, 3) := by decide +kernel
theorem dX1_addRowParts_69 : decode cX1_addRowParts 69 = .ok (.getfield 90, 3) := by decide +kernel
theorem dX1_addRowParts_72 : decode cX1_addRowParts 72 = .ok (.iload_n 1, 1) := by decide +kernel
theorem dX1_addRowParts_73 : decode cX1_addRowParts 73 = .ok (.iaload, 1) := by decide +kernel
theorem dX1_addRowParts_74 : decode cX1_addRowParts 74 = .ok (.invokevirtual 73, 3) := by decide +kernel
theorem dX1_addRowParts_77 : decode cX1_addRowParts 77 = .ok (.return_, 1) := by decide +kernel
theorem dX2_init_0 : decode cX2_init 0 = .ok (.aload_n 0, 1) := by decide +kernel
theorem dX2_init_1 : decode cX2_init 1 = .ok (.invokespecial 1, 3) := by decide +kernel
theorem dX2_init_4 : decode cX2_init 4 = .ok (.aload_n 0, 1) := by decide +kernel
theorem dX2_init_5 : decode cX2_init 5 = .ok (.aload_n 1, 1) := by decide +kernel
theorem dX2_init_6 : decode cX2_init 6 = .ok (.putfield 7, 3) := by decide +kernel
theorem dX2_init_9 : decode cX2_init 9 = .ok (.return_, 1) := by decide +kernel
theorem dX3_init_0 : decode cX3_init 0 = .ok (.aload_n 0, 1) := by decide +kernel
theorem dX3_init_1 : decode cX3_init 1 = .ok (.invokespecial 3, 3) := by decide +kernel
theorem dX3_init_4 : decode cX3_init 4 = .ok (.aload_n 0, 1) := by decide +kernel
theorem dX3_init_5 : decode cX3_init 5 = .ok (.bipush 40, 2) := by decide +kernel
theorem dX3_init_7 : decode cX3_init 7 = .ok (.newarray .int, 2) := by decide +kernel
theorem dX3_init_9 : decode cX3_init 9 = .ok (.putfield 9, 3) := by decide +kernel
theorem dX3_init_12 : decode cX3_init 12 = .ok (.aload_n 0, 1) := by decide +kernel
theorem dX3_init_13 : decode cX3_init 13 = .ok (.sipush 2560, 3) := by decide +kernel
theorem dX3_init_16 : decode cX3_init 16 = .ok (.newarray .long, 2) := by decide +kernel
theorem dX3_init_18 : decode cX3_init 18 = .ok (.putfield 15, 3) := by decide +kernel
theorem dX3_init_21 : decode cX3_init 21 = .ok (.aload_n 0, 1) := by decide +kernel
theorem dX3_init_22 : decode cX3_init 22 = .ok (.sipush 2560, 3) := by decide +kernel
theorem dX3_init_25 : decode cX3_init 25 = .ok (.newarray .int, 2) := by decide +kernel
theorem dX3_init_27 : decode cX3_init 27 = .ok (.putfield 19, 3) := by decide +kernel
theorem dX3_init_30 : decode cX3_init 30 = .ok (.aload_n 0, 1) := by decide +kernel
theorem dX3_init_31 : decode cX3_init 31 = .ok (.bipush 8, 2) := by decide +kernel
theorem dX3_init_33 : decode cX3_init 33 = .ok (.newarray .int, 2) := by decide +kernel
theorem dX3_init_35 : decode cX3_init 35 = .ok (.putfield 22, 3) := by decide +kernel
theorem dX3_init_38 : decode cX3_init 38 = .ok (.aload_n 0, 1) := by decide +kernel
theorem dX3_init_39 : decode cX3_init 39 = .ok (.bipush 8, 2) := by decide +kernel
theorem dX3_init_41 : decode cX3_init 41 = .ok (.newarray .long, 2) := by decide +kernel
theorem dX3_init_43 : decode cX3_init 43 = .ok (.putfield 25, 3) := by decide +kernel
theorem dX3_init_46 : decode cX3_init 46 = .ok (.aload_n 0, 1) := by decide +kernel
theorem dX3_init_47 : decode cX3_init 47 = .ok (.bipush 100, 2) := by decide +kernel
theorem dX3_init_49 : decode cX3_init 49 = .ok (.newarray .int, 2) := by decide +kernel
theorem dX3_init_51 : decode cX3_init 51 = .ok (.putfield 28, 3) := by decide +kernel
theorem dX3_init_54 : decode cX3_init 54 = .ok (.aload_n 0, 1) := by decide +kernel
theorem dX3_init_55 : decode cX3_init 55 = .ok (.bipush 100, 2) := by decide +kernel
theorem dX3_init_57 : decode cX3_init 57 = .ok (.newarray .int, 2) := by decide +kernel
theorem dX3_init_59 : decode cX3_init 59 = .ok (.putfield 31, 3) := by decide +kernel
theorem dX3_init_62 : decode cX3_init 62 = .ok (.aload_n 0, 1) := by decide +kernel
theorem dX3_init_63 : decode cX3_init 63 = .ok (.bipush 100, 2) := by decide +kernel
theorem dX3_init_65 : decode cX3_init 65 = .ok (.newarray .int, 2) := by decide +kernel
theorem dX3_init_67 : decode cX3_init 67 = .ok (.putfield 34, 3) := by decide +kernel
theorem dX3_init_70 : decode cX3_init 70 = .ok (.aload_n 0, 1) := by decide +kernel
theorem dX3_init_71 : decode cX3_init 71 = .ok (.bipush 100, 2) := by decide +kernel
theorem dX3_init_73 : decode cX3_init 73 = .ok (.newarray .int, 2) := by decide +kernel
theorem dX3_init_75 : decode cX3_init 75 = .ok (.putfield 37, 3) := by decide +kernel
theorem dX3_init_78 : decode cX3_init 78 = .ok (.aload_n 0, 1) := by decide +kernel
theorem dX3_init_79 : decode cX3_init 79 = .ok (.bipush 100, 2) := by decide +kernel
theorem dX3_init_81 : decode cX3_init 81 = .ok (.newarray .int, 2) := by decide +kernel
theorem dX3_init_83 : decode cX3_init 83 = .ok (.putfield 40, 3) := by decide +kernel
theorem dX3_init_86 : decode cX3_init 86 = .ok (.aload_n 0, 1) := by decide +kernel
theorem dX3_init_87 : decode cX3_init 87 = .ok (.iconst 4, 1) := by decide +kernel
theorem dX3_init_88 : decode cX3_init 88 = .ok (.newarray .int, 2) := by decide +kernel
theorem dX3_init_90 : decode cX3_init 90 = .ok (.putfield 43, 3) := by decide +kernel
theorem dX3_init_93 : decode cX3_init 93 = .ok (.aload_n 0, 1) := by decide +kernel
theorem dX3_init_94 : decode cX3_init 94 = .ok (.iconst 0, 1) := by decide +kernel
theorem dX3_init_95 : decode cX3_init 95 = .ok (.putfield 46, 3) := by decide +kernel
theorem dX3_init_98 : decode cX3_init 98 = .ok (.aload_n 0, 1) := by decide +kernel
theorem dX3_init_99 : decode cX3_init 99 = .ok (.iconst 0, 1) := by decide +kernel
theorem dX3_init_100 : decode cX3_init 100 = .ok (.putfield 50, 3) := by decide +kernel
theorem dX3_init_103 : decode cX3_init 103 = .ok (.aload_n 0, 1) := by decide +kernel
theorem dX3_init_104 : decode cX3_init 104 = .ok (.getfield 31, 3) := by decide +kernel
theorem dX3_init_107 : decode cX3_init 107 = .ok (.iconst (-1), 1) := by decide +kernel
theorem dX3_init_108 : decode cX3_init 108 = .ok (.invokestatic 53, 3) := by decide +kernel
theorem dX3_init_111 : decode cX3_init 111 = .ok (.return_, 1) := by decide +kernel
theorem dX3_beginAnew_0 : decode cX3_beginAnew 0 = .ok (.aload_n 0, 1) := by decide +kernel
theorem dX3_beginAnew_1 : decode cX3_beginAnew 1 = .ok (.iload_n 1, 1) := by decide +kernel
theorem dX3_beginAnew_2 : decode cX3_beginAnew 2 = .ok (.putfield 46, 3) := by decide +kernel
theorem dX3_beginAnew_5 : decode cX3_beginAnew 5 = .ok (.aload_n 0, 1) := by decide +kernel
theorem dX3_beginAnew_6 : decode cX3_beginAnew 6 = .ok (.iconst 0, 1) := by decide +kernel
theorem dX3_beginAnew_7 : decode cX3_beginAnew 7 = .ok (.putfield 50, 3) := by decide +kernel
theorem dX3_beginAnew_10 : decode cX3_beginAnew 10 = .ok (.aload_n 0, 1) := by decide +kernel
theorem dX3_beginAnew_11 : decode cX3_beginAnew 11 = .ok (.getfield 9, 3) := by decide +kernel
theorem dX3_beginAnew_14 : decode cX3_beginAnew 14 = .ok (.iconst (-1), 1) := by decide +kernel
theorem dX3_beginAnew_15 : decode cX3_beginAnew 15 = .ok (.invokestatic 53, 3) := by decide +kernel
theorem dX3_beginAnew_18 : decode cX3_beginAnew 18 = .ok (.aload_n 0, 1) := by decide +kernel
theorem dX3_beginAnew_19 : decode cX3_beginAnew 19 = .ok (.getfield 15, 3) := by decide +kernel
theorem dX3_beginAnew_22 : decode cX3_beginAnew 22 = .ok (.lconst 0, 1) := by decide +kernel
theorem dX3_beginAnew_23 : decode cX3_beginAnew 23 = .ok (.invokestatic 59, 3) := by decide +kernel
theorem dX3_beginAnew_26 : decode cX3_beginAnew 26 = .ok (.aload_n 0, 1) := by decide +kernel
theorem dX3_beginAnew_27 : decode cX3_beginAnew 27 = .ok (.getfield 19, 3) := by decide +kernel
theorem dX3_beginAnew_30 : decode cX3_beginAnew 30 = .ok (.iconst 0, 1) := by decide +kernel
theorem dX3_beginAnew_31 : decode cX3_beginAnew 31 = .ok (.invokestatic 53, 3) := by decide +kernel
theorem dX3_beginAnew_34 : decode cX3_beginAnew 34 = .ok (.aload_n 0, 1) := by decide +kernel
theorem dX3_beginAnew_35 : decode cX3_beginAnew 35 = .ok (.getfield 28, 3) := by decide +kernel
theorem dX3_beginAnew_38 : decode cX3_beginAnew 38 = .ok (.iconst 0, 1) := by decide +kernel
theorem dX3_beginAnew_39 : decode cX3_beginAnew 39 = .ok (.invokestatic 53, 3) := by decide +kernel
theorem dX3_beginAnew_42 : decode cX3_beginAnew 42 = .ok (.aload_n 0, 1) := by decide +kernel
theorem dX3_beginAnew_43 : decode cX3_beginAnew 43 = .ok (.getfield 31, 3) := by decide +kernel
theorem dX3_beginAnew_46 : decode cX3_beginAnew 46 = .ok (.iconst (-1), 1) := by decide +kernel
theorem dX3_beginAnew_47 : decode cX3_beginAnew 47 = .ok (.invokestatic 53, 3) := by decide +kernel
theorem dX3_beginAnew_50 : decode cX3_beginAnew 50 = .ok (.aload_n 0, 1) := by decide +kernel
theorem dX3_beginAnew_51 : decode cX3_beginAnew 51 = .ok (.getfield 43, 3) := by decide +kernel
theorem dX3_beginAnew_54 : decode cX3_beginAnew 54 = .ok (.iconst 0, 1) := by decide +kernel
theorem dX3_beginAnew_55 : decode cX3_beginAnew 55 = .ok (.invokestatic 53, 3) := by decide +kernel
theorem dX3_beginAnew_58 : decode cX3_beginAnew 58 = .ok (.return_, 1) := by decide +kernel
theorem dX3_become_0 : decode cX3_become 0 = .ok (.aload_n 0, 1) := by decide +kernel
theorem dX3_become_1 : decode cX3_become 1 = .ok (.aload_n 1, 1) := by decide +kernel
theorem dX3_become_2 : decode cX3_become 2 = .ok (.getfield 46, 3) := by decide +kernel
theorem dX3_become_5 : decode cX3_become 5 = .ok (.putfield 46, 3) := by decide +kernel
theorem dX3_become_8 : decode cX3_become 8 = .ok (.aload_n 0, 1) := by decide +kernel
theorem dX3_become_9 : decode cX3_become 9 = .ok (.aload_n 1, 1) := by decide +kernel
theorem dX3_become_10 : decode cX3_become 10 = .ok (.getfield 50, 3) := by decide +kernel
theorem dX3_become_13 : decode cX3_become 13 = .ok (.putfield 50, 3) := by decide +kernel
theorem dX3_become_16 : decode cX3_become 16 = .ok (.aload_n 1, 1) := by decide +kernel
theorem dX3_become_17 : decode cX3_become 17 = .ok (.getfield 9, 3) := by decide +kernel
theorem dX3_become_20 : decode cX3_become 20 = .ok (.iconst 0, 1) := by decide +kernel
theorem dX3_become_21 : decode cX3_become 21 = .ok (.aload_n 0, 1) := by decide +kernel
theorem dX3_become_22 : decode cX3_become 22 = .ok (.getfield 9, 3) := by decide +kernel
theorem dX3_become_25 : decode cX3_become 25 = .ok (.iconst 0, 1) := by decide +kernel
theorem dX3_become_26 : decode cX3_become 26 = .ok (.bipush 40, 2) := by decide +kernel
theorem dX3_become_28 : decode cX3_become 28 = .ok (.invokestatic 62, 3) := by decide +kernel
theorem dX3_become_31 : decode cX3_become 31 = .ok (.aload_n 1, 1) := by decide +kernel
theorem dX3_become_32 : decode cX3_become 32 = .ok (.getfield 15, 3) := by decide +kernel
theorem dX3_become_35 : decode cX3_become 35 = .ok (.iconst 0, 1) := by decide +kernel
theorem dX3_become_36 : decode cX3_become 36 = .ok (.aload_n 0, 1) := by decide +kernel
theorem dX3_become_37 : decode cX3_become 37 = .ok (.getfield 15, 3) := by decide +kernel
theorem dX3_become_40 : decode cX3_become 40 = .ok (.iconst 0, 1) := by decide +kernel
theorem dX3_become_41 : decode cX3_become 41 = .ok (.sipush 2560, 3) := by decide +kernel
theorem dX3_become_44 : decode cX3_become 44 = .ok (.invokestatic 62, 3) := by decide +kernel
theorem dX3_become_47 : decode cX3_become 47 = .ok (.aload_n 1, 1) := by decide +kernel
theorem dX3_become_48 : decode cX3_become 48 = .ok (.getfield 19, 3) := by decide +kernel
theorem dX3_become_51 : decode cX3_become 51 = .ok (.iconst 0, 1) := by decide +kernel
theorem dX3_become_52 : decode cX3_become 52 = .ok (.aload_n 0, 1) := by decide +kernel
theorem dX3_become_53 : decode cX3_become 53 = .ok (.getfield 19, 3) := by decide +kernel
theorem dX3_become_56 : decode cX3_become 56 = .ok (.iconst 0, 1) := by decide +kernel
theorem dX3_become_57 : decode cX3_become 57 = .ok (.sipush 2560, 3) := by decide +kernel
theorem dX3_become_60 : decode cX3_become 60 = .ok (.invokestatic 62, 3) := by decide +kernel
theorem dX3_become_63 : decode cX3_become 63 = .ok (.aload_n 1, 1) := by decide +kernel
theorem dX3_become_64 : decode cX3_become 64 = .ok (.getfield 22, 3) := by decide +kernel
theorem dX3_become_67 : decode cX3_become 67 = .ok (.iconst 0, 1) := by decide +kernel
theorem dX3_become_68 : decode cX3_become 68 = .ok (.aload_n 0, 1) := by decide +kernel
theorem dX3_become_69 : decode cX3_become 69 = .ok (.getfield 22, 3) := by decide +kernel
theorem dX3_become_72 : decode cX3_become 72 = .ok (.iconst 0, 1) := by decide +kernel
theorem dX3_become_73 : decode cX3_become 73 = .ok (.bipush 8, 2) := by decide +kernel
theorem dX3_become_75 : decode cX3_become 75 = .ok (.invokestatic 62, 3) := by decide +kernel
theorem dX3_become_78 : decode cX3_become 78 = .ok (.aload_n 1, 1) := by decide +kernel
theorem dX3_become_79 : decode cX3_become 79 = .ok (.getfield 25, 3) := by decide +kernel
theorem dX3_become_82 : decode cX3_become 82 = .ok (.iconst 0, 1) := by decide +kernel
theorem dX3_become_83 : decode cX3_become 83 = .ok (.aload_n 0, 1) := by decide +kernel
theorem dX3_become_84 : decode cX3_become 84 = .ok (.getfield 25, 3) := by decide +kernel
theorem dX3_become_87 : decode cX3_become 87 = .ok (.iconst 0, 1) := by decide +kernel
theorem dX3_become_88 : decode cX3_become 88 = .ok (.bipush 8, 2) := by decide +kernel
theorem dX3_become_90 : decode cX3_become 90 = .ok (.invokestatic 62, 3) := by decide +kernel
theorem dX3_become_93 : decode cX3_become 93 = .ok (.aload_n 1, 1) := by decide +kernel
theorem dX3_become_94 : decode cX3_become 94 = .ok (.getfield 28, 3) := by decide +kernel
theorem dX3_become_97 : decode cX3_become 97 = .ok (.iconst 0, 1) := by decide +kernel
theorem dX3_become_98 : decode cX3_become 98 = .ok (.aload_n 0, 1) := by decide +kernel
theorem dX3_become_99 : decode cX3_become 99 = .ok (.getfield 28, 3) := by decide +kernel
theorem dX3_become_102 : decode cX3_become 102 = .ok (.iconst 0, 1) := by decide +kernel
theorem dX3_become_103 : decode cX3_become 103 = .ok (.bipush 100, 2) := by decide +kernel
theorem dX3_become_105 : decode cX3_become 105 = .ok (.invokestatic 62, 3) := by decide +kernel
theorem dX3_become_108 : decode cX3_become 108 = .ok (.aload_n 1, 1) := by decide +kernel
theorem dX3_become_109 : decode cX3_become 109 = .ok (.getfield 31, 3) := by decide +kernel
theorem dX3_become_112 : decode cX3_become 112 = .ok (.iconst 0, 1) := by decide +kernel
theorem dX3_become_113 : decode cX3_become 113 = .ok (.aload_n 0, 1) := by decide +kernel
theorem dX3_become_114 : decode cX3_become 114 = .ok (.getfield 31, 3) := by decide +kernel
theorem dX3_become_117 : decode cX3_become 117 = .ok (.iconst 0, 1) := by decide +kernel
theorem dX3_become_118 : decode cX3_become 118 = .ok (.bipush 100, 2) := by decide +kernel
theorem dX3_become_120 : decode cX3_become 120 = .ok (.invokestatic 62, 3) := by decide +kernel
theorem dX3_become_123 : decode cX3_become 123 = .ok (.aload_n 1, 1) := by decide +kernel
theorem dX3_become_124 : decode cX3_become 124 = .ok (.getfield 34, 3) := by decide +kernel
theorem dX3_become_127 : decode cX3_become 127 = .ok (.iconst 0, 1) := by decide +kernel
theorem dX3_become_128 : decode cX3_become 128 = .ok (.aload_n 0, 1) := by decide +kernel
theorem dX3_become_129 : decode cX3_become 129 = .ok (.getfield 34, 3) := by decide +kernel
theorem dX3_become_132 : decode cX3_become 132 = .ok (.iconst 0, 1) := by decide +kernel
theorem dX3_become_133 : decode cX3_become 133 = .ok (.bipush 100, 2) := by decide +kernel
theorem dX3_become_135 : decode cX3_become 135 = .ok (.invokestatic 62, 3) := by decide +kernel
theorem dX3_become_138 : decode cX3_become 138 = .ok (.aload_n 1, 1) := by decide +kernel
theorem dX3_become_139 : decode cX3_become 139 = .ok (.getfield 37, 3) := by decide +kernel
theorem dX3_become_142 : decode cX3_become 142 = .ok (.iconst 0, 1) := by decide +kernel
theorem dX3_become_143 : decode cX3_become 143 = .ok (.aload_n 0, 1) := by decide +kernel
theorem dX3_become_144 : decode cX3_become 144 = .ok (.getfield 37, 3) := by decide +kernel
theorem dX3_become_147 : decode cX3_become 147 = .ok (.iconst 0, 1) := by decide +kernel
theorem dX3_become_148 : decode cX3_become 148 = .ok (.bipush 100, 2) := by decide +kernel
theorem dX3_become_150 : decode cX3_become 150 = .ok (.invokestatic 62, 3) := by decide +kernel
theorem dX3_become_153 : decode cX3_become 153 = .ok (.aload_n 1, 1) := by decide +kernel
theorem dX3_become_154 : decode cX3_become 154 = .ok (.getfield 40, 3) := by decide +kernel
theorem dX3_become_157 : decode cX3_become 157 = .ok (.iconst 0, 1) := by decide +kernel
theorem dX3_become_158 : decode cX3_become 158 = .ok (.aload_n 0, 1) := by decide +kernel
theorem dX3_become_159 : decode cX3_become 159 = .ok (.getfield 40, 3) := by decide +kernel
theorem dX3_become_162 : decode cX3_become 162 = .ok (.iconst 0, 1) := by decide +kernel
theorem dX3_become_163 : decode cX3_become 163 = .ok (.bipush 100, 2) := by decide +kernel
theorem dX3_become_165 : decode cX3_become 165 = .ok (.invokestatic 62, 3) := by decide +kernel
theorem dX3_become_168 : decode cX3_become 168 = .ok (.aload_n 1, 1) := by decide +kernel
theorem dX3_become_169 : decode cX3_become 169 = .ok (.getfield 43, 3) := by decide +kernel
theorem dX3_become_172 : decode cX3_become 172 = .ok (.iconst 0, 1) := by decide +kernel
theorem dX3_become_173 : decode cX3_become 173 = .ok (.aload_n 0, 1) := by decide +kernel
theorem dX3_become_174 : decode cX3_become 174 = .ok (.getfield 43, 3) := by decide +kernel
theorem dX3_become_177 : decode cX3_become 177 = .ok (.iconst 0, 1) := by decide +kernel
theorem dX3_become_178 : decode cX3_become 178 = .ok (.iconst 4, 1) := by decide +kernel
theorem dX3_become_179 : decode cX3_become 179 = .ok (.invokestatic 62, 3) := by decide +kernel
theorem dX3_become_182 : decode cX3_become 182 = .ok (.return_, 1) := by decide +kernel
theorem dX3_places_0 : decode cX3_places 0 = .ok (.aload_n 0, 1) := by decide +kernel
theorem dX3_places_1 : decode cX3_places 1 = .ok (.getfield 46, 3) := by decide +kernel
theorem dX3_places_4 : decode cX3_places 4 = .ok (.bipush 64, 2) := by decide +kernel
theorem dX3_places_6 : decode cX3_places 6 = .ok (.imul, 1) := by decide +kernel
theorem dX3_places_7 : decode cX3_places 7 = .ok (.ireturn, 1) := by decide +kernel
theorem dX3_ownerAt_0 : decode cX3_ownerAt 0 = .ok (.iload_n 1, 1) := by decide +kernel
theorem dX3_ownerAt_1 : decode cX3_ownerAt 1 = .ok (.ifCond .lt 11, 3) := by decide +kernel
theorem dX3_ownerAt_4 : decode cX3_ownerAt 4 = .ok (.iload_n 1, 1) := by decide +kernel
theorem dX3_ownerAt_5 : decode cX3_ownerAt 5 = .ok (.aload_n 0, 1) := by decide +kernel
theorem dX3_ownerAt_6 : decode cX3_ownerAt 6 = .ok (.invokevirtual 68, 3) := by decide +kernel
theorem dX3_ownerAt_9 : decode cX3_ownerAt 9 = .ok (.if_icmp .lt 8, 3) := by decide +kernel
theorem dX3_ownerAt_12 : decode cX3_ownerAt 12 = .ok (.bipush (-2), 2) := by decide +kernel
theorem dX3_ownerAt_14 : decode cX3_ownerAt 14 = .ok (.goto 12, 3) := by decide +kernel
theorem dX3_ownerAt_17 : decode cX3_ownerAt 17 = .ok (.aload_n 0, 1) := by decide +kernel
theorem dX3_ownerAt_18 : decode cX3_ownerAt 18 = .ok (.getfield 9, 3) := by decide +kernel
theorem dX3_ownerAt_21 : decode cX3_ownerAt 21 = .ok (.iload_n 1, 1) := by decide +kernel
theorem dX3_ownerAt_22 : decode cX3_ownerAt 22 = .ok (.bipush 64, 2) := by decide +kernel
theorem dX3_ownerAt_24 : decode cX3_ownerAt 24 = .ok (.idiv, 1) := by decide +kernel
theorem dX3_ownerAt_25 : decode cX3_ownerAt 25 = .ok (.iaload, 1) := by decide +kernel
theorem dX3_ownerAt_26 : decode cX3_ownerAt 26 = .ok (.ireturn, 1) := by decide +kernel
theorem dX3_pagesOf_0 : decode cX3_pagesOf 0 = .ok (.iconst 0, 1) := by decide +kernel
theorem dX3_pagesOf_1 : decode cX3_pagesOf 1 = .ok (.istore_n 2, 1) := by decide +kernel
theorem dX3_pagesOf_2 : decode cX3_pagesOf 2 = .ok (.iconst 0, 1) := by decide +kernel
theorem dX3_pagesOf_3 : decode cX3_pagesOf 3 = .ok (.istore_n 3, 1) := by decide +kernel
theorem dX3_pagesOf_4 : decode cX3_pagesOf 4 = .ok (.iload_n 3, 1) := by decide +kernel
theorem dX3_pagesOf_5 : decode cX3_pagesOf 5 = .ok (.aload_n 0, 1) := by decide +kernel
theorem dX3_pagesOf_6 : decode cX3_pagesOf 6 = .ok (.getfield 46, 3) := by decide +kernel
theorem dX3_pagesOf_9 : decode cX3_pagesOf 9 = .ok (.if_icmp .ge 22, 3) := by decide +kernel
theorem dX3_pagesOf_12 : decode cX3_pagesOf 12 = .ok (.aload_n 0, 1) := by decide +kernel
theorem dX3_pagesOf_13 : decode cX3_pagesOf 13 = .ok (.getfield 9, 3) := by decide +kernel
theorem dX3_pagesOf_16 : decode cX3_pagesOf 16 = .ok (.iload_n 3, 1) := by decide +kernel
theorem dX3_pagesOf_17 : decode cX3_pagesOf 17 = .ok (.iaload, 1) := by decide +kernel
theorem dX3_pagesOf_18 : decode cX3_pagesOf 18 = .ok (.iload_n 1, 1) := by decide +kernel
theorem dX3_pagesOf_19 : decode cX3_pagesOf 19 = .ok (.if_icmp .ne 6, 3) := by decide +kernel
theorem dX3_pagesOf_22 : decode cX3_pagesOf 22 = .ok (.iinc 2 1, 3) := by decide +kernel
theorem dX3_pagesOf_25 : decode cX3_pagesOf 25 = .ok (.iinc 3 1, 3) := by decide +kernel
theorem dX3_pagesOf_28 : decode cX3_pagesOf 28 = .ok (.goto (-24), 3) := by decide +kernel
theorem dX3_pagesOf_31 : decode cX3_pagesOf 31 = .ok (.iload_n 2, 1) := by decide +kernel
theorem dX3_pagesOf_32 : decode cX3_pagesOf 32 = .ok (.ireturn, 1) := by decide +kernel
theorem dX3_freeRun_0 : decode cX3_freeRun 0 = .ok (.iconst 0, 1) := by decide +kernel
theorem dX3_freeRun_1 : decode cX3_freeRun 1 = .ok (.istore_n 2, 1) := by decide +kernel
theorem dX3_freeRun_2 : decode cX3_freeRun 2 = .ok (.iconst 0, 1) := by decide +kernel
theorem dX3_freeRun_3 : decode cX3_freeRun 3 = .ok (.istore_n 3, 1) := by decide +kernel
theorem dX3_freeRun_4 : decode cX3_freeRun 4 = .ok (.iload_n 3, 1) := by decide +kernel
theorem dX3_freeRun_5 : decode cX3_freeRun 5 = .ok (.aload_n 0, 1) := by decide +kernel
theorem dX3_freeRun_6 : decode cX3_freeRun 6 = .ok (.getfield 46, 3) := by decide +kernel
theorem dX3_freeRun_9 : decode cX3_freeRun 9 = .ok (.if_icmp .ge 38, 3) := by decide +kernel
theorem dX3_freeRun_12 : decode cX3_freeRun 12 = .ok (.aload_n 0, 1) := by decide +kernel
theorem dX3_freeRun_13 : decode cX3_freeRun 13 = .ok (.getfield 9, 3) := by decide +kernel
theorem dX3_freeRun_16 : decode cX3_freeRun 16 = .ok (.iload_n 3, 1) := by decide +kernel
theorem dX3_freeRun_17 : decode cX3_freeRun 17 = .ok (.iaload, 1) := by decide +kernel
theorem dX3_freeRun_18 : decode cX3_freeRun 18 = .ok (.iconst (-1), 1) := by decide +kernel
theorem dX3_freeRun_19 : decode cX3_freeRun 19 = .ok (.if_icmp .ne 9, 3) := by decide +kernel
theorem dX3_freeRun_22 : decode cX3_freeRun 22 = .ok (.iload_n 2, 1) := by decide +kernel
theorem dX3_freeRun_23 : decode cX3_freeRun 23 = .ok (.iconst 1, 1) := by decide +kernel
theorem dX3_freeRun_24 : decode cX3_freeRun 24 = .ok (.iadd, 1) := by decide +kernel
theorem dX3_freeRun_25 : decode cX3_freeRun 25 = .ok (.goto 4, 3) := by decide +kernel
theorem dX3_freeRun_28 : decode cX3_freeRun 28 = .ok (.iconst 0, 1) := by decide +kernel
theorem dX3_freeRun_29 : decode cX3_freeRun 29 = .ok (.istore_n 2, 1) := by decide +kernel
theorem dX3_freeRun_30 : decode cX3_freeRun 30 = .ok (.iload_n 2, 1) := by decide +kernel
theorem dX3_freeRun_31 : decode cX3_freeRun 31 = .ok (.iload_n 1, 1) := by decide +kernel
theorem dX3_freeRun_32 : decode cX3_freeRun 32 = .ok (.if_icmp .ne 9, 3) := by decide +kernel
theorem dX3_freeRun_35 : decode cX3_freeRun 35 = .ok (.iload_n 3, 1) := by decide +kernel
theorem dX3_freeRun_36 : decode cX3_freeRun 36 = .ok (.iload_n 1, 1) := by decide +kernel
theorem dX3_freeRun_37 : decode cX3_freeRun 37 = .ok (.isub, 1) := by decide +kernel
theorem dX3_freeRun_38 : decode cX3_freeRun 38 = .ok (.iconst 1, 1) := by decide +kernel
theorem dX3_freeRun_39 : decode cX3_freeRun 39 = .ok (.iadd, 1) := by decide +kernel
theorem dX3_freeRun_40 : decode cX3_freeRun 40 = .ok (.ireturn, 1) := by decide +kernel
theorem dX3_freeRun_41 : decode cX3_freeRun 41 = .ok (.iinc 3 1, 3) := by decide +kernel
theorem dX3_freeRun_44 : decode cX3_freeRun 44 = .ok (.goto (-40), 3) := by decide +kernel
theorem dX3_freeRun_47 : decode cX3_freeRun 47 = .ok (.iconst (-1), 1) := by decide +kernel
theorem dX3_freeRun_48 : decode cX3_freeRun 48 = .ok (.ireturn, 1) := by decide +kernel
theorem dX3_longestFreeRun_0 : decode cX3_longestFreeRun 0 = .ok (.iconst 0, 1) := by decide +kernel
theorem dX3_longestFreeRun_1 : decode cX3_longestFreeRun 1 = .ok (.istore_n 1, 1) := by decide +kernel
theorem dX3_longestFreeRun_2 : decode cX3_longestFreeRun 2 = .ok (.iconst 0, 1) := by decide +kernel
theorem dX3_longestFreeRun_3 : decode cX3_longestFreeRun 3 = .ok (.istore_n 2, 1) := by decide +kernel
theorem dX3_longestFreeRun_4 : decode cX3_longestFreeRun 4 = .ok (.iconst 0, 1) := by decide +kernel
theorem dX3_longestFreeRun_5 : decode cX3_longestFreeRun 5 = .ok (.istore_n 3, 1) := by decide +kernel
theorem dX3_longestFreeRun_6 : decode cX3_longestFreeRun 6 = .ok (.iload_n 3, 1) := by decide +kernel
theorem dX3_longestFreeRun_7 : decode cX3_longestFreeRun 7 = .ok (.aload_n 0, 1) := by decide +kernel
theorem dX3_longestFreeRun_8 : decode cX3_longestFreeRun 8 = .ok (.getfield 46, 3) := by decide +kernel
theorem dX3_longestFreeRun_11 : decode cX3_longestFreeRun 11 = .ok (.if_icmp .ge 33, 3) := by decide +kernel
theorem dX3_longestFreeRun_14 : decode cX3_longestFreeRun 14 = .ok (.aload_n 0, 1) := by decide +kernel
theorem dX3_longestFreeRun_15 : decode cX3_longestFreeRun 15 = .ok (.getfield 9, 3) := by decide +kernel
theorem dX3_longestFreeRun_18 : decode cX3_longestFreeRun 18 = .ok (.iload_n 3, 1) := by decide +kernel
theorem dX3_longestFreeRun_19 : decode cX3_longestFreeRun 19 = .ok (.iaload, 1) := by decide +kernel
theorem dX3_longestFreeRun_20 : decode cX3_longestFreeRun 20 = .ok (.iconst (-1), 1) := by decide +kernel
theorem dX3_longestFreeRun_21 : decode cX3_longestFreeRun 21 = .ok (.if_icmp .ne 9, 3) := by decide +kernel
theorem dX3_longestFreeRun_24 : decode cX3_longestFreeRun 24 = .ok (.iload_n 2, 1) := by decide +kernel
theorem dX3_longestFreeRun_25 : decode cX3_longestFreeRun 25 = .ok (.iconst 1, 1) := by decide +kernel
theorem dX3_longestFreeRun_26 : decode cX3_longestFreeRun 26 = .ok (.iadd, 1) := by decide +kernel
theorem dX3_longestFreeRun_27 : decode cX3_longestFreeRun 27 = .ok (.goto 4, 3) := by decide +kernel
theorem dX3_longestFreeRun_30 : decode cX3_longestFreeRun 30 = .ok (.iconst 0, 1) := by decide +kernel
theorem dX3_longestFreeRun_31 : decode cX3_longestFreeRun 31 = .ok (.istore_n 2, 1) := by decide +kernel
theorem dX3_longestFreeRun_32 : decode cX3_longestFreeRun 32 = .ok (.iload_n 1, 1) := by decide +kernel
theorem dX3_longestFreeRun_33 : decode cX3_longestFreeRun 33 = .ok (.iload_n 2, 1) := by decide +kernel
theorem dX3_longestFreeRun_34 : decode cX3_longestFreeRun 34 = .ok (.invokestatic 72, 3) := by decide +kernel
theorem dX3_longestFreeRun_37 : decode cX3_longestFreeRun 37 = .ok (.istore_n 1, 1) := by decide +kernel
theorem dX3_longestFreeRun_38 : decode cX3_longestFreeRun 38 = .ok (.iinc 3 1, 3) := by decide +kernel
theorem dX3_longestFreeRun_41 : decode cX3_longestFreeRun 41 = .ok (.goto (-35), 3) := by decide +kernel
theorem dX3_longestFreeRun_44 : decode cX3_longestFreeRun 44 = .ok (.iload_n 1, 1) := by decide +kernel
theorem dX3_longestFreeRun_45 : decode cX3_longestFreeRun 45 = .ok (.ireturn, 1) := by decide +kernel
theorem dX3_areThere_0 : decode cX3_areThere 0 = .ok (.iload_n 1, 1) := by decide +kernel
theorem dX3_areThere_1 : decode cX3_areThere 1 = .ok (.ifCond .lt 27, 3) := by decide +kernel
theorem dX3_areThere_4 : decode cX3_areThere 4 = .ok (.iload_n 2, 1) := by decide +kernel
theorem dX3_areThere_5 : decode cX3_areThere 5 = .ok (.ifCond .le 23, 3) := by decide +kernel
theorem dX3_areThere_8 : decode cX3_areThere 8 = .ok (.iload_n 2, 1) := by decide +kernel
theorem dX3_areThere_9 : decode cX3_areThere 9 = .ok (.sipush 2560, 3) := by decide +kernel
theorem dX3_areThere_12 : decode cX3_areThere 12 = .ok (.if_icmp .gt 16, 3) := by decide +kernel
theorem dX3_areThere_15 : decode cX3_areThere 15 = .ok (.iload_n 1, 1) := by decide +kernel
theorem dX3_areThere_16 : decode cX3_areThere 16 = .ok (.sipush 2560, 3) := by decide +kernel
theorem dX3_areThere_19 : decode cX3_areThere 19 = .ok (.iload_n 2, 1) := by decide +kernel
theorem dX3_areThere_20 : decode cX3_areThere 20 = .ok (.isub, 1) := by decide +kernel
theorem dX3_areThere_21 : decode cX3_areThere 21 = .ok (.if_icmp .gt 7, 3) := by decide +kernel
theorem dX3_areThere_24 : decode cX3_areThere 24 = .ok (.iconst 1, 1) := by decide +kernel
theorem dX3_areThere_25 : decode cX3_areThere 25 = .ok (.goto 4, 3) := by decide +kernel
theorem dX3_areThere_28 : decode cX3_areThere 28 = .ok (.iconst 0, 1) := by decide +kernel
theorem dX3_areThere_29 : decode cX3_areThere 29 = .ok (.ireturn, 1) := by decide +kernel
theorem dX3_numberAt_0 : decode cX3_numberAt 0 = .ok (.iload_n 1, 1) := by decide +kernel
theorem dX3_numberAt_1 : decode cX3_numberAt 1 = .ok (.ifCond .lt 19, 3) := by decide +kernel
theorem dX3_numberAt_4 : decode cX3_numberAt 4 = .ok (.iload_n 1, 1) := by decide +kernel
theorem dX3_numberAt_5 : decode cX3_numberAt 5 = .ok (.sipush 2560, 3) := by decide +kernel
theorem dX3_numberAt_8 : decode cX3_numberAt 8 = .ok (.if_icmp .ge 12, 3) := by decide +kernel
theorem dX3_numberAt_11 : decode cX3_numberAt 11 = .ok (.aload_n 0, 1) := by decide +kernel
theorem dX3_numberAt_12 : decode cX3_numberAt 12 = .ok (.getfield 15, 3) := by decide +kernel
theorem dX3_numberAt_15 : decode cX3_numberAt 15 = .ok (.iload_n 1, 1) := by decide +kernel
theorem dX3_numberAt_16 : decode cX3_numberAt 16 = .ok (.laload, 1) := by decide +kernel
theorem dX3_numberAt_17 : decode cX3_numberAt 17 = .ok (.goto 4, 3) := by decide +kernel
theorem dX3_numberAt_20 : decode cX3_numberAt 20 = .ok (.lconst 0, 1) := by decide +kernel
theorem dX3_numberAt_21 : decode cX3_numberAt 21 = .ok (.lreturn, 1) := by decide +kernel
theorem dX3_setNumber_0 : decode cX3_setNumber 0 = .ok (.iload_n 1, 1) := by decide +kernel
theorem dX3_setNumber_1 : decode cX3_setNumber 1 = .ok (.ifCond .lt 17, 3) := by decide +kernel
theorem dX3_setNumber_4 : decode cX3_setNumber 4 = .ok (.iload_n 1, 1) := by decide +kernel
theorem dX3_setNumber_5 : decode cX3_setNumber 5 = .ok (.sipush 2560, 3) := by decide +kernel
theorem dX3_setNumber_8 : decode cX3_setNumber 8 = .ok (.if_icmp .ge 10, 3) := by decide +kernel
theorem dX3_setNumber_11 : decode cX3_setNumber 11 = .ok (.aload_n 0, 1) := by decide +kernel
theorem dX3_setNumber_12 : decode cX3_setNumber 12 = .ok (.getfield 15, 3) := by decide +kernel
theorem dX3_setNumber_15 : decode cX3_setNumber 15 = .ok (.iload_n 1, 1) := by decide +kernel
theorem dX3_setNumber_16 : decode cX3_setNumber 16 = .ok (.lload_n 2, 1) := by decide +kernel
theorem dX3_setNumber_17 : decode cX3_setNumber 17 = .ok (.lastore, 1) := by decide +kernel
theorem dX3_setNumber_18 : decode cX3_setNumber 18 = .ok (.return_, 1) := by decide +kernel
theorem dX3_setNumbers_0 : decode cX3_setNumbers 0 = .ok (.aload_n 0, 1) := by decide +kernel
theorem dX3_setNumbers_1 : decode cX3_setNumbers 1 = .ok (.iload_n 1, 1) := by decide +kernel
theorem dX3_setNumbers_2 : decode cX3_setNumbers 2 = .ok (.iload_n 2, 1) := by decide +kernel
theorem dX3_setNumbers_3 : decode cX3_setNumbers 3 = .ok (.invokevirtual 78, 3) := by decide +kernel
theorem dX3_setNumbers_6 : decode cX3_setNumbers 6 = .ok (.ifCond .eq 28, 3) := by decide +kernel
theorem dX3_setNumbers_9 : decode cX3_setNumbers 9 = .ok (.iload_n 1, 1) := by decide +kernel
theorem dX3_setNumbers_10 : decode cX3_setNumbers 10 = .ok (.istore 5, 2) := by decide +kernel
theorem dX3_setNumbers_12 : decode cX3_setNumbers 12 = .ok (.iload 5, 2) := by decide +kernel
theorem dX3_setNumbers_14 : decode cX3_setNumbers 14 = .ok (.iload_n 1, 1) := by decide +kernel
theorem dX3_setNumbers_15 : decode cX3_setNumbers 15 = .ok (.iload_n 2, 1) := by decide +kernel
theorem dX3_setNumbers_16 : decode cX3_setNumbers 16 = .ok (.iadd, 1) := by decide +kernel
theorem dX3_setNumbers_17 : decode cX3_setNumbers 17 = .ok (.if_icmp .ge 17, 3) := by decide +kernel
theorem dX3_setNumbers_20 : decode cX3_setNumbers 20 = .ok (.aload_n 0, 1) := by decide +kernel
theorem dX3_setNumbers_21 : decode cX3_setNumbers 21 = .ok (.getfield 15, 3) := by decide +kernel
theorem dX3_setNumbers_24 : decode cX3_setNumbers 24 = .ok (.iload 5, 2) := by decide +kernel
theorem dX3_setNumbers_26 : decode cX3_setNumbers 26 = .ok (.lload_n 3, 1) := by decide +kernel
theorem dX3_setNumbers_27 : decode cX3_setNumbers 27 = .ok (.lastore, 1) := by decide +kernel
theorem dX3_setNumbers_28 : decode cX3_setNumbers 28 = .ok (.iinc 5 1, 3) := by decide +kernel
theorem dX3_setNumbers_31 : decode cX3_setNumbers 31 = .ok (.goto (-19), 3) := by decide +kernel
theorem dX3_setNumbers_34 : decode cX3_setNumbers 34 = .ok (.return_, 1) := by decide +kernel
theorem dX3_copyNumbers_0 : decode cX3_copyNumbers 0 = .ok (.aload_n 0, 1) := by decide +kernel
theorem dX3_copyNumbers_1 : decode cX3_copyNumbers 1 = .ok (.iload_n 1, 1) := by decide +kernel
theorem dX3_copyNumbers_2 : decode cX3_copyNumbers 2 = .ok (.iload_n 3, 1) := by decide +kernel
theorem dX3_copyNumbers_3 : decode cX3_copyNumbers 3 = .ok (.invokevirtual 78, 3) := by decide +kernel
theorem dX3_copyNumbers_6 : decode cX3_copyNumbers 6 = .ok (.ifCond .eq 26, 3) := by decide +kernel
theorem dX3_copyNumbers_9 : decode cX3_copyNumbers 9 = .ok (.aload_n 0, 1) := by decide +kernel
theorem dX3_copyNumbers_10 : decode cX3_copyNumbers 10 = .ok (.iload_n 2, 1) := by decide +kernel
theorem dX3_copyNumbers_11 : decode cX3_copyNumbers 11 = .ok (.iload_n 3, 1) := by decide +kernel
theorem dX3_copyNumbers_12 : decode cX3_copyNumbers 12 = .ok (.invokevirtual 78, 3) := by decide +kernel
theorem dX3_copyNumbers_15 : decode cX3_copyNumbers 15 = .ok (.ifCond .eq 17, 3) := by decide +kernel
theorem dX3_copyNumbers_18 : decode cX3_copyNumbers 18 = .ok (.aload_n 0, 1) := by decide +kernel
theorem dX3_copyNumbers_19 : decode cX3_copyNumbers 19 = .ok (.getfield 15, 3) := by decide +kernel
theorem dX3_copyNumbers_22 : decode cX3_copyNumbers 22 = .ok (.iload_n 1, 1) := by decide +kernel
theorem dX3_copyNumbers_23 : decode cX3_copyNumbers 23 = .ok (.aload_n 0, 1) := by decide +kernel
theorem dX3_copyNumbers_24 : decode cX3_copyNumbers 24 = .ok (.getfield 15, 3) := by decide +kernel
theorem dX3_copyNumbers_27 : decode cX3_copyNumbers 27 = .ok (.iload_n 2, 1) := by decide +kernel
theorem dX3_copyNumbers_28 : decode cX3_copyNumbers 28 = .ok (.iload_n 3, 1) := by decide +kernel
theorem dX3_copyNumbers_29 : decode cX3_copyNumbers 29 = .ok (.invokestatic 62, 3) := by decide +kernel
theorem dX3_copyNumbers_32 : decode cX3_copyNumbers 32 = .ok (.return_, 1) := by decide +kernel
theorem dX3_pieceAt_0 : decode cX3_pieceAt 0 = .ok (.iload_n 1, 1) := by decide +kernel
theorem dX3_pieceAt_1 : decode cX3_pieceAt 1 = .ok (.ifCond .lt 19, 3) := by decide +kernel
theorem dX3_pieceAt_4 : decode cX3_pieceAt 4 = .ok (.iload_n 1, 1) := by decide +kernel
theorem dX3_pieceAt_5 : decode cX3_pieceAt 5 = .ok (.sipush 2560, 3) := by decide +kernel
theorem dX3_pieceAt_8 : decode cX3_pieceAt 8 = .ok (.if_icmp .ge 12, 3) := by decide +kernel
theorem dX3_pieceAt_11 : decode cX3_pieceAt 11 = .ok (.aload_n 0, 1) := by decide +kernel
theorem dX3_pieceAt_12 : decode cX3_pieceAt 12 = .ok (.getfield 19, 3) := by decide +kernel
theorem dX3_pieceAt_15 : decode cX3_pieceAt 15 = .ok (.iload_n 1, 1) := by decide +kernel
theorem dX3_pieceAt_16 : decode cX3_pieceAt 16 = .ok (.iaload, 1) := by decide +kernel
theorem dX3_pieceAt_17 : decode cX3_pieceAt 17 = .ok (.goto 4, 3) := by decide +kernel
theorem dX3_pieceAt_20 : decode cX3_pieceAt 20 = .ok (.iconst 0, 1) := by decide +kernel
theorem dX3_pieceAt_21 : decode cX3_pieceAt 21 = .ok (.ireturn, 1) := by decide +kernel
theorem dX3_mark_0 : decode cX3_mark 0 = .ok (.iload_n 1, 1) := by decide +kernel
theorem dX3_mark_1 : decode cX3_mark 1 = .ok (.ifCond .lt 17, 3) := by decide +kernel
theorem dX3_mark_4 : decode cX3_mark 4 = .ok (.iload_n 1, 1) := by decide +kernel
theorem dX3_mark_5 : decode cX3_mark 5 = .ok (.sipush 2560, 3) := by decide +kernel
theorem dX3_mark_8 : decode cX3_mark 8 = .ok (.if_icmp .ge 10, 3) := by decide +kernel
theorem dX3_mark_11 : decode cX3_mark 11 = .ok (.aload_n 0, 1) := by decide +kernel
theorem dX3_mark_12 : decode cX3_mark 12 = .ok (.getfield 19, 3) := by decide +kernel
theorem dX3_mark_15 : decode cX3_mark 15 = .ok (.iload_n 1, 1) := by decide +kernel
theorem dX3_mark_16 : decode cX3_mark 16 = .ok (.iload_n 2, 1) := by decide +kernel
theorem dX3_mark_17 : decode cX3_mark 17 = .ok (.iastore, 1) := by decide +kernel
theorem dX3_mark_18 : decode cX3_mark 18 = .ok (.return_, 1) := by decide +kernel
theorem dX3_blockAt_0 : decode cX3_blockAt 0 = .ok (.aload_n 0, 1) := by decide +kernel
theorem dX3_blockAt_1 : decode cX3_blockAt 1 = .ok (.iload_n 1, 1) := by decide +kernel
theorem dX3_blockAt_2 : decode cX3_blockAt 2 = .ok (.invokevirtual 82, 3) := by decide +kernel
theorem dX3_blockAt_5 : decode cX3_blockAt 5 = .ok (.istore_n 2, 1) := by decide +kernel
theorem dX3_blockAt_6 : decode cX3_blockAt 6 = .ok (.iload_n 2, 1) := by decide +kernel
theorem dX3_blockAt_7 : decode cX3_blockAt 7 = .ok (.ifCond .ge 15, 3) := by decide +kernel
theorem dX3_blockAt_10 : decode cX3_blockAt 10 = .ok (.iload_n 2, 1) := by decide +kernel
theorem dX3_blockAt_11 : decode cX3_blockAt 11 = .ok (.bipush (-100), 2) := by decide +kernel
theorem dX3_blockAt_13 : decode cX3_blockAt 13 = .ok (.if_icmp .lt 9, 3) := by decide +kernel
theorem dX3_blockAt_16 : decode cX3_blockAt 16 = .ok (.iconst (-1), 1) := by decide +kernel
theorem dX3_blockAt_17 : decode cX3_blockAt 17 = .ok (.iload_n 2, 1) := by decide +kernel
theorem dX3_blockAt_18 : decode cX3_blockAt 18 = .ok (.isub, 1) := by decide +kernel
theorem dX3_blockAt_19 : decode cX3_blockAt 19 = .ok (.goto 4, 3) := by decide +kernel
theorem dX3_blockAt_22 : decode cX3_blockAt 22 = .ok (.iconst (-1), 1) := by decide +kernel
theorem dX3_blockAt_23 : decode cX3_blockAt 23 = .ok (.ireturn, 1) := by decide +kernel
theorem dX3_freeAt_0 : decode cX3_freeAt 0 = .ok (.aload_n 0, 1) := by decide +kernel
theorem dX3_freeAt_1 : decode cX3_freeAt 1 = .ok (.iload_n 1, 1) := by decide +kernel
theorem dX3_freeAt_2 : decode cX3_freeAt 2 = .ok (.invokevirtual 86, 3) := by decide +kernel
theorem dX3_freeAt_5 : decode cX3_freeAt 5 = .ok (.iload_n 2, 1) := by decide +kernel
theorem dX3_freeAt_6 : decode cX3_freeAt 6 = .ok (.if_icmp .ne 15, 3) := by decide +kernel
theorem dX3_freeAt_9 : decode cX3_freeAt 9 = .ok (.iconst 0, 1) := by decide +kernel
theorem dX3_freeAt_10 : decode cX3_freeAt 10 = .ok (.aload_n 0, 1) := by decide +kernel
theorem dX3_freeAt_11 : decode cX3_freeAt 11 = .ok (.iload_n 1, 1) := by decide +kernel
theorem dX3_freeAt_12 : decode cX3_freeAt 12 = .ok (.invokevirtual 82, 3) := by decide +kernel
theorem dX3_freeAt_15 : decode cX3_freeAt 15 = .ok (.invokestatic 72, 3) := by decide +kernel
theorem dX3_freeAt_18 : decode cX3_freeAt 18 = .ok (.goto 4, 3) := by decide +kernel
theorem dX3_freeAt_21 : decode cX3_freeAt 21 = .ok (.iconst 0, 1) := by decide +kernel
theorem dX3_freeAt_22 : decode cX3_freeAt 22 = .ok (.ireturn, 1) := by decide +kernel
theorem dX3_endOf_0 : decode cX3_endOf 0 = .ok (.iload_n 1, 1) := by decide +kernel
theorem dX3_endOf_1 : decode cX3_endOf 1 = .ok (.bipush 64, 2) := by decide +kernel
theorem dX3_endOf_3 : decode cX3_endOf 3 = .ok (.irem, 1) := by decide +kernel
theorem dX3_endOf_4 : decode cX3_endOf 4 = .ok (.istore_n 2, 1) := by decide +kernel
theorem dX3_endOf_5 : decode cX3_endOf 5 = .ok (.aload_n 0, 1) := by decide +kernel
theorem dX3_endOf_6 : decode cX3_endOf 6 = .ok (.iload_n 1, 1) := by decide +kernel
theorem dX3_endOf_7 : decode cX3_endOf 7 = .ok (.invokevirtual 86, 3) := by decide +kernel
theorem dX3_endOf_10 : decode cX3_endOf 10 = .ok (.ifCond .ge 10, 3) := by decide +kernel
theorem dX3_endOf_13 : decode cX3_endOf 13 = .ok (.iload_n 1, 1) := by decide +kernel
theorem dX3_endOf_14 : decode cX3_endOf 14 = .ok (.bipush 64, 2) := by decide +kernel
theorem dX3_endOf_16 : decode cX3_endOf 16 = .ok (.iadd, 1) := by decide +kernel
theorem dX3_endOf_17 : decode cX3_endOf 17 = .ok (.iload_n 2, 1) := by decide +kernel
theorem dX3_endOf_18 : decode cX3_endOf 18 = .ok (.isub, 1) := by decide +kernel
theorem dX3_endOf_19 : decode cX3_endOf 19 = .ok (.ireturn, 1) := by decide +kernel
theorem dX3_endOf_20 : decode cX3_endOf 20 = .ok (.aload_n 0, 1) := by decide +kernel
theorem dX3_endOf_21 : decode cX3_endOf 21 = .ok (.iload_n 1, 1) := by decide +kernel
theorem dX3_endOf_22 : decode cX3_endOf 22 = .ok (.invokevirtual 89, 3) := by decide +kernel
theorem dX3_endOf_25 : decode cX3_endOf 25 = .ok (.istore_n 3, 1) := by decide +kernel
theorem dX3_endOf_26 : decode cX3_endOf 26 = .ok (.iload_n 3, 1) := by decide +kernel
theorem dX3_endOf_27 : decode cX3_endOf 27 = .ok (.ifCond .lt 16, 3) := by decide +kernel
theorem dX3_endOf_30 : decode cX3_endOf 30 = .ok (.iload_n 1, 1) := by decide +kernel
theorem dX3_endOf_31 : decode cX3_endOf 31 = .ok (.iconst 1, 1) := by decide +kernel
theorem dX3_endOf_32 : decode cX3_endOf 32 = .ok (.aload_n 0, 1) := by decide +kernel
theorem dX3_endOf_33 : decode cX3_endOf 33 = .ok (.getfield 37, 3) := by decide +kernel
theorem dX3_endOf_36 : decode cX3_endOf 36 = .ok (.iload_n 3, 1) := by decide +kernel
theorem dX3_endOf_37 : decode cX3_endOf 37 = .ok (.iaload, 1) := by decide +kernel
theorem dX3_endOf_38 : decode cX3_endOf 38 = .ok (.invokestatic 72, 3) := by decide +kernel
theorem dX3_endOf_41 : decode cX3_endOf 41 = .ok (.iadd, 1) := by decide +kernel
theorem dX3_endOf_42 : decode cX3_endOf 42 = .ok (.ireturn, 1) := by decide +kernel
theorem dX3_endOf_43 : decode cX3_endOf 43 = .ok (.aload_n 0, 1) := by decide +kernel
theorem dX3_endOf_44 : decode cX3_endOf 44 = .ok (.iload_n 1, 1) := by decide +kernel
theorem dX3_endOf_45 : decode cX3_endOf 45 = .ok (.invokevirtual 82, 3) := by decide +kernel
theorem dX3_endOf_48 : decode cX3_endOf 48 = .ok (.istore 4, 2) := by decide +kernel
theorem dX3_endOf_50 : decode cX3_endOf 50 = .ok (.iload 4, 2) := by decide +kernel
theorem dX3_endOf_52 : decode cX3_endOf 52 = .ok (.ifCond .le 8, 3) := by decide +kernel
theorem dX3_endOf_55 : decode cX3_endOf 55 = .ok (.iload_n 1, 1) := by decide +kernel
theorem dX3_endOf_56 : decode cX3_endOf 56 = .ok (.iload 4, 2) := by decide +kernel
theorem dX3_endOf_58 : decode cX3_endOf 58 = .ok (.iadd, 1) := by decide +kernel
theorem dX3_endOf_59 : decode cX3_endOf 59 = .ok (.ireturn, 1) := by decide +kernel
theorem dX3_endOf_60 : decode cX3_endOf 60 = .ok (.iload_n 2, 1) := by decide +kernel
theorem dX3_endOf_61 : decode cX3_endOf 61 = .ok (.ifCond .ne 9, 3) := by decide +kernel
theorem dX3_endOf_64 : decode cX3_endOf 64 = .ok (.iload_n 1, 1) := by decide +kernel
theorem dX3_endOf_65 : decode cX3_endOf 65 = .ok (.iconst 1, 1) := by decide +kernel
theorem dX3_endOf_66 : decode cX3_endOf 66 = .ok (.iadd, 1) := by decide +kernel
theorem dX3_endOf_67 : decode cX3_endOf 67 = .ok (.goto 9, 3) := by decide +kernel
theorem dX3_endOf_70 : decode cX3_endOf 70 = .ok (.iload_n 1, 1) := by decide +kernel
theorem dX3_endOf_71 : decode cX3_endOf 71 = .ok (.bipush 64, 2) := by decide +kernel
theorem dX3_endOf_73 : decode cX3_endOf 73 = .ok (.iadd, 1) := by decide +kernel
theorem dX3_endOf_74 : decode cX3_endOf 74 = .ok (.iload_n 2, 1) := by decide +kernel
theorem dX3_endOf_75 : decode cX3_endOf 75 = .ok (.isub, 1) := by decide +kernel
theorem dX3_endOf_76 : decode cX3_endOf 76 = .ok (.ireturn, 1) := by decide +kernel
theorem dX3_freePiecesOf_0 : decode cX3_freePiecesOf 0 = .ok (.iconst 0, 1) := by decide +kernel
theorem dX3_freePiecesOf_1 : decode cX3_freePiecesOf 1 = .ok (.istore_n 2, 1) := by decide +kernel
theorem dX3_freePiecesOf_2 : decode cX3_freePiecesOf 2 = .ok (.iconst 0, 1) := by decide +kernel
theorem dX3_freePiecesOf_3 : decode cX3_freePiecesOf 3 = .ok (.istore_n 3, 1) := by decide +kernel
theorem dX3_freePiecesOf_4 : decode cX3_freePiecesOf 4 = .ok (.iload_n 3, 1) := by decide +kernel
theorem dX3_freePiecesOf_5 : decode cX3_freePiecesOf 5 = .ok (.aload_n 0, 1) := by decide +kernel
theorem dX3_freePiecesOf_6 : decode cX3_freePiecesOf 6 = .ok (.invokevirtual 68, 3) := by decide +kernel
theorem dX3_freePiecesOf_9 : decode cX3_freePiecesOf 9 = .ok (.if_icmp .ge 30, 3) := by decide +kernel
theorem dX3_freePiecesOf_12 : decode cX3_freePiecesOf 12 = .ok (.aload_n 0, 1) := by decide +kernel
theorem dX3_freePiecesOf_13 : decode cX3_freePiecesOf 13 = .ok (.iload_n 3, 1) := by decide +kernel
theorem dX3_freePiecesOf_14 : decode cX3_freePiecesOf 14 = .ok (.iload_n 1, 1) := by decide +kernel
theorem dX3_freePiecesOf_15 : decode cX3_freePiecesOf 15 = .ok (.invokevirtual 92, 3) := by decide +kernel
theorem dX3_freePiecesOf_18 : decode cX3_freePiecesOf 18 = .ok (.ifCond .le 6, 3) := by decide +kernel
theorem dX3_freePiecesOf_21 : decode cX3_freePiecesOf 21 = .ok (.iinc 2 1, 3) := by decide +kernel
theorem dX3_freePiecesOf_24 : decode cX3_freePiecesOf 24 = .ok (.iload_n 3, 1) := by decide +kernel
theorem dX3_freePiecesOf_25 : decode cX3_freePiecesOf 25 = .ok (.iconst 1, 1) := by decide +kernel
theorem dX3_freePiecesOf_26 : decode cX3_freePiecesOf 26 = .ok (.iadd, 1) := by decide +kernel
theorem dX3_freePiecesOf_27 : decode cX3_freePiecesOf 27 = .ok (.aload_n 0, 1) := by decide +kernel
theorem dX3_freePiecesOf_28 : decode cX3_freePiecesOf 28 = .ok (.iload_n 3, 1) := by decide +kernel
theorem dX3_freePiecesOf_29 : decode cX3_freePiecesOf 29 = .ok (.invokevirtual 95, 3) := by decide +kernel
theorem dX3_freePiecesOf_32 : decode cX3_freePiecesOf 32 = .ok (.invokestatic 72, 3) := by decide +kernel
theorem dX3_freePiecesOf_35 : decode cX3_freePiecesOf 35 = .ok (.istore_n 3, 1) := by decide +kernel
theorem dX3_freePiecesOf_36 : decode cX3_freePiecesOf 36 = .ok (.goto (-32), 3) := by decide +kernel
theorem dX3_freePiecesOf_39 : decode cX3_freePiecesOf 39 = .ok (.iload_n 2, 1) := by decide +kernel
theorem dX3_freePiecesOf_40 : decode cX3_freePiecesOf 40 = .ok (.ireturn, 1) := by decide +kernel
theorem dX3_vacate_0 : decode cX3_vacate 0 = .ok (.aload_n 0, 1) := by decide +kernel
theorem dX3_vacate_1 : decode cX3_vacate 1 = .ok (.iload_n 1, 1) := by decide +kernel
theorem dX3_vacate_2 : decode cX3_vacate 2 = .ok (.iload_n 2, 1) := by decide +kernel
theorem dX3_vacate_3 : decode cX3_vacate 3 = .ok (.lconst 0, 1) := by decide +kernel
theorem dX3_vacate_4 : decode cX3_vacate 4 = .ok (.invokevirtual 98, 3) := by decide +kernel
theorem dX3_vacate_7 : decode cX3_vacate 7 = .ok (.aload_n 0, 1) := by decide +kernel
theorem dX3_vacate_8 : decode cX3_vacate 8 = .ok (.iload_n 1, 1) := by decide +kernel
theorem dX3_vacate_9 : decode cX3_vacate 9 = .ok (.iload_n 2, 1) := by decide +kernel
theorem dX3_vacate_10 : decode cX3_vacate 10 = .ok (.invokevirtual 102, 3) := by decide +kernel
theorem dX3_vacate_13 : decode cX3_vacate 13 = .ok (.return_, 1) := by decide +kernel
theorem dX3_hasZone_0 : decode cX3_hasZone 0 = .ok (.iload_n 1, 1) := by decide +kernel
theorem dX3_hasZone_1 : decode cX3_hasZone 1 = .ok (.ifCond .lt 15, 3) := by decide +kernel
theorem dX3_hasZone_4 : decode cX3_hasZone 4 = .ok (.iload_n 1, 1) := by decide +kernel
theorem dX3_hasZone_5 : decode cX3_hasZone 5 = .ok (.aload_n 0, 1) := by decide +kernel
theorem dX3_hasZone_6 : decode cX3_hasZone 6 = .ok (.getfield 50, 3) := by decide +kernel
theorem dX3_hasZone_9 : decode cX3_hasZone 9 = .ok (.if_icmp .ge 7, 3) := by decide +kernel
theorem dX3_hasZone_12 : decode cX3_hasZone 12 = .ok (.iconst 1, 1) := by decide +kernel
theorem dX3_hasZone_13 : decode cX3_hasZone 13 = .ok (.goto 4, 3) := by decide +kernel
theorem dX3_hasZone_16 : decode cX3_hasZone 16 = .ok (.iconst 0, 1) := by decide +kernel
theorem dX3_hasZone_17 : decode cX3_hasZone 17 = .ok (.ireturn, 1) := by decide +kernel
theorem dX3_addZone_0 : decode cX3_addZone 0 = .ok (.aload_n 0, 1) := by decide +kernel
theorem dX3_addZone_1 : decode cX3_addZone 1 = .ok (.getfield 50, 3) := by decide +kernel
theorem dX3_addZone_4 : decode cX3_addZone 4 = .ok (.istore 4, 2) := by decide +kernel
theorem dX3_addZone_6 : decode cX3_addZone 6 = .ok (.aload_n 0, 1) := by decide +kernel
theorem dX3_addZone_7 : decode cX3_addZone 7 = .ok (.getfield 22, 3) := by decide +kernel
theorem dX3_addZone_10 : decode cX3_addZone 10 = .ok (.iload 4, 2) := by decide +kernel
theorem dX3_addZone_12 : decode cX3_addZone 12 = .ok (.iload_n 1, 1) := by decide +kernel
theorem dX3_addZone_13 : decode cX3_addZone 13 = .ok (.iastore, 1) := by decide +kernel
theorem dX3_addZone_14 : decode cX3_addZone 14 = .ok (.aload_n 0, 1) := by decide +kernel
theorem dX3_addZone_15 : decode cX3_addZone 15 = .ok (.getfield 25, 3) := by decide +kernel
theorem dX3_addZone_18 : decode cX3_addZone 18 = .ok (.iload 4, 2) := by decide +kernel
theorem dX3_addZone_20 : decode cX3_addZone 20 = .ok (.lload_n 2, 1) := by decide +kernel
theorem dX3_addZone_21 : decode cX3_addZone 21 = .ok (.lastore, 1) := by decide +kernel
theorem dX3_addZone_22 : decode cX3_addZone 22 = .ok (.aload_n 0, 1) := by decide +kernel
theorem dX3_addZone_23 : decode cX3_addZone 23 = .ok (.dup, 1) := by decide +kernel
theorem dX3_addZone_24 : decode cX3_addZone 24 = .ok (.getfield 50, 3) := by decide +kernel
theorem dX3_addZone_27 : decode cX3_addZone 27 = .ok (.iconst 1, 1) := by decide +kernel
theorem dX3_addZone_28 : decode cX3_addZone 28 = .ok (.iadd, 1) := by decide +kernel
theorem dX3_addZone_29 : decode cX3_addZone 29 = .ok (.putfield 50, 3) := by decide +kernel
theorem dX3_addZone_32 : decode cX3_addZone 32 = .ok (.iload 4, 2) := by decide +kernel
theorem dX3_addZone_34 : decode cX3_addZone 34 = .ok (.ireturn, 1) := by decide +kernel
theorem dX3_kindOf_0 : decode cX3_kindOf 0 = .ok (.aload_n 0, 1) := by decide +kernel
theorem dX3_kindOf_1 : decode cX3_kindOf 1 = .ok (.iload_n 1, 1) := by decide +kernel
theorem dX3_kindOf_2 : decode cX3_kindOf 2 = .ok (.invokevirtual 106, 3) := by decide +kernel
theorem dX3_kindOf_5 : decode cX3_kindOf 5 = .ok (.ifCond .eq 12, 3) := by decide +kernel
theorem dX3_kindOf_8 : decode cX3_kindOf 8 = .ok (.aload_n 0, 1) := by decide +kernel
theorem dX3_kindOf_9 : decode cX3_kindOf 9 = .ok (.getfield 22, 3) := by decide +kernel
theorem dX3_kindOf_12 : decode cX3_kindOf 12 = .ok (.iload_n 1, 1) := by decide +kernel
theorem dX3_kindOf_13 : decode cX3_kindOf 13 = .ok (.iaload, 1) := by decide +kernel
theorem dX3_kindOf_14 : decode cX3_kindOf 14 = .ok (.goto 4, 3) := by decide +kernel
theorem dX3_kindOf_17 : decode cX3_kindOf 17 = .ok (.iconst (-1), 1) := by decide +kernel
theorem dX3_kindOf_18 : decode cX3_kindOf 18 = .ok (.ireturn, 1) := by decide +kernel
theorem dX3_classOf_0 : decode cX3_classOf 0 = .ok (.aload_n 0, 1) := by decide +kernel
theorem dX3_classOf_1 : decode cX3_classOf 1 = .ok (.iload_n 1, 1) := by decide +kernel
theorem dX3_classOf_2 : decode cX3_classOf 2 = .ok (.invokevirtual 106, 3) := by decide +kernel
theorem dX3_classOf_5 : decode cX3_classOf 5 = .ok (.ifCond .eq 23, 3) := by decide +kernel
theorem dX3_classOf_8 : decode cX3_classOf 8 = .ok (.lconst 1, 1) := by decide +kernel
theorem dX3_classOf_9 : decode cX3_classOf 9 = .ok (.aload_n 0, 1) := by decide +kernel
theorem dX3_classOf_10 : decode cX3_classOf 10 = .ok (.getfield 25, 3) := by decide +kernel
theorem dX3_classOf_13 : decode cX3_classOf 13 = .ok (.iload_n 1, 1) := by decide +kernel
theorem dX3_classOf_14 : decode cX3_classOf 14 = .ok (.laload, 1) := by decide +kernel
theorem dX3_classOf_15 : decode cX3_classOf 15 = .ok (.ldc2_w 110, 3) := by decide +kernel
theorem dX3_classOf_18 : decode cX3_classOf 18 = .ok (.invokestatic 112, 3) := by decide +kernel
theorem dX3_classOf_21 : decode cX3_classOf 21 = .ok (.invokestatic 116, 3) := by decide +kernel
theorem dX3_classOf_24 : decode cX3_classOf 24 = .ok (.l2i, 1) := by decide +kernel
theorem dX3_classOf_25 : decode cX3_classOf 25 = .ok (.goto 4, 3) := by decide +kernel
theorem dX3_classOf_28 : decode cX3_classOf 28 = .ok (.iconst 1, 1) := by decide +kernel
theorem dX3_classOf_29 : decode cX3_classOf 29 = .ok (.ireturn, 1) := by decide +kernel
theorem dX3_isRowZone_0 : decode cX3_isRowZone 0 = .ok (.aload_n 0, 1) := by decide +kernel
theorem dX3_isRowZone_1 : decode cX3_isRowZone 1 = .ok (.iload_n 1, 1) := by decide +kernel
theorem dX3_isRowZone_2 : decode cX3_isRowZone 2 = .ok (.invokevirtual 118, 3) := by decide +kernel
theorem dX3_isRowZone_5 : decode cX3_isRowZone 5 = .ok (.iconst 2, 1) := by decide +kernel
theorem dX3_isRowZone_6 : decode cX3_isRowZone 6 = .ok (.if_icmp .lt 7, 3) := by decide +kernel
theorem dX3_isRowZone_9 : decode cX3_isRowZone 9 = .ok (.iconst 1, 1) := by decide +kernel
theorem dX3_isRowZone_10 : decode cX3_isRowZone 10 = .ok (.goto 4, 3) := by decide +kernel
theorem dX3_isRowZone_13 : decode cX3_isRowZone 13 = .ok (.iconst 0, 1) := by decide +kernel
theorem dX3_isRowZone_14 : decode cX3_isRowZone 14 = .ok (.ireturn, 1) := by decide +kernel
theorem dX3_find_0 : decode cX3_find 0 = .ok (.iload_n 1, 1) := by decide +kernel
theorem dX3_find_1 : decode cX3_find 1 = .ok (.ifCond .ge 6, 3) := by decide +kernel
theorem dX3_find_4 : decode cX3_find 4 = .ok (.bipush (-4), 2) := by decide +kernel
theorem dX3_find_6 : decode cX3_find 6 = .ok (.ireturn, 1) := by decide +kernel
theorem dX3_find_7 : decode cX3_find 7 = .ok (.iload_n 1, 1) := by decide +kernel
theorem dX3_find_8 : decode cX3_find 8 = .ok (.bipush 100, 2) := by decide +kernel
theorem dX3_find_10 : decode cX3_find 10 = .ok (.irem, 1) := by decide +kernel
theorem dX3_find_11 : decode cX3_find 11 = .ok (.istore_n 2, 1) := by decide +kernel
theorem dX3_find_12 : decode cX3_find 12 = .ok (.iload_n 1, 1) := by decide +kernel
theorem dX3_find_13 : decode cX3_find 13 = .ok (.bipush 100, 2) := by decide +kernel
theorem dX3_find_15 : decode cX3_find 15 = .ok (.idiv, 1) := by decide +kernel
theorem dX3_find_16 : decode cX3_find 16 = .ok (.istore_n 3, 1) := by decide +kernel
theorem dX3_find_17 : decode cX3_find 17 = .ok (.aload_n 0, 1) := by decide +kernel
theorem dX3_find_18 : decode cX3_find 18 = .ok (.getfield 28, 3) := by decide +kernel
theorem dX3_find_21 : decode cX3_find 21 = .ok (.iload_n 2, 1) := by decide +kernel
theorem dX3_find_22 : decode cX3_find 22 = .ok (.iaload, 1) := by decide +kernel
theorem dX3_find_23 : decode cX3_find 23 = .ok (.iload_n 3, 1) := by decide +kernel
theorem dX3_find_24 : decode cX3_find 24 = .ok (.if_icmp .gt 6, 3) := by decide +kernel
theorem dX3_find_27 : decode cX3_find 27 = .ok (.bipush (-4), 2) := by decide +kernel
theorem dX3_find_29 : decode cX3_find 29 = .ok (.ireturn, 1) := by decide +kernel
theorem dX3_find_30 : decode cX3_find 30 = .ok (.aload_n 0, 1) := by decide +kernel
theorem dX3_find_31 : decode cX3_find 31 = .ok (.getfield 31, 3) := by decide +kernel
theorem dX3_find_34 : decode cX3_find 34 = .ok (.iload_n 2, 1) := by decide +kernel
theorem dX3_find_35 : decode cX3_find 35 = .ok (.iaload, 1) := by decide +kernel
theorem dX3_find_36 : decode cX3_find 36 = .ok (.ifCond .lt 15, 3) := by decide +kernel
theorem dX3_find_39 : decode cX3_find 39 = .ok (.aload_n 0, 1) := by decide +kernel
theorem dX3_find_40 : decode cX3_find 40 = .ok (.getfield 28, 3) := by decide +kernel
theorem dX3_find_43 : decode cX3_find 43 = .ok (.iload_n 2, 1) := by decide +kernel
theorem dX3_find_44 : decode cX3_find 44 = .ok (.iaload, 1) := by decide +kernel
theorem dX3_find_45 : decode cX3_find 45 = .ok (.iconst 1, 1) := by decide +kernel
theorem dX3_find_46 : decode cX3_find 46 = .ok (.isub, 1) := by decide +kernel
theorem dX3_find_47 : decode cX3_find 47 = .ok (.iload_n 3, 1) := by decide +kernel
theorem dX3_find_48 : decode cX3_find 48 = .ok (.if_icmp .eq 8, 3) := by decide +kernel
theorem dX3_find_51 : decode cX3_find 51 = .ok (.bipush (-5), 2) := by decide +kernel
theorem dX3_find_53 : decode cX3_find 53 = .ok (.goto 4, 3) := by decide +kernel
theorem dX3_find_56 : decode cX3_find 56 = .ok (.iload_n 2, 1) := by decide +kernel
theorem dX3_find_57 : decode cX3_find 57 = .ok (.ireturn, 1) := by decide +kernel
theorem dX3_handleOf_0 : decode cX3_handleOf 0 = .ok (.bipush 100, 2) := by decide +kernel
theorem dX3_handleOf_2 : decode cX3_handleOf 2 = .ok (.aload_n 0, 1) := by decide +kernel
theorem dX3_handleOf_3 : decode cX3_handleOf 3 = .ok (.getfield 28, 3) := by decide +kernel
theorem dX3_handleOf_6 : decode cX3_handleOf 6 = .ok (.iload_n 1, 1) := by decide +kernel
theorem dX3_handleOf_7 : decode cX3_handleOf 7 = .ok (.iaload, 1) := by decide +kernel
theorem dX3_handleOf_8 : decode cX3_handleOf 8 = .ok (.iconst 1, 1) := by decide +kernel
theorem dX3_handleOf_9 : decode cX3_handleOf 9 = .ok (.isub, 1) := by decide +kernel
theorem dX3_handleOf_10 : decode cX3_handleOf 10 = .ok (.imul, 1) := by decide +kernel
theorem dX3_handleOf_11 : decode cX3_handleOf 11 = .ok (.iload_n 1, 1) := by decide +kernel
theorem dX3_handleOf_12 : decode cX3_handleOf 12 = .ok (.iadd, 1) := by decide +kernel
theorem dX3_handleOf_13 : decode cX3_handleOf 13 = .ok (.ireturn, 1) := by decide +kernel
theorem dX3_lowestUnused_0 : decode cX3_lowestUnused 0 = .ok (.iconst 0, 1) := by decide +kernel
theorem dX3_lowestUnused_1 : decode cX3_lowestUnused 1 = .ok (.istore_n 1, 1) := by decide +kernel
theorem dX3_lowestUnused_2 : decode cX3_lowestUnused 2 = .ok (.iload_n 1, 1) := by decide +kernel
theorem dX3_lowestUnused_3 : decode cX3_lowestUnused 3 = .ok (.bipush 100, 2) := by decide +kernel
theorem dX3_lowestUnused_5 : decode cX3_lowestUnused 5 = .ok (.if_icmp .ge 20, 3) := by decide +kernel
theorem dX3_lowestUnused_8 : decode cX3_lowestUnused 8 = .ok (.aload_n 0, 1) := by decide +kernel
theorem dX3_lowestUnused_9 : decode cX3_lowestUnused 9 = .ok (.getfield 31, 3) := by decide +kernel
theorem dX3_lowestUnused_12 : decode cX3_lowestUnused 12 = .ok (.iload_n 1, 1) := by decide +kernel
theorem dX3_lowestUnused_13 : decode cX3_lowestUnused 13 = .ok (.iaload, 1) := by decide +kernel
theorem dX3_lowestUnused_14 : decode cX3_lowestUnused 14 = .ok (.ifCond .ge 5, 3) := by decide +kernel
theorem dX3_lowestUnused_17 : decode cX3_lowestUnused 17 = .ok (.iload_n 1, 1) := by decide +kernel
theorem dX3_lowestUnused_18 : decode cX3_lowestUnused 18 = .ok (.ireturn, 1) := by decide +kernel
theorem dX3_lowestUnused_19 : decode cX3_lowestUnused 19 = .ok (.iinc 1 1, 3) := by decide +kernel
theorem dX3_lowestUnused_22 : decode cX3_lowestUnused 22 = .ok (.goto (-20), 3) := by decide +kernel
theorem dX3_lowestUnused_25 : decode cX3_lowestUnused 25 = .ok (.iconst (-1), 1) := by decide +kernel
theorem dX3_lowestUnused_26 : decode cX3_lowestUnused 26 = .ok (.ireturn, 1) := by decide +kernel
theorem dX3_blocks_0 : decode cX3_blocks 0 = .ok (.iconst 0, 1) := by decide +kernel
theorem dX3_blocks_1 : decode cX3_blocks 1 = .ok (.istore_n 1, 1) := by decide +kernel
theorem dX3_blocks_2 : decode cX3_blocks 2 = .ok (.iconst 0, 1) := by decide +kernel
theorem dX3_blocks_3 : decode cX3_blocks 3 = .ok (.istore_n 2, 1) := by decide +kernel
theorem dX3_blocks_4 : decode cX3_blocks 4 = .ok (.iload_n 2, 1) := by decide +kernel
theorem dX3_blocks_5 : decode cX3_blocks 5 = .ok (.bipush 100, 2) := by decide +kernel
theorem dX3_blocks_7 : decode cX3_blocks 7 = .ok (.if_icmp .ge 21, 3) := by decide +kernel
theorem dX3_blocks_10 : decode cX3_blocks 10 = .ok (.aload_n 0, 1) := by decide +kernel
theorem dX3_blocks_11 : decode cX3_blocks 11 = .ok (.getfield 31, 3) := by decide +kernel
theorem dX3_blocks_14 : decode cX3_blocks 14 = .ok (.iload_n 2, 1) := by decide +kernel
theorem dX3_blocks_15 : decode cX3_blocks 15 = .ok (.iaload, 1) := by decide +kernel
theorem dX3_blocks_16 : decode cX3_blocks 16 = .ok (.ifCond .lt 6, 3) := by decide +kernel
theorem dX3_blocks_19 : decode cX3_blocks 19 = .ok (.iinc 1 1, 3) := by decide +kernel
theorem dX3_blocks_22 : decode cX3_blocks 22 = .ok (.iinc 2 1, 3) := by decide +kernel
theorem dX3_blocks_25 : decode cX3_blocks 25 = .ok (.goto (-21), 3) := by decide +kernel
theorem dX3_blocks_28 : decode cX3_blocks 28 = .ok (.iload_n 1, 1) := by decide +kernel
theorem dX3_blocks_29 : decode cX3_blocks 29 = .ok (.ireturn, 1) := by decide +kernel
theorem dX3_blocksOf_0 : decode cX3_blocksOf 0 = .ok (.iconst 0, 1) := by decide +kernel
theorem dX3_blocksOf_1 : decode cX3_blocksOf 1 = .ok (.istore_n 2, 1) := by decide +kernel
theorem dX3_blocksOf_2 : decode cX3_blocksOf 2 = .ok (.iconst 0, 1) := by decide +kernel
theorem dX3_blocksOf_3 : decode cX3_blocksOf 3 = .ok (.istore_n 3, 1) := by decide +kernel
theorem dX3_blocksOf_4 : decode cX3_blocksOf 4 = .ok (.iload_n 3, 1) := by decide +kernel
theorem dX3_blocksOf_5 : decode cX3_blocksOf 5 = .ok (.bipush 100, 2) := by decide +kernel
theorem dX3_blocksOf_7 : decode cX3_blocksOf 7 = .ok (.if_icmp .ge 22, 3) := by decide +kernel
theorem dX3_blocksOf_10 : decode cX3_blocksOf 10 = .ok (.aload_n 0, 1) := by decide +kernel
theorem dX3_blocksOf_11 : decode cX3_blocksOf 11 = .ok (.getfield 31, 3) := by decide +kernel
theorem dX3_blocksOf_14 : decode cX3_blocksOf 14 = .ok (.iload_n 3, 1) := by decide +kernel
theorem dX3_blocksOf_15 : decode cX3_blocksOf 15 = .ok (.iaload, 1) := by decide +kernel
theorem dX3_blocksOf_16 : decode cX3_blocksOf 16 = .ok (.iload_n 1, 1) := by decide +kernel
theorem dX3_blocksOf_17 : decode cX3_blocksOf 17 = .ok (.if_icmp .ne 6, 3) := by decide +kernel
theorem dX3_blocksOf_20 : decode cX3_blocksOf 20 = .ok (.iinc 2 1, 3) := by decide +kernel
theorem dX3_blocksOf_23 : decode cX3_blocksOf 23 = .ok (.iinc 3 1, 3) := by decide +kernel
theorem dX3_blocksOf_26 : decode cX3_blocksOf 26 = .ok (.goto (-22), 3) := by decide +kernel
theorem dX3_blocksOf_29 : decode cX3_blocksOf 29 = .ok (.iload_n 2, 1) := by decide +kernel
theorem dX3_blocksOf_30 : decode cX3_blocksOf 30 = .ok (.ireturn, 1) := by decide +kernel
theorem dX3_putBlock_0 : decode cX3_putBlock 0 = .ok (.aload_n 0, 1) := by decide +kernel
theorem dX3_putBlock_1 : decode cX3_putBlock 1 = .ok (.getfield 31, 3) := by decide +kernel
theorem dX3_putBlock_4 : decode cX3_putBlock 4 = .ok (.iload_n 1, 1) := by decide +kernel
theorem dX3_putBlock_5 : decode cX3_putBlock 5 = .ok (.iload_n 2, 1) := by decide +kernel
theorem dX3_putBlock_6 : decode cX3_putBlock 6 = .ok (.iastore, 1) := by decide +kernel
theorem dX3_putBlock_7 : decode cX3_putBlock 7 = .ok (.aload_n 0, 1) := by decide +kernel
theorem dX3_putBlock_8 : decode cX3_putBlock 8 = .ok (.getfield 34, 3) := by decide +kernel
theorem dX3_putBlock_11 : decode cX3_putBlock 11 = .ok (.iload_n 1, 1) := by decide +kernel
theorem dX3_putBlock_12 : decode cX3_putBlock 12 = .ok (.iload_n 3, 1) := by decide +kernel
theorem dX3_putBlock_13 : decode cX3_putBlock 13 = .ok (.iastore, 1) := by decide +kernel
theorem dX3_putBlock_14 : decode cX3_putBlock 14 = .ok (.aload_n 0, 1) := by decide +kernel
theorem dX3_putBlock_15 : decode cX3_putBlock 15 = .ok (.getfield 37, 3) := by decide +kernel
theorem dX3_putBlock_18 : decode cX3_putBlock 18 = .ok (.iload_n 1, 1) := by decide +kernel
theorem dX3_putBlock_19 : decode cX3_putBlock 19 = .ok (.aload_n 0, 1) := by decide +kernel
theorem dX3_putBlock_20 : decode cX3_putBlock 20 = .ok (.iload_n 3, 1) := by decide +kernel
theorem dX3_putBlock_21 : decode cX3_putBlock 21 = .ok (.invokevirtual 82, 3) := by decide +kernel
theorem dX3_putBlock_24 : decode cX3_putBlock 24 = .ok (.iastore, 1) := by decide +kernel
theorem dX3_putBlock_25 : decode cX3_putBlock 25 = .ok (.aload_n 0, 1) := by decide +kernel
theorem dX3_putBlock_26 : decode cX3_putBlock 26 = .ok (.getfield 40, 3) := by decide +kernel
theorem dX3_putBlock_29 : decode cX3_putBlock 29 = .ok (.iload_n 1, 1) := by decide +kernel
theorem dX3_putBlock_30 : decode cX3_putBlock 30 = .ok (.iload 4, 2) := by decide +kernel
theorem dX3_putBlock_32 : decode cX3_putBlock 32 = .ok (.iastore, 1) := by decide +kernel
theorem dX3_putBlock_33 : decode cX3_putBlock 33 = .ok (.aload_n 0, 1) := by decide +kernel
theorem dX3_putBlock_34 : decode cX3_putBlock 34 = .ok (.iload_n 3, 1) := by decide +kernel
theorem dX3_putBlock_35 : decode cX3_putBlock 35 = .ok (.iconst (-1), 1) := by decide +kernel
theorem dX3_putBlock_36 : decode cX3_putBlock 36 = .ok (.iload_n 1, 1) := by decide +kernel
theorem dX3_putBlock_37 : decode cX3_putBlock 37 = .ok (.isub, 1) := by decide +kernel
theorem dX3_putBlock_38 : decode cX3_putBlock 38 = .ok (.invokevirtual 102, 3) := by decide +kernel
theorem dX3_putBlock_41 : decode cX3_putBlock 41 = .ok (.aload_n 0, 1) := by decide +kernel
theorem dX3_putBlock_42 : decode cX3_putBlock 42 = .ok (.iload_n 1, 1) := by decide +kernel
theorem dX3_putBlock_43 : decode cX3_putBlock 43 = .ok (.aload_n 0, 1) := by decide +kernel
theorem dX3_putBlock_44 : decode cX3_putBlock 44 = .ok (.iload_n 1, 1) := by decide +kernel
theorem dX3_putBlock_45 : decode cX3_putBlock 45 = .ok (.invokevirtual 121, 3) := by decide +kernel
theorem dX3_putBlock_48 : decode cX3_putBlock 48 = .ok (.invokevirtual 125, 3) := by decide +kernel
theorem dX3_putBlock_51 : decode cX3_putBlock 51 = .ok (.return_, 1) := by decide +kernel
theorem dX3_moveBlock_0 : decode cX3_moveBlock 0 = .ok (.aload_n 0, 1) := by decide +kernel
theorem dX3_moveBlock_1 : decode cX3_moveBlock 1 = .ok (.iload_n 1, 1) := by decide +kernel
theorem dX3_moveBlock_2 : decode cX3_moveBlock 2 = .ok (.invokevirtual 129, 3) := by decide +kernel
theorem dX3_moveBlock_5 : decode cX3_moveBlock 5 = .ok (.istore 4, 2) := by decide +kernel
theorem dX3_moveBlock_7 : decode cX3_moveBlock 7 = .ok (.aload_n 0, 1) := by decide +kernel
theorem dX3_moveBlock_8 : decode cX3_moveBlock 8 = .ok (.getfield 34, 3) := by decide +kernel
theorem dX3_moveBlock_11 : decode cX3_moveBlock 11 = .ok (.iload_n 1, 1) := by decide +kernel
theorem dX3_moveBlock_12 : decode cX3_moveBlock 12 = .ok (.iaload, 1) := by decide +kernel
theorem dX3_moveBlock_13 : decode cX3_moveBlock 13 = .ok (.istore 5, 2) := by decide +kernel
theorem dX3_moveBlock_15 : decode cX3_moveBlock 15 = .ok (.aload_n 0, 1) := by decide +kernel
theorem dX3_moveBlock_16 : decode cX3_moveBlock 16 = .ok (.getfield 37, 3) := by decide +kernel
theorem dX3_moveBlock_19 : decode cX3_moveBlock 19 = .ok (.iload_n 1, 1) := by decide +kernel
theorem dX3_moveBlock_20 : decode cX3_moveBlock 20 = .ok (.iaload, 1) := by decide +kernel
theorem dX3_moveBlock_21 : decode cX3_moveBlock 21 = .ok (.istore 6, 2) := by decide +kernel
theorem dX3_moveBlock_23 : decode cX3_moveBlock 23 = .ok (.aload_n 0, 1) := by decide +kernel
theorem dX3_moveBlock_24 : decode cX3_moveBlock 24 = .ok (.getfield 40, 3) := by decide +kernel
theorem dX3_moveBlock_27 : decode cX3_moveBlock 27 = .ok (.iload_n 1, 1) := by decide +kernel
theorem dX3_moveBlock_28 : decode cX3_moveBlock 28 = .ok (.iaload, 1) := by decide +kernel
theorem dX3_moveBlock_29 : decode cX3_moveBlock 29 = .ok (.istore 7, 2) := by decide +kernel
theorem dX3_moveBlock_31 : decode cX3_moveBlock 31 = .ok (.aload_n 0, 1) := by decide +kernel
theorem dX3_moveBlock_32 : decode cX3_moveBlock 32 = .ok (.iload_n 1, 1) := by decide +kernel
theorem dX3_moveBlock_33 : decode cX3_moveBlock 33 = .ok (.aload_n 0, 1) := by decide +kernel
theorem dX3_moveBlock_34 : decode cX3_moveBlock 34 = .ok (.getfield 31, 3) := by decide +kernel
theorem dX3_moveBlock_37 : decode cX3_moveBlock 37 = .ok (.iload_n 1, 1) := by decide +kernel
theorem dX3_moveBlock_38 : decode cX3_moveBlock 38 = .ok (.iaload, 1) := by decide +kernel
theorem dX3_moveBlock_39 : decode cX3_moveBlock 39 = .ok (.iload_n 2, 1) := by decide +kernel
theorem dX3_moveBlock_40 : decode cX3_moveBlock 40 = .ok (.iload_n 3, 1) := by decide +kernel
theorem dX3_moveBlock_41 : decode cX3_moveBlock 41 = .ok (.invokevirtual 132, 3) := by decide +kernel
theorem dX3_moveBlock_44 : decode cX3_moveBlock 44 = .ok (.aload_n 0, 1) := by decide +kernel
theorem dX3_moveBlock_45 : decode cX3_moveBlock 45 = .ok (.iload 4, 2) := by decide +kernel
theorem dX3_moveBlock_47 : decode cX3_moveBlock 47 = .ok (.aload_n 0, 1) := by decide +kernel
theorem dX3_moveBlock_48 : decode cX3_moveBlock 48 = .ok (.iload_n 1, 1) := by decide +kernel
theorem dX3_moveBlock_49 : decode cX3_moveBlock 49 = .ok (.invokevirtual 129, 3) := by decide +kernel
theorem dX3_moveBlock_52 : decode cX3_moveBlock 52 = .ok (.iload 7, 2) := by decide +kernel
theorem dX3_moveBlock_54 : decode cX3_moveBlock 54 = .ok (.invokevirtual 136, 3) := by decide +kernel
theorem dX3_moveBlock_57 : decode cX3_moveBlock 57 = .ok (.aload_n 0, 1) := by decide +kernel
theorem dX3_moveBlock_58 : decode cX3_moveBlock 58 = .ok (.iload 5, 2) := by decide +kernel
theorem dX3_moveBlock_60 : decode cX3_moveBlock 60 = .ok (.iload 6, 2) := by decide +kernel
theorem dX3_moveBlock_62 : decode cX3_moveBlock 62 = .ok (.invokevirtual 140, 3) := by decide +kernel
theorem dX3_moveBlock_65 : decode cX3_moveBlock 65 = .ok (.return_, 1) := by decide +kernel
theorem dX3_firstNumber_0 : decode cX3_firstNumber 0 = .ok (.aload_n 0, 1) := by decide +kernel
theorem dX3_firstNumber_1 : decode cX3_firstNumber 1 = .ok (.iload_n 1, 1) := by decide +kernel
theorem dX3_firstNumber_2 : decode cX3_firstNumber 2 = .ok (.invokevirtual 143, 3) := by decide +kernel
theorem dX3_firstNumber_5 : decode cX3_firstNumber 5 = .ok (.ifCond .eq 7, 3) := by decide +kernel
theorem dX3_firstNumber_8 : decode cX3_firstNumber 8 = .ok (.iconst 2, 1) := by decide +kernel
theorem dX3_firstNumber_9 : decode cX3_firstNumber 9 = .ok (.goto 21, 3) := by decide +kernel
theorem dX3_firstNumber_12 : decode cX3_firstNumber 12 = .ok (.aload_n 0, 1) := by decide +kernel
theorem dX3_firstNumber_13 : decode cX3_firstNumber 13 = .ok (.aload_n 0, 1) := by decide +kernel
theorem dX3_firstNumber_14 : decode cX3_firstNumber 14 = .ok (.getfield 31, 3) := by decide +kernel
theorem dX3_firstNumber_17 : decode cX3_firstNumber 17 = .ok (.iload_n 1, 1) := by decide +kernel
theorem dX3_firstNumber_18 : decode cX3_firstNumber 18 = .ok (.iaload, 1) := by decide +kernel
theorem dX3_firstNumber_19 : decode cX3_firstNumber 19 = .ok (.invokevirtual 146, 3) := by decide +kernel
theorem dX3_firstNumber_22 : decode cX3_firstNumber 22 = .ok (.ifCond .eq 7, 3) := by decide +kernel
theorem dX3_firstNumber_25 : decode cX3_firstNumber 25 = .ok (.iconst 1, 1) := by decide +kernel
theorem dX3_firstNumber_26 : decode cX3_firstNumber 26 = .ok (.goto 4, 3) := by decide +kernel
theorem dX3_firstNumber_29 : decode cX3_firstNumber 29 = .ok (.iconst 0, 1) := by decide +kernel
theorem dX3_firstNumber_30 : decode cX3_firstNumber 30 = .ok (.istore_n 2, 1) := by decide +kernel
theorem dX3_firstNumber_31 : decode cX3_firstNumber 31 = .ok (.aload_n 0, 1) := by decide +kernel
theorem dX3_firstNumber_32 : decode cX3_firstNumber 32 = .ok (.getfield 34, 3) := by decide +kernel
theorem dX3_firstNumber_35 : decode cX3_firstNumber 35 = .ok (.iload_n 1, 1) := by decide +kernel
theorem dX3_firstNumber_36 : decode cX3_firstNumber 36 = .ok (.iaload, 1) := by decide +kernel
theorem dX3_firstNumber_37 : decode cX3_firstNumber 37 = .ok (.iload_n 2, 1) := by decide +kernel
theorem dX3_firstNumber_38 : decode cX3_firstNumber 38 = .ok (.iadd, 1) := by decide +kernel
theorem dX3_firstNumber_39 : decode cX3_firstNumber 39 = .ok (.ireturn, 1) := by decide +kernel
theorem dX3_hasNumbers_0 : decode cX3_hasNumbers 0 = .ok (.iload_n 2, 1) := by decide +kernel
theorem dX3_hasNumbers_1 : decode cX3_hasNumbers 1 = .ok (.ifCond .lt 23, 3) := by decide +kernel
theorem dX3_hasNumbers_4 : decode cX3_hasNumbers 4 = .ok (.iload_n 3, 1) := by decide +kernel
theorem dX3_hasNumbers_5 : decode cX3_hasNumbers 5 = .ok (.ifCond .lt 19, 3) := by decide +kernel
theorem dX3_hasNumbers_8 : decode cX3_hasNumbers 8 = .ok (.iload_n 2, 1) := by decide +kernel
theorem dX3_hasNumbers_9 : decode cX3_hasNumbers 9 = .ok (.aload_n 0, 1) := by decide +kernel
theorem dX3_hasNumbers_10 : decode cX3_hasNumbers 10 = .ok (.getfield 40, 3) := by decide +kernel
theorem dX3_hasNumbers_13 : decode cX3_hasNumbers 13 = .ok (.iload_n 1, 1) := by decide +kernel
theorem dX3_hasNumbers_14 : decode cX3_hasNumbers 14 = .ok (.iaload, 1) := by decide +kernel
theorem dX3_hasNumbers_15 : decode cX3_hasNumbers 15 = .ok (.iload_n 3, 1) := by decide +kernel
theorem dX3_hasNumbers_16 : decode cX3_hasNumbers 16 = .ok (.isub, 1) := by decide +kernel
theorem dX3_hasNumbers_17 : decode cX3_hasNumbers 17 = .ok (.if_icmp .gt 7, 3) := by decide +kernel
theorem dX3_hasNumbers_20 : decode cX3_hasNumbers 20 = .ok (.iconst 1, 1) := by decide +kernel
theorem dX3_hasNumbers_21 : decode cX3_hasNumbers 21 = .ok (.goto 4, 3) := by decide +kernel
theorem dX3_hasNumbers_24 : decode cX3_hasNumbers 24 = .ok (.iconst 0, 1) := by decide +kernel
theorem dX3_hasNumbers_25 : decode cX3_hasNumbers 25 = .ok (.ireturn, 1) := by decide +kernel
theorem dX3_isGuarded_0 : decode cX3_isGuarded 0 = .ok (.aload_n 0, 1) := by decide +kernel
theorem dX3_isGuarded_1 : decode cX3_isGuarded 1 = .ok (.aload_n 0, 1) := by decide +kernel
theorem dX3_isGuarded_2 : decode cX3_isGuarded 2 = .ok (.getfield 31, 3) := by decide +kernel
theorem dX3_isGuarded_5 : decode cX3_isGuarded 5 = .ok (.iload_n 1, 1) := by decide +kernel
theorem dX3_isGuarded_6 : decode cX3_isGuarded 6 = .ok (.iaload, 1) := by decide +kernel
theorem dX3_isGuarded_7 : decode cX3_isGuarded 7 = .ok (.invokevirtual 118, 3) := by decide +kernel
theorem dX3_isGuarded_10 : decode cX3_isGuarded 10 = .ok (.iconst 5, 1) := by decide +kernel
theorem dX3_isGuarded_11 : decode cX3_isGuarded 11 = .ok (.if_icmp .ne 7, 3) := by decide +kernel
theorem dX3_isGuarded_14 : decode cX3_isGuarded 14 = .ok (.iconst 1, 1) := by decide +kernel
theorem dX3_isGuarded_15 : decode cX3_isGuarded 15 = .ok (.goto 4, 3) := by decide +kernel
theorem dX3_isGuarded_18 : decode cX3_isGuarded 18 = .ok (.iconst 0, 1) := by decide +kernel
theorem dX3_isGuarded_19 : decode cX3_isGuarded 19 = .ok (.ireturn, 1) := by decide +kernel
theorem dX3_wordOf_0 : decode cX3_wordOf 0 = .ok (.aload_n 0, 1) := by decide +kernel
theorem dX3_wordOf_1 : decode cX3_wordOf 1 = .ok (.aload_n 0, 1) := by decide +kernel
theorem dX3_wordOf_2 : decode cX3_wordOf 2 = .ok (.getfield 31, 3) := by decide +kernel
theorem dX3_wordOf_5 : decode cX3_wordOf 5 = .ok (.iload_n 1, 1) := by decide +kernel
theorem dX3_wordOf_6 : decode cX3_wordOf 6 = .ok (.iaload, 1) := by decide +kernel
theorem dX3_wordOf_7 : decode cX3_wordOf 7 = .ok (.invokevirtual 106, 3) := by decide +kernel
theorem dX3_wordOf_10 : decode cX3_wordOf 10 = .ok (.ifCond .eq 17, 3) := by decide +kernel
theorem dX3_wordOf_13 : decode cX3_wordOf 13 = .ok (.aload_n 0, 1) := by decide +kernel
theorem dX3_wordOf_14 : decode cX3_wordOf 14 = .ok (.getfield 25, 3) := by decide +kernel
theorem dX3_wordOf_17 : decode cX3_wordOf 17 = .ok (.aload_n 0, 1) := by decide +kernel
theorem dX3_wordOf_18 : decode cX3_wordOf 18 = .ok (.getfield 31, 3) := by decide +kernel
theorem dX3_wordOf_21 : decode cX3_wordOf 21 = .ok (.iload_n 1, 1) := by decide +kernel
theorem dX3_wordOf_22 : decode cX3_wordOf 22 = .ok (.iaload, 1) := by decide +kernel
theorem dX3_wordOf_23 : decode cX3_wordOf 23 = .ok (.laload, 1) := by decide +kernel
theorem dX3_wordOf_24 : decode cX3_wordOf 24 = .ok (.goto 4, 3) := by decide +kernel
theorem dX3_wordOf_27 : decode cX3_wordOf 27 = .ok (.lconst 0, 1) := by decide +kernel
theorem dX3_wordOf_28 : decode cX3_wordOf 28 = .ok (.lreturn, 1) := by decide +kernel
theorem dX3_firstWord_0 : decode cX3_firstWord 0 = .ok (.aload_n 0, 1) := by decide +kernel
theorem dX3_firstWord_1 : decode cX3_firstWord 1 = .ok (.getfield 34, 3) := by decide +kernel
theorem dX3_firstWord_4 : decode cX3_firstWord 4 = .ok (.iload_n 1, 1) := by decide +kernel
theorem dX3_firstWord_5 : decode cX3_firstWord 5 = .ok (.iaload, 1) := by decide +kernel
theorem dX3_firstWord_6 : decode cX3_firstWord 6 = .ok (.iconst 1, 1) := by decide +kernel
theorem dX3_firstWord_7 : decode cX3_firstWord 7 = .ok (.iadd, 1) := by decide +kernel
theorem dX3_firstWord_8 : decode cX3_firstWord 8 = .ok (.ireturn, 1) := by decide +kernel
theorem dX3_lastWord_0 : decode cX3_lastWord 0 = .ok (.aload_n 0, 1) := by decide +kernel
theorem dX3_lastWord_1 : decode cX3_lastWord 1 = .ok (.getfield 34, 3) := by decide +kernel
theorem dX3_lastWord_4 : decode cX3_lastWord 4 = .ok (.iload_n 1, 1) := by decide +kernel
theorem dX3_lastWord_5 : decode cX3_lastWord 5 = .ok (.iaload, 1) := by decide +kernel
theorem dX3_lastWord_6 : decode cX3_lastWord 6 = .ok (.aload_n 0, 1) := by decide +kernel
theorem dX3_lastWord_7 : decode cX3_lastWord 7 = .ok (.getfield 37, 3) := by decide +kernel
theorem dX3_lastWord_10 : decode cX3_lastWord 10 = .ok (.iload_n 1, 1) := by decide +kernel
theorem dX3_lastWord_11 : decode cX3_lastWord 11 = .ok (.iaload, 1) := by decide +kernel
theorem dX3_lastWord_12 : decode cX3_lastWord 12 = .ok (.iadd, 1) := by decide +kernel
theorem dX3_lastWord_13 : decode cX3_lastWord 13 = .ok (.iconst 1, 1) := by decide +kernel
theorem dX3_lastWord_14 : decode cX3_lastWord 14 = .ok (.isub, 1) := by decide +kernel
theorem dX3_lastWord_15 : decode cX3_lastWord 15 = .ok (.ireturn, 1) := by decide +kernel
theorem dX3_setWords_0 : decode cX3_setWords 0 = .ok (.aload_n 0, 1) := by decide +kernel
theorem dX3_setWords_1 : decode cX3_setWords 1 = .ok (.iload_n 1, 1) := by decide +kernel
theorem dX3_setWords_2 : decode cX3_setWords 2 = .ok (.invokevirtual 143, 3) := by decide +kernel
theorem dX3_setWords_5 : decode cX3_setWords 5 = .ok (.ifCond .eq 23, 3) := by decide +kernel
theorem dX3_setWords_8 : decode cX3_setWords 8 = .ok (.aload_n 0, 1) := by decide +kernel
theorem dX3_setWords_9 : decode cX3_setWords 9 = .ok (.aload_n 0, 1) := by decide +kernel
theorem dX3_setWords_10 : decode cX3_setWords 10 = .ok (.iload_n 1, 1) := by decide +kernel
theorem dX3_setWords_11 : decode cX3_setWords 11 = .ok (.invokevirtual 149, 3) := by decide +kernel
theorem dX3_setWords_14 : decode cX3_setWords 14 = .ok (.lload_n 2, 1) := by decide +kernel
theorem dX3_setWords_15 : decode cX3_setWords 15 = .ok (.invokevirtual 152, 3) := by decide +kernel
theorem dX3_setWords_18 : decode cX3_setWords 18 = .ok (.aload_n 0, 1) := by decide +kernel
theorem dX3_setWords_19 : decode cX3_setWords 19 = .ok (.aload_n 0, 1) := by decide +kernel
theorem dX3_setWords_20 : decode cX3_setWords 20 = .ok (.iload_n 1, 1) := by decide +kernel
theorem dX3_setWords_21 : decode cX3_setWords 21 = .ok (.invokevirtual 155, 3) := by decide +kernel
theorem dX3_setWords_24 : decode cX3_setWords 24 = .ok (.lload_n 2, 1) := by decide +kernel
theorem dX3_setWords_25 : decode cX3_setWords 25 = .ok (.invokevirtual 152, 3) := by decide +kernel
theorem dX3_setWords_28 : decode cX3_setWords 28 = .ok (.return_, 1) := by decide +kernel
theorem dX3_spoiledWords_0 : decode cX3_spoiledWords 0 = .ok (.aload_n 0, 1) := by decide +kernel
theorem dX3_spoiledWords_1 : decode cX3_spoiledWords 1 = .ok (.iload_n 1, 1) := by decide +kernel
theorem dX3_spoiledWords_2 : decode cX3_spoiledWords 2 = .ok (.invokevirtual 143, 3) := by decide +kernel
theorem dX3_spoiledWords_5 : decode cX3_spoiledWords 5 = .ok (.ifCond .ne 5, 3) := by decide +kernel
theorem dX3_spoiledWords_8 : decode cX3_spoiledWords 8 = .ok (.iconst 0, 1) := by decide +kernel
theorem dX3_spoiledWords_9 : decode cX3_spoiledWords 9 = .ok (.ireturn, 1) := by decide +kernel
theorem dX3_spoiledWords_10 : decode cX3_spoiledWords 10 = .ok (.aload_n 0, 1) := by decide +kernel
theorem dX3_spoiledWords_11 : decode cX3_spoiledWords 11 = .ok (.aload_n 0, 1) := by decide +kernel
theorem dX3_spoiledWords_12 : decode cX3_spoiledWords 12 = .ok (.iload_n 1, 1) := by decide +kernel
theorem dX3_spoiledWords_13 : decode cX3_spoiledWords 13 = .ok (.invokevirtual 149, 3) := by decide +kernel
theorem dX3_spoiledWords_16 : decode cX3_spoiledWords 16 = .ok (.invokevirtual 158, 3) := by decide +kernel
theorem dX3_spoiledWords_19 : decode cX3_spoiledWords 19 = .ok (.aload_n 0, 1) := by decide +kernel
theorem dX3_spoiledWords_20 : decode cX3_spoiledWords 20 = .ok (.iload_n 1, 1) := by decide +kernel
theorem dX3_spoiledWords_21 : decode cX3_spoiledWords 21 = .ok (.invokevirtual 121, 3) := by decide +kernel
theorem dX3_spoiledWords_24 : decode cX3_spoiledWords 24 = .ok (.lcmp, 1) := by decide +kernel
theorem dX3_spoiledWords_25 : decode cX3_spoiledWords 25 = .ok (.ifCond .ne 7, 3) := by decide +kernel
theorem dX3_spoiledWords_28 : decode cX3_spoiledWords 28 = .ok (.iconst 0, 1) := by decide +kernel
theorem dX3_spoiledWords_29 : decode cX3_spoiledWords 29 = .ok (.goto 4, 3) := by decide +kernel
theorem dX3_spoiledWords_32 : decode cX3_spoiledWords 32 = .ok (.iconst 1, 1) := by decide +kernel
theorem dX3_spoiledWords_33 : decode cX3_spoiledWords 33 = .ok (.istore_n 2, 1) := by decide +kernel
theorem dX3_spoiledWords_34 : decode cX3_spoiledWords 34 = .ok (.aload_n 0, 1) := by decide +kernel
theorem dX3_spoiledWords_35 : decode cX3_spoiledWords 35 = .ok (.aload_n 0, 1) := by decide +kernel
theorem dX3_spoiledWords_36 : decode cX3_spoiledWords 36 = .ok (.iload_n 1, 1) := by decide +kernel
theorem dX3_spoiledWords_37 : decode cX3_spoiledWords 37 = .ok (.invokevirtual 155, 3) := by decide +kernel
theorem dX3_spoiledWords_40 : decode cX3_spoiledWords 40 = .ok (.invokevirtual 158, 3) := by decide +kernel
theorem dX3_spoiledWords_43 : decode cX3_spoiledWords 43 = .ok (.aload_n 0, 1) := by decide +kernel
theorem dX3_spoiledWords_44 : decode cX3_spoiledWords 44 = .ok (.iload_n 1, 1) := by decide +kernel
theorem dX3_spoiledWords_45 : decode cX3_spoiledWords 45 = .ok (.invokevirtual 121, 3) := by decide +kernel
theorem dX3_spoiledWords_48 : decode cX3_spoiledWords 48 = .ok (.lcmp, 1) := by decide +kernel
theorem dX3_spoiledWords_49 : decode cX3_spoiledWords 49 = .ok (.ifCond .ne 7, 3) := by decide +kernel
theorem dX3_spoiledWords_52 : decode cX3_spoiledWords 52 = .ok (.iconst 0, 1) := by decide +kernel
theorem dX3_spoiledWords_53 : decode cX3_spoiledWords 53 = .ok (.goto 4, 3) := by decide +kernel
theorem dX3_spoiledWords_56 : decode cX3_spoiledWords 56 = .ok (.iconst 2, 1) := by decide +kernel
theorem dX3_spoiledWords_57 : decode cX3_spoiledWords 57 = .ok (.istore_n 3, 1) := by decide +kernel
theorem dX3_spoiledWords_58 : decode cX3_spoiledWords 58 = .ok (.iload_n 2, 1) := by decide +kernel
theorem dX3_spoiledWords_59 : decode cX3_spoiledWords 59 = .ok (.iload_n 3, 1) := by decide +kernel
theorem dX3_spoiledWords_60 : decode cX3_spoiledWords 60 = .ok (.iadd, 1) := by decide +kernel
theorem dX3_spoiledWords_61 : decode cX3_spoiledWords 61 = .ok (.ireturn, 1) := by decide +kernel
theorem dX4_init_0 : decode cX4_init 0 = .ok (.aload_n 0, 1) := by decide +kernel
theorem dX4_init_1 : decode cX4_init 1 = .ok (.aload_n 1, 1) := by decide +kernel
theorem dX4_init_2 : decode cX4_init 2 = .ok (.invokespecial 3, 3) := by decide +kernel
theorem dX4_init_5 : decode cX4_init 5 = .ok (.return_, 1) := by decide +kernel
theorem dX4_mostOf_0 : decode cX4_mostOf 0 = .ok (.sipush 2000, 3) := by decide +kernel
theorem dX4_mostOf_3 : decode cX4_mostOf 3 = .ok (.ireturn, 1) := by decide +kernel
theorem dX4_greatest_0 : decode cX4_greatest 0 = .ok (.bipush 64, 2) := by decide +kernel
theorem dX4_greatest_2 : decode cX4_greatest 2 = .ok (.aload_n 0, 1) := by decide +kernel
theorem dX4_greatest_3 : decode cX4_greatest 3 = .ok (.getfield 9, 3) := by decide +kernel
theorem dX4_greatest_6 : decode cX4_greatest 6 = .ok (.invokevirtual 15, 3) := by decide +kernel
theorem dX4_greatest_9 : decode cX4_greatest 9 = .ok (.imul, 1) := by decide +kernel
theorem dX4_greatest_10 : decode cX4_greatest 10 = .ok (.istore_n 2, 1) := by decide +kernel
theorem dX4_greatest_11 : decode cX4_greatest 11 = .ok (.iconst 0, 1) := by decide +kernel
theorem dX4_greatest_12 : decode cX4_greatest 12 = .ok (.istore_n 3, 1) := by decide +kernel
theorem dX4_greatest_13 : decode cX4_greatest 13 = .ok (.iload_n 3, 1) := by decide +kernel
theorem dX4_greatest_14 : decode cX4_greatest 14 = .ok (.aload_n 0, 1) := by decide +kernel
theorem dX4_greatest_15 : decode cX4_greatest 15 = .ok (.getfield 9, 3) := by decide +kernel
theorem dX4_greatest_18 : decode cX4_greatest 18 = .ok (.invokevirtual 21, 3) := by decide +kernel
theorem dX4_greatest_21 : decode cX4_greatest 21 = .ok (.if_icmp .ge 35, 3) := by decide +kernel
theorem dX4_greatest_24 : decode cX4_greatest 24 = .ok (.iload_n 2, 1) := by decide +kernel
theorem dX4_greatest_25 : decode cX4_greatest 25 = .ok (.aload_n 0, 1) := by decide +kernel
theorem dX4_greatest_26 : decode cX4_greatest 26 = .ok (.getfield 9, 3) := by decide +kernel
theorem dX4_greatest_29 : decode cX4_greatest 29 = .ok (.iload_n 3, 1) := by decide +kernel
theorem dX4_greatest_30 : decode cX4_greatest 30 = .ok (.iload_n 1, 1) := by decide +kernel
theorem dX4_greatest_31 : decode cX4_greatest 31 = .ok (.invokevirtual 24, 3) := by decide +kernel
theorem dX4_greatest_34 : decode cX4_greatest 34 = .ok (.invokestatic 28, 3) := by decide +kernel
theorem dX4_greatest_37 : decode cX4_greatest 37 = .ok (.istore_n 2, 1) := by decide +kernel
theorem dX4_greatest_38 : decode cX4_greatest 38 = .ok (.iload_n 3, 1) := by decide +kernel
theorem dX4_greatest_39 : decode cX4_greatest 39 = .ok (.iconst 1, 1) := by decide +kernel
theorem dX4_greatest_40 : decode cX4_greatest 40 = .ok (.iadd, 1) := by decide +kernel
theorem dX4_greatest_41 : decode cX4_greatest 41 = .ok (.aload_n 0, 1) := by decide +kernel
theorem dX4_greatest_42 : decode cX4_greatest 42 = .ok (.getfield 9, 3) := by decide +kernel
theorem dX4_greatest_45 : decode cX4_greatest 45 = .ok (.iload_n 3, 1) := by decide +kernel
theorem dX4_greatest_46 : decode cX4_greatest 46 = .ok (.invokevirtual 33, 3) := by decide +kernel
theorem dX4_greatest_49 : decode cX4_greatest 49 = .ok (.invokestatic 28, 3) := by decide +kernel
theorem dX4_greatest_52 : decode cX4_greatest 52 = .ok (.istore_n 3, 1) := by decide +kernel
theorem dX4_greatest_53 : decode cX4_greatest 53 = .ok (.goto (-40), 3) := by decide +kernel
theorem dX4_greatest_56 : decode cX4_greatest 56 = .ok (.iconst (-1), 1) := by decide +kernel
theorem dX4_greatest_57 : decode cX4_greatest 57 = .ok (.iload_n 2, 1) := by decide +kernel
theorem dX4_greatest_58 : decode cX4_greatest 58 = .ok (.aload_n 0, 1) := by decide +kernel
theorem dX4_greatest_59 : decode cX4_greatest 59 = .ok (.iload_n 1, 1) := by decide +kernel
theorem dX4_greatest_60 : decode cX4_greatest 60 = .ok (.invokevirtual 37, 3) := by decide +kernel
theorem dX4_greatest_63 : decode cX4_greatest 63 = .ok (.isub, 1) := by decide +kernel
theorem dX4_greatest_64 : decode cX4_greatest 64 = .ok (.sipush 2000, 3) := by decide +kernel
theorem dX4_greatest_67 : decode cX4_greatest 67 = .ok (.invokestatic 40, 3) := by decide +kernel
theorem dX4_greatest_70 : decode cX4_greatest 70 = .ok (.invokestatic 28, 3) := by decide +kernel
theorem dX4_greatest_73 : decode cX4_greatest 73 = .ok (.ireturn, 1) := by decide +kernel
theorem dX4_takePiece_0 : decode cX4_takePiece 0 = .ok (.iload_n 2, 1) := by decide +kernel
theorem dX4_takePiece_1 : decode cX4_takePiece 1 = .ok (.aload_n 0, 1) := by decide +kernel
theorem dX4_takePiece_2 : decode cX4_takePiece 2 = .ok (.iload_n 1, 1) := by decide +kernel
theorem dX4_takePiece_3 : decode cX4_takePiece 3 = .ok (.invokevirtual 37, 3) := by decide +kernel
theorem dX4_takePiece_6 : decode cX4_takePiece 6 = .ok (.iadd, 1) := by decide +kernel
theorem dX4_takePiece_7 : decode cX4_takePiece 7 = .ok (.istore_n 3, 1) := by decide +kernel
theorem dX4_takePiece_8 : decode cX4_takePiece 8 = .ok (.aload_n 0, 1) := by decide +kernel
theorem dX4_takePiece_9 : decode cX4_takePiece 9 = .ok (.iload_n 1, 1) := by decide +kernel
theorem dX4_takePiece_10 : decode cX4_takePiece 10 = .ok (.iload_n 3, 1) := by decide +kernel
theorem dX4_takePiece_11 : decode cX4_takePiece 11 = .ok (.invokevirtual 43, 3) := by decide +kernel
theorem dX4_takePiece_14 : decode cX4_takePiece 14 = .ok (.istore 4, 2) := by decide +kernel
theorem dX4_takePiece_16 : decode cX4_takePiece 16 = .ok (.iload 4, 2) := by decide +kernel
theorem dX4_takePiece_18 : decode cX4_takePiece 18 = .ok (.ifCond .ge 30, 3) := by decide +kernel
theorem dX4_takePiece_21 : decode cX4_takePiece 21 = .ok (.aload_n 0, 1) := by decide +kernel
theorem dX4_takePiece_22 : decode cX4_takePiece 22 = .ok (.iload_n 1, 1) := by decide +kernel
theorem dX4_takePiece_23 : decode cX4_takePiece 23 = .ok (.iload_n 3, 1) := by decide +kernel
theorem dX4_takePiece_24 : decode cX4_takePiece 24 = .ok (.bipush 64, 2) := by decide +kernel
theorem dX4_takePiece_26 : decode cX4_takePiece 26 = .ok (.iadd, 1) := by decide +kernel
theorem dX4_takePiece_27 : decode cX4_takePiece 27 = .ok (.iconst 1, 1) := by decide +kernel
theorem dX4_takePiece_28 : decode cX4_takePiece 28 = .ok (.isub, 1) := by decide +kernel
theorem dX4_takePiece_29 : decode cX4_takePiece 29 = .ok (.bipush 64, 2) := by decide +kernel
theorem dX4_takePiece_31 : decode cX4_takePiece 31 = .ok (.idiv, 1) := by decide +kernel
theorem dX4_takePiece_32 : decode cX4_takePiece 32 = .ok (.invokevirtual 46, 3) := by decide +kernel
theorem dX4_takePiece_35 : decode cX4_takePiece 35 = .ok (.ifCond .ne 5, 3) := by decide +kernel
theorem dX4_takePiece_38 : decode cX4_takePiece 38 = .ok (.iconst (-1), 1) := by decide +kernel
theorem dX4_takePiece_39 : decode cX4_takePiece 39 = .ok (.ireturn, 1) := by decide +kernel
theorem dX4_takePiece_40 : decode cX4_takePiece 40 = .ok (.aload_n 0, 1) := by decide +kernel
theorem dX4_takePiece_41 : decode cX4_takePiece 41 = .ok (.iload_n 1, 1) := by decide +kernel
theorem dX4_takePiece_42 : decode cX4_takePiece 42 = .ok (.iload_n 3, 1) := by decide +kernel
theorem dX4_takePiece_43 : decode cX4_takePiece 43 = .ok (.invokevirtual 43, 3) := by decide +kernel
theorem dX4_takePiece_46 : decode cX4_takePiece 46 = .ok (.istore 4, 2) := by decide +kernel
theorem dX4_takePiece_48 : decode cX4_takePiece 48 = .ok (.aload_n 0, 1) := by decide +kernel
theorem dX4_takePiece_49 : decode cX4_takePiece 49 = .ok (.getfield 9, 3) := by decide +kernel
theorem dX4_takePiece_52 : decode cX4_takePiece 52 = .ok (.iload 4, 2) := by decide +kernel
theorem dX4_takePiece_54 : decode cX4_takePiece 54 = .ok (.iload_n 1, 1) := by decide +kernel
theorem dX4_takePiece_55 : decode cX4_takePiece 55 = .ok (.invokevirtual 24, 3) := by decide +kernel
theorem dX4_takePiece_58 : decode cX4_takePiece 58 = .ok (.istore 5, 2) := by decide +kernel
theorem dX4_takePiece_60 : decode cX4_takePiece 60 = .ok (.iload 5, 2) := by decide +kernel
theorem dX4_takePiece_62 : decode cX4_takePiece 62 = .ok (.iload_n 3, 1) := by decide +kernel
theorem dX4_takePiece_63 : decode cX4_takePiece 63 = .ok (.if_icmp .le 28, 3) := by decide +kernel
theorem dX4_takePiece_66 : decode cX4_takePiece 66 = .ok (.aload_n 0, 1) := by decide +kernel
theorem dX4_takePiece_67 : decode cX4_takePiece 67 = .ok (.getfield 9, 3) := by decide +kernel
theorem dX4_takePiece_70 : decode cX4_takePiece 70 = .ok (.iload 4, 2) := by decide +kernel
theorem dX4_takePiece_72 : decode cX4_takePiece 72 = .ok (.iload_n 3, 1) := by decide +kernel
theorem dX4_takePiece_73 : decode cX4_takePiece 73 = .ok (.iadd, 1) := by decide +kernel
theorem dX4_takePiece_74 : decode cX4_takePiece 74 = .ok (.iload 5, 2) := by decide +kernel
theorem dX4_takePiece_76 : decode cX4_takePiece 76 = .ok (.iload_n 3, 1) := by decide +kernel
theorem dX4_takePiece_77 : decode cX4_takePiece 77 = .ok (.isub, 1) := by decide +kernel
theorem dX4_takePiece_78 : decode cX4_takePiece 78 = .ok (.invokevirtual 50, 3) := by decide +kernel
theorem dX4_takePiece_81 : decode cX4_takePiece 81 = .ok (.aload_n 0, 1) := by decide +kernel
theorem dX4_takePiece_82 : decode cX4_takePiece 82 = .ok (.getfield 9, 3) := by decide +kernel
theorem dX4_takePiece_85 : decode cX4_takePiece 85 = .ok (.iload 4, 2) := by decide +kernel
theorem dX4_takePiece_87 : decode cX4_takePiece 87 = .ok (.iload_n 3, 1) := by decide +kernel
theorem dX4_takePiece_88 : decode cX4_takePiece 88 = .ok (.invokevirtual 50, 3) := by decide +kernel
theorem dX4_takePiece_91 : decode cX4_takePiece 91 = .ok (.iload 4, 2) := by decide +kernel
theorem dX4_takePiece_93 : decode cX4_takePiece 93 = .ok (.ireturn, 1) := by decide +kernel
theorem dX4_fits_0 : decode cX4_fits 0 = .ok (.iload_n 2, 1) := by decide +kernel
theorem dX4_fits_1 : decode cX4_fits 1 = .ok (.aload_n 0, 1) := by decide +kernel
theorem dX4_fits_2 : decode cX4_fits 2 = .ok (.getfield 9, 3) := by decide +kernel
theorem dX4_fits_5 : decode cX4_fits 5 = .ok (.getfield 54, 3) := by decide +kernel
theorem dX4_fits_8 : decode cX4_fits 8 = .ok (.iload_n 1, 1) := by decide +kernel
theorem dX4_fits_9 : decode cX4_fits 9 = .ok (.iaload, 1) := by decide +kernel
theorem dX4_fits_10 : decode cX4_fits 10 = .ok (.isub, 1) := by decide +kernel
theorem dX4_fits_11 : decode cX4_fits 11 = .ok (.istore_n 3, 1) := by decide +kernel
theorem dX4_fits_12 : decode cX4_fits 12 = .ok (.aload_n 0, 1) := by decide +kernel
theorem dX4_fits_13 : decode cX4_fits 13 = .ok (.iload_n 1, 1) := by decide +kernel
theorem dX4_fits_14 : decode cX4_fits 14 = .ok (.invokevirtual 58, 3) := by decide +kernel
theorem dX4_fits_17 : decode cX4_fits 17 = .ok (.iload_n 3, 1) := by decide +kernel
theorem dX4_fits_18 : decode cX4_fits 18 = .ok (.if_icmp .lt 7, 3) := by decide +kernel
theorem dX4_fits_21 : decode cX4_fits 21 = .ok (.iconst 1, 1) := by decide +kernel
theorem dX4_fits_22 : decode cX4_fits 22 = .ok (.goto 4, 3) := by decide +kernel
theorem dX4_fits_25 : decode cX4_fits 25 = .ok (.iconst 0, 1) := by decide +kernel
theorem dX4_fits_26 : decode cX4_fits 26 = .ok (.ireturn, 1) := by decide +kernel
theorem dX4_reshape_0 : decode cX4_reshape 0 = .ok (.aload_n 0, 1) := by decide +kernel
theorem dX4_reshape_1 : decode cX4_reshape 1 = .ok (.getfield 9, 3) := by decide +kernel
theorem dX4_reshape_4 : decode cX4_reshape 4 = .ok (.getfield 61, 3) := by decide +kernel
theorem dX4_reshape_7 : decode cX4_reshape 7 = .ok (.iload_n 1, 1) := by decide +kernel
theorem dX4_reshape_8 : decode cX4_reshape 8 = .ok (.iaload, 1) := by decide +kernel
theorem dX4_reshape_9 : decode cX4_reshape 9 = .ok (.aload_n 0, 1) := by decide +kernel
theorem dX4_reshape_10 : decode cX4_reshape 10 = .ok (.getfield 9, 3) := by decide +kernel
theorem dX4_reshape_13 : decode cX4_reshape 13 = .ok (.getfield 64, 3) := by decide +kernel
theorem dX4_reshape_16 : decode cX4_reshape 16 = .ok (.iload_n 1, 1) := by decide +kernel
theorem dX4_reshape_17 : decode cX4_reshape 17 = .ok (.iaload, 1) := by decide +kernel
theorem dX4_reshape_18 : decode cX4_reshape 18 = .ok (.iadd, 1) := by decide +kernel
theorem dX4_reshape_19 : decode cX4_reshape 19 = .ok (.istore_n 3, 1) := by decide +kernel
theorem dX4_reshape_20 : decode cX4_reshape 20 = .ok (.aload_n 0, 1) := by decide +kernel
theorem dX4_reshape_21 : decode cX4_reshape 21 = .ok (.iload_n 1, 1) := by decide +kernel
theorem dX4_reshape_22 : decode cX4_reshape 22 = .ok (.invokevirtual 58, 3) := by decide +kernel
theorem dX4_reshape_25 : decode cX4_reshape 25 = .ok (.istore 4, 2) := by decide +kernel
theorem dX4_reshape_27 : decode cX4_reshape 27 = .ok (.iload 4, 2) := by decide +kernel
theorem dX4_reshape_29 : decode cX4_reshape 29 = .ok (.ifCond .le 12, 3) := by decide +kernel
theorem dX4_reshape_32 : decode cX4_reshape 32 = .ok (.aload_n 0, 1) := by decide +kernel
theorem dX4_reshape_33 : decode cX4_reshape 33 = .ok (.getfield 9, 3) := by decide +kernel
theorem dX4_reshape_36 : decode cX4_reshape 36 = .ok (.iload_n 3, 1) := by decide +kernel
theorem dX4_reshape_37 : decode cX4_reshape 37 = .ok (.iconst 0, 1) := by decide +kernel
theorem dX4_reshape_38 : decode cX4_reshape 38 = .ok (.invokevirtual 50, 3) := by decide +kernel
theorem dX4_reshape_41 : decode cX4_reshape 41 = .ok (.aload_n 0, 1) := by decide +kernel
theorem dX4_reshape_42 : decode cX4_reshape 42 = .ok (.getfield 9, 3) := by decide +kernel
theorem dX4_reshape_45 : decode cX4_reshape 45 = .ok (.getfield 64, 3) := by decide +kernel
theorem dX4_reshape_48 : decode cX4_reshape 48 = .ok (.iload_n 1, 1) := by decide +kernel
theorem dX4_reshape_49 : decode cX4_reshape 49 = .ok (.iload_n 2, 1) := by decide +kernel
theorem dX4_reshape_50 : decode cX4_reshape 50 = .ok (.aload_n 0, 1) := by decide +kernel
theorem dX4_reshape_51 : decode cX4_reshape 51 = .ok (.aload_n 0, 1) := by decide +kernel
theorem dX4_reshape_52 : decode cX4_reshape 52 = .ok (.getfield 9, 3) := by decide +kernel
theorem dX4_reshape_55 : decode cX4_reshape 55 = .ok (.getfield 67, 3) := by decide +kernel
theorem dX4_reshape_58 : decode cX4_reshape 58 = .ok (.iload_n 1, 1) := by decide +kernel
theorem dX4_reshape_59 : decode cX4_reshape 59 = .ok (.iaload, 1) := by decide +kernel
theorem dX4_reshape_60 : decode cX4_reshape 60 = .ok (.invokevirtual 37, 3) := by decide +kernel
theorem dX4_reshape_63 : decode cX4_reshape 63 = .ok (.iadd, 1) := by decide +kernel
theorem dX4_reshape_64 : decode cX4_reshape 64 = .ok (.iastore, 1) := by decide +kernel
theorem dX4_reshape_65 : decode cX4_reshape 65 = .ok (.aload_n 0, 1) := by decide +kernel
theorem dX4_reshape_66 : decode cX4_reshape 66 = .ok (.getfield 9, 3) := by decide +kernel
theorem dX4_reshape_69 : decode cX4_reshape 69 = .ok (.getfield 61, 3) := by decide +kernel
theorem dX4_reshape_72 : decode cX4_reshape 72 = .ok (.iload_n 1, 1) := by decide +kernel
theorem dX4_reshape_73 : decode cX4_reshape 73 = .ok (.iaload, 1) := by decide +kernel
theorem dX4_reshape_74 : decode cX4_reshape 74 = .ok (.aload_n 0, 1) := by decide +kernel
theorem dX4_reshape_75 : decode cX4_reshape 75 = .ok (.getfield 9, 3) := by decide +kernel
theorem dX4_reshape_78 : decode cX4_reshape 78 = .ok (.getfield 64, 3) := by decide +kernel
theorem dX4_reshape_81 : decode cX4_reshape 81 = .ok (.iload_n 1, 1) := by decide +kernel
theorem dX4_reshape_82 : decode cX4_reshape 82 = .ok (.iaload, 1) := by decide +kernel
theorem dX4_reshape_83 : decode cX4_reshape 83 = .ok (.iadd, 1) := by decide +kernel
theorem dX4_reshape_84 : decode cX4_reshape 84 = .ok (.istore 5, 2) := by decide +kernel
theorem dX4_reshape_86 : decode cX4_reshape 86 = .ok (.iload 5, 2) := by decide +kernel
theorem dX4_reshape_88 : decode cX4_reshape 88 = .ok (.iload_n 3, 1) := by decide +kernel
theorem dX4_reshape_89 : decode cX4_reshape 89 = .ok (.iload 4, 2) := by decide +kernel
theorem dX4_reshape_91 : decode cX4_reshape 91 = .ok (.iadd, 1) := by decide +kernel
theorem dX4_reshape_92 : decode cX4_reshape 92 = .ok (.if_icmp .ge 19, 3) := by decide +kernel
theorem dX4_reshape_95 : decode cX4_reshape 95 = .ok (.aload_n 0, 1) := by decide +kernel
theorem dX4_reshape_96 : decode cX4_reshape 96 = .ok (.getfield 9, 3) := by decide +kernel
theorem dX4_reshape_99 : decode cX4_reshape 99 = .ok (.iload 5, 2) := by decide +kernel
theorem dX4_reshape_101 : decode cX4_reshape 101 = .ok (.iload_n 3, 1) := by decide +kernel
theorem dX4_reshape_102 : decode cX4_reshape 102 = .ok (.iload 4, 2) := by decide +kernel
theorem dX4_reshape_104 : decode cX4_reshape 104 = .ok (.iadd, 1) := by decide +kernel
theorem dX4_reshape_105 : decode cX4_reshape 105 = .ok (.iload 5, 2) := by decide +kernel
theorem dX4_reshape_107 : decode cX4_reshape 107 = .ok (.isub, 1) := by decide +kernel
theorem dX4_reshape_108 : decode cX4_reshape 108 = .ok (.invokevirtual 50, 3) := by decide +kernel
theorem dX4_reshape_111 : decode cX4_reshape 111 = .ok (.return_, 1) := by decide +kernel
theorem dX4_tidy_0 : decode cX4_tidy 0 = .ok (.aload_n 0, 1) := by decide +kernel
theorem dX4_tidy_1 : decode cX4_tidy 1 = .ok (.iload_n 1, 1) := by decide +kernel
theorem dX4_tidy_2 : decode cX4_tidy 2 = .ok (.invokevirtual 70, 3) := by decide +kernel
theorem dX4_tidy_5 : decode cX4_tidy 5 = .ok (.iconst 0, 1) := by decide +kernel
theorem dX4_tidy_6 : decode cX4_tidy 6 = .ok (.istore_n 2, 1) := by decide +kernel
theorem dX4_tidy_7 : decode cX4_tidy 7 = .ok (.iload_n 2, 1) := by decide +kernel
theorem dX4_tidy_8 : decode cX4_tidy 8 = .ok (.aload_n 0, 1) := by decide +kernel
theorem dX4_tidy_9 : decode cX4_tidy 9 = .ok (.getfield 9, 3) := by decide +kernel
theorem dX4_tidy_12 : decode cX4_tidy 12 = .ok (.invokevirtual 21, 3) := by decide +kernel
theorem dX4_tidy_15 : decode cX4_tidy 15 = .ok (.if_icmp .ge 41, 3) := by decide +kernel
theorem dX4_tidy_18 : decode cX4_tidy 18 = .ok (.iload_n 2, 1) := by decide +kernel
theorem dX4_tidy_19 : decode cX4_tidy 19 = .ok (.iconst 1, 1) := by decide +kernel
theorem dX4_tidy_20 : decode cX4_tidy 20 = .ok (.iadd, 1) := by decide +kernel
theorem dX4_tidy_21 : decode cX4_tidy 21 = .ok (.aload_n 0, 1) := by decide +kernel
theorem dX4_tidy_22 : decode cX4_tidy 22 = .ok (.getfield 9, 3) := by decide +kernel
theorem dX4_tidy_25 : decode cX4_tidy 25 = .ok (.iload_n 2, 1) := by decide +kernel
theorem dX4_tidy_26 : decode cX4_tidy 26 = .ok (.invokevirtual 33, 3) := by decide +kernel
theorem dX4_tidy_29 : decode cX4_tidy 29 = .ok (.invokestatic 28, 3) := by decide +kernel
theorem dX4_tidy_32 : decode cX4_tidy 32 = .ok (.istore_n 3, 1) := by decide +kernel
theorem dX4_tidy_33 : decode cX4_tidy 33 = .ok (.aload_n 0, 1) := by decide +kernel
theorem dX4_tidy_34 : decode cX4_tidy 34 = .ok (.getfield 9, 3) := by decide +kernel
theorem dX4_tidy_37 : decode cX4_tidy 37 = .ok (.iload_n 2, 1) := by decide +kernel
theorem dX4_tidy_38 : decode cX4_tidy 38 = .ok (.iload_n 1, 1) := by decide +kernel
theorem dX4_tidy_39 : decode cX4_tidy 39 = .ok (.invokevirtual 24, 3) := by decide +kernel
theorem dX4_tidy_42 : decode cX4_tidy 42 = .ok (.ifCond .le 9, 3) := by decide +kernel
theorem dX4_tidy_45 : decode cX4_tidy 45 = .ok (.aload_n 0, 1) := by decide +kernel
theorem dX4_tidy_46 : decode cX4_tidy 46 = .ok (.iload_n 2, 1) := by decide +kernel
theorem dX4_tidy_47 : decode cX4_tidy 47 = .ok (.iload_n 3, 1) := by decide +kernel
theorem dX4_tidy_48 : decode cX4_tidy 48 = .ok (.invokevirtual 74, 3) := by decide +kernel
theorem dX4_tidy_51 : decode cX4_tidy 51 = .ok (.iload_n 3, 1) := by decide +kernel
theorem dX4_tidy_52 : decode cX4_tidy 52 = .ok (.istore_n 2, 1) := by decide +kernel
theorem dX4_tidy_53 : decode cX4_tidy 53 = .ok (.goto (-46), 3) := by decide +kernel
theorem dX4_tidy_56 : decode cX4_tidy 56 = .ok (.return_, 1) := by decide +kernel
theorem dX4_aside_0 : decode cX4_aside 0 = .ok (.aload_n 0, 1) := by decide +kernel
theorem dX4_aside_1 : decode cX4_aside 1 = .ok (.getfield 9, 3) := by decide +kernel
theorem dX4_aside_4 : decode cX4_aside 4 = .ok (.iload_n 1, 1) := by decide +kernel
theorem dX4_aside_5 : decode cX4_aside 5 = .ok (.invokevirtual 77, 3) := by decide +kernel
theorem dX4_aside_8 : decode cX4_aside 8 = .ok (.iconst 5, 1) := by decide +kernel
theorem dX4_aside_9 : decode cX4_aside 9 = .ok (.if_icmp .ne 7, 3) := by decide +kernel
theorem dX4_aside_12 : decode cX4_aside 12 = .ok (.iconst 3, 1) := by decide +kernel
theorem dX4_aside_13 : decode cX4_aside 13 = .ok (.goto 4, 3) := by decide +kernel
theorem dX4_aside_16 : decode cX4_aside 16 = .ok (.iconst 1, 1) := by decide +kernel
theorem dX4_aside_17 : decode cX4_aside 17 = .ok (.ireturn, 1) := by decide +kernel
theorem dX4_choose_0 : decode cX4_choose 0 = .ok (.aload_n 0, 1) := by decide +kernel
theorem dX4_choose_1 : decode cX4_choose 1 = .ok (.getfield 9, 3) := by decide +kernel
theorem dX4_choose_4 : decode cX4_choose 4 = .ok (.iload_n 1, 1) := by decide +kernel
theorem dX4_choose_5 : decode cX4_choose 5 = .ok (.invokevirtual 77, 3) := by decide +kernel
theorem dX4_choose_8 : decode cX4_choose 8 = .ok (.istore_n 3, 1) := by decide +kernel
theorem dX4_choose_9 : decode cX4_choose 9 = .ok (.iconst (-1), 1) := by decide +kernel
theorem dX4_choose_10 : decode cX4_choose 10 = .ok (.istore 4, 2) := by decide +kernel
theorem dX4_choose_12 : decode cX4_choose 12 = .ok (.iconst 0, 1) := by decide +kernel
theorem dX4_choose_13 : decode cX4_choose 13 = .ok (.istore 5, 2) := by decide +kernel
theorem dX4_choose_15 : decode cX4_choose 15 = .ok (.iconst 0, 1) := by decide +kernel
theorem dX4_choose_16 : decode cX4_choose 16 = .ok (.istore 6, 2) := by decide +kernel
theorem dX4_choose_18 : decode cX4_choose 18 = .ok (.iload 6, 2) := by decide +kernel
theorem dX4_choose_20 : decode cX4_choose 20 = .ok (.aload_n 0, 1) := by decide +kernel
theorem dX4_choose_21 : decode cX4_choose 21 = .ok (.getfield 9, 3) := by decide +kernel
theorem dX4_choose_24 : decode cX4_choose 24 = .ok (.invokevirtual 21, 3) := by decide +kernel
theorem dX4_choose_27 : decode cX4_choose 27 = .ok (.if_icmp .ge 67, 3) := by decide +kernel
theorem dX4_choose_30 : decode cX4_choose 30 = .ok (.aload_n 0, 1) := by decide +kernel
theorem dX4_choose_31 : decode cX4_choose 31 = .ok (.getfield 9, 3) := by decide +kernel
theorem dX4_choose_34 : decode cX4_choose 34 = .ok (.iload 6, 2) := by decide +kernel
theorem dX4_choose_36 : decode cX4_choose 36 = .ok (.iload_n 1, 1) := by decide +kernel
theorem dX4_choose_37 : decode cX4_choose 37 = .ok (.invokevirtual 24, 3) := by decide +kernel
theorem dX4_choose_40 : decode cX4_choose 40 = .ok (.istore 7, 2) := by decide +kernel
theorem dX4_choose_42 : decode cX4_choose 42 = .ok (.iload 7, 2) := by decide +kernel
theorem dX4_choose_44 : decode cX4_choose 44 = .ok (.iload_n 2, 1) := by decide +kernel
theorem dX4_choose_45 : decode cX4_choose 45 = .ok (.if_icmp .lt 28, 3) := by decide +kernel
theorem dX4_choose_48 : decode cX4_choose 48 = .ok (.iload 4, 2) := by decide +kernel
theorem dX4_choose_50 : decode cX4_choose 50 = .ok (.ifCond .lt 15, 3) := by decide +kernel
theorem dX4_choose_53 : decode cX4_choose 53 = .ok (.aload_n 0, 1) := by decide +kernel
theorem dX4_choose_54 : decode cX4_choose 54 = .ok (.iload_n 3, 1) := by decide +kernel
theorem dX4_choose_55 : decode cX4_choose 55 = .ok (.iload 7, 2) := by decide +kernel
theorem dX4_choose_57 : decode cX4_choose 57 = .ok (.iload 5, 2) := by decide +kernel
theorem dX4_choose_59 : decode cX4_choose 59 = .ok (.invokevirtual 80, 3) := by decide +kernel
theorem dX4_choose_62 : decode cX4_choose 62 = .ok (.ifCond .eq 11, 3) := by decide +kernel
theorem dX4_choose_65 : decode cX4_choose 65 = .ok (.iload 6, 2) := by decide +kernel
theorem dX4_choose_67 : decode cX4_choose 67 = .ok (.istore 4, 2) := by decide +kernel
theorem dX4_choose_69 : decode cX4_choose 69 = .ok (.iload 7, 2) := by decide +kernel
theorem dX4_choose_71 : decode cX4_choose 71 = .ok (.istore 5, 2) := by decide +kernel
theorem dX4_choose_73 : decode cX4_choose 73 = .ok (.iload 6, 2) := by decide +kernel
theorem dX4_choose_75 : decode cX4_choose 75 = .ok (.iconst 1, 1) := by decide +kernel
theorem dX4_choose_76 : decode cX4_choose 76 = .ok (.iadd, 1) := by decide +kernel
theorem dX4_choose_77 : decode cX4_choose 77 = .ok (.aload_n 0, 1) := by decide +kernel
theorem dX4_choose_78 : decode cX4_choose 78 = .ok (.getfield 9, 3) := by decide +kernel
theorem dX4_choose_81 : decode cX4_choose 81 = .ok (.iload 6, 2) := by decide +kernel
theorem dX4_choose_83 : decode cX4_choose 83 = .ok (.invokevirtual 33, 3) := by decide +kernel
theorem dX4_choose_86 : decode cX4_choose 86 = .ok (.invokestatic 28, 3) := by decide +kernel
theorem dX4_choose_89 : decode cX4_choose 89 = .ok (.istore 6, 2) := by decide +kernel
theorem dX4_choose_91 : decode cX4_choose 91 = .ok (.goto (-73), 3) := by decide +kernel
theorem dX4_choose_94 : decode cX4_choose 94 = .ok (.iload 4, 2) := by decide +kernel
theorem dX4_choose_96 : decode cX4_choose 96 = .ok (.ireturn, 1) := by decide +kernel
theorem dX4_isBetter_0 : decode cX4_isBetter 0 = .ok (.iload_n 1, 1) := by decide +kernel
theorem dX4_isBetter_1 : decode cX4_isBetter 1 = .ok (.iconst 2, 1) := by decide +kernel
theorem dX4_isBetter_2 : decode cX4_isBetter 2 = .ok (.if_icmp .ne 14, 3) := by decide +kernel
theorem dX4_isBetter_5 : decode cX4_isBetter 5 = .ok (.iload_n 2, 1) := by decide +kernel
theorem dX4_isBetter_6 : decode cX4_isBetter 6 = .ok (.iload_n 3, 1) := by decide +kernel
theorem dX4_isBetter_7 : decode cX4_isBetter 7 = .ok (.if_icmp .le 7, 3) := by decide +kernel
theorem dX4_isBetter_10 : decode cX4_isBetter 10 = .ok (.iconst 1, 1) := by decide +kernel
theorem dX4_isBetter_11 : decode cX4_isBetter 11 = .ok (.goto 4, 3) := by decide +kernel
theorem dX4_isBetter_14 : decode cX4_isBetter 14 = .ok (.iconst 0, 1) := by decide +kernel
theorem dX4_isBetter_15 : decode cX4_isBetter 15 = .ok (.ireturn, 1) := by decide +kernel
theorem dX4_isBetter_16 : decode cX4_isBetter 16 = .ok (.iload_n 1, 1) := by decide +kernel
theorem dX4_isBetter_17 : decode cX4_isBetter 17 = .ok (.iconst 3, 1) := by decide +kernel
theorem dX4_isBetter_18 : decode cX4_isBetter 18 = .ok (.if_icmp .ne 12, 3) := by decide +kernel
theorem dX4_isBetter_21 : decode cX4_isBetter 21 = .ok (.iload_n 2, 1) := by decide +kernel
theorem dX4_isBetter_22 : decode cX4_isBetter 22 = .ok (.iload_n 3, 1) := by decide +kernel
theorem dX4_isBetter_23 : decode cX4_isBetter 23 = .ok (.if_icmp .ge 7, 3) := by decide +kernel
theorem dX4_isBetter_26 : decode cX4_isBetter 26 = .ok (.iconst 1, 1) := by decide +kernel
theorem dX4_isBetter_27 : decode cX4_isBetter 27 = .ok (.goto 4, 3) := by decide +kernel
theorem dX4_isBetter_30 : decode cX4_isBetter 30 = .ok (.iconst 0, 1) := by decide +kernel
theorem dX4_isBetter_31 : decode cX4_isBetter 31 = .ok (.ireturn, 1) := by decide +kernel
theorem dX4_bringPages_0 : decode cX4_bringPages 0 = .ok (.aload_n 0, 1) := by decide +kernel
theorem dX4_bringPages_1 : decode cX4_bringPages 1 = .ok (.getfield 9, 3) := by decide +kernel
theorem dX4_bringPages_4 : decode cX4_bringPages 4 = .ok (.iload_n 2, 1) := by decide +kernel
theorem dX4_bringPages_5 : decode cX4_bringPages 5 = .ok (.invokevirtual 84, 3) := by decide +kernel
theorem dX4_bringPages_8 : decode cX4_bringPages 8 = .ok (.istore_n 3, 1) := by decide +kernel
theorem dX4_bringPages_9 : decode cX4_bringPages 9 = .ok (.iload_n 3, 1) := by decide +kernel
theorem dX4_bringPages_10 : decode cX4_bringPages 10 = .ok (.ifCond .ge 5, 3) := by decide +kernel
theorem dX4_bringPages_13 : decode cX4_bringPages 13 = .ok (.iconst 0, 1) := by decide +kernel
theorem dX4_bringPages_14 : decode cX4_bringPages 14 = .ok (.ireturn, 1) := by decide +kernel
theorem dX4_bringPages_15 : decode cX4_bringPages 15 = .ok (.iload_n 3, 1) := by decide +kernel
theorem dX4_bringPages_16 : decode cX4_bringPages 16 = .ok (.istore 4, 2) := by decide +kernel
theorem dX4_bringPages_18 : decode cX4_bringPages 18 = .ok (.iload 4, 2) := by decide +kernel
theorem dX4_bringPages_20 : decode cX4_bringPages 20 = .ok (.iload_n 3, 1) := by decide +kernel
theorem dX4_bringPages_21 : decode cX4_bringPages 21 = .ok (.iload_n 2, 1) := by decide +kernel
theorem dX4_bringPages_22 : decode cX4_bringPages 22 = .ok (.iadd, 1) := by decide +kernel
theorem dX4_bringPages_23 : decode cX4_bringPages 23 = .ok (.if_icmp .ge 20, 3) := by decide +kernel
theorem dX4_bringPages_26 : decode cX4_bringPages 26 = .ok (.aload_n 0, 1) := by decide +kernel
theorem dX4_bringPages_27 : decode cX4_bringPages 27 = .ok (.getfield 9, 3) := by decide +kernel
theorem dX4_bringPages_30 : decode cX4_bringPages 30 = .ok (.getfield 87, 3) := by decide +kernel
theorem dX4_bringPages_33 : decode cX4_bringPages 33 = .ok (.iload 4, 2) := by decide +kernel
theorem dX4_bringPages_35 : decode cX4_bringPages 35 = .ok (.iload_n 1, 1) := by decide +kernel
theorem dX4_bringPages_36 : decode cX4_bringPages 36 = .ok (.iastore, 1) := by decide +kernel
theorem dX4_bringPages_37 : decode cX4_bringPages 37 = .ok (.iinc 4 1, 3) := by decide +kernel
theorem dX4_bringPages_40 : decode cX4_bringPages 40 = .ok (.goto (-22), 3) := by decide +kernel
theorem dX4_bringPages_43 : decode cX4_bringPages 43 = .ok (.aload_n 0, 1) := by decide +kernel
theorem dX4_bringPages_44 : decode cX4_bringPages 44 = .ok (.getfield 9, 3) := by decide +kernel
theorem dX4_bringPages_47 : decode cX4_bringPages 47 = .ok (.iload_n 3, 1) := by decide +kernel
theorem dX4_bringPages_48 : decode cX4_bringPages 48 = .ok (.bipush 64, 2) := by decide +kernel
theorem dX4_bringPages_50 : decode cX4_bringPages 50 = .ok (.imul, 1) := by decide +kernel
theorem dX4_bringPages_51 : decode cX4_bringPages 51 = .ok (.iload_n 2, 1) := by decide +kernel
theorem dX4_bringPages_52 : decode cX4_bringPages 52 = .ok (.bipush 64, 2) := by decide +kernel
theorem dX4_bringPages_54 : decode cX4_bringPages 54 = .ok (.imul, 1) := by decide +kernel
theorem dX4_bringPages_55 : decode cX4_bringPages 55 = .ok (.invokevirtual 50, 3) := by decide +kernel
theorem dX4_bringPages_58 : decode cX4_bringPages 58 = .ok (.aload_n 0, 1) := by decide +kernel
theorem dX4_bringPages_59 : decode cX4_bringPages 59 = .ok (.iload_n 1, 1) := by decide +kernel
theorem dX4_bringPages_60 : decode cX4_bringPages 60 = .ok (.invokevirtual 70, 3) := by decide +kernel
theorem dX4_bringPages_63 : decode cX4_bringPages 63 = .ok (.iconst 1, 1) := by decide +kernel
theorem dX4_bringPages_64 : decode cX4_bringPages 64 = .ok (.ireturn, 1) := by decide +kernel
theorem dX4_freeBehind_0 : decode cX4_freeBehind 0 = .ok (.aload_n 0, 1) := by decide +kernel
theorem dX4_freeBehind_1 : decode cX4_freeBehind 1 = .ok (.getfield 9, 3) := by decide +kernel
theorem dX4_freeBehind_4 : decode cX4_freeBehind 4 = .ok (.aload_n 0, 1) := by decide +kernel
theorem dX4_freeBehind_5 : decode cX4_freeBehind 5 = .ok (.getfield 9, 3) := by decide +kernel
theorem dX4_freeBehind_8 : decode cX4_freeBehind 8 = .ok (.getfield 61, 3) := by decide +kernel
theorem dX4_freeBehind_11 : decode cX4_freeBehind 11 = .ok (.iload_n 1, 1) := by decide +kernel
theorem dX4_freeBehind_12 : decode cX4_freeBehind 12 = .ok (.iaload, 1) := by decide +kernel
theorem dX4_freeBehind_13 : decode cX4_freeBehind 13 = .ok (.aload_n 0, 1) := by decide +kernel
theorem dX4_freeBehind_14 : decode cX4_freeBehind 14 = .ok (.getfield 9, 3) := by decide +kernel
theorem dX4_freeBehind_17 : decode cX4_freeBehind 17 = .ok (.getfield 64, 3) := by decide +kernel
theorem dX4_freeBehind_20 : decode cX4_freeBehind 20 = .ok (.iload_n 1, 1) := by decide +kernel
theorem dX4_freeBehind_21 : decode cX4_freeBehind 21 = .ok (.iaload, 1) := by decide +kernel
theorem dX4_freeBehind_22 : decode cX4_freeBehind 22 = .ok (.iadd, 1) := by decide +kernel
theorem dX4_freeBehind_23 : decode cX4_freeBehind 23 = .ok (.aload_n 0, 1) := by decide +kernel
theorem dX4_freeBehind_24 : decode cX4_freeBehind 24 = .ok (.getfield 9, 3) := by decide +kernel
theorem dX4_freeBehind_27 : decode cX4_freeBehind 27 = .ok (.getfield 67, 3) := by decide +kernel
theorem dX4_freeBehind_30 : decode cX4_freeBehind 30 = .ok (.iload_n 1, 1) := by decide +kernel
theorem dX4_freeBehind_31 : decode cX4_freeBehind 31 = .ok (.iaload, 1) := by decide +kernel
theorem dX4_freeBehind_32 : decode cX4_freeBehind 32 = .ok (.invokevirtual 24, 3) := by decide +kernel
theorem dX4_freeBehind_35 : decode cX4_freeBehind 35 = .ok (.ireturn, 1) := by decide +kernel
theorem dX4_joinTouching_0 : decode cX4_joinTouching 0 = .ok (.iconst (-1), 1) := by decide +kernel
theorem dX4_joinTouching_1 : decode cX4_joinTouching 1 = .ok (.istore_n 2, 1) := by decide +kernel
theorem dX4_joinTouching_2 : decode cX4_joinTouching 2 = .ok (.iconst 0, 1) := by decide +kernel
theorem dX4_joinTouching_3 : decode cX4_joinTouching 3 = .ok (.istore_n 3, 1) := by decide +kernel
theorem dX4_joinTouching_4 : decode cX4_joinTouching 4 = .ok (.iload_n 3, 1) := by decide +kernel
theorem dX4_joinTouching_5 : decode cX4_joinTouching 5 = .ok (.aload_n 0, 1) := by decide +kernel
theorem dX4_joinTouching_6 : decode cX4_joinTouching 6 = .ok (.getfield 9, 3) := by decide +kernel
theorem dX4_joinTouching_9 : decode cX4_joinTouching 9 = .ok (.invokevirtual 21, 3) := by decide +kernel
theorem dX4_joinTouching_12 : decode cX4_joinTouching 12 = .ok (.if_icmp .ge 72, 3) := by decide +kernel
theorem dX4_joinTouching_15 : decode cX4_joinTouching 15 = .ok (.iload_n 3, 1) := by decide +kernel
theorem dX4_joinTouching_16 : decode cX4_joinTouching 16 = .ok (.iconst 1, 1) := by decide +kernel
theorem dX4_joinTouching_17 : decode cX4_joinTouching 17 = .ok (.iadd, 1) := by decide +kernel
theorem dX4_joinTouching_18 : decode cX4_joinTouching 18 = .ok (.aload_n 0, 1) := by decide +kernel
theorem dX4_joinTouching_19 : decode cX4_joinTouching 19 = .ok (.getfield 9, 3) := by decide +kernel
theorem dX4_joinTouching_22 : decode cX4_joinTouching 22 = .ok (.iload_n 3, 1) := by decide +kernel
theorem dX4_joinTouching_23 : decode cX4_joinTouching 23 = .ok (.invokevirtual 33, 3) := by decide +kernel
theorem dX4_joinTouching_26 : decode cX4_joinTouching 26 = .ok (.invokestatic 28, 3) := by decide +kernel
theorem dX4_joinTouching_29 : decode cX4_joinTouching 29 = .ok (.istore 4, 2) := by decide +kernel
theorem dX4_joinTouching_31 : decode cX4_joinTouching 31 = .ok (.aload_n 0, 1) := by decide +kernel
theorem dX4_joinTouching_32 : decode cX4_joinTouching 32 = .ok (.getfield 9, 3) := by decide +kernel
theorem dX4_joinTouching_35 : decode cX4_joinTouching 35 = .ok (.iload_n 3, 1) := by decide +kernel
theorem dX4_joinTouching_36 : decode cX4_joinTouching 36 = .ok (.iload_n 1, 1) := by decide +kernel
theorem dX4_joinTouching_37 : decode cX4_joinTouching 37 = .ok (.invokevirtual 24, 3) := by decide +kernel
theorem dX4_joinTouching_40 : decode cX4_joinTouching 40 = .ok (.ifCond .ne 8, 3) := by decide +kernel
theorem dX4_joinTouching_43 : decode cX4_joinTouching 43 = .ok (.iconst (-1), 1) := by decide +kernel
theorem dX4_joinTouching_44 : decode cX4_joinTouching 44 = .ok (.istore_n 2, 1) := by decide +kernel
theorem dX4_joinTouching_45 : decode cX4_joinTouching 45 = .ok (.goto 33, 3) := by decide +kernel
theorem dX4_joinTouching_48 : decode cX4_joinTouching 48 = .ok (.iload_n 2, 1) := by decide +kernel
theorem dX4_joinTouching_49 : decode cX4_joinTouching 49 = .ok (.ifCond .ge 8, 3) := by decide +kernel
theorem dX4_joinTouching_52 : decode cX4_joinTouching 52 = .ok (.iload_n 3, 1) := by decide +kernel
theorem dX4_joinTouching_53 : decode cX4_joinTouching 53 = .ok (.istore_n 2, 1) := by decide +kernel
theorem dX4_joinTouching_54 : decode cX4_joinTouching 54 = .ok (.goto 24, 3) := by decide +kernel
theorem dX4_joinTouching_57 : decode cX4_joinTouching 57 = .ok (.aload_n 0, 1) := by decide +kernel
theorem dX4_joinTouching_58 : decode cX4_joinTouching 58 = .ok (.getfield 9, 3) := by decide +kernel
theorem dX4_joinTouching_61 : decode cX4_joinTouching 61 = .ok (.iload_n 3, 1) := by decide +kernel
theorem dX4_joinTouching_62 : decode cX4_joinTouching 62 = .ok (.iconst 0, 1) := by decide +kernel
theorem dX4_joinTouching_63 : decode cX4_joinTouching 63 = .ok (.invokevirtual 50, 3) := by decide +kernel
theorem dX4_joinTouching_66 : decode cX4_joinTouching 66 = .ok (.aload_n 0, 1) := by decide +kernel
theorem dX4_joinTouching_67 : decode cX4_joinTouching 67 = .ok (.getfield 9, 3) := by decide +kernel
theorem dX4_joinTouching_70 : decode cX4_joinTouching 70 = .ok (.iload_n 2, 1) := by decide +kernel
theorem dX4_joinTouching_71 : decode cX4_joinTouching 71 = .ok (.iload 4, 2) := by decide +kernel
theorem dX4_joinTouching_73 : decode cX4_joinTouching 73 = .ok (.iload_n 2, 1) := by decide +kernel
theorem dX4_joinTouching_74 : decode cX4_joinTouching 74 = .ok (.isub, 1) := by decide +kernel
theorem dX4_joinTouching_75 : decode cX4_joinTouching 75 = .ok (.invokevirtual 50, 3) := by decide +kernel
theorem dX4_joinTouching_78 : decode cX4_joinTouching 78 = .ok (.iload 4, 2) := by decide +kernel
theorem dX4_joinTouching_80 : decode cX4_joinTouching 80 = .ok (.istore_n 3, 1) := by decide +kernel
theorem dX4_joinTouching_81 : decode cX4_joinTouching 81 = .ok (.goto (-77), 3) := by decide +kernel
theorem dX4_joinTouching_84 : decode cX4_joinTouching 84 = .ok (.return_, 1) := by decide +kernel
theorem dX4_letGoPages_0 : decode cX4_letGoPages 0 = .ok (.iload_n 1, 1) := by decide +kernel
theorem dX4_letGoPages_1 : decode cX4_letGoPages 1 = .ok (.bipush 64, 2) := by decide +kernel
theorem dX4_letGoPages_3 : decode cX4_letGoPages 3 = .ok (.iadd, 1) := by decide +kernel
theorem dX4_letGoPages_4 : decode cX4_letGoPages 4 = .ok (.iconst 1, 1) := by decide +kernel
theorem dX4_letGoPages_5 : decode cX4_letGoPages 5 = .ok (.isub, 1) := by decide +kernel
theorem dX4_letGoPages_6 : decode cX4_letGoPages 6 = .ok (.bipush 64, 2) := by decide +kernel
theorem dX4_letGoPages_8 : decode cX4_letGoPages 8 = .ok (.idiv, 1) := by decide +kernel
theorem dX4_letGoPages_9 : decode cX4_letGoPages 9 = .ok (.istore_n 3, 1) := by decide +kernel
theorem dX4_letGoPages_10 : decode cX4_letGoPages 10 = .ok (.iload_n 2, 1) := by decide +kernel
theorem dX4_letGoPages_11 : decode cX4_letGoPages 11 = .ok (.bipush 64, 2) := by decide +kernel
theorem dX4_letGoPages_13 : decode cX4_letGoPages 13 = .ok (.idiv, 1) := by decide +kernel
theorem dX4_letGoPages_14 : decode cX4_letGoPages 14 = .ok (.istore 4, 2) := by decide +kernel
theorem dX4_letGoPages_16 : decode cX4_letGoPages 16 = .ok (.iload_n 3, 1) := by decide +kernel
theorem dX4_letGoPages_17 : decode cX4_letGoPages 17 = .ok (.iload 4, 2) := by decide +kernel
theorem dX4_letGoPages_19 : decode cX4_letGoPages 19 = .ok (.if_icmp .lt 4, 3) := by decide +kernel
theorem dX4_letGoPages_22 : decode cX4_letGoPages 22 = .ok (.return_, 1) := by decide +kernel
theorem dX4_letGoPages_23 : decode cX4_letGoPages 23 = .ok (.iload_n 3, 1) := by decide +kernel
theorem dX4_letGoPages_24 : decode cX4_letGoPages 24 = .ok (.istore 5, 2) := by decide +kernel
theorem dX4_letGoPages_26 : decode cX4_letGoPages 26 = .ok (.iload 5, 2) := by decide +kernel
theorem dX4_letGoPages_28 : decode cX4_letGoPages 28 = .ok (.iload 4, 2) := by decide +kernel
theorem dX4_letGoPages_30 : decode cX4_letGoPages 30 = .ok (.if_icmp .ge 32, 3) := by decide +kernel
theorem dX4_letGoPages_33 : decode cX4_letGoPages 33 = .ok (.iload 5, 2) := by decide +kernel
theorem dX4_letGoPages_35 : decode cX4_letGoPages 35 = .ok (.aload_n 0, 1) := by decide +kernel
theorem dX4_letGoPages_36 : decode cX4_letGoPages 36 = .ok (.getfield 9, 3) := by decide +kernel
theorem dX4_letGoPages_39 : decode cX4_letGoPages 39 = .ok (.getfield 90, 3) := by decide +kernel
theorem dX4_letGoPages_42 : decode cX4_letGoPages 42 = .ok (.if_icmp .ge 20, 3) := by decide +kernel
theorem dX4_letGoPages_45 : decode cX4_letGoPages 45 = .ok (.aload_n 0, 1) := by decide +kernel
theorem dX4_letGoPages_46 : decode cX4_letGoPages 46 = .ok (.getfield 9, 3) := by decide +kernel
theorem dX4_letGoPages_49 : decode cX4_letGoPages 49 = .ok (.getfield 87, 3) := by decide +kernel
theorem dX4_letGoPages_52 : decode cX4_letGoPages 52 = .ok (.iload 5, 2) := by decide +kernel
theorem dX4_letGoPages_54 : decode cX4_letGoPages 54 = .ok (.iconst (-1), 1) := by decide +kernel
theorem dX4_letGoPages_55 : decode cX4_letGoPages 55 = .ok (.iastore, 1) := by decide +kernel
theorem dX4_letGoPages_56 : decode cX4_letGoPages 56 = .ok (.iinc 5 1, 3) := by decide +kernel
theorem dX4_letGoPages_59 : decode cX4_letGoPages 59 = .ok (.goto (-33), 3) := by decide +kernel
theorem dX4_letGoPages_62 : decode cX4_letGoPages 62 = .ok (.aload_n 0, 1) := by decide +kernel
theorem dX4_letGoPages_63 : decode cX4_letGoPages 63 = .ok (.getfield 9, 3) := by decide +kernel
theorem dX4_letGoPages_66 : decode cX4_letGoPages 66 = .ok (.iload_n 1, 1) := by decide +kernel
theorem dX4_letGoPages_67 : decode cX4_letGoPages 67 = .ok (.iload_n 3, 1) := by decide +kernel
theorem dX4_letGoPages_68 : decode cX4_letGoPages 68 = .ok (.bipush 64, 2) := by decide +kernel
theorem dX4_letGoPages_70 : decode cX4_letGoPages 70 = .ok (.imul, 1) := by decide +kernel
theorem dX4_letGoPages_71 : decode cX4_letGoPages 71 = .ok (.iload_n 1, 1) := by decide +kernel
theorem dX4_letGoPages_72 : decode cX4_letGoPages 72 = .ok (.isub, 1) := by decide +kernel
theorem dX4_letGoPages_73 : decode cX4_letGoPages 73 = .ok (.invokevirtual 50, 3) := by decide +kernel
theorem dX4_letGoPages_76 : decode cX4_letGoPages 76 = .ok (.iload 4, 2) := by decide +kernel
theorem dX4_letGoPages_78 : decode cX4_letGoPages 78 = .ok (.bipush 64, 2) := by decide +kernel
theorem dX4_letGoPages_80 : decode cX4_letGoPages 80 = .ok (.imul, 1) := by decide +kernel
theorem dX4_letGoPages_81 : decode cX4_letGoPages 81 = .ok (.iload_n 2, 1) := by decide +kernel
theorem dX4_letGoPages_82 : decode cX4_letGoPages 82 = .ok (.if_icmp .ge 22, 3) := by decide +kernel
theorem dX4_letGoPages_85 : decode cX4_letGoPages 85 = .ok (.aload_n 0, 1) := by decide +kernel
theorem dX4_letGoPages_86 : decode cX4_letGoPages 86 = .ok (.getfield 9, 3) := by decide +kernel
theorem dX4_letGoPages_89 : decode cX4_letGoPages 89 = .ok (.iload 4, 2) := by decide +kernel
theorem dX4_letGoPages_91 : decode cX4_letGoPages 91 = .ok (.bipush 64, 2) := by decide +kernel
theorem dX4_letGoPages_93 : decode cX4_letGoPages 93 = .ok (.imul, 1) := by decide +kernel
theorem dX4_letGoPages_94 : decode cX4_letGoPages 94 = .ok (.iload_n 2, 1) := by decide +kernel
theorem dX4_letGoPages_95 : decode cX4_letGoPages 95 = .ok (.iload 4, 2) := by decide +kernel
theorem dX4_letGoPages_97 : decode cX4_letGoPages 97 = .ok (.bipush 64, 2) := by decide +kernel
theorem dX4_letGoPages_99 : decode cX4_letGoPages 99 = .ok (.imul, 1) := by decide +kernel
theorem dX4_letGoPages_100 : decode cX4_letGoPages 100 = .ok (.isub, 1) := by decide +kernel
theorem dX4_letGoPages_101 : decode cX4_letGoPages 101 = .ok (.invokevirtual 50, 3) := by decide +kernel
theorem dX4_letGoPages_104 : decode cX4_letGoPages 104 = .ok (.return_, 1) := by decide +kernel
theorem dX5_init_0 : decode cX5_init 0 = .ok (.aload_n 0, 1) := by decide +kernel
theorem dX5_init_1 : decode cX5_init 1 = .ok (.aload_n 1, 1) := by decide +kernel
theorem dX5_init_2 : decode cX5_init 2 = .ok (.invokespecial 3, 3) := by decide +kernel
theorem dX5_init_5 : decode cX5_init 5 = .ok (.return_, 1) := by decide +kernel
theorem dX5_mostOf_0 : decode cX5_mostOf 0 = .ok (.aload_n 0, 1) := by decide +kernel
theorem dX5_mostOf_1 : decode cX5_mostOf 1 = .ok (.getfield 9, 3) := by decide +kernel
theorem dX5_mostOf_4 : decode cX5_mostOf 4 = .ok (.iload_n 1, 1) := by decide +kernel
theorem dX5_mostOf_5 : decode cX5_mostOf 5 = .ok (.invokevirtual 15, 3) := by decide +kernel
theorem dX5_mostOf_8 : decode cX5_mostOf 8 = .ok (.ireturn, 1) := by decide +kernel
theorem dX5_greatest_0 : decode cX5_greatest 0 = .ok (.aload_n 0, 1) := by decide +kernel
theorem dX5_greatest_1 : decode cX5_greatest 1 = .ok (.iload_n 1, 1) := by decide +kernel
theorem dX5_greatest_2 : decode cX5_greatest 2 = .ok (.invokevirtual 21, 3) := by decide +kernel
theorem dX5_greatest_5 : decode cX5_greatest 5 = .ok (.ifCond .ge 14, 3) := by decide +kernel
theorem dX5_greatest_8 : decode cX5_greatest 8 = .ok (.aload_n 0, 1) := by decide +kernel
theorem dX5_greatest_9 : decode cX5_greatest 9 = .ok (.getfield 9, 3) := by decide +kernel
theorem dX5_greatest_12 : decode cX5_greatest 12 = .ok (.iconst 1, 1) := by decide +kernel
theorem dX5_greatest_13 : decode cX5_greatest 13 = .ok (.invokevirtual 24, 3) := by decide +kernel
theorem dX5_greatest_16 : decode cX5_greatest 16 = .ok (.ifCond .lt 14, 3) := by decide +kernel
theorem dX5_greatest_19 : decode cX5_greatest 19 = .ok (.aload_n 0, 1) := by decide +kernel
theorem dX5_greatest_20 : decode cX5_greatest 20 = .ok (.getfield 9, 3) := by decide +kernel
theorem dX5_greatest_23 : decode cX5_greatest 23 = .ok (.iload_n 1, 1) := by decide +kernel
theorem dX5_greatest_24 : decode cX5_greatest 24 = .ok (.invokevirtual 15, 3) := by decide +kernel
theorem dX5_greatest_27 : decode cX5_greatest 27 = .ok (.goto 4, 3) := by decide +kernel
theorem dX5_greatest_30 : decode cX5_greatest 30 = .ok (.iconst (-1), 1) := by decide +kernel
theorem dX5_greatest_31 : decode cX5_greatest 31 = .ok (.ireturn, 1) := by decide +kernel
theorem dX5_takePiece_0 : decode cX5_takePiece 0 = .ok (.aload_n 0, 1) := by decide +kernel
theorem dX5_takePiece_1 : decode cX5_takePiece 1 = .ok (.iload_n 1, 1) := by decide +kernel
theorem dX5_takePiece_2 : decode cX5_takePiece 2 = .ok (.invokevirtual 21, 3) := by decide +kernel
theorem dX5_takePiece_5 : decode cX5_takePiece 5 = .ok (.istore_n 3, 1) := by decide +kernel
theorem dX5_takePiece_6 : decode cX5_takePiece 6 = .ok (.iload_n 3, 1) := by decide +kernel
theorem dX5_takePiece_7 : decode cX5_takePiece 7 = .ok (.ifCond .lt 5, 3) := by decide +kernel
theorem dX5_takePiece_10 : decode cX5_takePiece 10 = .ok (.iload_n 3, 1) := by decide +kernel
theorem dX5_takePiece_11 : decode cX5_takePiece 11 = .ok (.ireturn, 1) := by decide +kernel
theorem dX5_takePiece_12 : decode cX5_takePiece 12 = .ok (.aload_n 0, 1) := by decide +kernel
theorem dX5_takePiece_13 : decode cX5_takePiece 13 = .ok (.getfield 9, 3) := by decide +kernel
theorem dX5_takePiece_16 : decode cX5_takePiece 16 = .ok (.iconst 1, 1) := by decide +kernel
theorem dX5_takePiece_17 : decode cX5_takePiece 17 = .ok (.invokevirtual 24, 3) := by decide +kernel
theorem dX5_takePiece_20 : decode cX5_takePiece 20 = .ok (.istore 4, 2) := by decide +kernel
theorem dX5_takePiece_22 : decode cX5_takePiece 22 = .ok (.iload 4, 2) := by decide +kernel
theorem dX5_takePiece_24 : decode cX5_takePiece 24 = .ok (.ifCond .ge 5, 3) := by decide +kernel
theorem dX5_takePiece_27 : decode cX5_takePiece 27 = .ok (.iconst (-1), 1) := by decide +kernel
theorem dX5_takePiece_28 : decode cX5_takePiece 28 = .ok (.ireturn, 1) := by decide +kernel
theorem dX5_takePiece_29 : decode cX5_takePiece 29 = .ok (.aload_n 0, 1) := by decide +kernel
theorem dX5_takePiece_30 : decode cX5_takePiece 30 = .ok (.getfield 9, 3) := by decide +kernel
theorem dX5_takePiece_33 : decode cX5_takePiece 33 = .ok (.getfield 27, 3) := by decide +kernel
theorem dX5_takePiece_36 : decode cX5_takePiece 36 = .ok (.iload 4, 2) := by decide +kernel
theorem dX5_takePiece_38 : decode cX5_takePiece 38 = .ok (.iload_n 1, 1) := by decide +kernel
theorem dX5_takePiece_39 : decode cX5_takePiece 39 = .ok (.iastore, 1) := by decide +kernel
theorem dX5_takePiece_40 : decode cX5_takePiece 40 = .ok (.aload_n 0, 1) := by decide +kernel
theorem dX5_takePiece_41 : decode cX5_takePiece 41 = .ok (.iload 4, 2) := by decide +kernel
theorem dX5_takePiece_43 : decode cX5_takePiece 43 = .ok (.iload_n 1, 1) := by decide +kernel
theorem dX5_takePiece_44 : decode cX5_takePiece 44 = .ok (.aload_n 0, 1) := by decide +kernel
theorem dX5_takePiece_45 : decode cX5_takePiece 45 = .ok (.getfield 9, 3) := by decide +kernel
theorem dX5_takePiece_48 : decode cX5_takePiece 48 = .ok (.iload_n 1, 1) := by decide +kernel
theorem dX5_takePiece_49 : decode cX5_takePiece 49 = .ok (.invokevirtual 15, 3) := by decide +kernel
theorem dX5_takePiece_52 : decode cX5_takePiece 52 = .ok (.invokevirtual 31, 3) := by decide +kernel
theorem dX5_takePiece_55 : decode cX5_takePiece 55 = .ok (.iload 4, 2) := by decide +kernel
theorem dX5_takePiece_57 : decode cX5_takePiece 57 = .ok (.bipush 64, 2) := by decide +kernel
theorem dX5_takePiece_59 : decode cX5_takePiece 59 = .ok (.imul, 1) := by decide +kernel
theorem dX5_takePiece_60 : decode cX5_takePiece 60 = .ok (.iconst 1, 1) := by decide +kernel
theorem dX5_takePiece_61 : decode cX5_takePiece 61 = .ok (.iadd, 1) := by decide +kernel
theorem dX5_takePiece_62 : decode cX5_takePiece 62 = .ok (.ireturn, 1) := by decide +kernel
theorem dX5_fits_0 : decode cX5_fits 0 = .ok (.iconst 1, 1) := by decide +kernel
theorem dX5_fits_1 : decode cX5_fits 1 = .ok (.ireturn, 1) := by decide +kernel
theorem dX5_reshape_0 : decode cX5_reshape 0 = .ok (.return_, 1) := by decide +kernel
theorem dX5_tidy_0 : decode cX5_tidy 0 = .ok (.iconst 0, 1) := by decide +kernel
theorem dX5_tidy_1 : decode cX5_tidy 1 = .ok (.istore_n 2, 1) := by decide +kernel
theorem dX5_tidy_2 : decode cX5_tidy 2 = .ok (.iload_n 2, 1) := by decide +kernel
theorem dX5_tidy_3 : decode cX5_tidy 3 = .ok (.aload_n 0, 1) := by decide +kernel
theorem dX5_tidy_4 : decode cX5_tidy 4 = .ok (.getfield 9, 3) := by decide +kernel
theorem dX5_tidy_7 : decode cX5_tidy 7 = .ok (.getfield 35, 3) := by decide +kernel
theorem dX5_tidy_10 : decode cX5_tidy 10 = .ok (.if_icmp .ge 48, 3) := by decide +kernel
theorem dX5_tidy_13 : decode cX5_tidy 13 = .ok (.aload_n 0, 1) := by decide +kernel
theorem dX5_tidy_14 : decode cX5_tidy 14 = .ok (.getfield 9, 3) := by decide +kernel
theorem dX5_tidy_17 : decode cX5_tidy 17 = .ok (.getfield 27, 3) := by decide +kernel
theorem dX5_tidy_20 : decode cX5_tidy 20 = .ok (.iload_n 2, 1) := by decide +kernel
theorem dX5_tidy_21 : decode cX5_tidy 21 = .ok (.iaload, 1) := by decide +kernel
theorem dX5_tidy_22 : decode cX5_tidy 22 = .ok (.iload_n 1, 1) := by decide +kernel
theorem dX5_tidy_23 : decode cX5_tidy 23 = .ok (.if_icmp .ne 29, 3) := by decide +kernel
theorem dX5_tidy_26 : decode cX5_tidy 26 = .ok (.aload_n 0, 1) := by decide +kernel
theorem dX5_tidy_27 : decode cX5_tidy 27 = .ok (.iload_n 2, 1) := by decide +kernel
theorem dX5_tidy_28 : decode cX5_tidy 28 = .ok (.iload_n 1, 1) := by decide +kernel
theorem dX5_tidy_29 : decode cX5_tidy 29 = .ok (.invokevirtual 39, 3) := by decide +kernel
theorem dX5_tidy_32 : decode cX5_tidy 32 = .ok (.ifCond .eq 20, 3) := by decide +kernel
theorem dX5_tidy_35 : decode cX5_tidy 35 = .ok (.aload_n 0, 1) := by decide +kernel
theorem dX5_tidy_36 : decode cX5_tidy 36 = .ok (.iload_n 2, 1) := by decide +kernel
theorem dX5_tidy_37 : decode cX5_tidy 37 = .ok (.iload_n 1, 1) := by decide +kernel
theorem dX5_tidy_38 : decode cX5_tidy 38 = .ok (.iconst 0, 1) := by decide +kernel
theorem dX5_tidy_39 : decode cX5_tidy 39 = .ok (.invokevirtual 31, 3) := by decide +kernel
theorem dX5_tidy_42 : decode cX5_tidy 42 = .ok (.aload_n 0, 1) := by decide +kernel
theorem dX5_tidy_43 : decode cX5_tidy 43 = .ok (.getfield 9, 3) := by decide +kernel
theorem dX5_tidy_46 : decode cX5_tidy 46 = .ok (.getfield 27, 3) := by decide +kernel
theorem dX5_tidy_49 : decode cX5_tidy 49 = .ok (.iload_n 2, 1) := by decide +kernel
theorem dX5_tidy_50 : decode cX5_tidy 50 = .ok (.iconst (-1), 1) := by decide +kernel
theorem dX5_tidy_51 : decode cX5_tidy 51 = .ok (.iastore, 1) := by decide +kernel
theorem dX5_tidy_52 : decode cX5_tidy 52 = .ok (.iinc 2 1, 3) := by decide +kernel
theorem dX5_tidy_55 : decode cX5_tidy 55 = .ok (.goto (-53), 3) := by decide +kernel
theorem dX5_tidy_58 : decode cX5_tidy 58 = .ok (.return_, 1) := by decide +kernel
theorem dX5_lowestFree_0 : decode cX5_lowestFree 0 = .ok (.iconst 0, 1) := by decide +kernel
theorem dX5_lowestFree_1 : decode cX5_lowestFree 1 = .ok (.istore_n 2, 1) := by decide +kernel
theorem dX5_lowestFree_2 : decode cX5_lowestFree 2 = .ok (.iload_n 2, 1) := by decide +kernel
theorem dX5_lowestFree_3 : decode cX5_lowestFree 3 = .ok (.aload_n 0, 1) := by decide +kernel
theorem dX5_lowestFree_4 : decode cX5_lowestFree 4 = .ok (.getfield 9, 3) := by decide +kernel
theorem dX5_lowestFree_7 : decode cX5_lowestFree 7 = .ok (.invokevirtual 43, 3) := by decide +kernel
theorem dX5_lowestFree_10 : decode cX5_lowestFree 10 = .ok (.if_icmp .ge 35, 3) := by decide +kernel
theorem dX5_lowestFree_13 : decode cX5_lowestFree 13 = .ok (.aload_n 0, 1) := by decide +kernel
theorem dX5_lowestFree_14 : decode cX5_lowestFree 14 = .ok (.getfield 9, 3) := by decide +kernel
theorem dX5_lowestFree_17 : decode cX5_lowestFree 17 = .ok (.iload_n 2, 1) := by decide +kernel
theorem dX5_lowestFree_18 : decode cX5_lowestFree 18 = .ok (.iload_n 1, 1) := by decide +kernel
theorem dX5_lowestFree_19 : decode cX5_lowestFree 19 = .ok (.invokevirtual 47, 3) := by decide +kernel
theorem dX5_lowestFree_22 : decode cX5_lowestFree 22 = .ok (.ifCond .le 5, 3) := by decide +kernel
theorem dX5_lowestFree_25 : decode cX5_lowestFree 25 = .ok (.iload_n 2, 1) := by decide +kernel
theorem dX5_lowestFree_26 : decode cX5_lowestFree 26 = .ok (.ireturn, 1) := by decide +kernel
theorem dX5_lowestFree_27 : decode cX5_lowestFree 27 = .ok (.iload_n 2, 1) := by decide +kernel
theorem dX5_lowestFree_28 : decode cX5_lowestFree 28 = .ok (.iconst 1, 1) := by decide +kernel
theorem dX5_lowestFree_29 : decode cX5_lowestFree 29 = .ok (.iadd, 1) := by decide +kernel
theorem dX5_lowestFree_30 : decode cX5_lowestFree 30 = .ok (.aload_n 0, 1) := by decide +kernel
theorem dX5_lowestFree_31 : decode cX5_lowestFree 31 = .ok (.getfield 9, 3) := by decide +kernel
theorem dX5_lowestFree_34 : decode cX5_lowestFree 34 = .ok (.iload_n 2, 1) := by decide +kernel
theorem dX5_lowestFree_35 : decode cX5_lowestFree 35 = .ok (.invokevirtual 51, 3) := by decide +kernel
theorem dX5_lowestFree_38 : decode cX5_lowestFree 38 = .ok (.invokestatic 54, 3) := by decide +kernel
theorem dX5_lowestFree_41 : decode cX5_lowestFree 41 = .ok (.istore_n 2, 1) := by decide +kernel
theorem dX5_lowestFree_42 : decode cX5_lowestFree 42 = .ok (.goto (-40), 3) := by decide +kernel
theorem dX5_lowestFree_45 : decode cX5_lowestFree 45 = .ok (.iconst (-1), 1) := by decide +kernel
theorem dX5_lowestFree_46 : decode cX5_lowestFree 46 = .ok (.ireturn, 1) := by decide +kernel
theorem dX5_markSlots_0 : decode cX5_markSlots 0 = .ok (.iconst 1, 1) := by decide +kernel
theorem dX5_markSlots_1 : decode cX5_markSlots 1 = .ok (.aload_n 0, 1) := by decide +kernel
theorem dX5_markSlots_2 : decode cX5_markSlots 2 = .ok (.getfield 9, 3) := by decide +kernel
theorem dX5_markSlots_5 : decode cX5_markSlots 5 = .ok (.iload_n 2, 1) := by decide +kernel
theorem dX5_markSlots_6 : decode cX5_markSlots 6 = .ok (.invokevirtual 15, 3) := by decide +kernel
theorem dX5_markSlots_9 : decode cX5_markSlots 9 = .ok (.invokestatic 54, 3) := by decide +kernel
theorem dX5_markSlots_12 : decode cX5_markSlots 12 = .ok (.istore 4, 2) := by decide +kernel
theorem dX5_markSlots_14 : decode cX5_markSlots 14 = .ok (.iload_n 1, 1) := by decide +kernel
theorem dX5_markSlots_15 : decode cX5_markSlots 15 = .ok (.iconst 1, 1) := by decide +kernel
theorem dX5_markSlots_16 : decode cX5_markSlots 16 = .ok (.iadd, 1) := by decide +kernel
theorem dX5_markSlots_17 : decode cX5_markSlots 17 = .ok (.bipush 64, 2) := by decide +kernel
theorem dX5_markSlots_19 : decode cX5_markSlots 19 = .ok (.imul, 1) := by decide +kernel
theorem dX5_markSlots_20 : decode cX5_markSlots 20 = .ok (.istore 5, 2) := by decide +kernel
theorem dX5_markSlots_22 : decode cX5_markSlots 22 = .ok (.iload_n 1, 1) := by decide +kernel
theorem dX5_markSlots_23 : decode cX5_markSlots 23 = .ok (.bipush 64, 2) := by decide +kernel
theorem dX5_markSlots_25 : decode cX5_markSlots 25 = .ok (.imul, 1) := by decide +kernel
theorem dX5_markSlots_26 : decode cX5_markSlots 26 = .ok (.iconst 1, 1) := by decide +kernel
theorem dX5_markSlots_27 : decode cX5_markSlots 27 = .ok (.iadd, 1) := by decide +kernel
theorem dX5_markSlots_28 : decode cX5_markSlots 28 = .ok (.istore 6, 2) := by decide +kernel
theorem dX5_markSlots_30 : decode cX5_markSlots 30 = .ok (.iload 6, 2) := by decide +kernel
theorem dX5_markSlots_32 : decode cX5_markSlots 32 = .ok (.iload 4, 2) := by decide +kernel
theorem dX5_markSlots_34 : decode cX5_markSlots 34 = .ok (.iadd, 1) := by decide +kernel
theorem dX5_markSlots_35 : decode cX5_markSlots 35 = .ok (.iload 5, 2) := by decide +kernel
theorem dX5_markSlots_37 : decode cX5_markSlots 37 = .ok (.if_icmp .gt 23, 3) := by decide +kernel
theorem dX5_markSlots_40 : decode cX5_markSlots 40 = .ok (.aload_n 0, 1) := by decide +kernel
theorem dX5_markSlots_41 : decode cX5_markSlots 41 = .ok (.getfield 9, 3) := by decide +kernel
theorem dX5_markSlots_44 : decode cX5_markSlots 44 = .ok (.iload 6, 2) := by decide +kernel
theorem dX5_markSlots_46 : decode cX5_markSlots 46 = .ok (.iload_n 3, 1) := by decide +kernel
theorem dX5_markSlots_47 : decode cX5_markSlots 47 = .ok (.invokevirtual 59, 3) := by decide +kernel
theorem dX5_markSlots_50 : decode cX5_markSlots 50 = .ok (.iload 6, 2) := by decide +kernel
theorem dX5_markSlots_52 : decode cX5_markSlots 52 = .ok (.iload 4, 2) := by decide +kernel
theorem dX5_markSlots_54 : decode cX5_markSlots 54 = .ok (.iadd, 1) := by decide +kernel
theorem dX5_markSlots_55 : decode cX5_markSlots 55 = .ok (.istore 6, 2) := by decide +kernel
theorem dX5_markSlots_57 : decode cX5_markSlots 57 = .ok (.goto (-27), 3) := by decide +kernel
theorem dX5_markSlots_60 : decode cX5_markSlots 60 = .ok (.return_, 1) := by decide +kernel
theorem dX5_isWhollyFree_0 : decode cX5_isWhollyFree 0 = .ok (.iconst 1, 1) := by decide +kernel
theorem dX5_isWhollyFree_1 : decode cX5_isWhollyFree 1 = .ok (.aload_n 0, 1) := by decide +kernel
theorem dX5_isWhollyFree_2 : decode cX5_isWhollyFree 2 = .ok (.getfield 9, 3) := by decide +kernel
theorem dX5_isWhollyFree_5 : decode cX5_isWhollyFree 5 = .ok (.iload_n 2, 1) := by decide +kernel
theorem dX5_isWhollyFree_6 : decode cX5_isWhollyFree 6 = .ok (.invokevirtual 15, 3) := by decide +kernel
theorem dX5_isWhollyFree_9 : decode cX5_isWhollyFree 9 = .ok (.invokestatic 54, 3) := by decide +kernel
theorem dX5_isWhollyFree_12 : decode cX5_isWhollyFree 12 = .ok (.istore_n 3, 1) := by decide +kernel
theorem dX5_isWhollyFree_13 : decode cX5_isWhollyFree 13 = .ok (.iload_n 1, 1) := by decide +kernel
theorem dX5_isWhollyFree_14 : decode cX5_isWhollyFree 14 = .ok (.iconst 1, 1) := by decide +kernel
theorem dX5_isWhollyFree_15 : decode cX5_isWhollyFree 15 = .ok (.iadd, 1) := by decide +kernel
theorem dX5_isWhollyFree_16 : decode cX5_isWhollyFree 16 = .ok (.bipush 64, 2) := by decide +kernel
theorem dX5_isWhollyFree_18 : decode cX5_isWhollyFree 18 = .ok (.imul, 1) := by decide +kernel
theorem dX5_isWhollyFree_19 : decode cX5_isWhollyFree 19 = .ok (.istore 4, 2) := by decide +kernel
theorem dX5_isWhollyFree_21 : decode cX5_isWhollyFree 21 = .ok (.iload_n 1, 1) := by decide +kernel
theorem dX5_isWhollyFree_22 : decode cX5_isWhollyFree 22 = .ok (.bipush 64, 2) := by decide +kernel
theorem dX5_isWhollyFree_24 : decode cX5_isWhollyFree 24 = .ok (.imul, 1) := by decide +kernel
theorem dX5_isWhollyFree_25 : decode cX5_isWhollyFree 25 = .ok (.iconst 1, 1) := by decide +kernel
theorem dX5_isWhollyFree_26 : decode cX5_isWhollyFree 26 = .ok (.iadd, 1) := by decide +kernel
theorem dX5_isWhollyFree_27 : decode cX5_isWhollyFree 27 = .ok (.istore 5, 2) := by decide +kernel
theorem dX5_isWhollyFree_29 : decode cX5_isWhollyFree 29 = .ok (.iload 5, 2) := by decide +kernel
theorem dX5_isWhollyFree_31 : decode cX5_isWhollyFree 31 = .ok (.iload_n 3, 1) := by decide +kernel
theorem dX5_isWhollyFree_32 : decode cX5_isWhollyFree 32 = .ok (.iadd, 1) := by decide +kernel
theorem dX5_isWhollyFree_33 : decode cX5_isWhollyFree 33 = .ok (.iload 4, 2) := by decide +kernel
theorem dX5_isWhollyFree_35 : decode cX5_isWhollyFree 35 = .ok (.if_icmp .gt 26, 3) := by decide +kernel
theorem dX5_isWhollyFree_38 : decode cX5_isWhollyFree 38 = .ok (.aload_n 0, 1) := by decide +kernel
theorem dX5_isWhollyFree_39 : decode cX5_isWhollyFree 39 = .ok (.getfield 9, 3) := by decide +kernel
theorem dX5_isWhollyFree_42 : decode cX5_isWhollyFree 42 = .ok (.iload 5, 2) := by decide +kernel
theorem dX5_isWhollyFree_44 : decode cX5_isWhollyFree 44 = .ok (.invokevirtual 63, 3) := by decide +kernel
theorem dX5_isWhollyFree_47 : decode cX5_isWhollyFree 47 = .ok (.ifCond .lt 5, 3) := by decide +kernel
theorem dX5_isWhollyFree_50 : decode cX5_isWhollyFree 50 = .ok (.iconst 0, 1) := by decide +kernel
theorem dX5_isWhollyFree_51 : decode cX5_isWhollyFree 51 = .ok (.ireturn, 1) := by decide +kernel
theorem dX5_isWhollyFree_52 : decode cX5_isWhollyFree 52 = .ok (.iload 5, 2) := by decide +kernel
theorem dX5_isWhollyFree_54 : decode cX5_isWhollyFree 54 = .ok (.iload_n 3, 1) := by decide +kernel
theorem dX5_isWhollyFree_55 : decode cX5_isWhollyFree 55 = .ok (.iadd, 1) := by decide +kernel
theorem dX5_isWhollyFree_56 : decode cX5_isWhollyFree 56 = .ok (.istore 5, 2) := by decide +kernel
theorem dX5_isWhollyFree_58 : decode cX5_isWhollyFree 58 = .ok (.goto (-29), 3) := by decide +kernel
theorem dX5_isWhollyFree_61 : decode cX5_isWhollyFree 61 = .ok (.iconst 1, 1) := by decide +kernel
theorem dX5_isWhollyFree_62 : decode cX5_isWhollyFree 62 = .ok (.ireturn, 1) := by decide +kernel
theorem dX6_init_0 : decode cX6_init 0 = .ok (.aload_n 0, 1) := by decide +kernel
theorem dX6_init_1 : decode cX6_init 1 = .ok (.invokespecial 3, 3) := by decide +kernel
theorem dX6_init_4 : decode cX6_init 4 = .ok (.aload_n 0, 1) := by decide +kernel
theorem dX6_init_5 : decode cX6_init 5 = .ok (.new 9, 3) := by decide +kernel
theorem dX6_init_8 : decode cX6_init 8 = .ok (.dup, 1) := by decide +kernel
theorem dX6_init_9 : decode cX6_init 9 = .ok (.invokespecial 11, 3) := by decide +kernel
theorem dX6_init_12 : decode cX6_init 12 = .ok (.putfield 12, 3) := by decide +kernel
theorem dX6_init_15 : decode cX6_init 15 = .ok (.aload_n 0, 1) := by decide +kernel
theorem dX6_init_16 : decode cX6_init 16 = .ok (.new 16, 3) := by decide +kernel
theorem dX6_init_19 : decode cX6_init 19 = .ok (.dup, 1) := by decide +kernel
theorem dX6_init_20 : decode cX6_init 20 = .ok (.aload_n 0, 1) := by decide +kernel
theorem dX6_init_21 : decode cX6_init 21 = .ok (.getfield 12, 3) := by decide +kernel
theorem dX6_init_24 : decode cX6_init 24 = .ok (.invokespecial 18, 3) := by decide +kernel
theorem dX6_init_27 : decode cX6_init 27 = .ok (.putfield 21, 3) := by decide +kernel
theorem dX6_init_30 : decode cX6_init 30 = .ok (.aload_n 0, 1) := by decide +kernel
theorem dX6_init_31 : decode cX6_init 31 = .ok (.new 25, 3) := by decide +kernel
theorem dX6_init_34 : decode cX6_init 34 = .ok (.dup, 1) := by decide +kernel
theorem dX6_init_35 : decode cX6_init 35 = .ok (.aload_n 0, 1) := by decide +kernel
theorem dX6_init_36 : decode cX6_init 36 = .ok (.getfield 12, 3) := by decide +kernel
theorem dX6_init_39 : decode cX6_init 39 = .ok (.invokespecial 27, 3) := by decide +kernel
theorem dX6_init_42 : decode cX6_init 42 = .ok (.putfield 28, 3) := by decide +kernel
theorem dX6_init_45 : decode cX6_init 45 = .ok (.aload_n 0, 1) := by decide +kernel
theorem dX6_init_46 : decode cX6_init 46 = .ok (.new 32, 3) := by decide +kernel
theorem dX6_init_49 : decode cX6_init 49 = .ok (.dup, 1) := by decide +kernel
theorem dX6_init_50 : decode cX6_init 50 = .ok (.aload_n 0, 1) := by decide +kernel
theorem dX6_init_51 : decode cX6_init 51 = .ok (.getfield 12, 3) := by decide +kernel
theorem dX6_init_54 : decode cX6_init 54 = .ok (.invokespecial 34, 3) := by decide +kernel
theorem dX6_init_57 : decode cX6_init 57 = .ok (.putfield 35, 3) := by decide +kernel
theorem dX6_init_60 : decode cX6_init 60 = .ok (.aload_n 0, 1) := by decide +kernel
theorem dX6_init_61 : decode cX6_init 61 = .ok (.new 38, 3) := by decide +kernel
theorem dX6_init_64 : decode cX6_init 64 = .ok (.dup, 1) := by decide +kernel
theorem dX6_init_65 : decode cX6_init 65 = .ok (.aload_n 0, 1) := by decide +kernel
theorem dX6_init_66 : decode cX6_init 66 = .ok (.getfield 12, 3) := by decide +kernel
theorem dX6_init_69 : decode cX6_init 69 = .ok (.invokespecial 40, 3) := by decide +kernel
theorem dX6_init_72 : decode cX6_init 72 = .ok (.putfield 41, 3) := by decide +kernel
theorem dX6_init_75 : decode cX6_init 75 = .ok (.aload_n 0, 1) := by decide +kernel
theorem dX6_init_76 : decode cX6_init 76 = .ok (.bipush 10, 2) := by decide +kernel
theorem dX6_init_78 : decode cX6_init 78 = .ok (.newarray .int, 2) := by decide +kernel
theorem dX6_init_80 : decode cX6_init 80 = .ok (.putfield 44, 3) := by decide +kernel
theorem dX6_init_83 : decode cX6_init 83 = .ok (.aload_n 0, 1) := by decide +kernel
theorem dX6_init_84 : decode cX6_init 84 = .ok (.aconst_null, 1) := by decide +kernel
theorem dX6_init_85 : decode cX6_init 85 = .ok (.putfield 48, 3) := by decide +kernel
theorem dX6_init_88 : decode cX6_init 88 = .ok (.aload_n 0, 1) := by decide +kernel
theorem dX6_init_89 : decode cX6_init 89 = .ok (.lconst 0, 1) := by decide +kernel
theorem dX6_init_90 : decode cX6_init 90 = .ok (.putfield 51, 3) := by decide +kernel
theorem dX6_init_93 : decode cX6_init 93 = .ok (.return_, 1) := by decide +kernel
theorem dX6_open_0 : decode cX6_open 0 = .ok (.iload_n 1, 1) := by decide +kernel
theorem dX6_open_1 : decode cX6_open 1 = .ok (.ifCond .ge 10, 3) := by decide +kernel
theorem dX6_open_4 : decode cX6_open 4 = .ok (.aload_n 0, 1) := by decide +kernel
theorem dX6_open_5 : decode cX6_open 5 = .ok (.bipush (-3), 2) := by decide +kernel
theorem dX6_open_7 : decode cX6_open 7 = .ok (.invokevirtual 55, 3) := by decide +kernel
theorem dX6_open_10 : decode cX6_open 10 = .ok (.ireturn, 1) := by decide +kernel
theorem dX6_open_11 : decode cX6_open 11 = .ok (.iload_n 1, 1) := by decide +kernel
theorem dX6_open_12 : decode cX6_open 12 = .ok (.bipush 40, 2) := by decide +kernel
theorem dX6_open_14 : decode cX6_open 14 = .ok (.if_icmp .le 9, 3) := by decide +kernel
theorem dX6_open_17 : decode cX6_open 17 = .ok (.aload_n 0, 1) := by decide +kernel
theorem dX6_open_18 : decode cX6_open 18 = .ok (.iconst (-1), 1) := by decide +kernel
theorem dX6_open_19 : decode cX6_open 19 = .ok (.invokevirtual 55, 3) := by decide +kernel
theorem dX6_open_22 : decode cX6_open 22 = .ok (.ireturn, 1) := by decide +kernel
theorem dX6_open_23 : decode cX6_open 23 = .ok (.aload_n 0, 1) := by decide +kernel
theorem dX6_open_24 : decode cX6_open 24 = .ok (.getfield 12, 3) := by decide +kernel
theorem dX6_open_27 : decode cX6_open 27 = .ok (.iload_n 1, 1) := by decide +kernel
theorem dX6_open_28 : decode cX6_open 28 = .ok (.invokevirtual 59, 3) := by decide +kernel
theorem dX6_open_31 : decode cX6_open 31 = .ok (.aload_n 0, 1) := by decide +kernel
theorem dX6_open_32 : decode cX6_open 32 = .ok (.lconst 0, 1) := by decide +kernel
theorem dX6_open_33 : decode cX6_open 33 = .ok (.putfield 51, 3) := by decide +kernel
theorem dX6_open_36 : decode cX6_open 36 = .ok (.iload_n 1, 1) := by decide +kernel
theorem dX6_open_37 : decode cX6_open 37 = .ok (.ireturn, 1) := by decide +kernel
theorem dX6_page_0 : decode cX6_page 0 = .ok (.iload_n 1, 1) := by decide +kernel
theorem dX6_page_1 : decode cX6_page 1 = .ok (.ifCond .lt 14, 3) := by decide +kernel
theorem dX6_page_4 : decode cX6_page 4 = .ok (.iload_n 1, 1) := by decide +kernel
theorem dX6_page_5 : decode cX6_page 5 = .ok (.aload_n 0, 1) := by decide +kernel
theorem dX6_page_6 : decode cX6_page 6 = .ok (.getfield 12, 3) := by decide +kernel
theorem dX6_page_9 : decode cX6_page 9 = .ok (.getfield 63, 3) := by decide +kernel
theorem dX6_page_12 : decode cX6_page 12 = .ok (.if_icmp .lt 9, 3) := by decide +kernel
theorem dX6_page_15 : decode cX6_page 15 = .ok (.aload_n 0, 1) := by decide +kernel
theorem dX6_page_16 : decode cX6_page 16 = .ok (.iconst (-1), 1) := by decide +kernel
theorem dX6_page_17 : decode cX6_page 17 = .ok (.invokevirtual 55, 3) := by decide +kernel
theorem dX6_page_20 : decode cX6_page 20 = .ok (.ireturn, 1) := by decide +kernel
theorem dX6_page_21 : decode cX6_page 21 = .ok (.aload_n 0, 1) := by decide +kernel
theorem dX6_page_22 : decode cX6_page 22 = .ok (.getfield 12, 3) := by decide +kernel
theorem dX6_page_25 : decode cX6_page 25 = .ok (.getfield 67, 3) := by decide +kernel
theorem dX6_page_28 : decode cX6_page 28 = .ok (.iload_n 1, 1) := by decide +kernel
theorem dX6_page_29 : decode cX6_page 29 = .ok (.iaload, 1) := by decide +kernel
theorem dX6_page_30 : decode cX6_page 30 = .ok (.ifCond .lt 10, 3) := by decide +kernel
theorem dX6_page_33 : decode cX6_page 33 = .ok (.aload_n 0, 1) := by decide +kernel
theorem dX6_page_34 : decode cX6_page 34 = .ok (.bipush (-7), 2) := by decide +kernel
theorem dX6_page_36 : decode cX6_page 36 = .ok (.invokevirtual 55, 3) := by decide +kernel
theorem dX6_page_39 : decode cX6_page 39 = .ok (.ireturn, 1) := by decide +kernel
theorem dX6_page_40 : decode cX6_page 40 = .ok (.iload_n 2, 1) := by decide +kernel
theorem dX6_page_41 : decode cX6_page 41 = .ok (.ifCond .eq 7, 3) := by decide +kernel
theorem dX6_page_44 : decode cX6_page 44 = .ok (.iconst (-1), 1) := by decide +kernel
theorem dX6_page_45 : decode cX6_page 45 = .ok (.goto 5, 3) := by decide +kernel
theorem dX6_page_48 : decode cX6_page 48 = .ok (.bipush (-2), 2) := by decide +kernel
theorem dX6_page_50 : decode cX6_page 50 = .ok (.istore_n 3, 1) := by decide +kernel
theorem dX6_page_51 : decode cX6_page 51 = .ok (.aload_n 0, 1) := by decide +kernel
theorem dX6_page_52 : decode cX6_page 52 = .ok (.getfield 12, 3) := by decide +kernel
theorem dX6_page_55 : decode cX6_page 55 = .ok (.getfield 67, 3) := by decide +kernel
theorem dX6_page_58 : decode cX6_page 58 = .ok (.iload_n 1, 1) := by decide +kernel
theorem dX6_page_59 : decode cX6_page 59 = .ok (.iaload, 1) := by decide +kernel
theorem dX6_page_60 : decode cX6_page 60 = .ok (.iload_n 3, 1) := by decide +kernel
theorem dX6_page_61 : decode cX6_page 61 = .ok (.if_icmp .ne 5, 3) := by decide +kernel
theorem dX6_page_64 : decode cX6_page 64 = .ok (.iconst 0, 1) := by decide +kernel
theorem dX6_page_65 : decode cX6_page 65 = .ok (.ireturn, 1) := by decide +kernel
theorem dX6_page_66 : decode cX6_page 66 = .ok (.aload_n 0, 1) := by decide +kernel
theorem dX6_page_67 : decode cX6_page 67 = .ok (.getfield 12, 3) := by decide +kernel
theorem dX6_page_70 : decode cX6_page 70 = .ok (.getfield 67, 3) := by decide +kernel
theorem dX6_page_73 : decode cX6_page 73 = .ok (.iload_n 1, 1) := by decide +kernel
theorem dX6_page_74 : decode cX6_page 74 = .ok (.iload_n 3, 1) := by decide +kernel
theorem dX6_page_75 : decode cX6_page 75 = .ok (.iastore, 1) := by decide +kernel
theorem dX6_page_76 : decode cX6_page 76 = .ok (.iconst 1, 1) := by decide +kernel
theorem dX6_page_77 : decode cX6_page 77 = .ok (.ireturn, 1) := by decide +kernel
theorem dX6_zone_0 : decode cX6_zone 0 = .ok (.iload_n 1, 1) := by decide +kernel
theorem dX6_zone_1 : decode cX6_zone 1 = .ok (.ifCond .lt 8, 3) := by decide +kernel
theorem dX6_zone_4 : decode cX6_zone 4 = .ok (.iload_n 1, 1) := by decide +kernel
theorem dX6_zone_5 : decode cX6_zone 5 = .ok (.iconst 5, 1) := by decide +kernel
theorem dX6_zone_6 : decode cX6_zone 6 = .ok (.if_icmp .le 10, 3) := by decide +kernel
theorem dX6_zone_9 : decode cX6_zone 9 = .ok (.aload_n 0, 1) := by decide +kernel
theorem dX6_zone_10 : decode cX6_zone 10 = .ok (.bipush (-9), 2) := by decide +kernel
theorem dX6_zone_12 : decode cX6_zone 12 = .ok (.invokevirtual 55, 3) := by decide +kernel
theorem dX6_zone_15 : decode cX6_zone 15 = .ok (.ireturn, 1) := by decide +kernel
theorem dX6_zone_16 : decode cX6_zone 16 = .ok (.iload_n 1, 1) := by decide +kernel
theorem dX6_zone_17 : decode cX6_zone 17 = .ok (.ifCond .ne 23, 3) := by decide +kernel
theorem dX6_zone_20 : decode cX6_zone 20 = .ok (.lload_n 2, 1) := by decide +kernel
theorem dX6_zone_21 : decode cX6_zone 21 = .ok (.lconst 1, 1) := by decide +kernel
theorem dX6_zone_22 : decode cX6_zone 22 = .ok (.lcmp, 1) := by decide +kernel
theorem dX6_zone_23 : decode cX6_zone 23 = .ok (.ifCond .lt 11, 3) := by decide +kernel
theorem dX6_zone_26 : decode cX6_zone 26 = .ok (.lload_n 2, 1) := by decide +kernel
theorem dX6_zone_27 : decode cX6_zone 27 = .ok (.ldc2_w 70, 3) := by decide +kernel
theorem dX6_zone_30 : decode cX6_zone 30 = .ok (.lcmp, 1) := by decide +kernel
theorem dX6_zone_31 : decode cX6_zone 31 = .ok (.ifCond .le 9, 3) := by decide +kernel
theorem dX6_zone_34 : decode cX6_zone 34 = .ok (.aload_n 0, 1) := by decide +kernel
theorem dX6_zone_35 : decode cX6_zone 35 = .ok (.iconst (-1), 1) := by decide +kernel
theorem dX6_zone_36 : decode cX6_zone 36 = .ok (.invokevirtual 55, 3) := by decide +kernel
theorem dX6_zone_39 : decode cX6_zone 39 = .ok (.ireturn, 1) := by decide +kernel
theorem dX6_zone_40 : decode cX6_zone 40 = .ok (.aload_n 0, 1) := by decide +kernel
theorem dX6_zone_41 : decode cX6_zone 41 = .ok (.getfield 12, 3) := by decide +kernel
theorem dX6_zone_44 : decode cX6_zone 44 = .ok (.getfield 72, 3) := by decide +kernel
theorem dX6_zone_47 : decode cX6_zone 47 = .ok (.bipush 8, 2) := by decide +kernel
theorem dX6_zone_49 : decode cX6_zone 49 = .ok (.if_icmp .lt 10, 3) := by decide +kernel
theorem dX6_zone_52 : decode cX6_zone 52 = .ok (.aload_n 0, 1) := by decide +kernel
theorem dX6_zone_53 : decode cX6_zone 53 = .ok (.bipush (-6), 2) := by decide +kernel
theorem dX6_zone_55 : decode cX6_zone 55 = .ok (.invokevirtual 55, 3) := by decide +kernel
theorem dX6_zone_58 : decode cX6_zone 58 = .ok (.ireturn, 1) := by decide +kernel
theorem dX6_zone_59 : decode cX6_zone 59 = .ok (.aload_n 0, 1) := by decide +kernel
theorem dX6_zone_60 : decode cX6_zone 60 = .ok (.getfield 12, 3) := by decide +kernel
theorem dX6_zone_63 : decode cX6_zone 63 = .ok (.iload_n 1, 1) := by decide +kernel
theorem dX6_zone_64 : decode cX6_zone 64 = .ok (.lload_n 2, 1) := by decide +kernel
theorem dX6_zone_65 : decode cX6_zone 65 = .ok (.invokevirtual 75, 3) := by decide +kernel
theorem dX6_zone_68 : decode cX6_zone 68 = .ok (.ireturn, 1) := by decide +kernel
theorem dX6_want_0 : decode cX6_want 0 = .ok (.aload_n 0, 1) := by decide +kernel
theorem dX6_want_1 : decode cX6_want 1 = .ok (.getfield 12, 3) := by decide +kernel
theorem dX6_want_4 : decode cX6_want 4 = .ok (.iload_n 1, 1) := by decide +kernel
theorem dX6_want_5 : decode cX6_want 5 = .ok (.invokevirtual 79, 3) := by decide +kernel
theorem dX6_want_8 : decode cX6_want 8 = .ok (.ifCond .ne 9, 3) := by decide +kernel
theorem dX6_want_11 : decode cX6_want 11 = .ok (.aload_n 0, 1) := by decide +kernel
theorem dX6_want_12 : decode cX6_want 12 = .ok (.iconst (-1), 1) := by decide +kernel
theorem dX6_want_13 : decode cX6_want 13 = .ok (.invokevirtual 55, 3) := by decide +kernel
theorem dX6_want_16 : decode cX6_want 16 = .ok (.ireturn, 1) := by decide +kernel
theorem dX6_want_17 : decode cX6_want 17 = .ok (.iload_n 2, 1) := by decide +kernel
theorem dX6_want_18 : decode cX6_want 18 = .ok (.ifCond .ge 10, 3) := by decide +kernel
theorem dX6_want_21 : decode cX6_want 21 = .ok (.aload_n 0, 1) := by decide +kernel
theorem dX6_want_22 : decode cX6_want 22 = .ok (.bipush (-3), 2) := by decide +kernel
theorem dX6_want_24 : decode cX6_want 24 = .ok (.invokevirtual 55, 3) := by decide +kernel
theorem dX6_want_27 : decode cX6_want 27 = .ok (.ireturn, 1) := by decide +kernel
theorem dX6_want_28 : decode cX6_want 28 = .ok (.aload_n 0, 1) := by decide +kernel
theorem dX6_want_29 : decode cX6_want 29 = .ok (.iload_n 1, 1) := by decide +kernel
theorem dX6_want_30 : decode cX6_want 30 = .ok (.invokevirtual 83, 3) := by decide +kernel
theorem dX6_want_33 : decode cX6_want 33 = .ok (.astore_n 3, 1) := by decide +kernel
theorem dX6_want_34 : decode cX6_want 34 = .ok (.iload_n 2, 1) := by decide +kernel
theorem dX6_want_35 : decode cX6_want 35 = .ok (.aload_n 3, 1) := by decide +kernel
theorem dX6_want_36 : decode cX6_want 36 = .ok (.iload_n 1, 1) := by decide +kernel
theorem dX6_want_37 : decode cX6_want 37 = .ok (.invokevirtual 87, 3) := by decide +kernel
theorem dX6_want_40 : decode cX6_want 40 = .ok (.if_icmp .le 9, 3) := by decide +kernel
theorem dX6_want_43 : decode cX6_want 43 = .ok (.aload_n 0, 1) := by decide +kernel
theorem dX6_want_44 : decode cX6_want 44 = .ok (.iconst (-1), 1) := by decide +kernel
theorem dX6_want_45 : decode cX6_want 45 = .ok (.invokevirtual 55, 3) := by decide +kernel
theorem dX6_want_48 : decode cX6_want 48 = .ok (.ireturn, 1) := by decide +kernel
theorem dX6_want_49 : decode cX6_want 49 = .ok (.aload_n 0, 1) := by decide +kernel
theorem dX6_want_50 : decode cX6_want 50 = .ok (.getfield 12, 3) := by decide +kernel
theorem dX6_want_53 : decode cX6_want 53 = .ok (.invokevirtual 92, 3) := by decide +kernel
theorem dX6_want_56 : decode cX6_want 56 = .ok (.istore 4, 2) := by decide +kernel
theorem dX6_want_58 : decode cX6_want 58 = .ok (.iload 4, 2) := by decide +kernel
theorem dX6_want_60 : decode cX6_want 60 = .ok (.ifCond .ge 10, 3) := by decide +kernel
theorem dX6_want_63 : decode cX6_want 63 = .ok (.aload_n 0, 1) := by decide +kernel
theorem dX6_want_64 : decode cX6_want 64 = .ok (.bipush (-6), 2) := by decide +kernel
theorem dX6_want_66 : decode cX6_want 66 = .ok (.invokevirtual 55, 3) := by decide +kernel
theorem dX6_want_69 : decode cX6_want 69 = .ok (.ireturn, 1) := by decide +kernel
theorem dX6_want_70 : decode cX6_want 70 = .ok (.aload_n 3, 1) := by decide +kernel
theorem dX6_want_71 : decode cX6_want 71 = .ok (.iload_n 1, 1) := by decide +kernel
theorem dX6_want_72 : decode cX6_want 72 = .ok (.iload_n 2, 1) := by decide +kernel
theorem dX6_want_73 : decode cX6_want 73 = .ok (.invokevirtual 96, 3) := by decide +kernel
theorem dX6_want_76 : decode cX6_want 76 = .ok (.istore 5, 2) := by decide +kernel
theorem dX6_want_78 : decode cX6_want 78 = .ok (.iload 5, 2) := by decide +kernel
theorem dX6_want_80 : decode cX6_want 80 = .ok (.ifCond .ge 10, 3) := by decide +kernel
theorem dX6_want_83 : decode cX6_want 83 = .ok (.aload_n 0, 1) := by decide +kernel
theorem dX6_want_84 : decode cX6_want 84 = .ok (.bipush (-6), 2) := by decide +kernel
theorem dX6_want_86 : decode cX6_want 86 = .ok (.invokevirtual 55, 3) := by decide +kernel
theorem dX6_want_89 : decode cX6_want 89 = .ok (.ireturn, 1) := by decide +kernel
theorem dX6_want_90 : decode cX6_want 90 = .ok (.aload_n 0, 1) := by decide +kernel
theorem dX6_want_91 : decode cX6_want 91 = .ok (.getfield 12, 3) := by decide +kernel
theorem dX6_want_94 : decode cX6_want 94 = .ok (.getfield 100, 3) := by decide +kernel
theorem dX6_want_97 : decode cX6_want 97 = .ok (.iload 4, 2) := by decide +kernel
theorem dX6_want_99 : decode cX6_want 99 = .ok (.dup2, 1) := by decide +kernel
theorem dX6_want_100 : decode cX6_want 100 = .ok (.iaload, 1) := by decide +kernel
theorem dX6_want_101 : decode cX6_want 101 = .ok (.iconst 1, 1) := by decide +kernel
theorem dX6_want_102 : decode cX6_want 102 = .ok (.iadd, 1) := by decide +kernel
theorem dX6_want_103 : decode cX6_want 103 = .ok (.iastore, 1) := by decide +kernel
theorem dX6_want_104 : decode cX6_want 104 = .ok (.aload_n 0, 1) := by decide +kernel
theorem dX6_want_105 : decode cX6_want 105 = .ok (.getfield 12, 3) := by decide +kernel
theorem dX6_want_108 : decode cX6_want 108 = .ok (.iload 4, 2) := by decide +kernel
theorem dX6_want_110 : decode cX6_want 110 = .ok (.iload_n 1, 1) := by decide +kernel
theorem dX6_want_111 : decode cX6_want 111 = .ok (.iload 5, 2) := by decide +kernel
theorem dX6_want_113 : decode cX6_want 113 = .ok (.iload_n 2, 1) := by decide +kernel
theorem dX6_want_114 : decode cX6_want 114 = .ok (.invokevirtual 103, 3) := by decide +kernel
theorem dX6_want_117 : decode cX6_want 117 = .ok (.aload_n 3, 1) := by decide +kernel
theorem dX6_want_118 : decode cX6_want 118 = .ok (.iload_n 1, 1) := by decide +kernel
theorem dX6_want_119 : decode cX6_want 119 = .ok (.invokevirtual 107, 3) := by decide +kernel
theorem dX6_want_122 : decode cX6_want 122 = .ok (.aload_n 0, 1) := by decide +kernel
theorem dX6_want_123 : decode cX6_want 123 = .ok (.getfield 12, 3) := by decide +kernel
theorem dX6_want_126 : decode cX6_want 126 = .ok (.iload 4, 2) := by decide +kernel
theorem dX6_want_128 : decode cX6_want 128 = .ok (.invokevirtual 110, 3) := by decide +kernel
theorem dX6_want_131 : decode cX6_want 131 = .ok (.ireturn, 1) := by decide +kernel
theorem dX6_give_0 : decode cX6_give 0 = .ok (.aload_n 0, 1) := by decide +kernel
theorem dX6_give_1 : decode cX6_give 1 = .ok (.getfield 12, 3) := by decide +kernel
theorem dX6_give_4 : decode cX6_give 4 = .ok (.iload_n 1, 1) := by decide +kernel
theorem dX6_give_5 : decode cX6_give 5 = .ok (.invokevirtual 113, 3) := by decide +kernel
theorem dX6_give_8 : decode cX6_give 8 = .ok (.istore_n 2, 1) := by decide +kernel
theorem dX6_give_9 : decode cX6_give 9 = .ok (.iload_n 2, 1) := by decide +kernel
theorem dX6_give_10 : decode cX6_give 10 = .ok (.ifCond .ge 9, 3) := by decide +kernel
theorem dX6_give_13 : decode cX6_give 13 = .ok (.aload_n 0, 1) := by decide +kernel
theorem dX6_give_14 : decode cX6_give 14 = .ok (.iload_n 2, 1) := by decide +kernel
theorem dX6_give_15 : decode cX6_give 15 = .ok (.invokevirtual 55, 3) := by decide +kernel
theorem dX6_give_18 : decode cX6_give 18 = .ok (.ireturn, 1) := by decide +kernel
theorem dX6_give_19 : decode cX6_give 19 = .ok (.aload_n 0, 1) := by decide +kernel
theorem dX6_give_20 : decode cX6_give 20 = .ok (.getfield 12, 3) := by decide +kernel
theorem dX6_give_23 : decode cX6_give 23 = .ok (.iload_n 2, 1) := by decide +kernel
theorem dX6_give_24 : decode cX6_give 24 = .ok (.invokevirtual 116, 3) := by decide +kernel
theorem dX6_give_27 : decode cX6_give 27 = .ok (.ifCond .eq 10, 3) := by decide +kernel
theorem dX6_give_30 : decode cX6_give 30 = .ok (.aload_n 0, 1) := by decide +kernel
theorem dX6_give_31 : decode cX6_give 31 = .ok (.bipush (-8), 2) := by decide +kernel
theorem dX6_give_33 : decode cX6_give 33 = .ok (.invokevirtual 55, 3) := by decide +kernel
theorem dX6_give_36 : decode cX6_give 36 = .ok (.ireturn, 1) := by decide +kernel
theorem dX6_give_37 : decode cX6_give 37 = .ok (.aload_n 0, 1) := by decide +kernel
theorem dX6_give_38 : decode cX6_give 38 = .ok (.getfield 12, 3) := by decide +kernel
theorem dX6_give_41 : decode cX6_give 41 = .ok (.getfield 119, 3) := by decide +kernel
theorem dX6_give_44 : decode cX6_give 44 = .ok (.iload_n 2, 1) := by decide +kernel
theorem dX6_give_45 : decode cX6_give 45 = .ok (.iaload, 1) := by decide +kernel
theorem dX6_give_46 : decode cX6_give 46 = .ok (.istore_n 3, 1) := by decide +kernel
theorem dX6_give_47 : decode cX6_give 47 = .ok (.aload_n 0, 1) := by decide +kernel
theorem dX6_give_48 : decode cX6_give 48 = .ok (.getfield 12, 3) := by decide +kernel
theorem dX6_give_51 : decode cX6_give 51 = .ok (.aload_n 0, 1) := by decide +kernel
theorem dX6_give_52 : decode cX6_give 52 = .ok (.getfield 12, 3) := by decide +kernel
theorem dX6_give_55 : decode cX6_give 55 = .ok (.getfield 122, 3) := by decide +kernel
theorem dX6_give_58 : decode cX6_give 58 = .ok (.iload_n 2, 1) := by decide +kernel
theorem dX6_give_59 : decode cX6_give 59 = .ok (.iaload, 1) := by decide +kernel
theorem dX6_give_60 : decode cX6_give 60 = .ok (.aload_n 0, 1) := by decide +kernel
theorem dX6_give_61 : decode cX6_give 61 = .ok (.getfield 12, 3) := by decide +kernel
theorem dX6_give_64 : decode cX6_give 64 = .ok (.getfield 125, 3) := by decide +kernel
theorem dX6_give_67 : decode cX6_give 67 = .ok (.iload_n 2, 1) := by decide +kernel
theorem dX6_give_68 : decode cX6_give 68 = .ok (.iaload, 1) := by decide +kernel
theorem dX6_give_69 : decode cX6_give 69 = .ok (.invokevirtual 128, 3) := by decide +kernel
theorem dX6_give_72 : decode cX6_give 72 = .ok (.aload_n 0, 1) := by decide +kernel
theorem dX6_give_73 : decode cX6_give 73 = .ok (.getfield 12, 3) := by decide +kernel
theorem dX6_give_76 : decode cX6_give 76 = .ok (.getfield 119, 3) := by decide +kernel
theorem dX6_give_79 : decode cX6_give 79 = .ok (.iload_n 2, 1) := by decide +kernel
theorem dX6_give_80 : decode cX6_give 80 = .ok (.iconst (-1), 1) := by decide +kernel
theorem dX6_give_81 : decode cX6_give 81 = .ok (.iastore, 1) := by decide +kernel
theorem dX6_give_82 : decode cX6_give 82 = .ok (.aload_n 0, 1) := by decide +kernel
theorem dX6_give_83 : decode cX6_give 83 = .ok (.iload_n 3, 1) := by decide +kernel
theorem dX6_give_84 : decode cX6_give 84 = .ok (.invokevirtual 83, 3) := by decide +kernel
theorem dX6_give_87 : decode cX6_give 87 = .ok (.iload_n 3, 1) := by decide +kernel
theorem dX6_give_88 : decode cX6_give 88 = .ok (.invokevirtual 107, 3) := by decide +kernel
theorem dX6_give_91 : decode cX6_give 91 = .ok (.aload_n 0, 1) := by decide +kernel
theorem dX6_give_92 : decode cX6_give 92 = .ok (.getfield 12, 3) := by decide +kernel
theorem dX6_give_95 : decode cX6_give 95 = .ok (.getfield 132, 3) := by decide +kernel
theorem dX6_give_98 : decode cX6_give 98 = .ok (.iload_n 2, 1) := by decide +kernel
theorem dX6_give_99 : decode cX6_give 99 = .ok (.iaload, 1) := by decide +kernel
theorem dX6_give_100 : decode cX6_give 100 = .ok (.ireturn, 1) := by decide +kernel
theorem dX6_grow_0 : decode cX6_grow 0 = .ok (.aload_n 0, 1) := by decide +kernel
theorem dX6_grow_1 : decode cX6_grow 1 = .ok (.getfield 12, 3) := by decide +kernel
theorem dX6_grow_4 : decode cX6_grow 4 = .ok (.iload_n 1, 1) := by decide +kernel
theorem dX6_grow_5 : decode cX6_grow 5 = .ok (.invokevirtual 113, 3) := by decide +kernel
theorem dX6_grow_8 : decode cX6_grow 8 = .ok (.istore_n 3, 1) := by decide +kernel
theorem dX6_grow_9 : decode cX6_grow 9 = .ok (.iload_n 3, 1) := by decide +kernel
theorem dX6_grow_10 : decode cX6_grow 10 = .ok (.ifCond .ge 9, 3) := by decide +kernel
theorem dX6_grow_13 : decode cX6_grow 13 = .ok (.aload_n 0, 1) := by decide +kernel
theorem dX6_grow_14 : decode cX6_grow 14 = .ok (.iload_n 3, 1) := by decide +kernel
theorem dX6_grow_15 : decode cX6_grow 15 = .ok (.invokevirtual 55, 3) := by decide +kernel
theorem dX6_grow_18 : decode cX6_grow 18 = .ok (.ireturn, 1) := by decide +kernel
theorem dX6_grow_19 : decode cX6_grow 19 = .ok (.aload_n 0, 1) := by decide +kernel
theorem dX6_grow_20 : decode cX6_grow 20 = .ok (.getfield 12, 3) := by decide +kernel
theorem dX6_grow_23 : decode cX6_grow 23 = .ok (.iload_n 3, 1) := by decide +kernel
theorem dX6_grow_24 : decode cX6_grow 24 = .ok (.invokevirtual 116, 3) := by decide +kernel
theorem dX6_grow_27 : decode cX6_grow 27 = .ok (.ifCond .eq 10, 3) := by decide +kernel
theorem dX6_grow_30 : decode cX6_grow 30 = .ok (.aload_n 0, 1) := by decide +kernel
theorem dX6_grow_31 : decode cX6_grow 31 = .ok (.bipush (-8), 2) := by decide +kernel
theorem dX6_grow_33 : decode cX6_grow 33 = .ok (.invokevirtual 55, 3) := by decide +kernel
theorem dX6_grow_36 : decode cX6_grow 36 = .ok (.ireturn, 1) := by decide +kernel
theorem dX6_grow_37 : decode cX6_grow 37 = .ok (.aload_n 0, 1) := by decide +kernel
theorem dX6_grow_38 : decode cX6_grow 38 = .ok (.getfield 12, 3) := by decide +kernel
theorem dX6_grow_41 : decode cX6_grow 41 = .ok (.getfield 119, 3) := by decide +kernel
theorem dX6_grow_44 : decode cX6_grow 44 = .ok (.iload_n 3, 1) := by decide +kernel
theorem dX6_grow_45 : decode cX6_grow 45 = .ok (.iaload, 1) := by decide +kernel
theorem dX6_grow_46 : decode cX6_grow 46 = .ok (.istore 4, 2) := by decide +kernel
theorem dX6_grow_48 : decode cX6_grow 48 = .ok (.aload_n 0, 1) := by decide +kernel
theorem dX6_grow_49 : decode cX6_grow 49 = .ok (.iload 4, 2) := by decide +kernel
theorem dX6_grow_51 : decode cX6_grow 51 = .ok (.invokevirtual 83, 3) := by decide +kernel
theorem dX6_grow_54 : decode cX6_grow 54 = .ok (.astore 5, 2) := by decide +kernel
theorem dX6_grow_56 : decode cX6_grow 56 = .ok (.iload_n 2, 1) := by decide +kernel
theorem dX6_grow_57 : decode cX6_grow 57 = .ok (.aload_n 0, 1) := by decide +kernel
theorem dX6_grow_58 : decode cX6_grow 58 = .ok (.getfield 12, 3) := by decide +kernel
theorem dX6_grow_61 : decode cX6_grow 61 = .ok (.getfield 132, 3) := by decide +kernel
theorem dX6_grow_64 : decode cX6_grow 64 = .ok (.iload_n 3, 1) := by decide +kernel
theorem dX6_grow_65 : decode cX6_grow 65 = .ok (.iaload, 1) := by decide +kernel
theorem dX6_grow_66 : decode cX6_grow 66 = .ok (.if_icmp .lt 14, 3) := by decide +kernel
theorem dX6_grow_69 : decode cX6_grow 69 = .ok (.iload_n 2, 1) := by decide +kernel
theorem dX6_grow_70 : decode cX6_grow 70 = .ok (.aload 5, 2) := by decide +kernel
theorem dX6_grow_72 : decode cX6_grow 72 = .ok (.iload 4, 2) := by decide +kernel
theorem dX6_grow_74 : decode cX6_grow 74 = .ok (.invokevirtual 87, 3) := by decide +kernel
theorem dX6_grow_77 : decode cX6_grow 77 = .ok (.if_icmp .le 9, 3) := by decide +kernel
theorem dX6_grow_80 : decode cX6_grow 80 = .ok (.aload_n 0, 1) := by decide +kernel
theorem dX6_grow_81 : decode cX6_grow 81 = .ok (.iconst (-1), 1) := by decide +kernel
theorem dX6_grow_82 : decode cX6_grow 82 = .ok (.invokevirtual 55, 3) := by decide +kernel
theorem dX6_grow_85 : decode cX6_grow 85 = .ok (.ireturn, 1) := by decide +kernel
theorem dX6_grow_86 : decode cX6_grow 86 = .ok (.iload_n 2, 1) := by decide +kernel
theorem dX6_grow_87 : decode cX6_grow 87 = .ok (.aload_n 0, 1) := by decide +kernel
theorem dX6_grow_88 : decode cX6_grow 88 = .ok (.getfield 12, 3) := by decide +kernel
theorem dX6_grow_91 : decode cX6_grow 91 = .ok (.getfield 132, 3) := by decide +kernel
theorem dX6_grow_94 : decode cX6_grow 94 = .ok (.iload_n 3, 1) := by decide +kernel
theorem dX6_grow_95 : decode cX6_grow 95 = .ok (.iaload, 1) := by decide +kernel
theorem dX6_grow_96 : decode cX6_grow 96 = .ok (.if_icmp .ne 5, 3) := by decide +kernel
theorem dX6_grow_99 : decode cX6_grow 99 = .ok (.iconst 1, 1) := by decide +kernel
theorem dX6_grow_100 : decode cX6_grow 100 = .ok (.ireturn, 1) := by decide +kernel
theorem dX6_grow_101 : decode cX6_grow 101 = .ok (.aload 5, 2) := by decide +kernel
theorem dX6_grow_103 : decode cX6_grow 103 = .ok (.iload_n 3, 1) := by decide +kernel
theorem dX6_grow_104 : decode cX6_grow 104 = .ok (.iload_n 2, 1) := by decide +kernel
theorem dX6_grow_105 : decode cX6_grow 105 = .ok (.invokevirtual 135, 3) := by decide +kernel
theorem dX6_grow_108 : decode cX6_grow 108 = .ok (.ifCond .eq 13, 3) := by decide +kernel
theorem dX6_grow_111 : decode cX6_grow 111 = .ok (.aload_n 0, 1) := by decide +kernel
theorem dX6_grow_112 : decode cX6_grow 112 = .ok (.aload 5, 2) := by decide +kernel
theorem dX6_grow_114 : decode cX6_grow 114 = .ok (.iload_n 3, 1) := by decide +kernel
theorem dX6_grow_115 : decode cX6_grow 115 = .ok (.iload_n 2, 1) := by decide +kernel
theorem dX6_grow_116 : decode cX6_grow 116 = .ok (.invokevirtual 139, 3) := by decide +kernel
theorem dX6_grow_119 : decode cX6_grow 119 = .ok (.iconst 1, 1) := by decide +kernel
theorem dX6_grow_120 : decode cX6_grow 120 = .ok (.ireturn, 1) := by decide +kernel
theorem dX6_grow_121 : decode cX6_grow 121 = .ok (.aload 5, 2) := by decide +kernel
theorem dX6_grow_123 : decode cX6_grow 123 = .ok (.iload 4, 2) := by decide +kernel
theorem dX6_grow_125 : decode cX6_grow 125 = .ok (.iload_n 2, 1) := by decide +kernel
theorem dX6_grow_126 : decode cX6_grow 126 = .ok (.invokevirtual 96, 3) := by decide +kernel
theorem dX6_grow_129 : decode cX6_grow 129 = .ok (.istore 6, 2) := by decide +kernel
theorem dX6_grow_131 : decode cX6_grow 131 = .ok (.iload 6, 2) := by decide +kernel
theorem dX6_grow_133 : decode cX6_grow 133 = .ok (.ifCond .ge 10, 3) := by decide +kernel
theorem dX6_grow_136 : decode cX6_grow 136 = .ok (.aload_n 0, 1) := by decide +kernel
theorem dX6_grow_137 : decode cX6_grow 137 = .ok (.bipush (-6), 2) := by decide +kernel
theorem dX6_grow_139 : decode cX6_grow 139 = .ok (.invokevirtual 55, 3) := by decide +kernel
theorem dX6_grow_142 : decode cX6_grow 142 = .ok (.ireturn, 1) := by decide +kernel
theorem dX6_grow_143 : decode cX6_grow 143 = .ok (.aload_n 0, 1) := by decide +kernel
theorem dX6_grow_144 : decode cX6_grow 144 = .ok (.getfield 12, 3) := by decide +kernel
theorem dX6_grow_147 : decode cX6_grow 147 = .ok (.iload_n 3, 1) := by decide +kernel
theorem dX6_grow_148 : decode cX6_grow 148 = .ok (.iload 6, 2) := by decide +kernel
theorem dX6_grow_150 : decode cX6_grow 150 = .ok (.iload_n 2, 1) := by decide +kernel
theorem dX6_grow_151 : decode cX6_grow 151 = .ok (.invokevirtual 143, 3) := by decide +kernel
theorem dX6_grow_154 : decode cX6_grow 154 = .ok (.aload 5, 2) := by decide +kernel
theorem dX6_grow_156 : decode cX6_grow 156 = .ok (.iload 4, 2) := by decide +kernel
theorem dX6_grow_158 : decode cX6_grow 158 = .ok (.invokevirtual 107, 3) := by decide +kernel
theorem dX6_grow_161 : decode cX6_grow 161 = .ok (.iconst 2, 1) := by decide +kernel
theorem dX6_grow_162 : decode cX6_grow 162 = .ok (.ireturn, 1) := by decide +kernel
theorem dX6_shrink_0 : decode cX6_shrink 0 = .ok (.aload_n 0, 1) := by decide +kernel
theorem dX6_shrink_1 : decode cX6_shrink 1 = .ok (.getfield 12, 3) := by decide +kernel
theorem dX6_shrink_4 : decode cX6_shrink 4 = .ok (.iload_n 1, 1) := by decide +kernel
theorem dX6_shrink_5 : decode cX6_shrink 5 = .ok (.invokevirtual 113, 3) := by decide +kernel
theorem dX6_shrink_8 : decode cX6_shrink 8 = .ok (.istore_n 3, 1) := by decide +kernel
theorem dX6_shrink_9 : decode cX6_shrink 9 = .ok (.iload_n 3, 1) := by decide +kernel
theorem dX6_shrink_10 : decode cX6_shrink 10 = .ok (.ifCond .ge 9, 3) := by decide +kernel
theorem dX6_shrink_13 : decode cX6_shrink 13 = .ok (.aload_n 0, 1) := by decide +kernel
theorem dX6_shrink_14 : decode cX6_shrink 14 = .ok (.iload_n 3, 1) := by decide +kernel
theorem dX6_shrink_15 : decode cX6_shrink 15 = .ok (.invokevirtual 55, 3) := by decide +kernel
theorem dX6_shrink_18 : decode cX6_shrink 18 = .ok (.ireturn, 1) := by decide +kernel
theorem dX6_shrink_19 : decode cX6_shrink 19 = .ok (.aload_n 0, 1) := by decide +kernel
theorem dX6_shrink_20 : decode cX6_shrink 20 = .ok (.getfield 12, 3) := by decide +kernel
theorem dX6_shrink_23 : decode cX6_shrink 23 = .ok (.iload_n 3, 1) := by decide +kernel
theorem dX6_shrink_24 : decode cX6_shrink 24 = .ok (.invokevirtual 116, 3) := by decide +kernel
theorem dX6_shrink_27 : decode cX6_shrink 27 = .ok (.ifCond .eq 10, 3) := by decide +kernel
theorem dX6_shrink_30 : decode cX6_shrink 30 = .ok (.aload_n 0, 1) := by decide +kernel
theorem dX6_shrink_31 : decode cX6_shrink 31 = .ok (.bipush (-8), 2) := by decide +kernel
theorem dX6_shrink_33 : decode cX6_shrink 33 = .ok (.invokevirtual 55, 3) := by decide +kernel
theorem dX6_shrink_36 : decode cX6_shrink 36 = .ok (.ireturn, 1) := by decide +kernel
theorem dX6_shrink_37 : decode cX6_shrink 37 = .ok (.iload_n 2, 1) := by decide +kernel
theorem dX6_shrink_38 : decode cX6_shrink 38 = .ok (.ifCond .ge 10, 3) := by decide +kernel
theorem dX6_shrink_41 : decode cX6_shrink 41 = .ok (.aload_n 0, 1) := by decide +kernel
theorem dX6_shrink_42 : decode cX6_shrink 42 = .ok (.bipush (-3), 2) := by decide +kernel
theorem dX6_shrink_44 : decode cX6_shrink 44 = .ok (.invokevirtual 55, 3) := by decide +kernel
theorem dX6_shrink_47 : decode cX6_shrink 47 = .ok (.ireturn, 1) := by decide +kernel
theorem dX6_shrink_48 : decode cX6_shrink 48 = .ok (.aload_n 0, 1) := by decide +kernel
theorem dX6_shrink_49 : decode cX6_shrink 49 = .ok (.getfield 12, 3) := by decide +kernel
theorem dX6_shrink_52 : decode cX6_shrink 52 = .ok (.getfield 132, 3) := by decide +kernel
theorem dX6_shrink_55 : decode cX6_shrink 55 = .ok (.iload_n 3, 1) := by decide +kernel
theorem dX6_shrink_56 : decode cX6_shrink 56 = .ok (.iaload, 1) := by decide +kernel
theorem dX6_shrink_57 : decode cX6_shrink 57 = .ok (.iload_n 2, 1) := by decide +kernel
theorem dX6_shrink_58 : decode cX6_shrink 58 = .ok (.isub, 1) := by decide +kernel
theorem dX6_shrink_59 : decode cX6_shrink 59 = .ok (.istore 4, 2) := by decide +kernel
theorem dX6_shrink_61 : decode cX6_shrink 61 = .ok (.iload 4, 2) := by decide +kernel
theorem dX6_shrink_63 : decode cX6_shrink 63 = .ok (.ifCond .ge 9, 3) := by decide +kernel
theorem dX6_shrink_66 : decode cX6_shrink 66 = .ok (.aload_n 0, 1) := by decide +kernel
theorem dX6_shrink_67 : decode cX6_shrink 67 = .ok (.iconst (-1), 1) := by decide +kernel
theorem dX6_shrink_68 : decode cX6_shrink 68 = .ok (.invokevirtual 55, 3) := by decide +kernel
theorem dX6_shrink_71 : decode cX6_shrink 71 = .ok (.ireturn, 1) := by decide +kernel
theorem dX6_shrink_72 : decode cX6_shrink 72 = .ok (.iload 4, 2) := by decide +kernel
theorem dX6_shrink_74 : decode cX6_shrink 74 = .ok (.ifCond .le 22, 3) := by decide +kernel
theorem dX6_shrink_77 : decode cX6_shrink 77 = .ok (.aload_n 0, 1) := by decide +kernel
theorem dX6_shrink_78 : decode cX6_shrink 78 = .ok (.aload_n 0, 1) := by decide +kernel
theorem dX6_shrink_79 : decode cX6_shrink 79 = .ok (.aload_n 0, 1) := by decide +kernel
theorem dX6_shrink_80 : decode cX6_shrink 80 = .ok (.getfield 12, 3) := by decide +kernel
theorem dX6_shrink_83 : decode cX6_shrink 83 = .ok (.getfield 119, 3) := by decide +kernel
theorem dX6_shrink_86 : decode cX6_shrink 86 = .ok (.iload_n 3, 1) := by decide +kernel
theorem dX6_shrink_87 : decode cX6_shrink 87 = .ok (.iaload, 1) := by decide +kernel
theorem dX6_shrink_88 : decode cX6_shrink 88 = .ok (.invokevirtual 83, 3) := by decide +kernel
theorem dX6_shrink_91 : decode cX6_shrink 91 = .ok (.iload_n 3, 1) := by decide +kernel
theorem dX6_shrink_92 : decode cX6_shrink 92 = .ok (.iload_n 2, 1) := by decide +kernel
theorem dX6_shrink_93 : decode cX6_shrink 93 = .ok (.invokevirtual 139, 3) := by decide +kernel
theorem dX6_shrink_96 : decode cX6_shrink 96 = .ok (.iload 4, 2) := by decide +kernel
theorem dX6_shrink_98 : decode cX6_shrink 98 = .ok (.ireturn, 1) := by decide +kernel
theorem dX6_write_0 : decode cX6_write 0 = .ok (.aload_n 0, 1) := by decide +kernel
theorem dX6_write_1 : decode cX6_write 1 = .ok (.getfield 12, 3) := by decide +kernel
theorem dX6_write_4 : decode cX6_write 4 = .ok (.iload_n 1, 1) := by decide +kernel
theorem dX6_write_5 : decode cX6_write 5 = .ok (.invokevirtual 113, 3) := by decide +kernel
theorem dX6_write_8 : decode cX6_write 8 = .ok (.istore 5, 2) := by decide +kernel
theorem dX6_write_10 : decode cX6_write 10 = .ok (.iload 5, 2) := by decide +kernel
theorem dX6_write_12 : decode cX6_write 12 = .ok (.ifCond .ge 10, 3) := by decide +kernel
theorem dX6_write_15 : decode cX6_write 15 = .ok (.aload_n 0, 1) := by decide +kernel
theorem dX6_write_16 : decode cX6_write 16 = .ok (.iload 5, 2) := by decide +kernel
theorem dX6_write_18 : decode cX6_write 18 = .ok (.invokevirtual 55, 3) := by decide +kernel
theorem dX6_write_21 : decode cX6_write 21 = .ok (.ireturn, 1) := by decide +kernel
theorem dX6_write_22 : decode cX6_write 22 = .ok (.iload_n 2, 1) := by decide +kernel
theorem dX6_write_23 : decode cX6_write 23 = .ok (.ifCond .lt 17, 3) := by decide +kernel
theorem dX6_write_26 : decode cX6_write 26 = .ok (.iload_n 2, 1) := by decide +kernel
theorem dX6_write_27 : decode cX6_write 27 = .ok (.aload_n 0, 1) := by decide +kernel
theorem dX6_write_28 : decode cX6_write 28 = .ok (.getfield 12, 3) := by decide +kernel
theorem dX6_write_31 : decode cX6_write 31 = .ok (.getfield 132, 3) := by decide +kernel
theorem dX6_write_34 : decode cX6_write 34 = .ok (.iload 5, 2) := by decide +kernel
theorem dX6_write_36 : decode cX6_write 36 = .ok (.iaload, 1) := by decide +kernel
theorem dX6_write_37 : decode cX6_write 37 = .ok (.if_icmp .lt 9, 3) := by decide +kernel
theorem dX6_write_40 : decode cX6_write 40 = .ok (.aload_n 0, 1) := by decide +kernel
theorem dX6_write_41 : decode cX6_write 41 = .ok (.iconst (-1), 1) := by decide +kernel
theorem dX6_write_42 : decode cX6_write 42 = .ok (.invokevirtual 55, 3) := by decide +kernel
theorem dX6_write_45 : decode cX6_write 45 = .ok (.ireturn, 1) := by decide +kernel
theorem dX6_write_46 : decode cX6_write 46 = .ok (.aload_n 0, 1) := by decide +kernel
theorem dX6_write_47 : decode cX6_write 47 = .ok (.getfield 12, 3) := by decide +kernel
theorem dX6_write_50 : decode cX6_write 50 = .ok (.aload_n 0, 1) := by decide +kernel
theorem dX6_write_51 : decode cX6_write 51 = .ok (.getfield 12, 3) := by decide +kernel
theorem dX6_write_54 : decode cX6_write 54 = .ok (.iload 5, 2) := by decide +kernel
theorem dX6_write_56 : decode cX6_write 56 = .ok (.invokevirtual 147, 3) := by decide +kernel
theorem dX6_write_59 : decode cX6_write 59 = .ok (.iload_n 2, 1) := by decide +kernel
theorem dX6_write_60 : decode cX6_write 60 = .ok (.iadd, 1) := by decide +kernel
theorem dX6_write_61 : decode cX6_write 61 = .ok (.lload_n 3, 1) := by decide +kernel
theorem dX6_write_62 : decode cX6_write 62 = .ok (.invokevirtual 150, 3) := by decide +kernel
theorem dX6_write_65 : decode cX6_write 65 = .ok (.iconst 0, 1) := by decide +kernel
theorem dX6_write_66 : decode cX6_write 66 = .ok (.ireturn, 1) := by decide +kernel
theorem dX6_read_0 : decode cX6_read 0 = .ok (.aload_n 0, 1) := by decide +kernel
theorem dX6_read_1 : decode cX6_read 1 = .ok (.getfield 12, 3) := by decide +kernel
theorem dX6_read_4 : decode cX6_read 4 = .ok (.iload_n 1, 1) := by decide +kernel
theorem dX6_read_5 : decode cX6_read 5 = .ok (.invokevirtual 113, 3) := by decide +kernel
theorem dX6_read_8 : decode cX6_read 8 = .ok (.istore_n 3, 1) := by decide +kernel
theorem dX6_read_9 : decode cX6_read 9 = .ok (.iload_n 3, 1) := by decide +kernel
theorem dX6_read_10 : decode cX6_read 10 = .ok (.ifCond .ge 9, 3) := by decide +kernel
theorem dX6_read_13 : decode cX6_read 13 = .ok (.aload_n 0, 1) := by decide +kernel
theorem dX6_read_14 : decode cX6_read 14 = .ok (.iload_n 3, 1) := by decide +kernel
theorem dX6_read_15 : decode cX6_read 15 = .ok (.invokevirtual 55, 3) := by decide +kernel
theorem dX6_read_18 : decode cX6_read 18 = .ok (.ireturn, 1) := by decide +kernel
theorem dX6_read_19 : decode cX6_read 19 = .ok (.iload_n 2, 1) := by decide +kernel
theorem dX6_read_20 : decode cX6_read 20 = .ok (.ifCond .lt 16, 3) := by decide +kernel
theorem dX6_read_23 : decode cX6_read 23 = .ok (.iload_n 2, 1) := by decide +kernel
theorem dX6_read_24 : decode cX6_read 24 = .ok (.aload_n 0, 1) := by decide +kernel
theorem dX6_read_25 : decode cX6_read 25 = .ok (.getfield 12, 3) := by decide +kernel
theorem dX6_read_28 : decode cX6_read 28 = .ok (.getfield 132, 3) := by decide +kernel
theorem dX6_read_31 : decode cX6_read 31 = .ok (.iload_n 3, 1) := by decide +kernel
theorem dX6_read_32 : decode cX6_read 32 = .ok (.iaload, 1) := by decide +kernel
theorem dX6_read_33 : decode cX6_read 33 = .ok (.if_icmp .lt 9, 3) := by decide +kernel
theorem dX6_read_36 : decode cX6_read 36 = .ok (.aload_n 0, 1) := by decide +kernel
theorem dX6_read_37 : decode cX6_read 37 = .ok (.iconst (-1), 1) := by decide +kernel
theorem dX6_read_38 : decode cX6_read 38 = .ok (.invokevirtual 55, 3) := by decide +kernel
theorem dX6_read_41 : decode cX6_read 41 = .ok (.ireturn, 1) := by decide +kernel
theorem dX6_read_42 : decode cX6_read 42 = .ok (.aload_n 0, 1) := by decide +kernel
theorem dX6_read_43 : decode cX6_read 43 = .ok (.aload_n 0, 1) := by decide +kernel
theorem dX6_read_44 : decode cX6_read 44 = .ok (.getfield 12, 3) := by decide +kernel
theorem dX6_read_47 : decode cX6_read 47 = .ok (.aload_n 0, 1) := by decide +kernel
theorem dX6_read_48 : decode cX6_read 48 = .ok (.getfield 12, 3) := by decide +kernel
theorem dX6_read_51 : decode cX6_read 51 = .ok (.iload_n 3, 1) := by decide +kernel
theorem dX6_read_52 : decode cX6_read 52 = .ok (.invokevirtual 147, 3) := by decide +kernel
theorem dX6_read_55 : decode cX6_read 55 = .ok (.iload_n 2, 1) := by decide +kernel
theorem dX6_read_56 : decode cX6_read 56 = .ok (.iadd, 1) := by decide +kernel
theorem dX6_read_57 : decode cX6_read 57 = .ok (.invokevirtual 154, 3) := by decide +kernel
theorem dX6_read_60 : decode cX6_read 60 = .ok (.putfield 51, 3) := by decide +kernel
theorem dX6_read_63 : decode cX6_read 63 = .ok (.iconst 0, 1) := by decide +kernel
theorem dX6_read_64 : decode cX6_read 64 = .ok (.ireturn, 1) := by decide +kernel
theorem dX6_value_0 : decode cX6_value 0 = .ok (.aload_n 0, 1) := by decide +kernel
theorem dX6_value_1 : decode cX6_value 1 = .ok (.getfield 51, 3) := by decide +kernel
theorem dX6_value_4 : decode cX6_value 4 = .ok (.lreturn, 1) := by decide +kernel
theorem dX6_copy_0 : decode cX6_copy 0 = .ok (.aload_n 0, 1) := by decide +kernel
theorem dX6_copy_1 : decode cX6_copy 1 = .ok (.getfield 12, 3) := by decide +kernel
theorem dX6_copy_4 : decode cX6_copy 4 = .ok (.iload_n 1, 1) := by decide +kernel
theorem dX6_copy_5 : decode cX6_copy 5 = .ok (.invokevirtual 113, 3) := by decide +kernel
theorem dX6_copy_8 : decode cX6_copy 8 = .ok (.istore 6, 2) := by decide +kernel
theorem dX6_copy_10 : decode cX6_copy 10 = .ok (.iload 6, 2) := by decide +kernel
theorem dX6_copy_12 : decode cX6_copy 12 = .ok (.ifCond .ge 10, 3) := by decide +kernel
theorem dX6_copy_15 : decode cX6_copy 15 = .ok (.aload_n 0, 1) := by decide +kernel
theorem dX6_copy_16 : decode cX6_copy 16 = .ok (.iload 6, 2) := by decide +kernel
theorem dX6_copy_18 : decode cX6_copy 18 = .ok (.invokevirtual 55, 3) := by decide +kernel
theorem dX6_copy_21 : decode cX6_copy 21 = .ok (.ireturn, 1) := by decide +kernel
theorem dX6_copy_22 : decode cX6_copy 22 = .ok (.aload_n 0, 1) := by decide +kernel
theorem dX6_copy_23 : decode cX6_copy 23 = .ok (.getfield 12, 3) := by decide +kernel
theorem dX6_copy_26 : decode cX6_copy 26 = .ok (.iload_n 3, 1) := by decide +kernel
theorem dX6_copy_27 : decode cX6_copy 27 = .ok (.invokevirtual 113, 3) := by decide +kernel
theorem dX6_copy_30 : decode cX6_copy 30 = .ok (.istore 7, 2) := by decide +kernel
theorem dX6_copy_32 : decode cX6_copy 32 = .ok (.iload 7, 2) := by decide +kernel
theorem dX6_copy_34 : decode cX6_copy 34 = .ok (.ifCond .ge 10, 3) := by decide +kernel
theorem dX6_copy_37 : decode cX6_copy 37 = .ok (.aload_n 0, 1) := by decide +kernel
theorem dX6_copy_38 : decode cX6_copy 38 = .ok (.iload 7, 2) := by decide +kernel
theorem dX6_copy_40 : decode cX6_copy 40 = .ok (.invokevirtual 55, 3) := by decide +kernel
theorem dX6_copy_43 : decode cX6_copy 43 = .ok (.ireturn, 1) := by decide +kernel
theorem dX6_copy_44 : decode cX6_copy 44 = .ok (.iload 5, 2) := by decide +kernel
theorem dX6_copy_46 : decode cX6_copy 46 = .ok (.ifCond .ge 10, 3) := by decide +kernel
theorem dX6_copy_49 : decode cX6_copy 49 = .ok (.aload_n 0, 1) := by decide +kernel
theorem dX6_copy_50 : decode cX6_copy 50 = .ok (.bipush (-3), 2) := by decide +kernel
theorem dX6_copy_52 : decode cX6_copy 52 = .ok (.invokevirtual 55, 3) := by decide +kernel
theorem dX6_copy_55 : decode cX6_copy 55 = .ok (.ireturn, 1) := by decide +kernel
theorem dX6_copy_56 : decode cX6_copy 56 = .ok (.aload_n 0, 1) := by decide +kernel
theorem dX6_copy_57 : decode cX6_copy 57 = .ok (.getfield 12, 3) := by decide +kernel
theorem dX6_copy_60 : decode cX6_copy 60 = .ok (.iload 6, 2) := by decide +kernel
theorem dX6_copy_62 : decode cX6_copy 62 = .ok (.iload_n 2, 1) := by decide +kernel
theorem dX6_copy_63 : decode cX6_copy 63 = .ok (.iload 5, 2) := by decide +kernel
theorem dX6_copy_65 : decode cX6_copy 65 = .ok (.invokevirtual 158, 3) := by decide +kernel
theorem dX6_copy_68 : decode cX6_copy 68 = .ok (.ifCond .eq 19, 3) := by decide +kernel
theorem dX6_copy_71 : decode cX6_copy 71 = .ok (.aload_n 0, 1) := by decide +kernel
theorem dX6_copy_72 : decode cX6_copy 72 = .ok (.getfield 12, 3) := by decide +kernel
theorem dX6_copy_75 : decode cX6_copy 75 = .ok (.iload 7, 2) := by decide +kernel
theorem dX6_copy_77 : decode cX6_copy 77 = .ok (.iload 4, 2) := by decide +kernel
theorem dX6_copy_79 : decode cX6_copy 79 = .ok (.iload 5, 2) := by decide +kernel
theorem dX6_copy_81 : decode cX6_copy 81 = .ok (.invokevirtual 158, 3) := by decide +kernel
theorem dX6_copy_84 : decode cX6_copy 84 = .ok (.ifCond .ne 9, 3) := by decide +kernel
theorem dX6_copy_87 : decode cX6_copy 87 = .ok (.aload_n 0, 1) := by decide +kernel
theorem dX6_copy_88 : decode cX6_copy 88 = .ok (.iconst (-1), 1) := by decide +kernel
theorem dX6_copy_89 : decode cX6_copy 89 = .ok (.invokevirtual 55, 3) := by decide +kernel
theorem dX6_copy_92 : decode cX6_copy 92 = .ok (.ireturn, 1) := by decide +kernel
theorem dX6_copy_93 : decode cX6_copy 93 = .ok (.aload_n 0, 1) := by decide +kernel
theorem dX6_copy_94 : decode cX6_copy 94 = .ok (.getfield 12, 3) := by decide +kernel
theorem dX6_copy_97 : decode cX6_copy 97 = .ok (.aload_n 0, 1) := by decide +kernel
theorem dX6_copy_98 : decode cX6_copy 98 = .ok (.getfield 12, 3) := by decide +kernel
theorem dX6_copy_101 : decode cX6_copy 101 = .ok (.iload 6, 2) := by decide +kernel
theorem dX6_copy_103 : decode cX6_copy 103 = .ok (.invokevirtual 147, 3) := by decide +kernel
theorem dX6_copy_106 : decode cX6_copy 106 = .ok (.iload_n 2, 1) := by decide +kernel
theorem dX6_copy_107 : decode cX6_copy 107 = .ok (.iadd, 1) := by decide +kernel
theorem dX6_copy_108 : decode cX6_copy 108 = .ok (.aload_n 0, 1) := by decide +kernel
theorem dX6_copy_109 : decode cX6_copy 109 = .ok (.getfield 12, 3) := by decide +kernel
theorem dX6_copy_112 : decode cX6_copy 112 = .ok (.iload 7, 2) := by decide +kernel
theorem dX6_copy_114 : decode cX6_copy 114 = .ok (.invokevirtual 147, 3) := by decide +kernel
theorem dX6_copy_117 : decode cX6_copy 117 = .ok (.iload 4, 2) := by decide +kernel
theorem dX6_copy_119 : decode cX6_copy 119 = .ok (.iadd, 1) := by decide +kernel
theorem dX6_copy_120 : decode cX6_copy 120 = .ok (.iload 5, 2) := by decide +kernel
theorem dX6_copy_122 : decode cX6_copy 122 = .ok (.invokevirtual 162, 3) := by decide +kernel
theorem dX6_copy_125 : decode cX6_copy 125 = .ok (.iload 5, 2) := by decide +kernel
theorem dX6_copy_127 : decode cX6_copy 127 = .ok (.ireturn, 1) := by decide +kernel
theorem dX6_fill_0 : decode cX6_fill 0 = .ok (.aload_n 0, 1) := by decide +kernel
theorem dX6_fill_1 : decode cX6_fill 1 = .ok (.getfield 12, 3) := by decide +kernel
theorem dX6_fill_4 : decode cX6_fill 4 = .ok (.iload_n 1, 1) := by decide +kernel
theorem dX6_fill_5 : decode cX6_fill 5 = .ok (.invokevirtual 113, 3) := by decide +kernel
theorem dX6_fill_8 : decode cX6_fill 8 = .ok (.istore 4, 2) := by decide +kernel
theorem dX6_fill_10 : decode cX6_fill 10 = .ok (.iload 4, 2) := by decide +kernel
theorem dX6_fill_12 : decode cX6_fill 12 = .ok (.ifCond .ge 10, 3) := by decide +kernel
theorem dX6_fill_15 : decode cX6_fill 15 = .ok (.aload_n 0, 1) := by decide +kernel
theorem dX6_fill_16 : decode cX6_fill 16 = .ok (.iload 4, 2) := by decide +kernel
theorem dX6_fill_18 : decode cX6_fill 18 = .ok (.invokevirtual 55, 3) := by decide +kernel
theorem dX6_fill_21 : decode cX6_fill 21 = .ok (.ireturn, 1) := by decide +kernel
theorem dX6_fill_22 : decode cX6_fill 22 = .ok (.aload_n 0, 1) := by decide +kernel
theorem dX6_fill_23 : decode cX6_fill 23 = .ok (.getfield 12, 3) := by decide +kernel
theorem dX6_fill_26 : decode cX6_fill 26 = .ok (.aload_n 0, 1) := by decide +kernel
theorem dX6_fill_27 : decode cX6_fill 27 = .ok (.getfield 12, 3) := by decide +kernel
theorem dX6_fill_30 : decode cX6_fill 30 = .ok (.iload 4, 2) := by decide +kernel
theorem dX6_fill_32 : decode cX6_fill 32 = .ok (.invokevirtual 147, 3) := by decide +kernel
theorem dX6_fill_35 : decode cX6_fill 35 = .ok (.aload_n 0, 1) := by decide +kernel
theorem dX6_fill_36 : decode cX6_fill 36 = .ok (.getfield 12, 3) := by decide +kernel
theorem dX6_fill_39 : decode cX6_fill 39 = .ok (.getfield 132, 3) := by decide +kernel
theorem dX6_fill_42 : decode cX6_fill 42 = .ok (.iload 4, 2) := by decide +kernel
theorem dX6_fill_44 : decode cX6_fill 44 = .ok (.iaload, 1) := by decide +kernel
theorem dX6_fill_45 : decode cX6_fill 45 = .ok (.lload_n 2, 1) := by decide +kernel
theorem dX6_fill_46 : decode cX6_fill 46 = .ok (.invokevirtual 165, 3) := by decide +kernel
theorem dX6_fill_49 : decode cX6_fill 49 = .ok (.aload_n 0, 1) := by decide +kernel
theorem dX6_fill_50 : decode cX6_fill 50 = .ok (.getfield 12, 3) := by decide +kernel
theorem dX6_fill_53 : decode cX6_fill 53 = .ok (.getfield 132, 3) := by decide +kernel
theorem dX6_fill_56 : decode cX6_fill 56 = .ok (.iload 4, 2) := by decide +kernel
theorem dX6_fill_58 : decode cX6_fill 58 = .ok (.iaload, 1) := by decide +kernel
theorem dX6_fill_59 : decode cX6_fill 59 = .ok (.ireturn, 1) := by decide +kernel
theorem dX6_block_0 : decode cX6_block 0 = .ok (.aload_n 0, 1) := by decide +kernel
theorem dX6_block_1 : decode cX6_block 1 = .ok (.getfield 12, 3) := by decide +kernel
theorem dX6_block_4 : decode cX6_block 4 = .ok (.iload_n 1, 1) := by decide +kernel
theorem dX6_block_5 : decode cX6_block 5 = .ok (.invokevirtual 113, 3) := by decide +kernel
theorem dX6_block_8 : decode cX6_block 8 = .ok (.istore_n 3, 1) := by decide +kernel
theorem dX6_block_9 : decode cX6_block 9 = .ok (.iload_n 3, 1) := by decide +kernel
theorem dX6_block_10 : decode cX6_block 10 = .ok (.ifCond .ge 9, 3) := by decide +kernel
theorem dX6_block_13 : decode cX6_block 13 = .ok (.aload_n 0, 1) := by decide +kernel
theorem dX6_block_14 : decode cX6_block 14 = .ok (.iload_n 3, 1) := by decide +kernel
theorem dX6_block_15 : decode cX6_block 15 = .ok (.invokevirtual 55, 3) := by decide +kernel
theorem dX6_block_18 : decode cX6_block 18 = .ok (.ireturn, 1) := by decide +kernel
theorem dX6_block_19 : decode cX6_block 19 = .ok (.iload_n 2, 1) := by decide +kernel
theorem dX6_block_20 : decode cX6_block 20 = .ok (.tableswitch 70 0 3 #[32, 42, 52, 61], 32) := by decide +kernel
theorem dX6_block_52 : decode cX6_block 52 = .ok (.aload_n 0, 1) := by decide +kernel
theorem dX6_block_53 : decode cX6_block 53 = .ok (.getfield 12, 3) := by decide +kernel
theorem dX6_block_56 : decode cX6_block 56 = .ok (.getfield 132, 3) := by decide +kernel
theorem dX6_block_59 : decode cX6_block 59 = .ok (.iload_n 3, 1) := by decide +kernel
theorem dX6_block_60 : decode cX6_block 60 = .ok (.iaload, 1) := by decide +kernel
theorem dX6_block_61 : decode cX6_block 61 = .ok (.ireturn, 1) := by decide +kernel
theorem dX6_block_62 : decode cX6_block 62 = .ok (.aload_n 0, 1) := by decide +kernel
theorem dX6_block_63 : decode cX6_block 63 = .ok (.getfield 12, 3) := by decide +kernel
theorem dX6_block_66 : decode cX6_block 66 = .ok (.getfield 119, 3) := by decide +kernel
theorem dX6_block_69 : decode cX6_block 69 = .ok (.iload_n 3, 1) := by decide +kernel
theorem dX6_block_70 : decode cX6_block 70 = .ok (.iaload, 1) := by decide +kernel
theorem dX6_block_71 : decode cX6_block 71 = .ok (.ireturn, 1) := by decide +kernel
theorem dX6_block_72 : decode cX6_block 72 = .ok (.aload_n 0, 1) := by decide +kernel
theorem dX6_block_73 : decode cX6_block 73 = .ok (.getfield 12, 3) := by decide +kernel
theorem dX6_block_76 : decode cX6_block 76 = .ok (.iload_n 3, 1) := by decide +kernel
theorem dX6_block_77 : decode cX6_block 77 = .ok (.invokevirtual 147, 3) := by decide +kernel
theorem dX6_block_80 : decode cX6_block 80 = .ok (.ireturn, 1) := by decide +kernel
theorem dX6_block_81 : decode cX6_block 81 = .ok (.aload_n 0, 1) := by decide +kernel
theorem dX6_block_82 : decode cX6_block 82 = .ok (.getfield 12, 3) := by decide +kernel
theorem dX6_block_85 : decode cX6_block 85 = .ok (.iload_n 3, 1) := by decide +kernel
theorem dX6_block_86 : decode cX6_block 86 = .ok (.invokevirtual 116, 3) := by decide +kernel
theorem dX6_block_89 : decode cX6_block 89 = .ok (.ireturn, 1) := by decide +kernel
theorem dX6_block_90 : decode cX6_block 90 = .ok (.aload_n 0, 1) := by decide +kernel
theorem dX6_block_91 : decode cX6_block 91 = .ok (.iconst (-1), 1) := by decide +kernel
theorem dX6_block_92 : decode cX6_block 92 = .ok (.invokevirtual 55, 3) := by decide +kernel
theorem dX6_block_95 : decode cX6_block 95 = .ok (.ireturn, 1) := by decide +kernel
theorem dX6_spoil_0 : decode cX6_spoil 0 = .ok (.aload_n 0, 1) := by decide +kernel
theorem dX6_spoil_1 : decode cX6_spoil 1 = .ok (.getfield 12, 3) := by decide +kernel
theorem dX6_spoil_4 : decode cX6_spoil 4 = .ok (.iload_n 1, 1) := by decide +kernel
theorem dX6_spoil_5 : decode cX6_spoil 5 = .ok (.invokevirtual 113, 3) := by decide +kernel
theorem dX6_spoil_8 : decode cX6_spoil 8 = .ok (.istore 5, 2) := by decide +kernel
theorem dX6_spoil_10 : decode cX6_spoil 10 = .ok (.iload 5, 2) := by decide +kernel
theorem dX6_spoil_12 : decode cX6_spoil 12 = .ok (.ifCond .ge 10, 3) := by decide +kernel
theorem dX6_spoil_15 : decode cX6_spoil 15 = .ok (.aload_n 0, 1) := by decide +kernel
theorem dX6_spoil_16 : decode cX6_spoil 16 = .ok (.iload 5, 2) := by decide +kernel
theorem dX6_spoil_18 : decode cX6_spoil 18 = .ok (.invokevirtual 55, 3) := by decide +kernel
theorem dX6_spoil_21 : decode cX6_spoil 21 = .ok (.ireturn, 1) := by decide +kernel
theorem dX6_spoil_22 : decode cX6_spoil 22 = .ok (.aload_n 0, 1) := by decide +kernel
theorem dX6_spoil_23 : decode cX6_spoil 23 = .ok (.getfield 12, 3) := by decide +kernel
theorem dX6_spoil_26 : decode cX6_spoil 26 = .ok (.iload 5, 2) := by decide +kernel
theorem dX6_spoil_28 : decode cX6_spoil 28 = .ok (.invokevirtual 169, 3) := by decide +kernel
theorem dX6_spoil_31 : decode cX6_spoil 31 = .ok (.ifCond .ne 10, 3) := by decide +kernel
theorem dX6_spoil_34 : decode cX6_spoil 34 = .ok (.aload_n 0, 1) := by decide +kernel
theorem dX6_spoil_35 : decode cX6_spoil 35 = .ok (.bipush (-9), 2) := by decide +kernel
theorem dX6_spoil_37 : decode cX6_spoil 37 = .ok (.invokevirtual 55, 3) := by decide +kernel
theorem dX6_spoil_40 : decode cX6_spoil 40 = .ok (.ireturn, 1) := by decide +kernel
theorem dX6_spoil_41 : decode cX6_spoil 41 = .ok (.aload_n 0, 1) := by decide +kernel
theorem dX6_spoil_42 : decode cX6_spoil 42 = .ok (.getfield 12, 3) := by decide +kernel
theorem dX6_spoil_45 : decode cX6_spoil 45 = .ok (.iload_n 2, 1) := by decide +kernel
theorem dX6_spoil_46 : decode cX6_spoil 46 = .ok (.ifCond .eq 15, 3) := by decide +kernel
theorem dX6_spoil_49 : decode cX6_spoil 49 = .ok (.aload_n 0, 1) := by decide +kernel
theorem dX6_spoil_50 : decode cX6_spoil 50 = .ok (.getfield 12, 3) := by decide +kernel
theorem dX6_spoil_53 : decode cX6_spoil 53 = .ok (.iload 5, 2) := by decide +kernel
theorem dX6_spoil_55 : decode cX6_spoil 55 = .ok (.invokevirtual 172, 3) := by decide +kernel
theorem dX6_spoil_58 : decode cX6_spoil 58 = .ok (.goto 12, 3) := by decide +kernel
theorem dX6_spoil_61 : decode cX6_spoil 61 = .ok (.aload_n 0, 1) := by decide +kernel
theorem dX6_spoil_62 : decode cX6_spoil 62 = .ok (.getfield 12, 3) := by decide +kernel
theorem dX6_spoil_65 : decode cX6_spoil 65 = .ok (.iload 5, 2) := by decide +kernel
theorem dX6_spoil_67 : decode cX6_spoil 67 = .ok (.invokevirtual 175, 3) := by decide +kernel
theorem dX6_spoil_70 : decode cX6_spoil 70 = .ok (.lload_n 3, 1) := by decide +kernel
theorem dX6_spoil_71 : decode cX6_spoil 71 = .ok (.invokevirtual 150, 3) := by decide +kernel
theorem dX6_spoil_74 : decode cX6_spoil 74 = .ok (.iconst 0, 1) := by decide +kernel
theorem dX6_spoil_75 : decode cX6_spoil 75 = .ok (.ireturn, 1) := by decide +kernel
theorem dX6_peek_0 : decode cX6_peek 0 = .ok (.iload_n 1, 1) := by decide +kernel
theorem dX6_peek_1 : decode cX6_peek 1 = .ok (.ifCond .lt 14, 3) := by decide +kernel
theorem dX6_peek_4 : decode cX6_peek 4 = .ok (.iload_n 1, 1) := by decide +kernel
theorem dX6_peek_5 : decode cX6_peek 5 = .ok (.aload_n 0, 1) := by decide +kernel
theorem dX6_peek_6 : decode cX6_peek 6 = .ok (.getfield 12, 3) := by decide +kernel
theorem dX6_peek_9 : decode cX6_peek 9 = .ok (.invokevirtual 178, 3) := by decide +kernel
theorem dX6_peek_12 : decode cX6_peek 12 = .ok (.if_icmp .lt 9, 3) := by decide +kernel
theorem dX6_peek_15 : decode cX6_peek 15 = .ok (.aload_n 0, 1) := by decide +kernel
theorem dX6_peek_16 : decode cX6_peek 16 = .ok (.iconst (-1), 1) := by decide +kernel
theorem dX6_peek_17 : decode cX6_peek 17 = .ok (.invokevirtual 55, 3) := by decide +kernel
theorem dX6_peek_20 : decode cX6_peek 20 = .ok (.ireturn, 1) := by decide +kernel
theorem dX6_peek_21 : decode cX6_peek 21 = .ok (.aload_n 0, 1) := by decide +kernel
theorem dX6_peek_22 : decode cX6_peek 22 = .ok (.getfield 12, 3) := by decide +kernel
theorem dX6_peek_25 : decode cX6_peek 25 = .ok (.iload_n 1, 1) := by decide +kernel
theorem dX6_peek_26 : decode cX6_peek 26 = .ok (.invokevirtual 181, 3) := by decide +kernel
theorem dX6_peek_29 : decode cX6_peek 29 = .ok (.bipush (-2), 2) := by decide +kernel
theorem dX6_peek_31 : decode cX6_peek 31 = .ok (.if_icmp .ne 10, 3) := by decide +kernel
theorem dX6_peek_34 : decode cX6_peek 34 = .ok (.aload_n 0, 1) := by decide +kernel
theorem dX6_peek_35 : decode cX6_peek 35 = .ok (.bipush (-2), 2) := by decide +kernel
theorem dX6_peek_37 : decode cX6_peek 37 = .ok (.invokevirtual 55, 3) := by decide +kernel
theorem dX6_peek_40 : decode cX6_peek 40 = .ok (.ireturn, 1) := by decide +kernel
theorem dX6_peek_41 : decode cX6_peek 41 = .ok (.aload_n 0, 1) := by decide +kernel
theorem dX6_peek_42 : decode cX6_peek 42 = .ok (.aload_n 0, 1) := by decide +kernel
theorem dX6_peek_43 : decode cX6_peek 43 = .ok (.getfield 12, 3) := by decide +kernel
theorem dX6_peek_46 : decode cX6_peek 46 = .ok (.iload_n 1, 1) := by decide +kernel
theorem dX6_peek_47 : decode cX6_peek 47 = .ok (.invokevirtual 154, 3) := by decide +kernel
theorem dX6_peek_50 : decode cX6_peek 50 = .ok (.putfield 51, 3) := by decide +kernel
theorem dX6_peek_53 : decode cX6_peek 53 = .ok (.aload_n 0, 1) := by decide +kernel
theorem dX6_peek_54 : decode cX6_peek 54 = .ok (.getfield 21, 3) := by decide +kernel
theorem dX6_peek_57 : decode cX6_peek 57 = .ok (.iload_n 1, 1) := by decide +kernel
theorem dX6_peek_58 : decode cX6_peek 58 = .ok (.invokevirtual 184, 3) := by decide +kernel
theorem dX6_peek_61 : decode cX6_peek 61 = .ok (.ireturn, 1) := by decide +kernel
theorem dX6_largest_0 : decode cX6_largest 0 = .ok (.aload_n 0, 1) := by decide +kernel
theorem dX6_largest_1 : decode cX6_largest 1 = .ok (.getfield 12, 3) := by decide +kernel
theorem dX6_largest_4 : decode cX6_largest 4 = .ok (.iload_n 1, 1) := by decide +kernel
theorem dX6_largest_5 : decode cX6_largest 5 = .ok (.invokevirtual 79, 3) := by decide +kernel
theorem dX6_largest_8 : decode cX6_largest 8 = .ok (.ifCond .ne 9, 3) := by decide +kernel
theorem dX6_largest_11 : decode cX6_largest 11 = .ok (.aload_n 0, 1) := by decide +kernel
theorem dX6_largest_12 : decode cX6_largest 12 = .ok (.iconst (-1), 1) := by decide +kernel
theorem dX6_largest_13 : decode cX6_largest 13 = .ok (.invokevirtual 55, 3) := by decide +kernel
theorem dX6_largest_16 : decode cX6_largest 16 = .ok (.ireturn, 1) := by decide +kernel
theorem dX6_largest_17 : decode cX6_largest 17 = .ok (.aload_n 0, 1) := by decide +kernel
theorem dX6_largest_18 : decode cX6_largest 18 = .ok (.iload_n 1, 1) := by decide +kernel
theorem dX6_largest_19 : decode cX6_largest 19 = .ok (.invokevirtual 83, 3) := by decide +kernel
theorem dX6_largest_22 : decode cX6_largest 22 = .ok (.iload_n 1, 1) := by decide +kernel
theorem dX6_largest_23 : decode cX6_largest 23 = .ok (.invokevirtual 187, 3) := by decide +kernel
theorem dX6_largest_26 : decode cX6_largest 26 = .ok (.istore_n 2, 1) := by decide +kernel
theorem dX6_largest_27 : decode cX6_largest 27 = .ok (.iload_n 2, 1) := by decide +kernel
theorem dX6_largest_28 : decode cX6_largest 28 = .ok (.ifCond .ge 12, 3) := by decide +kernel
theorem dX6_largest_31 : decode cX6_largest 31 = .ok (.aload_n 0, 1) := by decide +kernel
theorem dX6_largest_32 : decode cX6_largest 32 = .ok (.bipush (-6), 2) := by decide +kernel
theorem dX6_largest_34 : decode cX6_largest 34 = .ok (.invokevirtual 55, 3) := by decide +kernel
theorem dX6_largest_37 : decode cX6_largest 37 = .ok (.goto 4, 3) := by decide +kernel
theorem dX6_largest_40 : decode cX6_largest 40 = .ok (.iload_n 2, 1) := by decide +kernel
theorem dX6_largest_41 : decode cX6_largest 41 = .ok (.ireturn, 1) := by decide +kernel
theorem dX6_told_0 : decode cX6_told 0 = .ok (.aload_n 0, 1) := by decide +kernel
theorem dX6_told_1 : decode cX6_told 1 = .ok (.getfield 12, 3) := by decide +kernel
theorem dX6_told_4 : decode cX6_told 4 = .ok (.iload_n 1, 1) := by decide +kernel
theorem dX6_told_5 : decode cX6_told 5 = .ok (.invokevirtual 79, 3) := by decide +kernel
theorem dX6_told_8 : decode cX6_told 8 = .ok (.ifCond .ne 9, 3) := by decide +kernel
theorem dX6_told_11 : decode cX6_told 11 = .ok (.aload_n 0, 1) := by decide +kernel
theorem dX6_told_12 : decode cX6_told 12 = .ok (.iconst (-1), 1) := by decide +kernel
theorem dX6_told_13 : decode cX6_told 13 = .ok (.invokevirtual 55, 3) := by decide +kernel
theorem dX6_told_16 : decode cX6_told 16 = .ok (.ireturn, 1) := by decide +kernel
theorem dX6_told_17 : decode cX6_told 17 = .ok (.iload_n 2, 1) := by decide +kernel
theorem dX6_told_18 : decode cX6_told 18 = .ok (.tableswitch 67 0 3 #[30, 40, 49, 58], 30) := by decide +kernel
theorem dX6_told_48 : decode cX6_told 48 = .ok (.aload_n 0, 1) := by decide +kernel
theorem dX6_told_49 : decode cX6_told 49 = .ok (.getfield 12, 3) := by decide +kernel
theorem dX6_told_52 : decode cX6_told 52 = .ok (.getfield 190, 3) := by decide +kernel
theorem dX6_told_55 : decode cX6_told 55 = .ok (.iload_n 1, 1) := by decide +kernel
theorem dX6_told_56 : decode cX6_told 56 = .ok (.iaload, 1) := by decide +kernel
theorem dX6_told_57 : decode cX6_told 57 = .ok (.ireturn, 1) := by decide +kernel
theorem dX6_told_58 : decode cX6_told 58 = .ok (.aload_n 0, 1) := by decide +kernel
theorem dX6_told_59 : decode cX6_told 59 = .ok (.getfield 12, 3) := by decide +kernel
theorem dX6_told_62 : decode cX6_told 62 = .ok (.iload_n 1, 1) := by decide +kernel
theorem dX6_told_63 : decode cX6_told 63 = .ok (.invokevirtual 193, 3) := by decide +kernel
theorem dX6_told_66 : decode cX6_told 66 = .ok (.ireturn, 1) := by decide +kernel
theorem dX6_told_67 : decode cX6_told 67 = .ok (.aload_n 0, 1) := by decide +kernel
theorem dX6_told_68 : decode cX6_told 68 = .ok (.getfield 12, 3) := by decide +kernel
theorem dX6_told_71 : decode cX6_told 71 = .ok (.iload_n 1, 1) := by decide +kernel
theorem dX6_told_72 : decode cX6_told 72 = .ok (.invokevirtual 196, 3) := by decide +kernel
theorem dX6_told_75 : decode cX6_told 75 = .ok (.ireturn, 1) := by decide +kernel
theorem dX6_told_76 : decode cX6_told 76 = .ok (.aload_n 0, 1) := by decide +kernel
theorem dX6_told_77 : decode cX6_told 77 = .ok (.getfield 12, 3) := by decide +kernel
theorem dX6_told_80 : decode cX6_told 80 = .ok (.iload_n 1, 1) := by decide +kernel
theorem dX6_told_81 : decode cX6_told 81 = .ok (.invokevirtual 199, 3) := by decide +kernel
theorem dX6_told_84 : decode cX6_told 84 = .ok (.ireturn, 1) := by decide +kernel
theorem dX6_told_85 : decode cX6_told 85 = .ok (.aload_n 0, 1) := by decide +kernel
theorem dX6_told_86 : decode cX6_told 86 = .ok (.iconst (-1), 1) := by decide +kernel
theorem dX6_told_87 : decode cX6_told 87 = .ok (.invokevirtual 55, 3) := by decide +kernel
theorem dX6_told_90 : decode cX6_told 90 = .ok (.ireturn, 1) := by decide +kernel
theorem dX6_map_0 : decode cX6_map 0 = .ok (.iload_n 2, 1) := by decide +kernel
theorem dX6_map_1 : decode cX6_map 1 = .ok (.ifCond .lt 19, 3) := by decide +kernel
theorem dX6_map_4 : decode cX6_map 4 = .ok (.iload_n 2, 1) := by decide +kernel
theorem dX6_map_5 : decode cX6_map 5 = .ok (.iconst 4, 1) := by decide +kernel
theorem dX6_map_6 : decode cX6_map 6 = .ok (.if_icmp .gt 14, 3) := by decide +kernel
theorem dX6_map_9 : decode cX6_map 9 = .ok (.aload_n 0, 1) := by decide +kernel
theorem dX6_map_10 : decode cX6_map 10 = .ok (.getfield 21, 3) := by decide +kernel
theorem dX6_map_13 : decode cX6_map 13 = .ok (.iload_n 1, 1) := by decide +kernel
theorem dX6_map_14 : decode cX6_map 14 = .ok (.invokevirtual 202, 3) := by decide +kernel
theorem dX6_map_17 : decode cX6_map 17 = .ok (.ifCond .ne 9, 3) := by decide +kernel
theorem dX6_map_20 : decode cX6_map 20 = .ok (.aload_n 0, 1) := by decide +kernel
theorem dX6_map_21 : decode cX6_map 21 = .ok (.iconst (-1), 1) := by decide +kernel
theorem dX6_map_22 : decode cX6_map 22 = .ok (.invokevirtual 55, 3) := by decide +kernel
theorem dX6_map_25 : decode cX6_map 25 = .ok (.ireturn, 1) := by decide +kernel
theorem dX6_map_26 : decode cX6_map 26 = .ok (.iload_n 2, 1) := by decide +kernel
theorem dX6_map_27 : decode cX6_map 27 = .ok (.tableswitch 61 0 3 #[29, 37, 45, 53], 29) := by decide +kernel
theorem dX6_map_56 : decode cX6_map 56 = .ok (.aload_n 0, 1) := by decide +kernel
theorem dX6_map_57 : decode cX6_map 57 = .ok (.getfield 21, 3) := by decide +kernel
theorem dX6_map_60 : decode cX6_map 60 = .ok (.getfield 205, 3) := by decide +kernel
theorem dX6_map_63 : decode cX6_map 63 = .ok (.ireturn, 1) := by decide +kernel
theorem dX6_map_64 : decode cX6_map 64 = .ok (.aload_n 0, 1) := by decide +kernel
theorem dX6_map_65 : decode cX6_map 65 = .ok (.getfield 21, 3) := by decide +kernel
theorem dX6_map_68 : decode cX6_map 68 = .ok (.getfield 208, 3) := by decide +kernel
theorem dX6_map_71 : decode cX6_map 71 = .ok (.ireturn, 1) := by decide +kernel
theorem dX6_map_72 : decode cX6_map 72 = .ok (.aload_n 0, 1) := by decide +kernel
theorem dX6_map_73 : decode cX6_map 73 = .ok (.getfield 21, 3) := by decide +kernel
theorem dX6_map_76 : decode cX6_map 76 = .ok (.getfield 211, 3) := by decide +kernel
theorem dX6_map_79 : decode cX6_map 79 = .ok (.ireturn, 1) := by decide +kernel
theorem dX6_map_80 : decode cX6_map 80 = .ok (.aload_n 0, 1) := by decide +kernel
theorem dX6_map_81 : decode cX6_map 81 = .ok (.getfield 21, 3) := by decide +kernel
theorem dX6_map_84 : decode cX6_map 84 = .ok (.invokevirtual 214, 3) := by decide +kernel
theorem dX6_map_87 : decode cX6_map 87 = .ok (.ireturn, 1) := by decide +kernel
theorem dX6_map_88 : decode cX6_map 88 = .ok (.aload_n 0, 1) := by decide +kernel
theorem dX6_map_89 : decode cX6_map 89 = .ok (.getfield 21, 3) := by decide +kernel
theorem dX6_map_92 : decode cX6_map 92 = .ok (.invokevirtual 217, 3) := by decide +kernel
theorem dX6_map_95 : decode cX6_map 95 = .ok (.ireturn, 1) := by decide +kernel
theorem dX6_count_0 : decode cX6_count 0 = .ok (.iload_n 1, 1) := by decide +kernel
theorem dX6_count_1 : decode cX6_count 1 = .ok (.tableswitch 76 0 4 #[35, 43, 52, 60, 68], 35) := by decide +kernel
theorem dX6_count_36 : decode cX6_count 36 = .ok (.aload_n 0, 1) := by decide +kernel
theorem dX6_count_37 : decode cX6_count 37 = .ok (.getfield 12, 3) := by decide +kernel
theorem dX6_count_40 : decode cX6_count 40 = .ok (.getfield 63, 3) := by decide +kernel
theorem dX6_count_43 : decode cX6_count 43 = .ok (.ireturn, 1) := by decide +kernel
theorem dX6_count_44 : decode cX6_count 44 = .ok (.aload_n 0, 1) := by decide +kernel
theorem dX6_count_45 : decode cX6_count 45 = .ok (.getfield 12, 3) := by decide +kernel
theorem dX6_count_48 : decode cX6_count 48 = .ok (.iconst (-1), 1) := by decide +kernel
theorem dX6_count_49 : decode cX6_count 49 = .ok (.invokevirtual 193, 3) := by decide +kernel
theorem dX6_count_52 : decode cX6_count 52 = .ok (.ireturn, 1) := by decide +kernel
theorem dX6_count_53 : decode cX6_count 53 = .ok (.aload_n 0, 1) := by decide +kernel
theorem dX6_count_54 : decode cX6_count 54 = .ok (.getfield 12, 3) := by decide +kernel
theorem dX6_count_57 : decode cX6_count 57 = .ok (.getfield 72, 3) := by decide +kernel
theorem dX6_count_60 : decode cX6_count 60 = .ok (.ireturn, 1) := by decide +kernel
theorem dX6_count_61 : decode cX6_count 61 = .ok (.aload_n 0, 1) := by decide +kernel
theorem dX6_count_62 : decode cX6_count 62 = .ok (.getfield 12, 3) := by decide +kernel
theorem dX6_count_65 : decode cX6_count 65 = .ok (.invokevirtual 220, 3) := by decide +kernel
theorem dX6_count_68 : decode cX6_count 68 = .ok (.ireturn, 1) := by decide +kernel
theorem dX6_count_69 : decode cX6_count 69 = .ok (.aload_n 0, 1) := by decide +kernel
theorem dX6_count_70 : decode cX6_count 70 = .ok (.getfield 21, 3) := by decide +kernel
theorem dX6_count_73 : decode cX6_count 73 = .ok (.invokevirtual 223, 3) := by decide +kernel
theorem dX6_count_76 : decode cX6_count 76 = .ok (.ireturn, 1) := by decide +kernel
theorem dX6_count_77 : decode cX6_count 77 = .ok (.aload_n 0, 1) := by decide +kernel
theorem dX6_count_78 : decode cX6_count 78 = .ok (.iconst (-1), 1) := by decide +kernel
theorem dX6_count_79 : decode cX6_count 79 = .ok (.invokevirtual 55, 3) := by decide +kernel
theorem dX6_count_82 : decode cX6_count 82 = .ok (.ireturn, 1) := by decide +kernel
theorem dX6_save_0 : decode cX6_save 0 = .ok (.aload_n 0, 1) := by decide +kernel
theorem dX6_save_1 : decode cX6_save 1 = .ok (.getfield 48, 3) := by decide +kernel
theorem dX6_save_4 : decode cX6_save 4 = .ok (.ifnonnull 14, 3) := by decide +kernel
theorem dX6_save_7 : decode cX6_save 7 = .ok (.aload_n 0, 1) := by decide +kernel
theorem dX6_save_8 : decode cX6_save 8 = .ok (.new 9, 3) := by decide +kernel
theorem dX6_save_11 : decode cX6_save 11 = .ok (.dup, 1) := by decide +kernel
theorem dX6_save_12 : decode cX6_save 12 = .ok (.invokespecial 11, 3) := by decide +kernel
theorem dX6_save_15 : decode cX6_save 15 = .ok (.putfield 48, 3) := by decide +kernel
theorem dX6_save_18 : decode cX6_save 18 = .ok (.aload_n 0, 1) := by decide +kernel
theorem dX6_save_19 : decode cX6_save 19 = .ok (.getfield 48, 3) := by decide +kernel
theorem dX6_save_22 : decode cX6_save 22 = .ok (.aload_n 0, 1) := by decide +kernel
theorem dX6_save_23 : decode cX6_save 23 = .ok (.getfield 12, 3) := by decide +kernel
theorem dX6_save_26 : decode cX6_save 26 = .ok (.invokevirtual 226, 3) := by decide +kernel
theorem dX6_save_29 : decode cX6_save 29 = .ok (.iconst 1, 1) := by decide +kernel
theorem dX6_save_30 : decode cX6_save 30 = .ok (.ireturn, 1) := by decide +kernel
theorem dX6_back_0 : decode cX6_back 0 = .ok (.aload_n 0, 1) := by decide +kernel
theorem dX6_back_1 : decode cX6_back 1 = .ok (.getfield 48, 3) := by decide +kernel
theorem dX6_back_4 : decode cX6_back 4 = .ok (.ifnonnull 10, 3) := by decide +kernel
theorem dX6_back_7 : decode cX6_back 7 = .ok (.aload_n 0, 1) := by decide +kernel
theorem dX6_back_8 : decode cX6_back 8 = .ok (.bipush (-4), 2) := by decide +kernel
theorem dX6_back_10 : decode cX6_back 10 = .ok (.invokevirtual 55, 3) := by decide +kernel
theorem dX6_back_13 : decode cX6_back 13 = .ok (.ireturn, 1) := by decide +kernel
theorem dX6_back_14 : decode cX6_back 14 = .ok (.aload_n 0, 1) := by decide +kernel
theorem dX6_back_15 : decode cX6_back 15 = .ok (.getfield 12, 3) := by decide +kernel
theorem dX6_back_18 : decode cX6_back 18 = .ok (.aload_n 0, 1) := by decide +kernel
theorem dX6_back_19 : decode cX6_back 19 = .ok (.getfield 48, 3) := by decide +kernel
theorem dX6_back_22 : decode cX6_back 22 = .ok (.invokevirtual 226, 3) := by decide +kernel
theorem dX6_back_25 : decode cX6_back 25 = .ok (.iconst 1, 1) := by decide +kernel
theorem dX6_back_26 : decode cX6_back 26 = .ok (.ireturn, 1) := by decide +kernel
theorem dX6_hold_0 : decode cX6_hold 0 = .ok (.iload_n 1, 1) := by decide +kernel
theorem dX6_hold_1 : decode cX6_hold 1 = .ok (.ifCond .lt 8, 3) := by decide +kernel
theorem dX6_hold_4 : decode cX6_hold 4 = .ok (.iload_n 1, 1) := by decide +kernel
theorem dX6_hold_5 : decode cX6_hold 5 = .ok (.iconst 4, 1) := by decide +kernel
theorem dX6_hold_6 : decode cX6_hold 6 = .ok (.if_icmp .lt 9, 3) := by decide +kernel
theorem dX6_hold_9 : decode cX6_hold 9 = .ok (.aload_n 0, 1) := by decide +kernel
theorem dX6_hold_10 : decode cX6_hold 10 = .ok (.iconst (-1), 1) := by decide +kernel
theorem dX6_hold_11 : decode cX6_hold 11 = .ok (.invokevirtual 55, 3) := by decide +kernel
theorem dX6_hold_14 : decode cX6_hold 14 = .ok (.ireturn, 1) := by decide +kernel
theorem dX6_hold_15 : decode cX6_hold 15 = .ok (.iload_n 2, 1) := by decide +kernel
theorem dX6_hold_16 : decode cX6_hold 16 = .ok (.ifCond .lt 9, 3) := by decide +kernel
theorem dX6_hold_19 : decode cX6_hold 19 = .ok (.iload_n 2, 1) := by decide +kernel
theorem dX6_hold_20 : decode cX6_hold 20 = .ok (.bipush 99, 2) := by decide +kernel
theorem dX6_hold_22 : decode cX6_hold 22 = .ok (.if_icmp .le 9, 3) := by decide +kernel
theorem dX6_hold_25 : decode cX6_hold 25 = .ok (.aload_n 0, 1) := by decide +kernel
theorem dX6_hold_26 : decode cX6_hold 26 = .ok (.iconst (-1), 1) := by decide +kernel
theorem dX6_hold_27 : decode cX6_hold 27 = .ok (.invokevirtual 55, 3) := by decide +kernel
theorem dX6_hold_30 : decode cX6_hold 30 = .ok (.ireturn, 1) := by decide +kernel
theorem dX6_hold_31 : decode cX6_hold 31 = .ok (.aload_n 0, 1) := by decide +kernel
theorem dX6_hold_32 : decode cX6_hold 32 = .ok (.getfield 12, 3) := by decide +kernel
theorem dX6_hold_35 : decode cX6_hold 35 = .ok (.getfield 229, 3) := by decide +kernel
theorem dX6_hold_38 : decode cX6_hold 38 = .ok (.iload_n 1, 1) := by decide +kernel
theorem dX6_hold_39 : decode cX6_hold 39 = .ok (.iaload, 1) := by decide +kernel
theorem dX6_hold_40 : decode cX6_hold 40 = .ok (.istore_n 3, 1) := by decide +kernel
theorem dX6_hold_41 : decode cX6_hold 41 = .ok (.aload_n 0, 1) := by decide +kernel
theorem dX6_hold_42 : decode cX6_hold 42 = .ok (.getfield 12, 3) := by decide +kernel
theorem dX6_hold_45 : decode cX6_hold 45 = .ok (.getfield 229, 3) := by decide +kernel
theorem dX6_hold_48 : decode cX6_hold 48 = .ok (.iload_n 1, 1) := by decide +kernel
theorem dX6_hold_49 : decode cX6_hold 49 = .ok (.iload_n 2, 1) := by decide +kernel
theorem dX6_hold_50 : decode cX6_hold 50 = .ok (.iastore, 1) := by decide +kernel
theorem dX6_hold_51 : decode cX6_hold 51 = .ok (.iload_n 3, 1) := by decide +kernel
theorem dX6_hold_52 : decode cX6_hold 52 = .ok (.ireturn, 1) := by decide +kernel
theorem dX6_throwIt_0 : decode cX6_throwIt 0 = .ok (.iload_n 1, 1) := by decide +kernel
theorem dX6_throwIt_1 : decode cX6_throwIt 1 = .ok (.ifCond .lt 8, 3) := by decide +kernel
theorem dX6_throwIt_4 : decode cX6_throwIt 4 = .ok (.iload_n 1, 1) := by decide +kernel
theorem dX6_throwIt_5 : decode cX6_throwIt 5 = .ok (.iconst 4, 1) := by decide +kernel
theorem dX6_throwIt_6 : decode cX6_throwIt 6 = .ok (.if_icmp .lt 9, 3) := by decide +kernel
theorem dX6_throwIt_9 : decode cX6_throwIt 9 = .ok (.aload_n 0, 1) := by decide +kernel
theorem dX6_throwIt_10 : decode cX6_throwIt 10 = .ok (.iconst (-1), 1) := by decide +kernel
theorem dX6_throwIt_11 : decode cX6_throwIt 11 = .ok (.invokevirtual 55, 3) := by decide +kernel
theorem dX6_throwIt_14 : decode cX6_throwIt 14 = .ok (.ireturn, 1) := by decide +kernel
theorem dX6_throwIt_15 : decode cX6_throwIt 15 = .ok (.aload_n 0, 1) := by decide +kernel
theorem dX6_throwIt_16 : decode cX6_throwIt 16 = .ok (.getfield 12, 3) := by decide +kernel
theorem dX6_throwIt_19 : decode cX6_throwIt 19 = .ok (.getfield 229, 3) := by decide +kernel
theorem dX6_throwIt_22 : decode cX6_throwIt 22 = .ok (.iload_n 1, 1) := by decide +kernel
theorem dX6_throwIt_23 : decode cX6_throwIt 23 = .ok (.iaload, 1) := by decide +kernel
theorem dX6_throwIt_24 : decode cX6_throwIt 24 = .ok (.ifCond .ne 10, 3) := by decide +kernel
theorem dX6_throwIt_27 : decode cX6_throwIt 27 = .ok (.aload_n 0, 1) := by decide +kernel
theorem dX6_throwIt_28 : decode cX6_throwIt 28 = .ok (.bipush (-4), 2) := by decide +kernel
theorem dX6_throwIt_30 : decode cX6_throwIt 30 = .ok (.invokevirtual 55, 3) := by decide +kernel
theorem dX6_throwIt_33 : decode cX6_throwIt 33 = .ok (.ireturn, 1) := by decide +kernel
theorem dX6_throwIt_34 : decode cX6_throwIt 34 = .ok (.aload_n 0, 1) := by decide +kernel
theorem dX6_throwIt_35 : decode cX6_throwIt 35 = .ok (.getfield 12, 3) := by decide +kernel
theorem dX6_throwIt_38 : decode cX6_throwIt 38 = .ok (.getfield 229, 3) := by decide +kernel
theorem dX6_throwIt_41 : decode cX6_throwIt 41 = .ok (.iload_n 1, 1) := by decide +kernel
theorem dX6_throwIt_42 : decode cX6_throwIt 42 = .ok (.iaload, 1) := by decide +kernel
theorem dX6_throwIt_43 : decode cX6_throwIt 43 = .ok (.ireturn, 1) := by decide +kernel
theorem dX6_found_0 : decode cX6_found 0 = .ok (.iload_n 1, 1) := by decide +kernel
theorem dX6_found_1 : decode cX6_found 1 = .ok (.iconst (-1), 1) := by decide +kernel
theorem dX6_found_2 : decode cX6_found 2 = .ok (.if_icmp .gt 9, 3) := by decide +kernel
theorem dX6_found_5 : decode cX6_found 5 = .ok (.iload_n 1, 1) := by decide +kernel
theorem dX6_found_6 : decode cX6_found 6 = .ok (.bipush (-9), 2) := by decide +kernel
theorem dX6_found_8 : decode cX6_found 8 = .ok (.if_icmp .ge 9, 3) := by decide +kernel
theorem dX6_found_11 : decode cX6_found 11 = .ok (.aload_n 0, 1) := by decide +kernel
theorem dX6_found_12 : decode cX6_found 12 = .ok (.iconst (-1), 1) := by decide +kernel
theorem dX6_found_13 : decode cX6_found 13 = .ok (.invokevirtual 55, 3) := by decide +kernel
theorem dX6_found_16 : decode cX6_found 16 = .ok (.ireturn, 1) := by decide +kernel
theorem dX6_found_17 : decode cX6_found 17 = .ok (.aload_n 0, 1) := by decide +kernel
theorem dX6_found_18 : decode cX6_found 18 = .ok (.getfield 44, 3) := by decide +kernel
theorem dX6_found_21 : decode cX6_found 21 = .ok (.iload_n 1, 1) := by decide +kernel
theorem dX6_found_22 : decode cX6_found 22 = .ok (.ineg, 1) := by decide +kernel
theorem dX6_found_23 : decode cX6_found 23 = .ok (.iaload, 1) := by decide +kernel
theorem dX6_found_24 : decode cX6_found 24 = .ok (.ireturn, 1) := by decide +kernel
theorem dX6_tell_0 : decode cX6_tell 0 = .ok (.iload_n 1, 1) := by decide +kernel
theorem dX6_tell_1 : decode cX6_tell 1 = .ok (.iconst (-1), 1) := by decide +kernel
theorem dX6_tell_2 : decode cX6_tell 2 = .ok (.if_icmp .gt 20, 3) := by decide +kernel
theorem dX6_tell_5 : decode cX6_tell 5 = .ok (.iload_n 1, 1) := by decide +kernel
theorem dX6_tell_6 : decode cX6_tell 6 = .ok (.bipush (-9), 2) := by decide +kernel
theorem dX6_tell_8 : decode cX6_tell 8 = .ok (.if_icmp .lt 14, 3) := by decide +kernel
theorem dX6_tell_11 : decode cX6_tell 11 = .ok (.aload_n 0, 1) := by decide +kernel
theorem dX6_tell_12 : decode cX6_tell 12 = .ok (.getfield 44, 3) := by decide +kernel
theorem dX6_tell_15 : decode cX6_tell 15 = .ok (.iload_n 1, 1) := by decide +kernel
theorem dX6_tell_16 : decode cX6_tell 16 = .ok (.ineg, 1) := by decide +kernel
theorem dX6_tell_17 : decode cX6_tell 17 = .ok (.dup2, 1) := by decide +kernel
theorem dX6_tell_18 : decode cX6_tell 18 = .ok (.iaload, 1) := by decide +kernel
theorem dX6_tell_19 : decode cX6_tell 19 = .ok (.iconst 1, 1) := by decide +kernel
theorem dX6_tell_20 : decode cX6_tell 20 = .ok (.iadd, 1) := by decide +kernel
theorem dX6_tell_21 : decode cX6_tell 21 = .ok (.iastore, 1) := by decide +kernel
theorem dX6_tell_22 : decode cX6_tell 22 = .ok (.iload_n 1, 1) := by decide +kernel
theorem dX6_tell_23 : decode cX6_tell 23 = .ok (.ireturn, 1) := by decide +kernel
theorem dX6_keeperOf_0 : decode cX6_keeperOf 0 = .ok (.aload_n 0, 1) := by decide +kernel
theorem dX6_keeperOf_1 : decode cX6_keeperOf 1 = .ok (.getfield 12, 3) := by decide +kernel
theorem dX6_keeperOf_4 : decode cX6_keeperOf 4 = .ok (.iload_n 1, 1) := by decide +kernel
theorem dX6_keeperOf_5 : decode cX6_keeperOf 5 = .ok (.invokevirtual 232, 3) := by decide +kernel
theorem dX6_keeperOf_8 : decode cX6_keeperOf 8 = .ok (.lookupswitch 38 #[(0, 28), (1, 33)], 28) := by decide +kernel
theorem dX6_keeperOf_36 : decode cX6_keeperOf 36 = .ok (.aload_n 0, 1) := by decide +kernel
theorem dX6_keeperOf_37 : decode cX6_keeperOf 37 = .ok (.getfield 28, 3) := by decide +kernel
theorem dX6_keeperOf_40 : decode cX6_keeperOf 40 = .ok (.areturn, 1) := by decide +kernel
theorem dX6_keeperOf_41 : decode cX6_keeperOf 41 = .ok (.aload_n 0, 1) := by decide +kernel
theorem dX6_keeperOf_42 : decode cX6_keeperOf 42 = .ok (.getfield 35, 3) := by decide +kernel
theorem dX6_keeperOf_45 : decode cX6_keeperOf 45 = .ok (.areturn, 1) := by decide +kernel
theorem dX6_keeperOf_46 : decode cX6_keeperOf 46 = .ok (.aload_n 0, 1) := by decide +kernel
theorem dX6_keeperOf_47 : decode cX6_keeperOf 47 = .ok (.getfield 41, 3) := by decide +kernel
theorem dX6_keeperOf_50 : decode cX6_keeperOf 50 = .ok (.areturn, 1) := by decide +kernel
theorem dX6_resize_0 : decode cX6_resize 0 = .ok (.aload_n 0, 1) := by decide +kernel
theorem dX6_resize_1 : decode cX6_resize 1 = .ok (.getfield 12, 3) := by decide +kernel
theorem dX6_resize_4 : decode cX6_resize 4 = .ok (.iload_n 2, 1) := by decide +kernel
theorem dX6_resize_5 : decode cX6_resize 5 = .ok (.lconst 0, 1) := by decide +kernel
theorem dX6_resize_6 : decode cX6_resize 6 = .ok (.invokevirtual 235, 3) := by decide +kernel
theorem dX6_resize_9 : decode cX6_resize 9 = .ok (.aload_n 0, 1) := by decide +kernel
theorem dX6_resize_10 : decode cX6_resize 10 = .ok (.getfield 12, 3) := by decide +kernel
theorem dX6_resize_13 : decode cX6_resize 13 = .ok (.aload_n 0, 1) := by decide +kernel
theorem dX6_resize_14 : decode cX6_resize 14 = .ok (.getfield 12, 3) := by decide +kernel
theorem dX6_resize_17 : decode cX6_resize 17 = .ok (.iload_n 2, 1) := by decide +kernel
theorem dX6_resize_18 : decode cX6_resize 18 = .ok (.invokevirtual 147, 3) := by decide +kernel
theorem dX6_resize_21 : decode cX6_resize 21 = .ok (.iload_n 3, 1) := by decide +kernel
theorem dX6_resize_22 : decode cX6_resize 22 = .ok (.iadd, 1) := by decide +kernel
theorem dX6_resize_23 : decode cX6_resize 23 = .ok (.aload_n 0, 1) := by decide +kernel
theorem dX6_resize_24 : decode cX6_resize 24 = .ok (.getfield 12, 3) := by decide +kernel
theorem dX6_resize_27 : decode cX6_resize 27 = .ok (.getfield 132, 3) := by decide +kernel
theorem dX6_resize_30 : decode cX6_resize 30 = .ok (.iload_n 2, 1) := by decide +kernel
theorem dX6_resize_31 : decode cX6_resize 31 = .ok (.iaload, 1) := by decide +kernel
theorem dX6_resize_32 : decode cX6_resize 32 = .ok (.iload_n 3, 1) := by decide +kernel
theorem dX6_resize_33 : decode cX6_resize 33 = .ok (.isub, 1) := by decide +kernel
theorem dX6_resize_34 : decode cX6_resize 34 = .ok (.lconst 0, 1) := by decide +kernel
theorem dX6_resize_35 : decode cX6_resize 35 = .ok (.invokevirtual 165, 3) := by decide +kernel
theorem dX6_resize_38 : decode cX6_resize 38 = .ok (.aload_n 1, 1) := by decide +kernel
theorem dX6_resize_39 : decode cX6_resize 39 = .ok (.iload_n 2, 1) := by decide +kernel
theorem dX6_resize_40 : decode cX6_resize 40 = .ok (.iload_n 3, 1) := by decide +kernel
theorem dX6_resize_41 : decode cX6_resize 41 = .ok (.invokevirtual 238, 3) := by decide +kernel
theorem dX6_resize_44 : decode cX6_resize 44 = .ok (.aload_n 0, 1) := by decide +kernel
theorem dX6_resize_45 : decode cX6_resize 45 = .ok (.getfield 12, 3) := by decide +kernel
theorem dX6_resize_48 : decode cX6_resize 48 = .ok (.getfield 132, 3) := by decide +kernel
theorem dX6_resize_51 : decode cX6_resize 51 = .ok (.iload_n 2, 1) := by decide +kernel
theorem dX6_resize_52 : decode cX6_resize 52 = .ok (.iload_n 3, 1) := by decide +kernel
theorem dX6_resize_53 : decode cX6_resize 53 = .ok (.iastore, 1) := by decide +kernel
theorem dX6_resize_54 : decode cX6_resize 54 = .ok (.aload_n 0, 1) := by decide +kernel
theorem dX6_resize_55 : decode cX6_resize 55 = .ok (.getfield 12, 3) := by decide +kernel
theorem dX6_resize_58 : decode cX6_resize 58 = .ok (.iload_n 2, 1) := by decide +kernel
theorem dX6_resize_59 : decode cX6_resize 59 = .ok (.aload_n 0, 1) := by decide +kernel
theorem dX6_resize_60 : decode cX6_resize 60 = .ok (.getfield 12, 3) := by decide +kernel
theorem dX6_resize_63 : decode cX6_resize 63 = .ok (.iload_n 2, 1) := by decide +kernel
theorem dX6_resize_64 : decode cX6_resize 64 = .ok (.invokevirtual 241, 3) := by decide +kernel
theorem dX6_resize_67 : decode cX6_resize 67 = .ok (.invokevirtual 235, 3) := by decide +kernel
theorem dX6_resize_70 : decode cX6_resize 70 = .ok (.aload_n 1, 1) := by decide +kernel
theorem dX6_resize_71 : decode cX6_resize 71 = .ok (.aload_n 0, 1) := by decide +kernel
theorem dX6_resize_72 : decode cX6_resize 72 = .ok (.getfield 12, 3) := by decide +kernel
theorem dX6_resize_75 : decode cX6_resize 75 = .ok (.getfield 119, 3) := by decide +kernel
theorem dX6_resize_78 : decode cX6_resize 78 = .ok (.iload_n 2, 1) := by decide +kernel
theorem dX6_resize_79 : decode cX6_resize 79 = .ok (.iaload, 1) := by decide +kernel
theorem dX6_resize_80 : decode cX6_resize 80 = .ok (.invokevirtual 107, 3) := by decide +kernel
theorem dX6_resize_83 : decode cX6_resize 83 = .ok (.return_, 1) := by decide +kernel
