theorem dX0_keepChosen_0 : decode cX0_keepChosen 0 = .ok (.aload_n 0, 1) := by decide +kernel
theorem dX0_keepChosen_1 : decode cX0_keepChosen 1 = .ok (.getfield 37, 3) := by decide +kernel
theorem dX0_keepChosen_4 : decode cX0_keepChosen 4 = .ok (.aload_n 0, 1) := by decide +kernel
theorem dX0_keepChosen_5 : decode cX0_keepChosen 5 = .ok (.getfield 9, 3) := by decide +kernel
theorem dX0_keepChosen_8 : decode cX0_keepChosen 8 = .ok (.arraylength, 1) := by decide +kernel
theorem dX0_keepChosen_9 : decode cX0_keepChosen 9 = .ok (.if_icmp .ne 20, 3) := by decide +kernel
theorem dX0_keepChosen_12 : decode cX0_keepChosen 12 = .ok (.aload_n 0, 1) := by decide +kernel
theorem dX0_keepChosen_13 : decode cX0_keepChosen 13 = .ok (.aload_n 0, 1) := by decide +kernel
theorem dX0_keepChosen_14 : decode cX0_keepChosen 14 = .ok (.getfield 9, 3) := by decide +kernel
theorem dX0_keepChosen_17 : decode cX0_keepChosen 17 = .ok (.aload_n 0, 1) := by decide +kernel
theorem dX0_keepChosen_18 : decode cX0_keepChosen 18 = .ok (.getfield 37, 3) := by decide +kernel
theorem dX0_keepChosen_21 : decode cX0_keepChosen 21 = .ok (.iconst 2, 1) := by decide +kernel
theorem dX0_keepChosen_22 : decode cX0_keepChosen 22 = .ok (.imul, 1) := by decide +kernel
theorem dX0_keepChosen_23 : decode cX0_keepChosen 23 = .ok (.invokestatic 96, 3) := by decide +kernel
theorem dX0_keepChosen_26 : decode cX0_keepChosen 26 = .ok (.putfield 9, 3) := by decide +kernel
theorem dX0_keepChosen_29 : decode cX0_keepChosen 29 = .ok (.iconst 0, 1) := by decide +kernel
theorem dX0_keepChosen_30 : decode cX0_keepChosen 30 = .ok (.istore_n 1, 1) := by decide +kernel
theorem dX0_keepChosen_31 : decode cX0_keepChosen 31 = .ok (.iconst 0, 1) := by decide +kernel
theorem dX0_keepChosen_32 : decode cX0_keepChosen 32 = .ok (.istore_n 2, 1) := by decide +kernel
theorem dX0_keepChosen_33 : decode cX0_keepChosen 33 = .ok (.iload_n 2, 1) := by decide +kernel
theorem dX0_keepChosen_34 : decode cX0_keepChosen 34 = .ok (.aload_n 0, 1) := by decide +kernel
theorem dX0_keepChosen_35 : decode cX0_keepChosen 35 = .ok (.getfield 25, 3) := by decide +kernel
theorem dX0_keepChosen_38 : decode cX0_keepChosen 38 = .ok (.getfield 49, 3) := by decide +kernel
theorem dX0_keepChosen_41 : decode cX0_keepChosen 41 = .ok (.if_icmp .ge 22, 3) := by decide +kernel
theorem dX0_keepChosen_44 : decode cX0_keepChosen 44 = .ok (.iload_n 1, 1) := by decide +kernel
theorem dX0_keepChosen_45 : decode cX0_keepChosen 45 = .ok (.aload_n 0, 1) := by decide +kernel
theorem dX0_keepChosen_46 : decode cX0_keepChosen 46 = .ok (.getfield 15, 3) := by decide +kernel
theorem dX0_keepChosen_49 : decode cX0_keepChosen 49 = .ok (.iload_n 2, 1) := by decide +kernel
theorem dX0_keepChosen_50 : decode cX0_keepChosen 50 = .ok (.iaload, 1) := by decide +kernel
theorem dX0_keepChosen_51 : decode cX0_keepChosen 51 = .ok (.iconst 5, 1) := by decide +kernel
theorem dX0_keepChosen_52 : decode cX0_keepChosen 52 = .ok (.iload_n 2, 1) := by decide +kernel
theorem dX0_keepChosen_53 : decode cX0_keepChosen 53 = .ok (.imul, 1) := by decide +kernel
theorem dX0_keepChosen_54 : decode cX0_keepChosen 54 = .ok (.ishl, 1) := by decide +kernel
theorem dX0_keepChosen_55 : decode cX0_keepChosen 55 = .ok (.ior, 1) := by decide +kernel
theorem dX0_keepChosen_56 : decode cX0_keepChosen 56 = .ok (.istore_n 1, 1) := by decide +kernel
theorem dX0_keepChosen_57 : decode cX0_keepChosen 57 = .ok (.iinc 2 1, 3) := by decide +kernel
theorem dX0_keepChosen_60 : decode cX0_keepChosen 60 = .ok (.goto (-27), 3) := by decide +kernel
theorem dX0_keepChosen_63 : decode cX0_keepChosen 63 = .ok (.aload_n 0, 1) := by decide +kernel
theorem dX0_keepChosen_64 : decode cX0_keepChosen 64 = .ok (.getfield 9, 3) := by decide +kernel
theorem dX0_keepChosen_67 : decode cX0_keepChosen 67 = .ok (.aload_n 0, 1) := by decide +kernel
theorem dX0_keepChosen_68 : decode cX0_keepChosen 68 = .ok (.getfield 37, 3) := by decide +kernel
theorem dX0_keepChosen_71 : decode cX0_keepChosen 71 = .ok (.iload_n 1, 1) := by decide +kernel
theorem dX0_keepChosen_72 : decode cX0_keepChosen 72 = .ok (.iastore, 1) := by decide +kernel
theorem dX0_keepChosen_73 : decode cX0_keepChosen 73 = .ok (.aload_n 0, 1) := by decide +kernel
theorem dX0_keepChosen_74 : decode cX0_keepChosen 74 = .ok (.dup, 1) := by decide +kernel
theorem dX0_keepChosen_75 : decode cX0_keepChosen 75 = .ok (.getfield 37, 3) := by decide +kernel
theorem dX0_keepChosen_78 : decode cX0_keepChosen 78 = .ok (.iconst 1, 1) := by decide +kernel
theorem dX0_keepChosen_79 : decode cX0_keepChosen 79 = .ok (.iadd, 1) := by decide +kernel
theorem dX0_keepChosen_80 : decode cX0_keepChosen 80 = .ok (.putfield 37, 3) := by decide +kernel
theorem dX0_keepChosen_83 : decode cX0_keepChosen 83 = .ok (.return_, 1) := by decide +kernel
theorem dX0_search_0 : decode cX0_search 0 = .ok (.iload_n 1, 1) := by decide +kernel
theorem dX0_search_1 : decode cX0_search 1 = .ok (.aload_n 0, 1) := by decide +kernel
theorem dX0_search_2 : decode cX0_search 2 = .ok (.getfield 25, 3) := by decide +kernel
theorem dX0_search_5 : decode cX0_search 5 = .ok (.getfield 49, 3) := by decide +kernel
theorem dX0_search_8 : decode cX0_search 8 = .ok (.if_icmp .lt 4, 3) := by decide +kernel
theorem dX0_search_11 : decode cX0_search 11 = .ok (.return_, 1) := by decide +kernel
theorem dX0_search_12 : decode cX0_search 12 = .ok (.aload_n 0, 1) := by decide +kernel
theorem dX0_search_13 : decode cX0_search 13 = .ok (.iload_n 1, 1) := by decide +kernel
theorem dX0_search_14 : decode cX0_search 14 = .ok (.invokevirtual 54, 3) := by decide +kernel
theorem dX0_search_17 : decode cX0_search 17 = .ok (.istore_n 2, 1) := by decide +kernel
theorem dX0_search_18 : decode cX0_search 18 = .ok (.iload_n 1, 1) := by decide +kernel
theorem dX0_search_19 : decode cX0_search 19 = .ok (.aload_n 0, 1) := by decide +kernel
theorem dX0_search_20 : decode cX0_search 20 = .ok (.getfield 25, 3) := by decide +kernel
theorem dX0_search_23 : decode cX0_search 23 = .ok (.getfield 49, 3) := by decide +kernel
theorem dX0_search_26 : decode cX0_search 26 = .ok (.iconst 1, 1) := by decide +kernel
theorem dX0_search_27 : decode cX0_search 27 = .ok (.isub, 1) := by decide +kernel
theorem dX0_search_28 : decode cX0_search 28 = .ok (.if_icmp .ne 26, 3) := by decide +kernel
theorem dX0_search_31 : decode cX0_search 31 = .ok (.aload_n 0, 1) := by decide +kernel
theorem dX0_search_32 : decode cX0_search 32 = .ok (.getfield 15, 3) := by decide +kernel
theorem dX0_search_35 : decode cX0_search 35 = .ok (.iload_n 1, 1) := by decide +kernel
theorem dX0_search_36 : decode cX0_search 36 = .ok (.iload_n 2, 1) := by decide +kernel
theorem dX0_search_37 : decode cX0_search 37 = .ok (.iastore, 1) := by decide +kernel
theorem dX0_search_38 : decode cX0_search 38 = .ok (.iload_n 2, 1) := by decide +kernel
theorem dX0_search_39 : decode cX0_search 39 = .ok (.ifCond .eq 14, 3) := by decide +kernel
theorem dX0_search_42 : decode cX0_search 42 = .ok (.aload_n 0, 1) := by decide +kernel
theorem dX0_search_43 : decode cX0_search 43 = .ok (.invokevirtual 58, 3) := by decide +kernel
theorem dX0_search_46 : decode cX0_search 46 = .ok (.ifCond .eq 7, 3) := by decide +kernel
theorem dX0_search_49 : decode cX0_search 49 = .ok (.aload_n 0, 1) := by decide +kernel
theorem dX0_search_50 : decode cX0_search 50 = .ok (.invokevirtual 62, 3) := by decide +kernel
theorem dX0_search_53 : decode cX0_search 53 = .ok (.return_, 1) := by decide +kernel
theorem dX0_search_54 : decode cX0_search 54 = .ok (.aload_n 0, 1) := by decide +kernel
theorem dX0_search_55 : decode cX0_search 55 = .ok (.iload_n 1, 1) := by decide +kernel
theorem dX0_search_56 : decode cX0_search 56 = .ok (.iload_n 2, 1) := by decide +kernel
theorem dX0_search_57 : decode cX0_search 57 = .ok (.invokevirtual 65, 3) := by decide +kernel
theorem dX0_search_60 : decode cX0_search 60 = .ok (.return_, 1) := by decide +kernel
theorem dX0_searchBehind_0 : decode cX0_searchBehind 0 = .ok (.iconst 1, 1) := by decide +kernel
theorem dX0_searchBehind_1 : decode cX0_searchBehind 1 = .ok (.istore_n 3, 1) := by decide +kernel
theorem dX0_searchBehind_2 : decode cX0_searchBehind 2 = .ok (.iload_n 3, 1) := by decide +kernel
theorem dX0_searchBehind_3 : decode cX0_searchBehind 3 = .ok (.iload_n 2, 1) := by decide +kernel
theorem dX0_searchBehind_4 : decode cX0_searchBehind 4 = .ok (.if_icmp .gt 54, 3) := by decide +kernel
theorem dX0_searchBehind_7 : decode cX0_searchBehind 7 = .ok (.iload_n 3, 1) := by decide +kernel
theorem dX0_searchBehind_8 : decode cX0_searchBehind 8 = .ok (.iload_n 2, 1) := by decide +kernel
theorem dX0_searchBehind_9 : decode cX0_searchBehind 9 = .ok (.iconst (-1), 1) := by decide +kernel
theorem dX0_searchBehind_10 : decode cX0_searchBehind 10 = .ok (.ixor, 1) := by decide +kernel
theorem dX0_searchBehind_11 : decode cX0_searchBehind 11 = .ok (.iand, 1) := by decide +kernel
theorem dX0_searchBehind_12 : decode cX0_searchBehind 12 = .ok (.ifCond .ne 40, 3) := by decide +kernel
theorem dX0_searchBehind_15 : decode cX0_searchBehind 15 = .ok (.aload_n 0, 1) := by decide +kernel
theorem dX0_searchBehind_16 : decode cX0_searchBehind 16 = .ok (.iload_n 1, 1) := by decide +kernel
theorem dX0_searchBehind_17 : decode cX0_searchBehind 17 = .ok (.iload_n 3, 1) := by decide +kernel
theorem dX0_searchBehind_18 : decode cX0_searchBehind 18 = .ok (.invokevirtual 69, 3) := by decide +kernel
theorem dX0_searchBehind_21 : decode cX0_searchBehind 21 = .ok (.ifCond .eq 31, 3) := by decide +kernel
theorem dX0_searchBehind_24 : decode cX0_searchBehind 24 = .ok (.aload_n 0, 1) := by decide +kernel
theorem dX0_searchBehind_25 : decode cX0_searchBehind 25 = .ok (.getfield 15, 3) := by decide +kernel
theorem dX0_searchBehind_28 : decode cX0_searchBehind 28 = .ok (.iload_n 1, 1) := by decide +kernel
theorem dX0_searchBehind_29 : decode cX0_searchBehind 29 = .ok (.iload_n 3, 1) := by decide +kernel
theorem dX0_searchBehind_30 : decode cX0_searchBehind 30 = .ok (.iastore, 1) := by decide +kernel
theorem dX0_searchBehind_31 : decode cX0_searchBehind 31 = .ok (.aload_n 0, 1) := by decide +kernel
theorem dX0_searchBehind_32 : decode cX0_searchBehind 32 = .ok (.getfield 18, 3) := by decide +kernel
theorem dX0_searchBehind_35 : decode cX0_searchBehind 35 = .ok (.iload_n 1, 1) := by decide +kernel
theorem dX0_searchBehind_36 : decode cX0_searchBehind 36 = .ok (.iconst 1, 1) := by decide +kernel
theorem dX0_searchBehind_37 : decode cX0_searchBehind 37 = .ok (.iadd, 1) := by decide +kernel
theorem dX0_searchBehind_38 : decode cX0_searchBehind 38 = .ok (.aload_n 0, 1) := by decide +kernel
theorem dX0_searchBehind_39 : decode cX0_searchBehind 39 = .ok (.iload_n 1, 1) := by decide +kernel
theorem dX0_searchBehind_40 : decode cX0_searchBehind 40 = .ok (.iload_n 3, 1) := by decide +kernel
theorem dX0_searchBehind_41 : decode cX0_searchBehind 41 = .ok (.invokevirtual 73, 3) := by decide +kernel
theorem dX0_searchBehind_44 : decode cX0_searchBehind 44 = .ok (.lastore, 1) := by decide +kernel
theorem dX0_searchBehind_45 : decode cX0_searchBehind 45 = .ok (.aload_n 0, 1) := by decide +kernel
theorem dX0_searchBehind_46 : decode cX0_searchBehind 46 = .ok (.iload_n 1, 1) := by decide +kernel
theorem dX0_searchBehind_47 : decode cX0_searchBehind 47 = .ok (.iconst 1, 1) := by decide +kernel
theorem dX0_searchBehind_48 : decode cX0_searchBehind 48 = .ok (.iadd, 1) := by decide +kernel
theorem dX0_searchBehind_49 : decode cX0_searchBehind 49 = .ok (.invokevirtual 45, 3) := by decide +kernel
theorem dX0_searchBehind_52 : decode cX0_searchBehind 52 = .ok (.iinc 3 1, 3) := by decide +kernel
theorem dX0_searchBehind_55 : decode cX0_searchBehind 55 = .ok (.goto (-53), 3) := by decide +kernel
theorem dX0_searchBehind_58 : decode cX0_searchBehind 58 = .ok (.return_, 1) := by decide +kernel
theorem dX0_size_0 : decode cX0_size 0 = .ok (.aload_n 0, 1) := by decide +kernel
theorem dX0_size_1 : decode cX0_size 1 = .ok (.getfield 33, 3) := by decide +kernel
theorem dX0_size_4 : decode cX0_size 4 = .ok (.ifCond .ne 27, 3) := by decide +kernel
theorem dX0_size_7 : decode cX0_size 7 = .ok (.aload_n 0, 1) := by decide +kernel
theorem dX0_size_8 : decode cX0_size 8 = .ok (.iconst 0, 1) := by decide +kernel
theorem dX0_size_9 : decode cX0_size 9 = .ok (.putfield 37, 3) := by decide +kernel
theorem dX0_size_12 : decode cX0_size 12 = .ok (.aload_n 0, 1) := by decide +kernel
theorem dX0_size_13 : decode cX0_size 13 = .ok (.getfield 18, 3) := by decide +kernel
theorem dX0_size_16 : decode cX0_size 16 = .ok (.iconst 0, 1) := by decide +kernel
theorem dX0_size_17 : decode cX0_size 17 = .ok (.ldc2_w 43, 3) := by decide +kernel
theorem dX0_size_20 : decode cX0_size 20 = .ok (.lastore, 1) := by decide +kernel
theorem dX0_size_21 : decode cX0_size 21 = .ok (.aload_n 0, 1) := by decide +kernel
theorem dX0_size_22 : decode cX0_size 22 = .ok (.iconst 0, 1) := by decide +kernel
theorem dX0_size_23 : decode cX0_size 23 = .ok (.invokevirtual 45, 3) := by decide +kernel
theorem dX0_size_26 : decode cX0_size 26 = .ok (.aload_n 0, 1) := by decide +kernel
theorem dX0_size_27 : decode cX0_size 27 = .ok (.iconst 1, 1) := by decide +kernel
theorem dX0_size_28 : decode cX0_size 28 = .ok (.putfield 33, 3) := by decide +kernel
theorem dX0_size_31 : decode cX0_size 31 = .ok (.aload_n 0, 1) := by decide +kernel
theorem dX0_size_32 : decode cX0_size 32 = .ok (.getfield 37, 3) := by decide +kernel
theorem dX0_size_35 : decode cX0_size 35 = .ok (.ireturn, 1) := by decide +kernel
theorem dX10_needBox_0 : decode cX10_needBox 0 = .ok (.iload_n 1, 1) := by decide +kernel
theorem dX10_needBox_1 : decode cX10_needBox 1 = .ok (.ifCond .lt 14, 3) := by decide +kernel
theorem dX10_needBox_4 : decode cX10_needBox 4 = .ok (.iload_n 1, 1) := by decide +kernel
theorem dX10_needBox_5 : decode cX10_needBox 5 = .ok (.aload_n 0, 1) := by decide +kernel
theorem dX10_needBox_6 : decode cX10_needBox 6 = .ok (.getfield 49, 3) := by decide +kernel
theorem dX10_needBox_9 : decode cX10_needBox 9 = .ok (.invokevirtual 172, 3) := by decide +kernel
theorem dX10_needBox_12 : decode cX10_needBox 12 = .ok (.if_icmp .lt 11, 3) := by decide +kernel
theorem dX10_needBox_15 : decode cX10_needBox 15 = .ok (.new 143, 3) := by decide +kernel
theorem dX10_needBox_18 : decode cX10_needBox 18 = .ok (.dup, 1) := by decide +kernel
theorem dX10_needBox_19 : decode cX10_needBox 19 = .ok (.invokespecial 145, 3) := by decide +kernel
theorem dX10_needBox_22 : decode cX10_needBox 22 = .ok (.athrow, 1) := by decide +kernel
theorem dX10_needBox_23 : decode cX10_needBox 23 = .ok (.return_, 1) := by decide +kernel
theorem dX10_from_0 : decode cX10_from 0 = .ok (.aload_n 0, 1) := by decide +kernel
theorem dX10_from_1 : decode cX10_from 1 = .ok (.iload_n 1, 1) := by decide +kernel
theorem dX10_from_2 : decode cX10_from 2 = .ok (.invokevirtual 156, 3) := by decide +kernel
theorem dX10_from_5 : decode cX10_from 5 = .ok (.aload_n 0, 1) := by decide +kernel
theorem dX10_from_6 : decode cX10_from 6 = .ok (.getfield 49, 3) := by decide +kernel
theorem dX10_from_9 : decode cX10_from 9 = .ok (.iload_n 1, 1) := by decide +kernel
theorem dX10_from_10 : decode cX10_from 10 = .ok (.invokevirtual 159, 3) := by decide +kernel
theorem dX10_from_13 : decode cX10_from 13 = .ok (.ireturn, 1) := by decide +kernel
theorem dX0_ownFrom_0 : decode cX0_ownFrom 0 = .ok (.iload_n 2, 1) := by decide +kernel
theorem dX0_ownFrom_1 : decode cX0_ownFrom 1 = .ok (.aload_n 0, 1) := by decide +kernel
theorem dX0_ownFrom_2 : decode cX0_ownFrom 2 = .ok (.getfield 25, 3) := by decide +kernel
theorem dX0_ownFrom_5 : decode cX0_ownFrom 5 = .ok (.getfield 49, 3) := by decide +kernel
theorem dX0_ownFrom_8 : decode cX0_ownFrom 8 = .ok (.if_icmp .ge 11, 3) := by decide +kernel
theorem dX0_ownFrom_11 : decode cX0_ownFrom 11 = .ok (.aload_n 0, 1) := by decide +kernel
theorem dX0_ownFrom_12 : decode cX0_ownFrom 12 = .ok (.iload_n 1, 1) := by decide +kernel
theorem dX0_ownFrom_13 : decode cX0_ownFrom 13 = .ok (.iload_n 2, 1) := by decide +kernel
theorem dX0_ownFrom_14 : decode cX0_ownFrom 14 = .ok (.iload_n 3, 1) := by decide +kernel
theorem dX0_ownFrom_15 : decode cX0_ownFrom 15 = .ok (.invokevirtual 125, 3) := by decide +kernel
theorem dX0_ownFrom_18 : decode cX0_ownFrom 18 = .ok (.ireturn, 1) := by decide +kernel
theorem dX0_ownFrom_19 : decode cX0_ownFrom 19 = .ok (.aload_n 0, 1) := by decide +kernel
theorem dX0_ownFrom_20 : decode cX0_ownFrom 20 = .ok (.iload_n 1, 1) := by decide +kernel
theorem dX0_ownFrom_21 : decode cX0_ownFrom 21 = .ok (.iload_n 3, 1) := by decide +kernel
theorem dX0_ownFrom_22 : decode cX0_ownFrom 22 = .ok (.invokevirtual 128, 3) := by decide +kernel
theorem dX0_ownFrom_25 : decode cX0_ownFrom 25 = .ok (.ifCond .eq 7, 3) := by decide +kernel
theorem dX0_ownFrom_28 : decode cX0_ownFrom 28 = .ok (.iconst 0, 1) := by decide +kernel
theorem dX0_ownFrom_29 : decode cX0_ownFrom 29 = .ok (.goto 4, 3) := by decide +kernel
theorem dX0_ownFrom_32 : decode cX0_ownFrom 32 = .ok (.iconst 1, 1) := by decide +kernel
theorem dX0_ownFrom_33 : decode cX0_ownFrom 33 = .ok (.ireturn, 1) := by decide +kernel
theorem dX0_ownBehind_0 : decode cX0_ownBehind 0 = .ok (.iconst 0, 1) := by decide +kernel
theorem dX0_ownBehind_1 : decode cX0_ownBehind 1 = .ok (.istore 4, 2) := by decide +kernel
theorem dX0_ownBehind_3 : decode cX0_ownBehind 3 = .ok (.iconst 0, 1) := by decide +kernel
theorem dX0_ownBehind_4 : decode cX0_ownBehind 4 = .ok (.istore 5, 2) := by decide +kernel
theorem dX0_ownBehind_6 : decode cX0_ownBehind 6 = .ok (.iload 5, 2) := by decide +kernel
theorem dX0_ownBehind_8 : decode cX0_ownBehind 8 = .ok (.aload_n 0, 1) := by decide +kernel
theorem dX0_ownBehind_9 : decode cX0_ownBehind 9 = .ok (.getfield 25, 3) := by decide +kernel
theorem dX0_ownBehind_12 : decode cX0_ownBehind 12 = .ok (.getfield 77, 3) := by decide +kernel
theorem dX0_ownBehind_15 : decode cX0_ownBehind 15 = .ok (.iload_n 2, 1) := by decide +kernel
theorem dX0_ownBehind_16 : decode cX0_ownBehind 16 = .ok (.iaload, 1) := by decide +kernel
theorem dX0_ownBehind_17 : decode cX0_ownBehind 17 = .ok (.if_icmp .ge 44, 3) := by decide +kernel
theorem dX0_ownBehind_20 : decode cX0_ownBehind 20 = .ok (.aload_n 0, 1) := by decide +kernel
theorem dX0_ownBehind_21 : decode cX0_ownBehind 21 = .ok (.iload_n 1, 1) := by decide +kernel
theorem dX0_ownBehind_22 : decode cX0_ownBehind 22 = .ok (.iload_n 2, 1) := by decide +kernel
theorem dX0_ownBehind_23 : decode cX0_ownBehind 23 = .ok (.invokevirtual 102, 3) := by decide +kernel
theorem dX0_ownBehind_26 : decode cX0_ownBehind 26 = .ok (.iload 5, 2) := by decide +kernel
theorem dX0_ownBehind_28 : decode cX0_ownBehind 28 = .ok (.ishr, 1) := by decide +kernel
theorem dX0_ownBehind_29 : decode cX0_ownBehind 29 = .ok (.iconst 1, 1) := by decide +kernel
theorem dX0_ownBehind_30 : decode cX0_ownBehind 30 = .ok (.iand, 1) := by decide +kernel
theorem dX0_ownBehind_31 : decode cX0_ownBehind 31 = .ok (.ifCond .eq 24, 3) := by decide +kernel
theorem dX0_ownBehind_34 : decode cX0_ownBehind 34 = .ok (.iload 4, 2) := by decide +kernel
theorem dX0_ownBehind_36 : decode cX0_ownBehind 36 = .ok (.aload_n 0, 1) := by decide +kernel
theorem dX0_ownBehind_37 : decode cX0_ownBehind 37 = .ok (.iload_n 1, 1) := by decide +kernel
theorem dX0_ownBehind_38 : decode cX0_ownBehind 38 = .ok (.iload_n 2, 1) := by decide +kernel
theorem dX0_ownBehind_39 : decode cX0_ownBehind 39 = .ok (.iconst 1, 1) := by decide +kernel
theorem dX0_ownBehind_40 : decode cX0_ownBehind 40 = .ok (.iadd, 1) := by decide +kernel
theorem dX0_ownBehind_41 : decode cX0_ownBehind 41 = .ok (.iload_n 3, 1) := by decide +kernel
theorem dX0_ownBehind_42 : decode cX0_ownBehind 42 = .ok (.iload_n 2, 1) := by decide +kernel
theorem dX0_ownBehind_43 : decode cX0_ownBehind 43 = .ok (.iload 5, 2) := by decide +kernel
theorem dX0_ownBehind_45 : decode cX0_ownBehind 45 = .ok (.invokestatic 131, 3) := by decide +kernel
theorem dX0_ownBehind_48 : decode cX0_ownBehind 48 = .ok (.ior, 1) := by decide +kernel
theorem dX0_ownBehind_49 : decode cX0_ownBehind 49 = .ok (.invokevirtual 121, 3) := by decide +kernel
theorem dX0_ownBehind_52 : decode cX0_ownBehind 52 = .ok (.iadd, 1) := by decide +kernel
theorem dX0_ownBehind_53 : decode cX0_ownBehind 53 = .ok (.istore 4, 2) := by decide +kernel
theorem dX0_ownBehind_55 : decode cX0_ownBehind 55 = .ok (.iinc 5 1, 3) := by decide +kernel
theorem dX0_ownBehind_58 : decode cX0_ownBehind 58 = .ok (.goto (-52), 3) := by decide +kernel
theorem dX0_ownBehind_61 : decode cX0_ownBehind 61 = .ok (.iload 4, 2) := by decide +kernel
theorem dX0_ownBehind_63 : decode cX0_ownBehind 63 = .ok (.ireturn, 1) := by decide +kernel
theorem dX0_ownForms_0 : decode cX0_ownForms 0 = .ok (.aload_n 0, 1) := by decide +kernel
theorem dX0_ownForms_1 : decode cX0_ownForms 1 = .ok (.iload_n 1, 1) := by decide +kernel
theorem dX0_ownForms_2 : decode cX0_ownForms 2 = .ok (.iconst 0, 1) := by decide +kernel
theorem dX0_ownForms_3 : decode cX0_ownForms 3 = .ok (.iconst 0, 1) := by decide +kernel
theorem dX0_ownForms_4 : decode cX0_ownForms 4 = .ok (.invokevirtual 121, 3) := by decide +kernel
theorem dX0_ownForms_7 : decode cX0_ownForms 7 = .ok (.ireturn, 1) := by decide +kernel
theorem dX10_cover_0 : decode cX10_cover 0 = .ok (.aload_n 0, 1) := by decide +kernel
theorem dX10_cover_1 : decode cX10_cover 1 = .ok (.iload_n 1, 1) := by decide +kernel
theorem dX10_cover_2 : decode cX10_cover 2 = .ok (.invokevirtual 156, 3) := by decide +kernel
theorem dX10_cover_5 : decode cX10_cover 5 = .ok (.iload_n 2, 1) := by decide +kernel
theorem dX10_cover_6 : decode cX10_cover 6 = .ok (.ifCond .eq 14, 3) := by decide +kernel
theorem dX10_cover_9 : decode cX10_cover 9 = .ok (.aload_n 0, 1) := by decide +kernel
theorem dX10_cover_10 : decode cX10_cover 10 = .ok (.getfield 49, 3) := by decide +kernel
theorem dX10_cover_13 : decode cX10_cover 13 = .ok (.iload_n 1, 1) := by decide +kernel
theorem dX10_cover_14 : decode cX10_cover 14 = .ok (.invokevirtual 163, 3) := by decide +kernel
theorem dX10_cover_17 : decode cX10_cover 17 = .ok (.goto 11, 3) := by decide +kernel
theorem dX10_cover_20 : decode cX10_cover 20 = .ok (.aload_n 0, 1) := by decide +kernel
theorem dX10_cover_21 : decode cX10_cover 21 = .ok (.getfield 49, 3) := by decide +kernel
theorem dX10_cover_24 : decode cX10_cover 24 = .ok (.iload_n 1, 1) := by decide +kernel
theorem dX10_cover_25 : decode cX10_cover 25 = .ok (.invokevirtual 166, 3) := by decide +kernel
theorem dX10_cover_28 : decode cX10_cover 28 = .ok (.ireturn, 1) := by decide +kernel
theorem dX10_boxes_0 : decode cX10_boxes 0 = .ok (.aload_n 0, 1) := by decide +kernel
theorem dX10_boxes_1 : decode cX10_boxes 1 = .ok (.getfield 49, 3) := by decide +kernel
theorem dX10_boxes_4 : decode cX10_boxes 4 = .ok (.invokevirtual 172, 3) := by decide +kernel
theorem dX10_boxes_7 : decode cX10_boxes 7 = .ok (.ireturn, 1) := by decide +kernel
theorem dX10_box_0 : decode cX10_box 0 = .ok (.aload_n 0, 1) := by decide +kernel
theorem dX10_box_1 : decode cX10_box 1 = .ok (.iload_n 1, 1) := by decide +kernel
theorem dX10_box_2 : decode cX10_box 2 = .ok (.invokevirtual 156, 3) := by decide +kernel
theorem dX10_box_5 : decode cX10_box 5 = .ok (.iload_n 2, 1) := by decide +kernel
theorem dX10_box_6 : decode cX10_box 6 = .ok (.iconst (-1), 1) := by decide +kernel
theorem dX10_box_7 : decode cX10_box 7 = .ok (.if_icmp .ne 12, 3) := by decide +kernel
theorem dX10_box_10 : decode cX10_box 10 = .ok (.aload_n 0, 1) := by decide +kernel
theorem dX10_box_11 : decode cX10_box 11 = .ok (.getfield 49, 3) := by decide +kernel
theorem dX10_box_14 : decode cX10_box 14 = .ok (.iload_n 1, 1) := by decide +kernel
theorem dX10_box_15 : decode cX10_box 15 = .ok (.invokevirtual 174, 3) := by decide +kernel
theorem dX10_box_18 : decode cX10_box 18 = .ok (.ireturn, 1) := by decide +kernel
theorem dX10_box_19 : decode cX10_box 19 = .ok (.aload_n 0, 1) := by decide +kernel
theorem dX10_box_20 : decode cX10_box 20 = .ok (.iload_n 2, 1) := by decide +kernel
theorem dX10_box_21 : decode cX10_box 21 = .ok (.invokevirtual 128, 3) := by decide +kernel
theorem dX10_box_24 : decode cX10_box 24 = .ok (.aload_n 0, 1) := by decide +kernel
theorem dX10_box_25 : decode cX10_box 25 = .ok (.getfield 49, 3) := by decide +kernel
theorem dX10_box_28 : decode cX10_box 28 = .ok (.iload_n 1, 1) := by decide +kernel
theorem dX10_box_29 : decode cX10_box 29 = .ok (.iload_n 2, 1) := by decide +kernel
theorem dX10_box_30 : decode cX10_box 30 = .ok (.invokevirtual 177, 3) := by decide +kernel
theorem dX10_box_33 : decode cX10_box 33 = .ok (.ireturn, 1) := by decide +kernel
theorem dX0_holding_0 : decode cX0_holding 0 = .ok (.aload_n 0, 1) := by decide +kernel
theorem dX0_holding_1 : decode cX0_holding 1 = .ok (.iload_n 1, 1) := by decide +kernel
theorem dX0_holding_2 : decode cX0_holding 2 = .ok (.invokevirtual 139, 3) := by decide +kernel
theorem dX0_holding_5 : decode cX0_holding 5 = .ok (.istore_n 3, 1) := by decide +kernel
theorem dX0_holding_6 : decode cX0_holding 6 = .ok (.iconst 0, 1) := by decide +kernel
theorem dX0_holding_7 : decode cX0_holding 7 = .ok (.istore 4, 2) := by decide +kernel
theorem dX0_holding_9 : decode cX0_holding 9 = .ok (.iconst 0, 1) := by decide +kernel
theorem dX0_holding_10 : decode cX0_holding 10 = .ok (.istore 5, 2) := by decide +kernel
theorem dX0_holding_12 : decode cX0_holding 12 = .ok (.iload 5, 2) := by decide +kernel
theorem dX0_holding_14 : decode cX0_holding 14 = .ok (.aload_n 0, 1) := by decide +kernel
theorem dX0_holding_15 : decode cX0_holding 15 = .ok (.invokevirtual 142, 3) := by decide +kernel
theorem dX0_holding_18 : decode cX0_holding 18 = .ok (.if_icmp .ge 35, 3) := by decide +kernel
theorem dX0_holding_21 : decode cX0_holding 21 = .ok (.iload_n 3, 1) := by decide +kernel
theorem dX0_holding_22 : decode cX0_holding 22 = .ok (.aload_n 0, 1) := by decide +kernel
theorem dX0_holding_23 : decode cX0_holding 23 = .ok (.getfield 9, 3) := by decide +kernel
theorem dX0_holding_26 : decode cX0_holding 26 = .ok (.iload 5, 2) := by decide +kernel
theorem dX0_holding_28 : decode cX0_holding 28 = .ok (.iaload, 1) := by decide +kernel
theorem dX0_holding_29 : decode cX0_holding 29 = .ok (.iconst (-1), 1) := by decide +kernel
theorem dX0_holding_30 : decode cX0_holding 30 = .ok (.ixor, 1) := by decide +kernel
theorem dX0_holding_31 : decode cX0_holding 31 = .ok (.iand, 1) := by decide +kernel
theorem dX0_holding_32 : decode cX0_holding 32 = .ok (.ifCond .ne 15, 3) := by decide +kernel
theorem dX0_holding_35 : decode cX0_holding 35 = .ok (.iload 4, 2) := by decide +kernel
theorem dX0_holding_37 : decode cX0_holding 37 = .ok (.iload_n 2, 1) := by decide +kernel
theorem dX0_holding_38 : decode cX0_holding 38 = .ok (.if_icmp .ne 6, 3) := by decide +kernel
theorem dX0_holding_41 : decode cX0_holding 41 = .ok (.iload 5, 2) := by decide +kernel
theorem dX0_holding_43 : decode cX0_holding 43 = .ok (.ireturn, 1) := by decide +kernel
theorem dX0_holding_44 : decode cX0_holding 44 = .ok (.iinc 4 1, 3) := by decide +kernel
theorem dX0_holding_47 : decode cX0_holding 47 = .ok (.iinc 5 1, 3) := by decide +kernel
theorem dX0_holding_50 : decode cX0_holding 50 = .ok (.goto (-38), 3) := by decide +kernel
theorem dX0_holding_53 : decode cX0_holding 53 = .ok (.iconst (-1), 1) := by decide +kernel
theorem dX0_holding_54 : decode cX0_holding 54 = .ok (.ireturn, 1) := by decide +kernel
theorem dX10_within_0 : decode cX10_within 0 = .ok (.aload_n 0, 1) := by decide +kernel
theorem dX10_within_1 : decode cX10_within 1 = .ok (.iload_n 1, 1) := by decide +kernel
theorem dX10_within_2 : decode cX10_within 2 = .ok (.invokevirtual 197, 3) := by decide +kernel
theorem dX10_within_5 : decode cX10_within 5 = .ok (.aload_n 0, 1) := by decide +kernel
theorem dX10_within_6 : decode cX10_within 6 = .ok (.iload_n 1, 1) := by decide +kernel
theorem dX10_within_7 : decode cX10_within 7 = .ok (.iconst 0, 1) := by decide +kernel
theorem dX10_within_8 : decode cX10_within 8 = .ok (.invokevirtual 223, 3) := by decide +kernel
theorem dX10_within_11 : decode cX10_within 11 = .ok (.aload_n 0, 1) := by decide +kernel
theorem dX10_within_12 : decode cX10_within 12 = .ok (.getfield 49, 3) := by decide +kernel
theorem dX10_within_15 : decode cX10_within 15 = .ok (.aload_n 0, 1) := by decide +kernel
theorem dX10_within_16 : decode cX10_within 16 = .ok (.getfield 56, 3) := by decide +kernel
theorem dX10_within_19 : decode cX10_within 19 = .ok (.iload_n 1, 1) := by decide +kernel
theorem dX10_within_20 : decode cX10_within 20 = .ok (.invokevirtual 200, 3) := by decide +kernel
theorem dX10_within_23 : decode cX10_within 23 = .ok (.iload_n 2, 1) := by decide +kernel
theorem dX10_within_24 : decode cX10_within 24 = .ok (.invokevirtual 226, 3) := by decide +kernel
theorem dX10_within_27 : decode cX10_within 27 = .ok (.ireturn, 1) := by decide +kernel
theorem dX0_countEntered_0 : decode cX0_countEntered 0 = .ok (.iconst 0, 1) := by decide +kernel
theorem dX0_countEntered_1 : decode cX0_countEntered 1 = .ok (.istore_n 3, 1) := by decide +kernel
theorem dX0_countEntered_2 : decode cX0_countEntered 2 = .ok (.iconst 0, 1) := by decide +kernel
theorem dX0_countEntered_3 : decode cX0_countEntered 3 = .ok (.istore 4, 2) := by decide +kernel
theorem dX0_countEntered_5 : decode cX0_countEntered 5 = .ok (.iload 4, 2) := by decide +kernel
theorem dX0_countEntered_7 : decode cX0_countEntered 7 = .ok (.aload_n 0, 1) := by decide +kernel
theorem dX0_countEntered_8 : decode cX0_countEntered 8 = .ok (.invokevirtual 142, 3) := by decide +kernel
theorem dX0_countEntered_11 : decode cX0_countEntered 11 = .ok (.if_icmp .ge 44, 3) := by decide +kernel
theorem dX0_countEntered_14 : decode cX0_countEntered 14 = .ok (.iload_n 1, 1) := by decide +kernel
theorem dX0_countEntered_15 : decode cX0_countEntered 15 = .ok (.aload_n 0, 1) := by decide +kernel
theorem dX0_countEntered_16 : decode cX0_countEntered 16 = .ok (.getfield 9, 3) := by decide +kernel
theorem dX0_countEntered_19 : decode cX0_countEntered 19 = .ok (.iload 4, 2) := by decide +kernel
theorem dX0_countEntered_21 : decode cX0_countEntered 21 = .ok (.iaload, 1) := by decide +kernel
theorem dX0_countEntered_22 : decode cX0_countEntered 22 = .ok (.iconst (-1), 1) := by decide +kernel
theorem dX0_countEntered_23 : decode cX0_countEntered 23 = .ok (.ixor, 1) := by decide +kernel
theorem dX0_countEntered_24 : decode cX0_countEntered 24 = .ok (.iand, 1) := by decide +kernel
theorem dX0_countEntered_25 : decode cX0_countEntered 25 = .ok (.ifCond .ne 24, 3) := by decide +kernel
theorem dX0_countEntered_28 : decode cX0_countEntered 28 = .ok (.aload_n 0, 1) := by decide +kernel
theorem dX0_countEntered_29 : decode cX0_countEntered 29 = .ok (.iload 4, 2) := by decide +kernel
theorem dX0_countEntered_31 : decode cX0_countEntered 31 = .ok (.iload_n 2, 1) := by decide +kernel
theorem dX0_countEntered_32 : decode cX0_countEntered 32 = .ok (.invokevirtual 102, 3) := by decide +kernel
theorem dX0_countEntered_35 : decode cX0_countEntered 35 = .ok (.aload_n 0, 1) := by decide +kernel
theorem dX0_countEntered_36 : decode cX0_countEntered 36 = .ok (.getfield 25, 3) := by decide +kernel
theorem dX0_countEntered_39 : decode cX0_countEntered 39 = .ok (.iload_n 2, 1) := by decide +kernel
theorem dX0_countEntered_40 : decode cX0_countEntered 40 = .ok (.invokevirtual 105, 3) := by decide +kernel
theorem dX0_countEntered_43 : decode cX0_countEntered 43 = .ok (.if_icmp .eq 6, 3) := by decide +kernel
theorem dX0_countEntered_46 : decode cX0_countEntered 46 = .ok (.iinc 3 1, 3) := by decide +kernel
theorem dX0_countEntered_49 : decode cX0_countEntered 49 = .ok (.iinc 4 1, 3) := by decide +kernel
theorem dX0_countEntered_52 : decode cX0_countEntered 52 = .ok (.goto (-47), 3) := by decide +kernel
theorem dX0_countEntered_55 : decode cX0_countEntered 55 = .ok (.iload_n 3, 1) := by decide +kernel
theorem dX0_countEntered_56 : decode cX0_countEntered 56 = .ok (.ireturn, 1) := by decide +kernel
theorem dX0_blamed_0 : decode cX0_blamed 0 = .ok (.iconst (-1), 1) := by decide +kernel
theorem dX0_blamed_1 : decode cX0_blamed 1 = .ok (.istore_n 2, 1) := by decide +kernel
theorem dX0_blamed_2 : decode cX0_blamed 2 = .ok (.iconst 0, 1) := by decide +kernel
theorem dX0_blamed_3 : decode cX0_blamed 3 = .ok (.istore_n 3, 1) := by decide +kernel
theorem dX0_blamed_4 : decode cX0_blamed 4 = .ok (.iconst 0, 1) := by decide +kernel
theorem dX0_blamed_5 : decode cX0_blamed 5 = .ok (.istore 4, 2) := by decide +kernel
theorem dX0_blamed_7 : decode cX0_blamed 7 = .ok (.iload 4, 2) := by decide +kernel
theorem dX0_blamed_9 : decode cX0_blamed 9 = .ok (.aload_n 0, 1) := by decide +kernel
theorem dX0_blamed_10 : decode cX0_blamed 10 = .ok (.getfield 25, 3) := by decide +kernel
theorem dX0_blamed_13 : decode cX0_blamed 13 = .ok (.getfield 49, 3) := by decide +kernel
theorem dX0_blamed_16 : decode cX0_blamed 16 = .ok (.if_icmp .ge 79, 3) := by decide +kernel
theorem dX0_blamed_19 : decode cX0_blamed 19 = .ok (.aload_n 0, 1) := by decide +kernel
theorem dX0_blamed_20 : decode cX0_blamed 20 = .ok (.aload_n 0, 1) := by decide +kernel
theorem dX0_blamed_21 : decode cX0_blamed 21 = .ok (.iload_n 1, 1) := by decide +kernel
theorem dX0_blamed_22 : decode cX0_blamed 22 = .ok (.invokevirtual 139, 3) := by decide +kernel
theorem dX0_blamed_25 : decode cX0_blamed 25 = .ok (.iload 4, 2) := by decide +kernel
theorem dX0_blamed_27 : decode cX0_blamed 27 = .ok (.invokevirtual 145, 3) := by decide +kernel
theorem dX0_blamed_30 : decode cX0_blamed 30 = .ok (.istore 5, 2) := by decide +kernel
theorem dX0_blamed_32 : decode cX0_blamed 32 = .ok (.iload_n 2, 1) := by decide +kernel
theorem dX0_blamed_33 : decode cX0_blamed 33 = .ok (.iconst (-1), 1) := by decide +kernel
theorem dX0_blamed_34 : decode cX0_blamed 34 = .ok (.if_icmp .eq 29, 3) := by decide +kernel
theorem dX0_blamed_37 : decode cX0_blamed 37 = .ok (.aload_n 0, 1) := by decide +kernel
theorem dX0_blamed_38 : decode cX0_blamed 38 = .ok (.getfield 25, 3) := by decide +kernel
theorem dX0_blamed_41 : decode cX0_blamed 41 = .ok (.getfield 148, 3) := by decide +kernel
theorem dX0_blamed_44 : decode cX0_blamed 44 = .ok (.iload 4, 2) := by decide +kernel
theorem dX0_blamed_46 : decode cX0_blamed 46 = .ok (.iaload, 1) := by decide +kernel
theorem dX0_blamed_47 : decode cX0_blamed 47 = .ok (.aload_n 0, 1) := by decide +kernel
theorem dX0_blamed_48 : decode cX0_blamed 48 = .ok (.getfield 25, 3) := by decide +kernel
theorem dX0_blamed_51 : decode cX0_blamed 51 = .ok (.getfield 148, 3) := by decide +kernel
theorem dX0_blamed_54 : decode cX0_blamed 54 = .ok (.iload_n 2, 1) := by decide +kernel
theorem dX0_blamed_55 : decode cX0_blamed 55 = .ok (.iaload, 1) := by decide +kernel
theorem dX0_blamed_56 : decode cX0_blamed 56 = .ok (.if_icmp .ge 7, 3) := by decide +kernel
theorem dX0_blamed_59 : decode cX0_blamed 59 = .ok (.iconst 1, 1) := by decide +kernel
theorem dX0_blamed_60 : decode cX0_blamed 60 = .ok (.goto 4, 3) := by decide +kernel
theorem dX0_blamed_63 : decode cX0_blamed 63 = .ok (.iconst 0, 1) := by decide +kernel
theorem dX0_blamed_64 : decode cX0_blamed 64 = .ok (.istore 6, 2) := by decide +kernel
theorem dX0_blamed_66 : decode cX0_blamed 66 = .ok (.iload 5, 2) := by decide +kernel
theorem dX0_blamed_68 : decode cX0_blamed 68 = .ok (.iload_n 3, 1) := by decide +kernel
theorem dX0_blamed_69 : decode cX0_blamed 69 = .ok (.if_icmp .gt 14, 3) := by decide +kernel
theorem dX0_blamed_72 : decode cX0_blamed 72 = .ok (.iload 5, 2) := by decide +kernel
theorem dX0_blamed_74 : decode cX0_blamed 74 = .ok (.iload_n 3, 1) := by decide +kernel
theorem dX0_blamed_75 : decode cX0_blamed 75 = .ok (.if_icmp .ne 14, 3) := by decide +kernel
theorem dX0_blamed_78 : decode cX0_blamed 78 = .ok (.iload 6, 2) := by decide +kernel
theorem dX0_blamed_80 : decode cX0_blamed 80 = .ok (.ifCond .eq 9, 3) := by decide +kernel
theorem dX0_blamed_83 : decode cX0_blamed 83 = .ok (.iload 5, 2) := by decide +kernel
theorem dX0_blamed_85 : decode cX0_blamed 85 = .ok (.istore_n 3, 1) := by decide +kernel
theorem dX0_blamed_86 : decode cX0_blamed 86 = .ok (.iload 4, 2) := by decide +kernel
theorem dX0_blamed_88 : decode cX0_blamed 88 = .ok (.istore_n 2, 1) := by decide +kernel
theorem dX0_blamed_89 : decode cX0_blamed 89 = .ok (.iinc 4 1, 3) := by decide +kernel
theorem dX0_blamed_92 : decode cX0_blamed 92 = .ok (.goto (-85), 3) := by decide +kernel
theorem dX0_blamed_95 : decode cX0_blamed 95 = .ok (.iload_n 2, 1) := by decide +kernel
theorem dX0_blamed_96 : decode cX0_blamed 96 = .ok (.ireturn, 1) := by decide +kernel
theorem dX10_blame_0 : decode cX10_blame 0 = .ok (.aload_n 0, 1) := by decide +kernel
theorem dX10_blame_1 : decode cX10_blame 1 = .ok (.iload_n 1, 1) := by decide +kernel
theorem dX10_blame_2 : decode cX10_blame 2 = .ok (.invokevirtual 197, 3) := by decide +kernel
theorem dX10_blame_5 : decode cX10_blame 5 = .ok (.aload_n 0, 1) := by decide +kernel
theorem dX10_blame_6 : decode cX10_blame 6 = .ok (.iload_n 1, 1) := by decide +kernel
theorem dX10_blame_7 : decode cX10_blame 7 = .ok (.iconst 0, 1) := by decide +kernel
theorem dX10_blame_8 : decode cX10_blame 8 = .ok (.invokevirtual 223, 3) := by decide +kernel
theorem dX10_blame_11 : decode cX10_blame 11 = .ok (.aload_n 0, 1) := by decide +kernel
theorem dX10_blame_12 : decode cX10_blame 12 = .ok (.getfield 49, 3) := by decide +kernel
theorem dX10_blame_15 : decode cX10_blame 15 = .ok (.aload_n 0, 1) := by decide +kernel
theorem dX10_blame_16 : decode cX10_blame 16 = .ok (.getfield 56, 3) := by decide +kernel
theorem dX10_blame_19 : decode cX10_blame 19 = .ok (.iload_n 1, 1) := by decide +kernel
theorem dX10_blame_20 : decode cX10_blame 20 = .ok (.invokevirtual 200, 3) := by decide +kernel
theorem dX10_blame_23 : decode cX10_blame 23 = .ok (.invokevirtual 235, 3) := by decide +kernel
theorem dX10_blame_26 : decode cX10_blame 26 = .ok (.ireturn, 1) := by decide +kernel
noncomputable def wX0_keepChosen_33 (g : zS) (s : (Int32 × Int32)) : Option ((Int32 × Int32) ⊕ zS) :=
  if (g.1 3 0) ≤ s.2 then (zex (zchk (zin (g.1 26 3) g.2.2.2) (some ((zi (zi g 27 (g.1 26 3).toNatClampNeg s.1) 26 3 (((zi g 27 (g.1 26 3).toNatClampNeg s.1).1 26 3) + (1 : Int32))))))) else (zchk (zin s.2 5) (some (.inl ((s.1 ||| ((g.1 28 s.2.toNatClampNeg) <<< (((5 : Int32) * s.2) &&& 31))), (s.2 + (1 : Int32))))))
noncomputable def nX0_keepChosen (g : zS) : Option zS :=
  if (g.1 26 3) = (nI g.2.2.2) then (zchk (zgro g) (wh (wX0_keepChosen_33 (zgrow g)) ((0 : Int32), (0 : Int32)))) else (wh (wX0_keepChosen_33 g) ((0 : Int32), (0 : Int32)))
def qX0_keepChosen_33 (x : zXx) (C : Nat) (g : zS) (o : (Int32 × Int32) ⊕ zS) : Prop := match o with
  | .inl s => zgr g C ∧ zK x 2 33 [(0, .ref 26), (1, .int s.1), (2, .int s.2)] [] zD g (0 + (C / 64 - g.2.2.2 / 64)) (0 + 2 * (C - g.2.2.2))
  | .inr r => (ztg x = (.inl none, zD, r) ∧ zgr r C)
set_option maxHeartbeats 60000 in
theorem kwX0_keepChosen_33 {x : zXx} (hG : zG x cX0_keepChosen 3 RX0 ((Option.none : Option Jvm.ClassFile.FieldType))) (hl0 : (zl0 x).flags = flags0) (C : Nat) (g : zS) {o : zS} (hk : (ztg x = (.inl none, zD, o) ∧ zgr o C)) : ∀ s : (Int32 × Int32), wh (wX0_keepChosen_33 g) s = some o → zgr g C ∧ zK x 2 33 [(0, .ref 26), (1, .int s.1), (2, .int s.2)] [] zD g (0 + (C / 64 - g.2.2.2 / 64)) (0 + 2 * (C - g.2.2.2)) := by
  refine wh_ind (fun s : (Int32 × Int32) => zgr g C ∧ zK x 2 33 [(0, .ref 26), (1, .int s.1), (2, .int s.2)] [] zD g (0 + (C / 64 - g.2.2.2 / 64)) (0 + 2 * (C - g.2.2.2))) (fun s o h hk2 => ?_)
  replace hk : qX0_keepChosen_33 x C g o := by
    cases o with
    | inl s => exact hk2
    | inr r => subst hk2; exact hk
  clear hk2
  unfold wX0_keepChosen_33 at h
  refine And.imp_right (fun kk => z_iload_n (pc := 33) hG 2 rfl rfl dX0_keepChosen_33 kk) ?_
  refine And.imp_right (fun kk => z_aload_n (pc := 34) hG 0 rfl rfl dX0_keepChosen_34 kk) ?_
  refine And.imp_right (fun kk => z_getr (pc := 35) hG zc_X0 inX0 DL_26 0 rfl (by decide) rfl w181 dX0_keepChosen_35 kk) ?_
  refine And.imp_right (fun kk => z_geti (pc := 38) hG zc_X6 inX6 DL_3 0 rfl (by decide) rfl w62 dX0_keepChosen_38 kk) ?_
  refine zbr (c := (g.1 3 0) ≤ s.2) (fun hc => ?_) (fun hc => ?_) (fun k1 k2 => z_icmp_ge (pc := 41) (tgt := 63) hG dX0_keepChosen_41 rfl k1 k2)
  · replace h := zif_t hc h
    replace h := zex_some h
    obtain ⟨o, h, rfl⟩ := h
    refine And.imp_right (fun kk => z_aload_n (pc := 63) hG 0 rfl rfl dX0_keepChosen_63 kk) ?_
    refine And.imp_right (fun kk => z_getr (pc := 64) hG zc_X0 inX0 DL_26 2 rfl (by decide) rfl w183 dX0_keepChosen_64 kk) ?_
    refine And.imp_right (fun kk => z_aload_n (pc := 67) hG 0 rfl rfl dX0_keepChosen_67 kk) ?_
    refine And.imp_right (fun kk => z_geti (pc := 68) hG zc_X0 inX0 DL_26 3 rfl (by decide) rfl w184 dX0_keepChosen_68 kk) ?_
    refine And.imp_right (fun kk => z_iload_n (pc := 71) hG 1 rfl rfl dX0_keepChosen_71 kk) ?_
    replace h := zchk_some h
    obtain ⟨hc, h⟩ := h
    refine And.imp_right (fun kk => z_fast (pc := 72) hG DL_27 (zin_in hc) dX0_keepChosen_72 kk) ?_
    refine And.imp_right (fun kk => z_aload_n (pc := 73) hG 0 rfl rfl dX0_keepChosen_73 kk) ?_
    refine And.imp_right (fun kk => z_dup (pc := 74) hG rfl dX0_keepChosen_74 kk) ?_
    refine And.imp_right (fun kk => z_geti (pc := 75) hG zc_X0 inX0 DL_26 3 rfl (by decide) rfl w184 dX0_keepChosen_75 kk) ?_
    refine And.imp_right (fun kk => z_iconst (pc := 78) hG kc_1 dX0_keepChosen_78 kk) ?_
    refine And.imp_right (fun kk => z_iadd (pc := 79) hG dX0_keepChosen_79 kk) ?_
    refine And.imp_right (fun kk => z_puti (pc := 80) hG zc_X0 inX0 tyX0 tyX0_ok nmX0 DL_26 3 rfl (by decide) rfl w184 rfl rfl rfl dX0_keepChosen_80 kk) ?_
    obtain rfl := Option.some.inj h
    exact ⟨hk.2, z_vret (pc := 83) hG rfl hk.1 dX0_keepChosen_83⟩
  · replace h := zif_f hc h
    refine And.imp_right (fun kk => z_iload_n (pc := 44) hG 1 rfl rfl dX0_keepChosen_44 kk) ?_
    refine And.imp_right (fun kk => z_aload_n (pc := 45) hG 0 rfl rfl dX0_keepChosen_45 kk) ?_
    refine And.imp_right (fun kk => z_getr (pc := 46) hG zc_X0 inX0 DL_26 5 rfl (by decide) rfl w186 dX0_keepChosen_46 kk) ?_
    refine And.imp_right (fun kk => z_iload_n (pc := 49) hG 2 rfl rfl dX0_keepChosen_49 kk) ?_
    replace h := zchk_some h
    obtain ⟨hc, h⟩ := h
    refine And.imp_right (fun kk => z_iald (pc := 50) hG DL_28 (zin_in hc) dX0_keepChosen_50 kk) ?_
    refine And.imp_right (fun kk => z_iconst (pc := 51) hG kc_5 dX0_keepChosen_51 kk) ?_
    refine And.imp_right (fun kk => z_iload_n (pc := 52) hG 2 rfl rfl dX0_keepChosen_52 kk) ?_
    refine And.imp_right (fun kk => z_imul (pc := 53) hG dX0_keepChosen_53 kk) ?_
    refine And.imp_right (fun kk => z_ishl (pc := 54) hG dX0_keepChosen_54 kk) ?_
    refine And.imp_right (fun kk => z_ior (pc := 55) hG dX0_keepChosen_55 kk) ?_
    refine And.imp_right (fun kk => z_istore_n (pc := 56) (ls' := [(1, .int (s.1 ||| ((g.1 28 s.2.toNatClampNeg) <<< (((5 : Int32) * s.2) &&& 31)))), (0, .ref 26), (2, .int s.2)]) hG [0, 1, 2] rfl (by decide) rfl dX0_keepChosen_56 kk) ?_
    refine And.imp_right (fun kk => z_iinc (pc := 57) (ls' := [(2, .int (s.2 + (1 : Int32))), (1, .int (s.1 ||| ((g.1 28 s.2.toNatClampNeg) <<< (((5 : Int32) * s.2) &&& 31)))), (0, .ref 26)]) hG 2 rfl [0, 1, 2] (ki_1 _) (by decide) rfl dX0_keepChosen_57 kk) ?_
    refine And.imp_right (fun kk => z_goto (pc := 60) (tgt := 33) hG dX0_keepChosen_60 rfl kk) ?_
    obtain rfl := Option.some.inj h
    refine And.imp_right (fun kk => z_sub (ls' := [(0, .ref 26), (1, .int (s.1 ||| ((g.1 28 s.2.toNatClampNeg) <<< (((5 : Int32) * s.2) &&& 31)))), (2, .int (s.2 + (1 : Int32)))]) [2, 1, 0] rfl kk) ?_
    exact hk
set_option maxHeartbeats 60000 in
theorem tX0_keepChosen {l : Launch} (hl0 : l.flags = flags0) (g : zS) {r : zS} (h : nX0_keepChosen g = some r) : zC l yX0_keepChosen cX0_keepChosen 3 ((Option.none : Option Jvm.ClassFile.FieldType)) 2 (0 + (r.2.2.2 / 64 - g.2.2.2 / 64)) (0 + 2 * (r.2.2.2 - g.2.2.2)) [.ref 26] zD g (.inl none, zD, r) := by
  refine zC_of hl0 rfl (Nat.le_of_ble_eq_true rfl) (fun x hG hxl hk _ => ?_)
  subst hxl
  obtain ⟨C, hC0⟩ : ∃ C : Nat, C = r.2.2.2 := ⟨_, rfl⟩
  replace hk := And.intro hk (Nat.le_of_eq hC0.symm)
  rw [← hC0]
  suffices hp : zgr g C ∧ zK x 2 0 [(0, .ref 26)] [] zD g (0 + (C / 64 - g.2.2.2 / 64)) (0 + 2 * (C - g.2.2.2)) from hp.2
  unfold nX0_keepChosen at h
  refine And.imp_right (fun kk => z_aload_n (pc := 0) hG 0 rfl rfl dX0_keepChosen_0 kk) ?_
  refine And.imp_right (fun kk => z_geti (pc := 1) hG zc_X0 inX0 DL_26 3 rfl (by decide) rfl w184 dX0_keepChosen_1 kk) ?_
  refine And.imp_right (fun kk => z_aload_n (pc := 4) hG 0 rfl rfl dX0_keepChosen_4 kk) ?_
  refine And.imp_right (fun kk => z_getr (pc := 5) hG zc_X0 inX0 DL_26 2 rfl (by decide) rfl w183 dX0_keepChosen_5 kk) ?_
  refine And.imp_right (fun kk => z_alenF (pc := 8) hG DL_27 dX0_keepChosen_8 kk) ?_
  refine zbr (c := (g.1 26 3) = (nI g.2.2.2)) (fun hc => ?_) (fun hc => ?_) (fun k1 k2 => z_icmp_ne (pc := 9) (tgt := 29) hG dX0_keepChosen_9 rfl k2 k1)
  · replace h := zif_t hc h
    replace h := zchk_some h
    obtain ⟨hc9, h⟩ := h
    refine And.elim (fun hb kk => ⟨zgro_le hc9 hb, z_grow (pc := 12) (C := C) (A := 0) (B := 0) hG hl0 hc9 hb rfl rfl (Nat.le_of_ble_eq_true rfl) dX0_keepChosen_12 dX0_keepChosen_13 dX0_keepChosen_14 dX0_keepChosen_17 dX0_keepChosen_18 dX0_keepChosen_21 dX0_keepChosen_22 dX0_keepChosen_23 dX0_keepChosen_26 kk⟩) ?_
    refine And.imp_right (fun kk => z_iconst (pc := 29) hG kc_0 dX0_keepChosen_29 kk) ?_
    refine And.imp_right (fun kk => z_istore_n (pc := 30) (ls' := [(1, .int (0 : Int32)), (0, .ref 26)]) hG [0, 1] rfl (by decide) rfl dX0_keepChosen_30 kk) ?_
    refine And.imp_right (fun kk => z_iconst (pc := 31) hG kc_0 dX0_keepChosen_31 kk) ?_
    refine And.imp_right (fun kk => z_istore_n (pc := 32) (ls' := [(2, .int (0 : Int32)), (1, .int (0 : Int32)), (0, .ref 26)]) hG [0, 1, 2] rfl (by decide) rfl dX0_keepChosen_32 kk) ?_
    refine And.imp_right (fun kk => z_sub (ls' := [(0, .ref 26), (1, .int (0 : Int32)), (2, .int (0 : Int32))]) [2, 1, 0] rfl kk) ?_
    exact kwX0_keepChosen_33 hG hl0 C (zgrow g) hk ((0 : Int32), (0 : Int32)) h
  · replace h := zif_f hc h
    refine And.imp_right (fun kk => z_iconst (pc := 29) hG kc_0 dX0_keepChosen_29 kk) ?_
    refine And.imp_right (fun kk => z_istore_n (pc := 30) (ls' := [(1, .int (0 : Int32)), (0, .ref 26)]) hG [0, 1] rfl (by decide) rfl dX0_keepChosen_30 kk) ?_
    refine And.imp_right (fun kk => z_iconst (pc := 31) hG kc_0 dX0_keepChosen_31 kk) ?_
    refine And.imp_right (fun kk => z_istore_n (pc := 32) (ls' := [(2, .int (0 : Int32)), (1, .int (0 : Int32)), (0, .ref 26)]) hG [0, 1, 2] rfl (by decide) rfl dX0_keepChosen_32 kk) ?_
    refine And.imp_right (fun kk => z_sub (ls' := [(0, .ref 26), (1, .int (0 : Int32)), (2, .int (0 : Int32))]) [2, 1, 0] rfl kk) ?_
    exact kwX0_keepChosen_33 hG hl0 C g hk ((0 : Int32), (0 : Int32)) h
noncomputable def nX0_search (rc : Int32 → Int32 → zS → Option zS) (a1 : Int32) (g : zS) : Option zS :=
  if a1 < (g.1 3 0) then ((nX0_meetValues a1 g).bind fun v1 => zchk (decide (v1.2.2.2.2 = g.2.2.2)) (if a1 = ((v1.2.1 3 0) - (1 : Int32)) then (zchk (zin a1 5) (if v1.1 = 0 then (some ((zi v1.2 28 a1.toNatClampNeg v1.1))) else ((nX0_isGreatest (zi v1.2 28 a1.toNatClampNeg v1.1)).bind fun v3 => if v3 = 0 then (some ((zi v1.2 28 a1.toNatClampNeg v1.1))) else ((nX0_keepChosen (zi v1.2 28 a1.toNatClampNeg v1.1)).bind fun v4 => zchk (decide (v1.2.2.2.2 ≤ v4.2.2.2)) (some (v4)))))) else ((rc a1 v1.1 v1.2).bind fun v2 => zchk (decide (v1.2.2.2.2 ≤ v2.2.2.2)) (some (v2))))) else (some (g))
set_option maxHeartbeats 60000 in
theorem tX0_search {l : Launch} (hl0 : l.flags = flags0) (fq : Nat) (rc : Int32 → Int32 → zS → Option zS) (a1 : Int32) (hrc : ∀ (b0 b1 : Int32) (g r), rc b0 b1 g = some r → zC l yX0_searchBehind cX0_searchBehind 4 ((Option.none : Option Jvm.ClassFile.FieldType)) fq (0 + (r.2.2.2 / 64 - g.2.2.2 / 64)) (0 + 2 * (r.2.2.2 - g.2.2.2)) [.ref 26, .int b0, .int b1] zD g (.inl none, zD, r)) (g : zS) {r : zS} (h : nX0_search rc a1 g = some r) : zC l yX0_search cX0_search 3 ((Option.none : Option Jvm.ClassFile.FieldType)) (fq + 3) (0 + (r.2.2.2 / 64 - g.2.2.2 / 64)) (0 + 2 * (r.2.2.2 - g.2.2.2)) [.ref 26, .int a1] zD g (.inl none, zD, r) := by
  refine zC_of hl0 rfl (Nat.le_of_ble_eq_true rfl) (fun x hG hxl hk _ => ?_)
  subst hxl
  obtain ⟨C, hC0⟩ : ∃ C : Nat, C = r.2.2.2 := ⟨_, rfl⟩
  replace hk := And.intro hk (Nat.le_of_eq hC0.symm)
  rw [← hC0]
  suffices hp : zgr g C ∧ zK x (fq + 3) 0 [(0, .ref 26), (1, .int a1)] [] zD g (0 + (C / 64 - g.2.2.2 / 64)) (0 + 2 * (C - g.2.2.2)) from hp.2
  unfold nX0_search at h
  refine And.imp_right (fun kk => z_iload_n (pc := 0) hG 1 rfl rfl dX0_search_0 kk) ?_
  refine And.imp_right (fun kk => z_aload_n (pc := 1) hG 0 rfl rfl dX0_search_1 kk) ?_
  refine And.imp_right (fun kk => z_getr (pc := 2) hG zc_X0 inX0 DL_26 0 rfl (by decide) rfl w181 dX0_search_2 kk) ?_
  refine And.imp_right (fun kk => z_geti (pc := 5) hG zc_X6 inX6 DL_3 0 rfl (by decide) rfl w62 dX0_search_5 kk) ?_
  refine zbr (c := a1 < (g.1 3 0)) (fun hc => ?_) (fun hc => ?_) (fun k1 k2 => z_icmp_lt (pc := 8) (tgt := 12) hG dX0_search_8 rfl k1 k2)
  · replace h := zif_t hc h
    refine And.imp_right (fun kk => z_aload_n (pc := 12) hG 0 rfl rfl dX0_search_12 kk) ?_
    refine And.imp_right (fun kk => z_iload_n (pc := 13) hG 1 rfl rfl dX0_search_13 kk) ?_
    replace h := zbind h
    obtain ⟨v1, hv1, h⟩ := h
    refine And.imp_right (fun kk => z_cvI (pc := 14) (A' := 0 + (C / 64 - g.2.2.2 / 64)) (B' := 0 + 2 * (C - g.2.2.2)) hG [.int a1] [] zc_X0 DL_26 (tX0_meetValues hl0 a1 g hv1) zy_X0_meetValues ⟨w354, wp1⟩ w352 dX0_search_14 rfl (by omega) (by omega) (by omega) rfl (Nat.le_of_ble_eq_true rfl) rfl kk) ?_
    replace h := zchk_some h
    obtain ⟨hq, h⟩ := h
    refine zpc (of_decide_eq_true hq) ?_
    refine And.imp_right (fun kk => z_istore_n (pc := 17) (ls' := [(2, .int v1.1), (0, .ref 26), (1, .int a1)]) hG [0, 1, 2] rfl (by decide) rfl dX0_search_17 kk) ?_
    refine And.imp_right (fun kk => z_iload_n (pc := 18) hG 2 rfl rfl dX0_search_18 kk) ?_
    refine And.imp_right (fun kk => z_aload_n (pc := 19) hG 1 rfl rfl dX0_search_19 kk) ?_
    refine And.imp_right (fun kk => z_getr (pc := 20) hG zc_X0 inX0 DL_26 0 rfl (by decide) rfl w181 dX0_search_20 kk) ?_
    refine And.imp_right (fun kk => z_geti (pc := 23) hG zc_X6 inX6 DL_3 0 rfl (by decide) rfl w62 dX0_search_23 kk) ?_
    refine And.imp_right (fun kk => z_iconst (pc := 26) hG kc_1 dX0_search_26 kk) ?_
    refine And.imp_right (fun kk => z_isub (pc := 27) hG dX0_search_27 kk) ?_
    refine zbr (c := a1 = ((v1.2.1 3 0) - (1 : Int32))) (fun hc => ?_) (fun hc => ?_) (fun k1 k2 => z_icmp_ne (pc := 28) (tgt := 54) hG dX0_search_28 rfl k2 k1)
    · replace h := zif_t hc h
      refine And.imp_right (fun kk => z_aload_n (pc := 31) hG 1 rfl rfl dX0_search_31 kk) ?_
      refine And.imp_right (fun kk => z_getr (pc := 32) hG zc_X0 inX0 DL_26 5 rfl (by decide) rfl w186 dX0_search_32 kk) ?_
      refine And.imp_right (fun kk => z_iload_n (pc := 35) hG 2 rfl rfl dX0_search_35 kk) ?_
      refine And.imp_right (fun kk => z_iload_n (pc := 36) hG 0 rfl rfl dX0_search_36 kk) ?_
      replace h := zchk_some h
      obtain ⟨hc, h⟩ := h
      refine And.imp_right (fun kk => z_iast (pc := 37) hG DL_28 (zin_in hc) dX0_search_37 kk) ?_
      refine And.imp_right (fun kk => z_iload_n (pc := 38) hG 0 rfl rfl dX0_search_38 kk) ?_
      refine zbr (c := v1.1 = 0) (fun hc => ?_) (fun hc => ?_) (fun k1 k2 => z_if_eq (pc := 39) (tgt := 53) hG dX0_search_39 rfl k1 k2)
      · replace h := zif_t hc h
        obtain rfl := Option.some.inj h
        exact ⟨hk.2, z_vret (pc := 53) hG rfl hk.1 dX0_search_53⟩
      · replace h := zif_f hc h
        refine And.imp_right (fun kk => z_aload_n (pc := 42) hG 1 rfl rfl dX0_search_42 kk) ?_
        replace h := zbind h
        obtain ⟨v3, hv3, h⟩ := h
        refine And.imp_right (fun kk => z_cvI (pc := 43) (A' := 0 + (C / 64 - v1.2.2.2.2 / 64)) (B' := 0 + 2 * (C - v1.2.2.2.2)) hG [] [] zc_X0 DL_26 (tX0_isGreatest hl0  (zi v1.2 28 a1.toNatClampNeg v1.1) hv3) zy_X0_isGreatest ⟨w368, wp2⟩ w366 dX0_search_43 rfl (by omega) (by omega) (by omega) rfl (Nat.le_of_ble_eq_true rfl) rfl kk) ?_
        refine zbr (c := v3 = 0) (fun hc => ?_) (fun hc => ?_) (fun k1 k2 => z_if_eq (pc := 46) (tgt := 53) hG dX0_search_46 rfl k1 k2)
        · replace h := zif_t hc h
          obtain rfl := Option.some.inj h
          exact ⟨hk.2, z_vret (pc := 53) hG rfl hk.1 dX0_search_53⟩
        · replace h := zif_f hc h
          refine And.imp_right (fun kk => z_aload_n (pc := 49) hG 1 rfl rfl dX0_search_49 kk) ?_
          replace h := zbind h
          obtain ⟨v4, hv4, h⟩ := h
          replace h := zchk_some h
          obtain ⟨hm, h⟩ := h
          replace hm := of_decide_eq_true hm
          refine And.elim (fun hb kk => ⟨Nat.le_trans hm hb, z_cvV (pc := 50) (A' := 0 + (C / 64 - v4.2.2.2 / 64)) (B' := 0 + 2 * (C - v4.2.2.2)) (nc := 0 + (v4.2.2.2 / 64 - v1.2.2.2.2 / 64)) (ns := 0 + 2 * (v4.2.2.2 - v1.2.2.2.2)) hG [] [] zc_X0 DL_26 (tX0_keepChosen hl0  (zi v1.2 28 a1.toNatClampNeg v1.1) hv4) zy_X0_keepChosen ⟨w381, wp3⟩ w379 dX0_search_50 rfl (by omega) (by have hm := hm; have hb : v4.2.2.2 ≤ C := hb; omega) (by have hm := hm; have hb : v4.2.2.2 ≤ C := hb; omega) rfl (Nat.le_of_ble_eq_true rfl) rfl kk⟩) ?_
          obtain rfl := Option.some.inj h
          exact ⟨hk.2, z_vret (pc := 53) hG rfl hk.1 dX0_search_53⟩
    · replace h := zif_f hc h
      refine And.imp_right (fun kk => z_aload_n (pc := 54) hG 1 rfl rfl dX0_search_54 kk) ?_
      refine And.imp_right (fun kk => z_iload_n (pc := 55) hG 2 rfl rfl dX0_search_55 kk) ?_
      refine And.imp_right (fun kk => z_iload_n (pc := 56) hG 0 rfl rfl dX0_search_56 kk) ?_
      replace h := zbind h
      obtain ⟨v2, hv2, h⟩ := h
      replace h := zchk_some h
      obtain ⟨hm, h⟩ := h
      replace hm := of_decide_eq_true hm
      refine And.elim (fun hb kk => ⟨Nat.le_trans hm hb, z_cvV (pc := 57) (A' := 0 + (C / 64 - v2.2.2.2 / 64)) (B' := 0 + 2 * (C - v2.2.2.2)) (nc := 0 + (v2.2.2.2 / 64 - v1.2.2.2.2 / 64)) (ns := 0 + 2 * (v2.2.2.2 - v1.2.2.2.2)) hG [.int a1, .int v1.1] [] zc_X0 DL_26 (hrc a1 v1.1 v1.2 _ hv2) zy_X0_searchBehind ⟨w401, wp4⟩ w399 dX0_search_57 rfl (by omega) (by have hm := hm; have hb : v2.2.2.2 ≤ C := hb; omega) (by have hm := hm; have hb : v2.2.2.2 ≤ C := hb; omega) rfl (Nat.le_of_ble_eq_true rfl) rfl kk⟩) ?_
      obtain rfl := Option.some.inj h
      exact ⟨hk.2, z_vret (pc := 60) hG rfl hk.1 dX0_search_60⟩
  · replace h := zif_f hc h
    obtain rfl := Option.some.inj h
    exact ⟨hk.2, z_vret (pc := 11) hG rfl hk.1 dX0_search_11⟩
noncomputable def wX0_searchBehind_2 (rc : Int32 → zS → Option zS) (a1 : Int32) (a2 : Int32) (s : (Int32 × zS)) : Option ((Int32 × zS) ⊕ zS) :=
  if a2 < s.1 then (zex (some (s.2))) else (if (s.1 &&& (a2 ^^^ (-1 : Int32))) = 0 then ((nX0_isClosed a1 s.1 s.2).bind fun v1 => if v1 = 0 then (some (.inl ((s.1 + (1 : Int32)), s.2))) else (zchk (zin a1 5) ((nX0_joined a1 s.1 (zi s.2 28 a1.toNatClampNeg s.1)).bind fun v2 => zchk (zin (a1 + (1 : Int32)) 6) ((rc (a1 + (1 : Int32)) (zl (zi s.2 28 a1.toNatClampNeg s.1) 29 (a1 + (1 : Int32)).toNatClampNeg v2)).bind fun v3 => zchk (decide (s.2.2.2.2 ≤ v3.2.2.2)) (some (.inl ((s.1 + (1 : Int32)), v3))))))) else (some (.inl ((s.1 + (1 : Int32)), s.2))))
noncomputable def nX0_searchBehind (rc : Int32 → zS → Option zS) (a1 : Int32) (a2 : Int32) (g : zS) : Option zS :=
  wh (wX0_searchBehind_2 rc a1 a2) ((1 : Int32), g)
def qX0_searchBehind_2 (x : zXx) (rc : Int32 → zS → Option zS) (fq : Nat) (C : Nat) (a1 : Int32) (a2 : Int32) (o : (Int32 × zS) ⊕ zS) : Prop := match o with
  | .inl s => zgr s.2 C ∧ zK x (fq + 2) 2 [(0, .ref 26), (1, .int a1), (2, .int a2), (3, .int s.1)] [] zD s.2 (0 + (C / 64 - s.2.2.2.2 / 64)) (0 + 2 * (C - s.2.2.2.2))
  | .inr r => (ztg x = (.inl none, zD, r) ∧ zgr r C)
set_option maxHeartbeats 60000 in
theorem kwX0_searchBehind_2 {x : zXx} (hG : zG x cX0_searchBehind 4 RX0 ((Option.none : Option Jvm.ClassFile.FieldType))) (hl0 : (zl0 x).flags = flags0) (rc : Int32 → zS → Option zS) (fq : Nat) (C : Nat) (a1 : Int32) (a2 : Int32) (hrc : ∀ (b0 : Int32) (g r), rc b0 g = some r → zC (zl0 x) yX0_search cX0_search 3 ((Option.none : Option Jvm.ClassFile.FieldType)) fq (0 + (r.2.2.2 / 64 - g.2.2.2 / 64)) (0 + 2 * (r.2.2.2 - g.2.2.2)) [.ref 26, .int b0] zD g (.inl none, zD, r)) {o : zS} (hk : (ztg x = (.inl none, zD, o) ∧ zgr o C)) : ∀ s : (Int32 × zS), wh (wX0_searchBehind_2 rc a1 a2) s = some o → zgr s.2 C ∧ zK x (fq + 2) 2 [(0, .ref 26), (1, .int a1), (2, .int a2), (3, .int s.1)] [] zD s.2 (0 + (C / 64 - s.2.2.2.2 / 64)) (0 + 2 * (C - s.2.2.2.2)) := by
  refine wh_ind (fun s : (Int32 × zS) => zgr s.2 C ∧ zK x (fq + 2) 2 [(0, .ref 26), (1, .int a1), (2, .int a2), (3, .int s.1)] [] zD s.2 (0 + (C / 64 - s.2.2.2.2 / 64)) (0 + 2 * (C - s.2.2.2.2))) (fun s o h hk2 => ?_)
  replace hk : qX0_searchBehind_2 x rc fq C a1 a2 o := by
    cases o with
    | inl s => exact hk2
    | inr r => subst hk2; exact hk
  clear hk2
  unfold wX0_searchBehind_2 at h
  refine And.imp_right (fun kk => z_iload_n (pc := 2) hG 3 rfl rfl dX0_searchBehind_2 kk) ?_
  refine And.imp_right (fun kk => z_iload_n (pc := 3) hG 2 rfl rfl dX0_searchBehind_3 kk) ?_
  refine zbr (c := a2 < s.1) (fun hc => ?_) (fun hc => ?_) (fun k1 k2 => z_icmp_gt (pc := 4) (tgt := 58) hG dX0_searchBehind_4 rfl k1 k2)
  · replace h := zif_t hc h
    replace h := zex_some h
    obtain ⟨o, h, rfl⟩ := h
    obtain rfl := Option.some.inj h
    exact ⟨hk.2, z_vret (pc := 58) hG rfl hk.1 dX0_searchBehind_58⟩
  · replace h := zif_f hc h
    refine And.imp_right (fun kk => z_iload_n (pc := 7) hG 3 rfl rfl dX0_searchBehind_7 kk) ?_
    refine And.imp_right (fun kk => z_iload_n (pc := 8) hG 2 rfl rfl dX0_searchBehind_8 kk) ?_
    refine And.imp_right (fun kk => z_iconst (pc := 9) hG kc_m1 dX0_searchBehind_9 kk) ?_
    refine And.imp_right (fun kk => z_ixor (pc := 10) hG dX0_searchBehind_10 kk) ?_
    refine And.imp_right (fun kk => z_iand (pc := 11) hG dX0_searchBehind_11 kk) ?_
    refine zbr (c := (s.1 &&& (a2 ^^^ (-1 : Int32))) = 0) (fun hc => ?_) (fun hc => ?_) (fun k1 k2 => z_if_ne (pc := 12) (tgt := 52) hG dX0_searchBehind_12 rfl k2 k1)
    · replace h := zif_t hc h
      refine And.imp_right (fun kk => z_aload_n (pc := 15) hG 0 rfl rfl dX0_searchBehind_15 kk) ?_
      refine And.imp_right (fun kk => z_iload_n (pc := 16) hG 1 rfl rfl dX0_searchBehind_16 kk) ?_
      refine And.imp_right (fun kk => z_iload_n (pc := 17) hG 3 rfl rfl dX0_searchBehind_17 kk) ?_
      replace h := zbind h
      obtain ⟨v1, hv1, h⟩ := h
      refine And.imp_right (fun kk => z_cvI (pc := 18) (A' := 0 + (C / 64 - s.2.2.2.2 / 64)) (B' := 0 + 2 * (C - s.2.2.2.2)) hG [.int a1, .int s.1] [] zc_X0 DL_26 (tX0_isClosed hl0 a1 s.1 s.2 hv1) zy_X0_isClosed ⟨w405, wp5⟩ w403 dX0_searchBehind_18 rfl (by omega) (by omega) (by omega) rfl (Nat.le_of_ble_eq_true rfl) rfl kk) ?_
      refine zbr (c := v1 = 0) (fun hc => ?_) (fun hc => ?_) (fun k1 k2 => z_if_eq (pc := 21) (tgt := 52) hG dX0_searchBehind_21 rfl k1 k2)
      · replace h := zif_t hc h
        refine And.imp_right (fun kk => z_iinc (pc := 52) (ls' := [(3, .int (s.1 + (1 : Int32))), (0, .ref 26), (1, .int a1), (2, .int a2)]) hG 3 rfl [0, 1, 2, 3] (ki_1 _) (by decide) rfl dX0_searchBehind_52 kk) ?_
        refine And.imp_right (fun kk => z_goto (pc := 55) (tgt := 2) hG dX0_searchBehind_55 rfl kk) ?_
        obtain rfl := Option.some.inj h
        refine And.imp_right (fun kk => z_sub (ls' := [(0, .ref 26), (1, .int a1), (2, .int a2), (3, .int (s.1 + (1 : Int32)))]) [1, 2, 3, 0] rfl kk) ?_
        exact hk
      · replace h := zif_f hc h
        refine And.imp_right (fun kk => z_aload_n (pc := 24) hG 0 rfl rfl dX0_searchBehind_24 kk) ?_
        refine And.imp_right (fun kk => z_getr (pc := 25) hG zc_X0 inX0 DL_26 5 rfl (by decide) rfl w186 dX0_searchBehind_25 kk) ?_
        refine And.imp_right (fun kk => z_iload_n (pc := 28) hG 1 rfl rfl dX0_searchBehind_28 kk) ?_
        refine And.imp_right (fun kk => z_iload_n (pc := 29) hG 3 rfl rfl dX0_searchBehind_29 kk) ?_
        replace h := zchk_some h
        obtain ⟨hc, h⟩ := h
        refine And.imp_right (fun kk => z_iast (pc := 30) hG DL_28 (zin_in hc) dX0_searchBehind_30 kk) ?_
        refine And.imp_right (fun kk => z_aload_n (pc := 31) hG 0 rfl rfl dX0_searchBehind_31 kk) ?_
        refine And.imp_right (fun kk => z_getr (pc := 32) hG zc_X0 inX0 DL_26 6 rfl (by decide) rfl w187 dX0_searchBehind_32 kk) ?_
        refine And.imp_right (fun kk => z_iload_n (pc := 35) hG 1 rfl rfl dX0_searchBehind_35 kk) ?_
        refine And.imp_right (fun kk => z_iconst (pc := 36) hG kc_1 dX0_searchBehind_36 kk) ?_
        refine And.imp_right (fun kk => z_iadd (pc := 37) hG dX0_searchBehind_37 kk) ?_
        refine And.imp_right (fun kk => z_aload_n (pc := 38) hG 0 rfl rfl dX0_searchBehind_38 kk) ?_
        refine And.imp_right (fun kk => z_iload_n (pc := 39) hG 1 rfl rfl dX0_searchBehind_39 kk) ?_
        refine And.imp_right (fun kk => z_iload_n (pc := 40) hG 3 rfl rfl dX0_searchBehind_40 kk) ?_
        replace h := zbind h
        obtain ⟨v2, hv2, h⟩ := h
        refine And.imp_right (fun kk => z_cvJ (pc := 41) (A' := 0 + (C / 64 - s.2.2.2.2 / 64)) (B' := 0 + 2 * (C - s.2.2.2.2)) hG [.int a1, .int s.1] [.int (a1 + (1 : Int32)), .ref 29] zc_X0 DL_26 (tX0_joined hl0 a1 s.1 (zi s.2 28 a1.toNatClampNeg s.1) hv2) zy_X0_joined ⟨w409, wp6⟩ w407 dX0_searchBehind_41 rfl (by omega) (by omega) (by omega) rfl (Nat.le_of_ble_eq_true rfl) rfl kk) ?_
        replace h := zchk_some h
        obtain ⟨hc, h⟩ := h
        refine And.imp_right (fun kk => z_last (pc := 44) hG DL_29 (zin_in hc) dX0_searchBehind_44 kk) ?_
        refine And.imp_right (fun kk => z_aload_n (pc := 45) hG 0 rfl rfl dX0_searchBehind_45 kk) ?_
        refine And.imp_right (fun kk => z_iload_n (pc := 46) hG 1 rfl rfl dX0_searchBehind_46 kk) ?_
        refine And.imp_right (fun kk => z_iconst (pc := 47) hG kc_1 dX0_searchBehind_47 kk) ?_
        refine And.imp_right (fun kk => z_iadd (pc := 48) hG dX0_searchBehind_48 kk) ?_
        replace h := zbind h
        obtain ⟨v3, hv3, h⟩ := h
        replace h := zchk_some h
        obtain ⟨hm, h⟩ := h
        replace hm := of_decide_eq_true hm
        refine And.elim (fun hb kk => ⟨Nat.le_trans hm hb, z_cvV (pc := 49) (A' := 0 + (C / 64 - v3.2.2.2 / 64)) (B' := 0 + 2 * (C - v3.2.2.2)) (nc := 0 + (v3.2.2.2 / 64 - s.2.2.2.2 / 64)) (ns := 0 + 2 * (v3.2.2.2 - s.2.2.2.2)) hG [.int (a1 + (1 : Int32))] [] zc_X0 DL_26 (hrc (a1 + (1 : Int32)) (zl (zi s.2 28 a1.toNatClampNeg s.1) 29 (a1 + (1 : Int32)).toNatClampNeg v2) _ hv3) zy_X0_search ⟨w350, wp0⟩ w348 dX0_searchBehind_49 rfl (by omega) (by have hm := hm; have hb : v3.2.2.2 ≤ C := hb; omega) (by have hm := hm; have hb : v3.2.2.2 ≤ C := hb; omega) rfl (Nat.le_of_ble_eq_true rfl) rfl kk⟩) ?_
        refine And.imp_right (fun kk => z_iinc (pc := 52) (ls' := [(3, .int (s.1 + (1 : Int32))), (0, .ref 26), (1, .int a1), (2, .int a2)]) hG 3 rfl [0, 1, 2, 3] (ki_1 _) (by decide) rfl dX0_searchBehind_52 kk) ?_
        refine And.imp_right (fun kk => z_goto (pc := 55) (tgt := 2) hG dX0_searchBehind_55 rfl kk) ?_
        obtain rfl := Option.some.inj h
        refine And.imp_right (fun kk => z_sub (ls' := [(0, .ref 26), (1, .int a1), (2, .int a2), (3, .int (s.1 + (1 : Int32)))]) [1, 2, 3, 0] rfl kk) ?_
        exact hk
    · replace h := zif_f hc h
      refine And.imp_right (fun kk => z_iinc (pc := 52) (ls' := [(3, .int (s.1 + (1 : Int32))), (0, .ref 26), (1, .int a1), (2, .int a2)]) hG 3 rfl [0, 1, 2, 3] (ki_1 _) (by decide) rfl dX0_searchBehind_52 kk) ?_
      refine And.imp_right (fun kk => z_goto (pc := 55) (tgt := 2) hG dX0_searchBehind_55 rfl kk) ?_
      obtain rfl := Option.some.inj h
      refine And.imp_right (fun kk => z_sub (ls' := [(0, .ref 26), (1, .int a1), (2, .int a2), (3, .int (s.1 + (1 : Int32)))]) [1, 2, 3, 0] rfl kk) ?_
      exact hk
set_option maxHeartbeats 60000 in
theorem tX0_searchBehind {l : Launch} (hl0 : l.flags = flags0) (fq : Nat) (rc : Int32 → zS → Option zS) (a1 : Int32) (a2 : Int32) (hrc : ∀ (b0 : Int32) (g r), rc b0 g = some r → zC l yX0_search cX0_search 3 ((Option.none : Option Jvm.ClassFile.FieldType)) fq (0 + (r.2.2.2 / 64 - g.2.2.2 / 64)) (0 + 2 * (r.2.2.2 - g.2.2.2)) [.ref 26, .int b0] zD g (.inl none, zD, r)) (g : zS) {r : zS} (h : nX0_searchBehind rc a1 a2 g = some r) : zC l yX0_searchBehind cX0_searchBehind 4 ((Option.none : Option Jvm.ClassFile.FieldType)) (fq + 2) (0 + (r.2.2.2 / 64 - g.2.2.2 / 64)) (0 + 2 * (r.2.2.2 - g.2.2.2)) [.ref 26, .int a1, .int a2] zD g (.inl none, zD, r) := by
  refine zC_of hl0 rfl (Nat.le_of_ble_eq_true rfl) (fun x hG hxl hk _ => ?_)
  subst hxl
  obtain ⟨C, hC0⟩ : ∃ C : Nat, C = r.2.2.2 := ⟨_, rfl⟩
  replace hk := And.intro hk (Nat.le_of_eq hC0.symm)
  rw [← hC0]
  suffices hp : zgr g C ∧ zK x (fq + 2) 0 [(0, .ref 26), (1, .int a1), (2, .int a2)] [] zD g (0 + (C / 64 - g.2.2.2 / 64)) (0 + 2 * (C - g.2.2.2)) from hp.2
  unfold nX0_searchBehind at h
  refine And.imp_right (fun kk => z_iconst (pc := 0) hG kc_1 dX0_searchBehind_0 kk) ?_
  refine And.imp_right (fun kk => z_istore_n (pc := 1) (ls' := [(3, .int (1 : Int32)), (0, .ref 26), (1, .int a1), (2, .int a2)]) hG [0, 1, 2, 3] rfl (by decide) rfl dX0_searchBehind_1 kk) ?_
  refine And.imp_right (fun kk => z_sub (ls' := [(0, .ref 26), (1, .int a1), (2, .int a2), (3, .int (1 : Int32))]) [1, 2, 3, 0] rfl kk) ?_
  exact kwX0_searchBehind_2 hG hl0 rc fq C a1 a2 hrc hk ((1 : Int32), g) h
noncomputable def rSearch : Nat → Int32 → zS → Option zS
  | 0 => fun _ _ => none
  | n + 1 => nX0_search (nX0_searchBehind (rSearch n))
theorem t_rSearch {l : Launch} (hl0 : l.flags = flags0) : ∀ (n : Nat) (b0 : Int32) (g : zS) (r), rSearch n b0 g = some r → zC l yX0_search cX0_search 3 ((Option.none : Option Jvm.ClassFile.FieldType)) (5 * n) (0 + (r.2.2.2 / 64 - g.2.2.2 / 64)) (0 + 2 * (r.2.2.2 - g.2.2.2)) [.ref 26, .int b0] zD g (.inl none, zD, r) := by
  intro n
  induction n with
  | zero => intro b0 g r h; cases h
  | succ n ih =>
    intro b0 g r h
    have h1 := tX0_search hl0 (5 * n + 2) (nX0_searchBehind (rSearch n)) b0 (fun b0 b1 g r h => tX0_searchBehind hl0 (5 * n) (rSearch n) b0 b1 ih g h) g h
    have e : 5 * (n + 1) = 5 * n + 2 + 3 := by omega
    rw [e]
    exact h1
noncomputable def nX0_size (g : zS) : Option (Int32 × zS) :=
  if (g.1 26 4) = 0 then (zchk (zin (0 : Int32) 6) ((rSearch 12 (0 : Int32) (zl (zi g 26 3 (0 : Int32)) 29 (0 : Int32).toNatClampNeg (-9223372036854775808 : Int64))).bind fun v1 => zchk (decide (g.2.2.2 ≤ v1.2.2.2)) (some ((((zi v1 26 4 (1 : Int32)).1 26 3), (zi v1 26 4 (1 : Int32))))))) else (some (((g.1 26 3), g)))
set_option maxHeartbeats 60000 in
theorem tX0_size {l : Launch} (hl0 : l.flags = flags0) (g : zS) {r : (Int32 × zS)} (h : nX0_size g = some r) : zC l yX0_size cX0_size 1 ((Option.some Jvm.ClassFile.FieldType.int)) 61 (0 + (r.2.2.2.2 / 64 - g.2.2.2 / 64)) (0 + 2 * (r.2.2.2.2 - g.2.2.2)) [.ref 26] zD g (.inl (some (.int r.1)), zD, r.2) := by
  refine zC_of hl0 rfl (Nat.le_of_ble_eq_true rfl) (fun x hG hxl hk _ => ?_)
  subst hxl
  obtain ⟨C, hC0⟩ : ∃ C : Nat, C = r.2.2.2.2 := ⟨_, rfl⟩
  replace hk := And.intro hk (Nat.le_of_eq hC0.symm)
  rw [← hC0]
  suffices hp : zgr g C ∧ zK x 61 0 [(0, .ref 26)] [] zD g (0 + (C / 64 - g.2.2.2 / 64)) (0 + 2 * (C - g.2.2.2)) from hp.2
  unfold nX0_size at h
  refine And.imp_right (fun kk => z_aload_n (pc := 0) hG 0 rfl rfl dX0_size_0 kk) ?_
  refine And.imp_right (fun kk => z_geti (pc := 1) hG zc_X0 inX0 DL_26 4 rfl (by decide) rfl w185 dX0_size_1 kk) ?_
  refine zbr (c := (g.1 26 4) = 0) (fun hc => ?_) (fun hc => ?_) (fun k1 k2 => z_if_ne (pc := 4) (tgt := 31) hG dX0_size_4 rfl k2 k1)
  · replace h := zif_t hc h
    refine And.imp_right (fun kk => z_aload_n (pc := 7) hG 0 rfl rfl dX0_size_7 kk) ?_
    refine And.imp_right (fun kk => z_iconst (pc := 8) hG kc_0 dX0_size_8 kk) ?_
    refine And.imp_right (fun kk => z_puti (pc := 9) hG zc_X0 inX0 tyX0 tyX0_ok nmX0 DL_26 3 rfl (by decide) rfl w184 rfl rfl rfl dX0_size_9 kk) ?_
    refine And.imp_right (fun kk => z_aload_n (pc := 12) hG 0 rfl rfl dX0_size_12 kk) ?_
    refine And.imp_right (fun kk => z_getr (pc := 13) hG zc_X0 inX0 DL_26 6 rfl (by decide) rfl w187 dX0_size_13 kk) ?_
    refine And.imp_right (fun kk => z_iconst (pc := 16) hG kc_0 dX0_size_16 kk) ?_
    refine And.imp_right (fun kk => z_ldc2 (pc := 17) hG w347 dX0_size_17 kk) ?_
    replace h := zchk_some h
    obtain ⟨hc, h⟩ := h
    refine And.imp_right (fun kk => z_last (pc := 20) hG DL_29 (zin_in hc) dX0_size_20 kk) ?_
    refine And.imp_right (fun kk => z_aload_n (pc := 21) hG 0 rfl rfl dX0_size_21 kk) ?_
    refine And.imp_right (fun kk => z_iconst (pc := 22) hG kc_0 dX0_size_22 kk) ?_
    replace h := zbind h
    obtain ⟨v1, hv1, h⟩ := h
    replace h := zchk_some h
    obtain ⟨hm, h⟩ := h
    replace hm := of_decide_eq_true hm
    refine And.elim (fun hb kk => ⟨Nat.le_trans hm hb, z_cvV (pc := 23) (A' := 0 + (C / 64 - v1.2.2.2 / 64)) (B' := 0 + 2 * (C - v1.2.2.2)) (nc := 0 + (v1.2.2.2 / 64 - g.2.2.2 / 64)) (ns := 0 + 2 * (v1.2.2.2 - g.2.2.2)) hG [.int (0 : Int32)] [] zc_X0 DL_26 (t_rSearch hl0 12 (0 : Int32) (zl (zi g 26 3 (0 : Int32)) 29 (0 : Int32).toNatClampNeg (-9223372036854775808 : Int64)) _ hv1) zy_X0_search ⟨w350, wp0⟩ w348 dX0_size_23 rfl (Nat.le_of_ble_eq_true rfl) (by have hm := hm; have hb : v1.2.2.2 ≤ C := hb; omega) (by have hm := hm; have hb : v1.2.2.2 ≤ C := hb; omega) rfl (Nat.le_of_ble_eq_true rfl) rfl kk⟩) ?_
    refine And.imp_right (fun kk => z_aload_n (pc := 26) hG 0 rfl rfl dX0_size_26 kk) ?_
    refine And.imp_right (fun kk => z_iconst (pc := 27) hG kc_1 dX0_size_27 kk) ?_
    refine And.imp_right (fun kk => z_puti (pc := 28) hG zc_X0 inX0 tyX0 tyX0_ok nmX0 DL_26 4 rfl (by decide) rfl w185 rfl rfl rfl dX0_size_28 kk) ?_
    refine And.imp_right (fun kk => z_aload_n (pc := 31) hG 0 rfl rfl dX0_size_31 kk) ?_
    refine And.imp_right (fun kk => z_geti (pc := 32) hG zc_X0 inX0 DL_26 3 rfl (by decide) rfl w184 dX0_size_32 kk) ?_
    obtain rfl := Option.some.inj h
    exact ⟨hk.2, z_iret (pc := 35) hG rfl rfl hk.1 dX0_size_35⟩
  · replace h := zif_f hc h
    refine And.imp_right (fun kk => z_aload_n (pc := 31) hG 0 rfl rfl dX0_size_31 kk) ?_
    refine And.imp_right (fun kk => z_geti (pc := 32) hG zc_X0 inX0 DL_26 3 rfl (by decide) rfl w184 dX0_size_32 kk) ?_
    obtain rfl := Option.some.inj h
    exact ⟨hk.2, z_iret (pc := 35) hG rfl rfl hk.1 dX0_size_35⟩
noncomputable def jX10_needBox_15 (g : zS) : Option ((Unit ⊕ String) × zS) :=
  some ((.inr "java/util/NoSuchElementException", g))
noncomputable def nX10_needBox (a1 : Int32) (g : zS) : Option ((Unit ⊕ String) × zS) :=
  if a1 < 0 then (jX10_needBox_15 g) else ((nX0_size g).bind fun v1 => zchk (decide (g.2.2.2 ≤ v1.2.2.2.2)) (if a1 < v1.1 then (some ((.inl (), v1.2))) else (jX10_needBox_15 v1.2)))
set_option maxHeartbeats 60000 in
theorem kjX10_needBox_15 {x : zXx} (hG : zG x cX10_needBox 2 RX10 ((Option.none : Option Jvm.ClassFile.FieldType))) (hl0 : (zl0 x).flags = flags0) (C : Nat) (g : zS) {o : ((Unit ⊕ String) × zS)} (h : jX10_needBox_15 g = some o) (hk : (ztg x = (ztV o.1, zD, o.2) ∧ zgr o.2 C)) : zgr g C ∧ zK x 62 15 [] [] zD g (1 + (C / 64 - g.2.2.2 / 64)) (6 + 2 * (C - g.2.2.2)) := by
  unfold jX10_needBox_15 at h
  obtain rfl := Option.some.inj h
  exact ⟨hk.2, z_throw (pc := 15) hG (by decide) (by decide) w852 w25 hatRX10_145 hbdRX10_145 hgdRX10_145 (by decide) (Nat.le_of_ble_eq_true rfl) (by omega) (by omega) (Nat.le_of_ble_eq_true rfl) dX10_needBox_15 dX10_needBox_18 dX10_needBox_19 dX10_needBox_22 hk.1⟩
set_option maxHeartbeats 60000 in
theorem tX10_needBox {l : Launch} (hl0 : l.flags = flags0) (a1 : Int32) (g : zS) {r : ((Unit ⊕ String) × zS)} (h : nX10_needBox a1 g = some r) : zC l yX10_needBox cX10_needBox 2 ((Option.none : Option Jvm.ClassFile.FieldType)) 62 (1 + (r.2.2.2.2 / 64 - g.2.2.2 / 64)) (6 + 2 * (r.2.2.2.2 - g.2.2.2)) [.ref 0, .int a1] zD g (ztV r.1, zD, r.2) := by
  refine zC_of hl0 rfl (Nat.le_of_ble_eq_true rfl) (fun x hG hxl hk _ => ?_)
  subst hxl
  obtain ⟨C, hC0⟩ : ∃ C : Nat, C = r.2.2.2.2 := ⟨_, rfl⟩
  replace hk := And.intro hk (Nat.le_of_eq hC0.symm)
  rw [← hC0]
  suffices hp : zgr g C ∧ zK x 62 0 [(0, .ref 0), (1, .int a1)] [] zD g (1 + (C / 64 - g.2.2.2 / 64)) (6 + 2 * (C - g.2.2.2)) from hp.2
  unfold nX10_needBox at h
  refine And.imp_right (fun kk => z_iload_n (pc := 0) hG 1 rfl rfl dX10_needBox_0 kk) ?_
  refine zbr (c := a1 < 0) (fun hc => ?_) (fun hc => ?_) (fun k1 k2 => z_if_lt (pc := 1) (tgt := 15) hG dX10_needBox_1 rfl k1 k2)
  · replace h := zif_t hc h
    refine And.imp_right (fun kk => z_sub (ls' := []) [] rfl kk) ?_
    exact kjX10_needBox_15 hG hl0 C g h hk
  · replace h := zif_f hc h
    refine And.imp_right (fun kk => z_iload_n (pc := 4) hG 1 rfl rfl dX10_needBox_4 kk) ?_
    refine And.imp_right (fun kk => z_aload_n (pc := 5) hG 0 rfl rfl dX10_needBox_5 kk) ?_
    refine And.imp_right (fun kk => z_getr (pc := 6) hG zc_X10 inX10 DL_0 5 rfl (by decide) rfl w284 dX10_needBox_6 kk) ?_
    replace h := zbind h
    obtain ⟨v1, hv1, h⟩ := h
    replace h := zchk_some h
    obtain ⟨hm, h⟩ := h
    replace hm := of_decide_eq_true hm
    refine And.elim (fun hb kk => ⟨Nat.le_trans hm hb, z_cvI (pc := 9) (A' := 1 + (C / 64 - v1.2.2.2.2 / 64)) (B' := 6 + 2 * (C - v1.2.2.2.2)) (nc := 0 + (v1.2.2.2.2 / 64 - g.2.2.2 / 64)) (ns := 0 + 2 * (v1.2.2.2.2 - g.2.2.2)) hG [] [.int a1] zc_X0 DL_26 (tX0_size hl0  g hv1) zy_X0_size ⟨w344, w345⟩ w343 dX10_needBox_9 rfl (Nat.le_of_ble_eq_true rfl) (by have hm := hm; have hb : v1.2.2.2.2 ≤ C := hb; omega) (by have hm := hm; have hb : v1.2.2.2.2 ≤ C := hb; omega) rfl (Nat.le_of_ble_eq_true rfl) rfl kk⟩) ?_
    refine zbr (c := a1 < v1.1) (fun hc => ?_) (fun hc => ?_) (fun k1 k2 => z_icmp_lt (pc := 12) (tgt := 23) hG dX10_needBox_12 rfl k1 k2)
    · replace h := zif_t hc h
      obtain rfl := Option.some.inj h
      exact ⟨hk.2, z_vret (pc := 23) hG rfl hk.1 dX10_needBox_23⟩
    · replace h := zif_f hc h
      refine And.imp_right (fun kk => z_sub (ls' := []) [] rfl kk) ?_
      exact kjX10_needBox_15 hG hl0 C v1.2 h hk
noncomputable def nX10_from (a1 : Int32) (g : zS) : Option ((Int32 ⊕ String) × zS) :=
  (nX10_needBox a1 g).bind fun v1 => zel2 v1 (fun w1 g1 => zchk (decide (g.2.2.2 ≤ g1.2.2.2)) ((nX0_fewestEdits a1 g1).bind fun v2 => some ((.inl v2, g1)))) (fun e g1 => zchk (decide (g.2.2.2 ≤ g1.2.2.2)) (some ((.inr e, g1))))
set_option maxHeartbeats 60000 in
theorem tX10_from {l : Launch} (hl0 : l.flags = flags0) (a1 : Int32) (g : zS) {r : ((Int32 ⊕ String) × zS)} (h : nX10_from a1 g = some r) : zC l yX10_from cX10_from 2 ((Option.some Jvm.ClassFile.FieldType.int)) 63 (1 + (r.2.2.2.2 / 64 - g.2.2.2 / 64)) (6 + 2 * (r.2.2.2.2 - g.2.2.2)) [.ref 0, .int a1] zD g (ztI r.1, zD, r.2) := by
  refine zC_of hl0 rfl (Nat.le_of_ble_eq_true rfl) (fun x hG hxl hk _ => ?_)
  subst hxl
  obtain ⟨C, hC0⟩ : ∃ C : Nat, C = r.2.2.2.2 := ⟨_, rfl⟩
  replace hk := And.intro hk (Nat.le_of_eq hC0.symm)
  rw [← hC0]
  suffices hp : zgr g C ∧ zK x 63 0 [(0, .ref 0), (1, .int a1)] [] zD g (1 + (C / 64 - g.2.2.2 / 64)) (6 + 2 * (C - g.2.2.2)) from hp.2
  unfold nX10_from at h
  refine And.imp_right (fun kk => z_aload_n (pc := 0) hG 0 rfl rfl dX10_from_0 kk) ?_
  refine And.imp_right (fun kk => z_iload_n (pc := 1) hG 1 rfl rfl dX10_from_1 kk) ?_
  replace h := zbind h
  obtain ⟨⟨w1 | e, g1⟩, hv1, h⟩ := h
  rotate_left
  · replace h := zel2_r h
    replace h := zchk_some h
    obtain ⟨hm, h⟩ := h
    replace hm := of_decide_eq_true hm
    have hC := (tX10_needBox hl0 a1 g hv1)
    try dsimp only [ztV, ztI, ztJ] at hC
    obtain rfl := Option.some.inj h
    exact ⟨Nat.le_trans hm hk.2, z_cvX (pc := 2) (nc := 1 + (g1.2.2.2 / 64 - g.2.2.2 / 64)) (ns := 6 + 2 * (g1.2.2.2 - g.2.2.2)) hG [.int a1] [] zc_X10 DL_0 hC zy_X10_needBox ⟨w896, wp37⟩ w894 dX10_from_2 rfl (Nat.le_of_ble_eq_true rfl) (by have hm := hm; have hb : g1.2.2.2 ≤ C := hk.2; omega) (by have hm := hm; have hb : g1.2.2.2 ≤ C := hk.2; omega) (Nat.le_of_ble_eq_true rfl) rfl hk.1⟩
  replace h := zel2_l h
  replace h := zchk_some h
  obtain ⟨hm, h⟩ := h
  replace hm := of_decide_eq_true hm
  have hC := (tX10_needBox hl0 a1 g hv1)
  try dsimp only [ztV, ztI, ztJ] at hC
  refine And.elim (fun hb kk => ⟨Nat.le_trans hm hb, z_cvV (pc := 2) (A' := 0 + (C / 64 - g1.2.2.2 / 64)) (B' := 0 + 2 * (C - g1.2.2.2)) (nc := 1 + (g1.2.2.2 / 64 - g.2.2.2 / 64)) (ns := 6 + 2 * (g1.2.2.2 - g.2.2.2)) hG [.int a1] [] zc_X10 DL_0 hC zy_X10_needBox ⟨w896, wp37⟩ w894 dX10_from_2 rfl (Nat.le_of_ble_eq_true rfl) (by have hm := hm; have hb : g1.2.2.2 ≤ C := hb; omega) (by have hm := hm; have hb : g1.2.2.2 ≤ C := hb; omega) rfl (Nat.le_of_ble_eq_true rfl) rfl kk⟩) ?_
  refine And.imp_right (fun kk => z_aload_n (pc := 5) hG 0 rfl rfl dX10_from_5 kk) ?_
  refine And.imp_right (fun kk => z_getr (pc := 6) hG zc_X10 inX10 DL_0 5 rfl (by decide) rfl w284 dX10_from_6 kk) ?_
  refine And.imp_right (fun kk => z_iload_n (pc := 9) hG 1 rfl rfl dX10_from_9 kk) ?_
  replace h := zbind h
  obtain ⟨v2, hv2, h⟩ := h
  refine And.imp_right (fun kk => z_cvI (pc := 10) (A' := 0 + (C / 64 - g1.2.2.2 / 64)) (B' := 0 + 2 * (C - g1.2.2.2)) hG [.int a1] [] zc_X0 DL_26 (tX0_fewestEdits hl0 a1 g1 hv2) zy_X0_fewestEdits ⟨w899, w900⟩ w898 dX10_from_10 rfl (Nat.le_of_ble_eq_true rfl) (by omega) (by omega) rfl (Nat.le_of_ble_eq_true rfl) rfl kk) ?_
  obtain rfl := Option.some.inj h
  exact ⟨hk.2, z_iret (pc := 13) hG rfl rfl hk.1 dX10_from_13⟩
noncomputable def nX0_ownFrom (rc : Int32 → Int32 → Int32 → zS → Option Int32) (a1 : Int32) (a2 : Int32) (a3 : Int32) (g : zS) : Option Int32 :=
  if (g.1 3 0) ≤ a2 then ((nX0_isInOther a1 a3 g).bind fun v1 => if v1 = 0 then (some ((1 : Int32))) else (some ((0 : Int32)))) else ((rc a1 a2 a3 g).bind fun v2 => some (v2))
set_option maxHeartbeats 60000 in
theorem tX0_ownFrom {l : Launch} (hl0 : l.flags = flags0) (fq : Nat) (rc : Int32 → Int32 → Int32 → zS → Option Int32) (a1 : Int32) (a2 : Int32) (a3 : Int32) (hrc : ∀ (b0 b1 b2 : Int32) (g r), rc b0 b1 b2 g = some r → zC l yX0_ownBehind cX0_ownBehind 6 ((Option.some Jvm.ClassFile.FieldType.int)) fq (0) (0) [.ref 26, .int b0, .int b1, .int b2] zD g (.inl (some (.int r)), zD, g)) (g : zS) {r : Int32} (h : nX0_ownFrom rc a1 a2 a3 g = some r) : zC l yX0_ownFrom cX0_ownFrom 4 ((Option.some Jvm.ClassFile.FieldType.int)) (fq + 1) 0 0 [.ref 26, .int a1, .int a2, .int a3] zD g (.inl (some (.int r)), zD, g) := by
  refine zC_of hl0 rfl (Nat.le_of_ble_eq_true rfl) (fun x hG hxl hk _ => ?_)
  subst hxl
  show zK x (fq + 1) 0 [(0, .ref 26), (1, .int a1), (2, .int a2), (3, .int a3)] [] zD g 0 0
  unfold nX0_ownFrom at h
  refine z_iload_n (pc := 0) hG 2 rfl rfl dX0_ownFrom_0 ?_
  refine z_aload_n (pc := 1) hG 0 rfl rfl dX0_ownFrom_1 ?_
  refine z_getr (pc := 2) hG zc_X0 inX0 DL_26 0 rfl (by decide) rfl w181 dX0_ownFrom_2 ?_
  refine z_geti (pc := 5) hG zc_X6 inX6 DL_3 0 rfl (by decide) rfl w62 dX0_ownFrom_5 ?_
  refine z_icmp_ge (pc := 8) (tgt := 19) hG dX0_ownFrom_8 rfl (fun hc => ?_) (fun hc => ?_)
  · replace h := zif_t hc h
    refine z_aload_n (pc := 19) hG 0 rfl rfl dX0_ownFrom_19 ?_
    refine z_iload_n (pc := 20) hG 1 rfl rfl dX0_ownFrom_20 ?_
    refine z_iload_n (pc := 21) hG 3 rfl rfl dX0_ownFrom_21 ?_
    replace h := zbind h
    obtain ⟨v1, hv1, h⟩ := h
    refine z_cvI (pc := 22) (A' := 0) (B' := 0) hG [.int a1, .int a3] [] zc_X0 DL_26 (tX0_isInOther hl0 a1 a3 g hv1) zy_X0_isInOther ⟨w933, wp40⟩ w931 dX0_ownFrom_22 rfl (by omega) rfl rfl rfl (Nat.le_of_ble_eq_true rfl) rfl ?_
    refine z_if_eq (pc := 25) (tgt := 32) hG dX0_ownFrom_25 rfl (fun hc => ?_) (fun hc => ?_)
    · replace h := zif_t hc h
      refine z_iconst (pc := 32) hG kc_1 dX0_ownFrom_32 ?_
      obtain rfl := Option.some.inj h
      exact z_iret (pc := 33) hG rfl rfl hk dX0_ownFrom_33
    · replace h := zif_f hc h
      refine z_iconst (pc := 28) hG kc_0 dX0_ownFrom_28 ?_
      refine z_goto (pc := 29) (tgt := 33) hG dX0_ownFrom_29 rfl ?_
      obtain rfl := Option.some.inj h
      exact z_iret (pc := 33) hG rfl rfl hk dX0_ownFrom_33
  · replace h := zif_f hc h
    refine z_aload_n (pc := 11) hG 0 rfl rfl dX0_ownFrom_11 ?_
    refine z_iload_n (pc := 12) hG 1 rfl rfl dX0_ownFrom_12 ?_
    refine z_iload_n (pc := 13) hG 2 rfl rfl dX0_ownFrom_13 ?_
    refine z_iload_n (pc := 14) hG 3 rfl rfl dX0_ownFrom_14 ?_
    replace h := zbind h
    obtain ⟨v2, hv2, h⟩ := h
    refine z_cvI (pc := 15) (A' := 0) (B' := 0) hG [.int a1, .int a2, .int a3] [] zc_X0 DL_26 (hrc a1 a2 a3 g _ hv2) zy_X0_ownBehind ⟨w926, wp39⟩ w924 dX0_ownFrom_15 rfl (by omega) rfl rfl rfl (Nat.le_of_ble_eq_true rfl) rfl ?_
    obtain rfl := Option.some.inj h
    exact z_iret (pc := 18) hG rfl rfl hk dX0_ownFrom_18
noncomputable def wX0_ownBehind_6 (rc : Int32 → Int32 → Int32 → zS → Option Int32) (a1 : Int32) (a2 : Int32) (a3 : Int32) (g : zS) (s : (Int32 × Int32)) : Option ((Int32 × Int32) ⊕ Int32) :=
  zchk (zin a2 5) (if (g.1 4 a2.toNatClampNeg) ≤ s.2 then (zex (some (s.1))) else ((nX0_setOf a1 a2 g).bind fun v1 => if ((v1 >>> (s.2 &&& 31)) &&& (1 : Int32)) = 0 then (some (.inl (s.1, (s.2 + (1 : Int32))))) else ((nX0_bitOf a2 s.2).bind fun v2 => (rc a1 (a2 + (1 : Int32)) (a3 ||| v2) g).bind fun v3 => some (.inl ((s.1 + v3), (s.2 + (1 : Int32)))))))
noncomputable def nX0_ownBehind (rc : Int32 → Int32 → Int32 → zS → Option Int32) (a1 : Int32) (a2 : Int32) (a3 : Int32) (g : zS) : Option Int32 :=
  wh (wX0_ownBehind_6 rc a1 a2 a3 g) ((0 : Int32), (0 : Int32))
def qX0_ownBehind_6 (x : zXx) (rc : Int32 → Int32 → Int32 → zS → Option Int32) (fq : Nat) (a1 : Int32) (a2 : Int32) (a3 : Int32) (g : zS) (o : (Int32 × Int32) ⊕ Int32) : Prop := match o with
  | .inl s => zK x (fq + 1) 6 [(0, .ref 26), (1, .int a1), (2, .int a2), (3, .int a3), (4, .int s.1), (5, .int s.2)] [] zD g 0 0
  | .inr r => ztg x = (.inl (some (.int r)), zD, g)
set_option maxHeartbeats 60000 in
theorem kwX0_ownBehind_6 {x : zXx} (hG : zG x cX0_ownBehind 6 RX0 ((Option.some Jvm.ClassFile.FieldType.int))) (hl0 : (zl0 x).flags = flags0) (rc : Int32 → Int32 → Int32 → zS → Option Int32) (fq : Nat) (a1 : Int32) (a2 : Int32) (a3 : Int32) (g : zS) (hrc : ∀ (b0 b1 b2 : Int32) (g r), rc b0 b1 b2 g = some r → zC (zl0 x) yX0_ownFrom cX0_ownFrom 4 ((Option.some Jvm.ClassFile.FieldType.int)) fq (0) (0) [.ref 26, .int b0, .int b1, .int b2] zD g (.inl (some (.int r)), zD, g)) {o : Int32} (hk : ztg x = (.inl (some (.int o)), zD, g)) : ∀ s : (Int32 × Int32), wh (wX0_ownBehind_6 rc a1 a2 a3 g) s = some o → zK x (fq + 1) 6 [(0, .ref 26), (1, .int a1), (2, .int a2), (3, .int a3), (4, .int s.1), (5, .int s.2)] [] zD g 0 0 := by
  refine wh_ind (fun s : (Int32 × Int32) => zK x (fq + 1) 6 [(0, .ref 26), (1, .int a1), (2, .int a2), (3, .int a3), (4, .int s.1), (5, .int s.2)] [] zD g 0 0) (fun s o h hk2 => ?_)
  replace hk : qX0_ownBehind_6 x rc fq a1 a2 a3 g o := by
    cases o with
    | inl s => exact hk2
    | inr r => subst hk2; exact hk
  clear hk2
  unfold wX0_ownBehind_6 at h
  refine z_iload (pc := 6) hG 5 rfl dX0_ownBehind_6 ?_
  refine z_aload_n (pc := 8) hG 0 rfl rfl dX0_ownBehind_8 ?_
  refine z_getr (pc := 9) hG zc_X0 inX0 DL_26 0 rfl (by decide) rfl w181 dX0_ownBehind_9 ?_
  refine z_getr (pc := 12) hG zc_X6 inX6 DL_3 1 rfl (by decide) rfl w67 dX0_ownBehind_12 ?_
  refine z_iload_n (pc := 15) hG 2 rfl rfl dX0_ownBehind_15 ?_
  replace h := zchk_some h
  obtain ⟨hc, h⟩ := h
  refine z_iald (pc := 16) hG DL_4 (zin_in hc) dX0_ownBehind_16 ?_
  refine z_icmp_ge (pc := 17) (tgt := 61) hG dX0_ownBehind_17 rfl (fun hc => ?_) (fun hc => ?_)
  · replace h := zif_t hc h
    replace h := zex_some h
    obtain ⟨o, h, rfl⟩ := h
    refine z_iload (pc := 61) hG 4 rfl dX0_ownBehind_61 ?_
    obtain rfl := Option.some.inj h
    exact z_iret (pc := 63) hG rfl rfl hk dX0_ownBehind_63
  · replace h := zif_f hc h
    refine z_aload_n (pc := 20) hG 0 rfl rfl dX0_ownBehind_20 ?_
    refine z_iload_n (pc := 21) hG 1 rfl rfl dX0_ownBehind_21 ?_
    refine z_iload_n (pc := 22) hG 2 rfl rfl dX0_ownBehind_22 ?_
    replace h := zbind h
    obtain ⟨v1, hv1, h⟩ := h
    refine z_cvI (pc := 23) (A' := 0) (B' := 0) hG [.int a1, .int a2] [] zc_X0 DL_26 (tX0_setOf hl0 a1 a2 g hv1) zy_X0_setOf ⟨w903, w904⟩ w902 dX0_ownBehind_23 rfl (by omega) rfl rfl rfl (Nat.le_of_ble_eq_true rfl) rfl ?_
    refine z_iload (pc := 26) hG 5 rfl dX0_ownBehind_26 ?_
    refine z_ishr (pc := 28) hG dX0_ownBehind_28 ?_
    refine z_iconst (pc := 29) hG kc_1 dX0_ownBehind_29 ?_
    refine z_iand (pc := 30) hG dX0_ownBehind_30 ?_
    refine z_if_eq (pc := 31) (tgt := 55) hG dX0_ownBehind_31 rfl (fun hc => ?_) (fun hc => ?_)
    · replace h := zif_t hc h
      refine z_iinc (pc := 55) (ls' := [(5, .int (s.2 + (1 : Int32))), (0, .ref 26), (1, .int a1), (2, .int a2), (3, .int a3), (4, .int s.1)]) hG 5 rfl [0, 1, 2, 3, 4, 5] (ki_1 _) (by decide) rfl dX0_ownBehind_55 ?_
      refine z_goto (pc := 58) (tgt := 6) hG dX0_ownBehind_58 rfl ?_
      obtain rfl := Option.some.inj h
      refine z_sub (ls' := [(0, .ref 26), (1, .int a1), (2, .int a2), (3, .int a3), (4, .int s.1), (5, .int (s.2 + (1 : Int32)))]) [1, 2, 3, 4, 5, 0] rfl ?_
      exact hk
    · replace h := zif_f hc h
      refine z_iload (pc := 34) hG 4 rfl dX0_ownBehind_34 ?_
      refine z_aload_n (pc := 36) hG 0 rfl rfl dX0_ownBehind_36 ?_
      refine z_iload_n (pc := 37) hG 1 rfl rfl dX0_ownBehind_37 ?_
      refine z_iload_n (pc := 38) hG 2 rfl rfl dX0_ownBehind_38 ?_
      refine z_iconst (pc := 39) hG kc_1 dX0_ownBehind_39 ?_
      refine z_iadd (pc := 40) hG dX0_ownBehind_40 ?_
      refine z_iload_n (pc := 41) hG 3 rfl rfl dX0_ownBehind_41 ?_
      refine z_iload_n (pc := 42) hG 2 rfl rfl dX0_ownBehind_42 ?_
      refine z_iload (pc := 43) hG 5 rfl dX0_ownBehind_43 ?_
      replace h := zbind h
      obtain ⟨v2, hv2, h⟩ := h
      refine z_csI (pc := 45) (A' := 0) (B' := 0) hG [.int a2, .int s.2] [.int a3, .int (a2 + (1 : Int32)), .int a1, .ref 26, .int s.1] (tX0_bitOf hl0 a2 s.2 g hv2) zy_X0_bitOf w929 w928 dX0_ownBehind_45 rfl (by omega) rfl rfl rfl (Nat.le_of_ble_eq_true rfl) rfl ?_
      refine z_ior (pc := 48) hG dX0_ownBehind_48 ?_
      replace h := zbind h
      obtain ⟨v3, hv3, h⟩ := h
      refine z_cvI (pc := 49) (A' := 0) (B' := 0) hG [.int a1, .int (a2 + (1 : Int32)), .int (a3 ||| v2)] [.int s.1] zc_X0 DL_26 (hrc a1 (a2 + (1 : Int32)) (a3 ||| v2) g _ hv3) zy_X0_ownFrom ⟨w922, wp38⟩ w920 dX0_ownBehind_49 rfl (by omega) rfl rfl rfl (Nat.le_of_ble_eq_true rfl) rfl ?_
      refine z_iadd (pc := 52) hG dX0_ownBehind_52 ?_
      refine z_istore (pc := 53) (ls' := [(4, .int (s.1 + v3)), (0, .ref 26), (1, .int a1), (2, .int a2), (3, .int a3), (5, .int s.2)]) hG [0, 1, 2, 3, 4, 5] (by decide) rfl dX0_ownBehind_53 ?_
      refine z_iinc (pc := 55) (ls' := [(5, .int (s.2 + (1 : Int32))), (4, .int (s.1 + v3)), (0, .ref 26), (1, .int a1), (2, .int a2), (3, .int a3)]) hG 5 rfl [0, 1, 2, 3, 4, 5] (ki_1 _) (by decide) rfl dX0_ownBehind_55 ?_
      refine z_goto (pc := 58) (tgt := 6) hG dX0_ownBehind_58 rfl ?_
      obtain rfl := Option.some.inj h
      refine z_sub (ls' := [(0, .ref 26), (1, .int a1), (2, .int a2), (3, .int a3), (4, .int (s.1 + v3)), (5, .int (s.2 + (1 : Int32)))]) [2, 3, 4, 5, 1, 0] rfl ?_
      exact hk
set_option maxHeartbeats 60000 in
theorem tX0_ownBehind {l : Launch} (hl0 : l.flags = flags0) (fq : Nat) (rc : Int32 → Int32 → Int32 → zS → Option Int32) (a1 : Int32) (a2 : Int32) (a3 : Int32) (hrc : ∀ (b0 b1 b2 : Int32) (g r), rc b0 b1 b2 g = some r → zC l yX0_ownFrom cX0_ownFrom 4 ((Option.some Jvm.ClassFile.FieldType.int)) fq (0) (0) [.ref 26, .int b0, .int b1, .int b2] zD g (.inl (some (.int r)), zD, g)) (g : zS) {r : Int32} (h : nX0_ownBehind rc a1 a2 a3 g = some r) : zC l yX0_ownBehind cX0_ownBehind 6 ((Option.some Jvm.ClassFile.FieldType.int)) (fq + 1) 0 0 [.ref 26, .int a1, .int a2, .int a3] zD g (.inl (some (.int r)), zD, g) := by
  refine zC_of hl0 rfl (Nat.le_of_ble_eq_true rfl) (fun x hG hxl hk _ => ?_)
  subst hxl
  show zK x (fq + 1) 0 [(0, .ref 26), (1, .int a1), (2, .int a2), (3, .int a3)] [] zD g 0 0
  unfold nX0_ownBehind at h
  refine z_iconst (pc := 0) hG kc_0 dX0_ownBehind_0 ?_
  refine z_istore (pc := 1) (ls' := [(4, .int (0 : Int32)), (0, .ref 26), (1, .int a1), (2, .int a2), (3, .int a3)]) hG [0, 1, 2, 3, 4] (by decide) rfl dX0_ownBehind_1 ?_
  refine z_iconst (pc := 3) hG kc_0 dX0_ownBehind_3 ?_
  refine z_istore (pc := 4) (ls' := [(5, .int (0 : Int32)), (4, .int (0 : Int32)), (0, .ref 26), (1, .int a1), (2, .int a2), (3, .int a3)]) hG [0, 1, 2, 3, 4, 5] (by decide) rfl dX0_ownBehind_4 ?_
  refine z_sub (ls' := [(0, .ref 26), (1, .int a1), (2, .int a2), (3, .int a3), (4, .int (0 : Int32)), (5, .int (0 : Int32))]) [2, 3, 4, 5, 1, 0] rfl ?_
  exact kwX0_ownBehind_6 hG hl0 rc fq a1 a2 a3 g hrc hk ((0 : Int32), (0 : Int32)) h
noncomputable def rOwn : Nat → Int32 → Int32 → Int32 → zS → Option Int32
  | 0 => fun _ _ _ _ => none
  | n + 1 => nX0_ownFrom (nX0_ownBehind (rOwn n))
theorem t_rOwn {l : Launch} (hl0 : l.flags = flags0) : ∀ (n : Nat) (b0 b1 b2 : Int32) (g : zS) (r), rOwn n b0 b1 b2 g = some r → zC l yX0_ownFrom cX0_ownFrom 4 ((Option.some Jvm.ClassFile.FieldType.int)) (2 * n) (0) (0) [.ref 26, .int b0, .int b1, .int b2] zD g (.inl (some (.int r)), zD, g) := by
  intro n
  induction n with
  | zero => intro b0 b1 b2 g r h; cases h
  | succ n ih =>
    intro b0 b1 b2 g r h
    have h1 := tX0_ownFrom hl0 (2 * n + 1) (nX0_ownBehind (rOwn n)) b0 b1 b2 (fun b0 b1 b2 g r h => tX0_ownBehind hl0 (2 * n) (rOwn n) b0 b1 b2 ih g h) g h
    have e : 2 * (n + 1) = 2 * n + 1 + 1 := by omega
    rw [e]
    exact h1
noncomputable def nX0_ownForms (a1 : Int32) (g : zS) : Option Int32 :=
  (rOwn 12 a1 (0 : Int32) (0 : Int32) g).bind fun v1 => some (v1)
set_option maxHeartbeats 60000 in
theorem tX0_ownForms {l : Launch} (hl0 : l.flags = flags0) (a1 : Int32) (g : zS) {r : Int32} (h : nX0_ownForms a1 g = some r) : zC l yX0_ownForms cX0_ownForms 2 ((Option.some Jvm.ClassFile.FieldType.int)) 25 0 0 [.ref 26, .int a1] zD g (.inl (some (.int r)), zD, g) := by
  refine zC_of hl0 rfl (Nat.le_of_ble_eq_true rfl) (fun x hG hxl hk _ => ?_)
  subst hxl
  show zK x 25 0 [(0, .ref 26), (1, .int a1)] [] zD g 0 0
  unfold nX0_ownForms at h
  refine z_aload_n (pc := 0) hG 0 rfl rfl dX0_ownForms_0 ?_
  refine z_iload_n (pc := 1) hG 1 rfl rfl dX0_ownForms_1 ?_
  refine z_iconst (pc := 2) hG kc_0 dX0_ownForms_2 ?_
  refine z_iconst (pc := 3) hG kc_0 dX0_ownForms_3 ?_
  replace h := zbind h
  obtain ⟨v1, hv1, h⟩ := h
  refine z_cvI (pc := 4) (A' := 0) (B' := 0) hG [.int a1, .int (0 : Int32), .int (0 : Int32)] [] zc_X0 DL_26 (t_rOwn hl0 12 a1 (0 : Int32) (0 : Int32) g _ hv1) zy_X0_ownFrom ⟨w922, wp38⟩ w920 dX0_ownForms_4 rfl (Nat.le_of_ble_eq_true rfl) rfl rfl rfl (Nat.le_of_ble_eq_true rfl) rfl ?_
  obtain rfl := Option.some.inj h
  exact z_iret (pc := 7) hG rfl rfl hk dX0_ownForms_7
noncomputable def nX10_cover (a1 : Int32) (a2 : Int32) (g : zS) : Option ((Int32 ⊕ String) × zS) :=
  (nX10_needBox a1 g).bind fun v1 => zel2 v1 (fun w1 g1 => zchk (decide (g.2.2.2 ≤ g1.2.2.2)) (if a2 = 0 then ((nX0_allForms a1 g1).bind fun v2 => some ((.inl v2, g1))) else ((nX0_ownForms a1 g1).bind fun v3 => some ((.inl v3, g1))))) (fun e g1 => zchk (decide (g.2.2.2 ≤ g1.2.2.2)) (some ((.inr e, g1))))
set_option maxHeartbeats 60000 in
theorem tX10_cover {l : Launch} (hl0 : l.flags = flags0) (a1 : Int32) (a2 : Int32) (g : zS) {r : ((Int32 ⊕ String) × zS)} (h : nX10_cover a1 a2 g = some r) : zC l yX10_cover cX10_cover 3 ((Option.some Jvm.ClassFile.FieldType.int)) 63 (1 + (r.2.2.2.2 / 64 - g.2.2.2 / 64)) (6 + 2 * (r.2.2.2.2 - g.2.2.2)) [.ref 0, .int a1, .int a2] zD g (ztI r.1, zD, r.2) := by
  refine zC_of hl0 rfl (Nat.le_of_ble_eq_true rfl) (fun x hG hxl hk _ => ?_)
  subst hxl
  obtain ⟨C, hC0⟩ : ∃ C : Nat, C = r.2.2.2.2 := ⟨_, rfl⟩
  replace hk := And.intro hk (Nat.le_of_eq hC0.symm)
  rw [← hC0]
  suffices hp : zgr g C ∧ zK x 63 0 [(0, .ref 0), (1, .int a1), (2, .int a2)] [] zD g (1 + (C / 64 - g.2.2.2 / 64)) (6 + 2 * (C - g.2.2.2)) from hp.2
  unfold nX10_cover at h
  refine And.imp_right (fun kk => z_aload_n (pc := 0) hG 0 rfl rfl dX10_cover_0 kk) ?_
  refine And.imp_right (fun kk => z_iload_n (pc := 1) hG 1 rfl rfl dX10_cover_1 kk) ?_
  replace h := zbind h
  obtain ⟨⟨w1 | e, g1⟩, hv1, h⟩ := h
  rotate_left
  · replace h := zel2_r h
    replace h := zchk_some h
    obtain ⟨hm, h⟩ := h
    replace hm := of_decide_eq_true hm
    have hC := (tX10_needBox hl0 a1 g hv1)
    try dsimp only [ztV, ztI, ztJ] at hC
    obtain rfl := Option.some.inj h
    exact ⟨Nat.le_trans hm hk.2, z_cvX (pc := 2) (nc := 1 + (g1.2.2.2 / 64 - g.2.2.2 / 64)) (ns := 6 + 2 * (g1.2.2.2 - g.2.2.2)) hG [.int a1] [] zc_X10 DL_0 hC zy_X10_needBox ⟨w896, wp37⟩ w894 dX10_cover_2 rfl (Nat.le_of_ble_eq_true rfl) (by have hm := hm; have hb : g1.2.2.2 ≤ C := hk.2; omega) (by have hm := hm; have hb : g1.2.2.2 ≤ C := hk.2; omega) (Nat.le_of_ble_eq_true rfl) rfl hk.1⟩
  replace h := zel2_l h
  replace h := zchk_some h
  obtain ⟨hm, h⟩ := h
  replace hm := of_decide_eq_true hm
  have hC := (tX10_needBox hl0 a1 g hv1)
  try dsimp only [ztV, ztI, ztJ] at hC
  refine And.elim (fun hb kk => ⟨Nat.le_trans hm hb, z_cvV (pc := 2) (A' := 0 + (C / 64 - g1.2.2.2 / 64)) (B' := 0 + 2 * (C - g1.2.2.2)) (nc := 1 + (g1.2.2.2 / 64 - g.2.2.2 / 64)) (ns := 6 + 2 * (g1.2.2.2 - g.2.2.2)) hG [.int a1] [] zc_X10 DL_0 hC zy_X10_needBox ⟨w896, wp37⟩ w894 dX10_cover_2 rfl (Nat.le_of_ble_eq_true rfl) (by have hm := hm; have hb : g1.2.2.2 ≤ C := hb; omega) (by have hm := hm; have hb : g1.2.2.2 ≤ C := hb; omega) rfl (Nat.le_of_ble_eq_true rfl) rfl kk⟩) ?_
  refine And.imp_right (fun kk => z_iload_n (pc := 5) hG 2 rfl rfl dX10_cover_5 kk) ?_
  refine zbr (c := a2 = 0) (fun hc => ?_) (fun hc => ?_) (fun k1 k2 => z_if_eq (pc := 6) (tgt := 20) hG dX10_cover_6 rfl k1 k2)
  · replace h := zif_t hc h
    refine And.imp_right (fun kk => z_aload_n (pc := 20) hG 0 rfl rfl dX10_cover_20 kk) ?_
    refine And.imp_right (fun kk => z_getr (pc := 21) hG zc_X10 inX10 DL_0 5 rfl (by decide) rfl w284 dX10_cover_21 kk) ?_
    refine And.imp_right (fun kk => z_iload_n (pc := 24) hG 1 rfl rfl dX10_cover_24 kk) ?_
    replace h := zbind h
    obtain ⟨v2, hv2, h⟩ := h
    refine And.imp_right (fun kk => z_cvI (pc := 25) (A' := 0 + (C / 64 - g1.2.2.2 / 64)) (B' := 0 + 2 * (C - g1.2.2.2)) hG [.int a1] [] zc_X0 DL_26 (tX0_allForms hl0 a1 g1 hv2) zy_X0_allForms ⟨w936, w937⟩ w935 dX10_cover_25 rfl (Nat.le_of_ble_eq_true rfl) (by omega) (by omega) rfl (Nat.le_of_ble_eq_true rfl) rfl kk) ?_
    obtain rfl := Option.some.inj h
    exact ⟨hk.2, z_iret (pc := 28) hG rfl rfl hk.1 dX10_cover_28⟩
  · replace h := zif_f hc h
    refine And.imp_right (fun kk => z_aload_n (pc := 9) hG 0 rfl rfl dX10_cover_9 kk) ?_
    refine And.imp_right (fun kk => z_getr (pc := 10) hG zc_X10 inX10 DL_0 5 rfl (by decide) rfl w284 dX10_cover_10 kk) ?_
    refine And.imp_right (fun kk => z_iload_n (pc := 13) hG 1 rfl rfl dX10_cover_13 kk) ?_
    replace h := zbind h
    obtain ⟨v3, hv3, h⟩ := h
    refine And.imp_right (fun kk => z_cvI (pc := 14) (A' := 0 + (C / 64 - g1.2.2.2 / 64)) (B' := 0 + 2 * (C - g1.2.2.2)) hG [.int a1] [] zc_X0 DL_26 (tX0_ownForms hl0 a1 g1 hv3) zy_X0_ownForms ⟨w917, w918⟩ w916 dX10_cover_14 rfl (Nat.le_of_ble_eq_true rfl) (by omega) (by omega) rfl (Nat.le_of_ble_eq_true rfl) rfl kk) ?_
    refine And.imp_right (fun kk => z_goto (pc := 17) (tgt := 28) hG dX10_cover_17 rfl kk) ?_
    obtain rfl := Option.some.inj h
    exact ⟨hk.2, z_iret (pc := 28) hG rfl rfl hk.1 dX10_cover_28⟩
noncomputable def nX10_boxes (g : zS) : Option (Int32 × zS) :=
  (nX0_size g).bind fun v1 => zchk (decide (g.2.2.2 ≤ v1.2.2.2.2)) (some ((v1.1, v1.2)))
set_option maxHeartbeats 60000 in
theorem tX10_boxes {l : Launch} (hl0 : l.flags = flags0) (g : zS) {r : (Int32 × zS)} (h : nX10_boxes g = some r) : zC l yX10_boxes cX10_boxes 1 ((Option.some Jvm.ClassFile.FieldType.int)) 62 (0 + (r.2.2.2.2 / 64 - g.2.2.2 / 64)) (0 + 2 * (r.2.2.2.2 - g.2.2.2)) [.ref 0] zD g (.inl (some (.int r.1)), zD, r.2) := by
  refine zC_of hl0 rfl (Nat.le_of_ble_eq_true rfl) (fun x hG hxl hk _ => ?_)
  subst hxl
  obtain ⟨C, hC0⟩ : ∃ C : Nat, C = r.2.2.2.2 := ⟨_, rfl⟩
  replace hk := And.intro hk (Nat.le_of_eq hC0.symm)
  rw [← hC0]
  suffices hp : zgr g C ∧ zK x 62 0 [(0, .ref 0)] [] zD g (0 + (C / 64 - g.2.2.2 / 64)) (0 + 2 * (C - g.2.2.2)) from hp.2
  unfold nX10_boxes at h
  refine And.imp_right (fun kk => z_aload_n (pc := 0) hG 0 rfl rfl dX10_boxes_0 kk) ?_
  refine And.imp_right (fun kk => z_getr (pc := 1) hG zc_X10 inX10 DL_0 5 rfl (by decide) rfl w284 dX10_boxes_1 kk) ?_
  replace h := zbind h
  obtain ⟨v1, hv1, h⟩ := h
  replace h := zchk_some h
  obtain ⟨hm, h⟩ := h
  replace hm := of_decide_eq_true hm
  refine And.elim (fun hb kk => ⟨Nat.le_trans hm hb, z_cvI (pc := 4) (A' := 0 + (C / 64 - v1.2.2.2.2 / 64)) (B' := 0 + 2 * (C - v1.2.2.2.2)) (nc := 0 + (v1.2.2.2.2 / 64 - g.2.2.2 / 64)) (ns := 0 + 2 * (v1.2.2.2.2 - g.2.2.2)) hG [] [] zc_X0 DL_26 (tX0_size hl0  g hv1) zy_X0_size ⟨w344, w345⟩ w343 dX10_boxes_4 rfl (Nat.le_of_ble_eq_true rfl) (by have hm := hm; have hb : v1.2.2.2.2 ≤ C := hb; omega) (by have hm := hm; have hb : v1.2.2.2.2 ≤ C := hb; omega) rfl (Nat.le_of_ble_eq_true rfl) rfl kk⟩) ?_
  obtain rfl := Option.some.inj h
  exact ⟨hk.2, z_iret (pc := 7) hG rfl rfl hk.1 dX10_boxes_7⟩
noncomputable def nX10_box (a1 : Int32) (a2 : Int32) (g : zS) : Option ((Int32 ⊕ String) × zS) :=
  (nX10_needBox a1 g).bind fun v1 => zel2 v1 (fun w1 g1 => zchk (decide (g.2.2.2 ≤ g1.2.2.2)) (if a2 = (-1 : Int32) then ((nX0_entering a1 g1).bind fun v4 => some ((.inl v4, g1))) else ((nX10_needField a2 g1).bind fun v2 => zel v2 (fun w2 => (nX0_setOf a1 a2 g1).bind fun v3 => some ((.inl v3, g1))) (fun e => some ((.inr e, g1)))))) (fun e g1 => zchk (decide (g.2.2.2 ≤ g1.2.2.2)) (some ((.inr e, g1))))
set_option maxHeartbeats 60000 in
theorem tX10_box {l : Launch} (hl0 : l.flags = flags0) (a1 : Int32) (a2 : Int32) (g : zS) {r : ((Int32 ⊕ String) × zS)} (h : nX10_box a1 a2 g = some r) : zC l yX10_box cX10_box 3 ((Option.some Jvm.ClassFile.FieldType.int)) 63 (2 + (r.2.2.2.2 / 64 - g.2.2.2 / 64)) (12 + 2 * (r.2.2.2.2 - g.2.2.2)) [.ref 0, .int a1, .int a2] zD g (ztI r.1, zD, r.2) := by
  refine zC_of hl0 rfl (Nat.le_of_ble_eq_true rfl) (fun x hG hxl hk _ => ?_)
  subst hxl
  obtain ⟨C, hC0⟩ : ∃ C : Nat, C = r.2.2.2.2 := ⟨_, rfl⟩
  replace hk := And.intro hk (Nat.le_of_eq hC0.symm)
  rw [← hC0]
  suffices hp : zgr g C ∧ zK x 63 0 [(0, .ref 0), (1, .int a1), (2, .int a2)] [] zD g (2 + (C / 64 - g.2.2.2 / 64)) (12 + 2 * (C - g.2.2.2)) from hp.2
  unfold nX10_box at h
  refine And.imp_right (fun kk => z_aload_n (pc := 0) hG 0 rfl rfl dX10_box_0 kk) ?_
  refine And.imp_right (fun kk => z_iload_n (pc := 1) hG 1 rfl rfl dX10_box_1 kk) ?_
  replace h := zbind h
  obtain ⟨⟨w1 | e, g1⟩, hv1, h⟩ := h
  rotate_left
  · replace h := zel2_r h
    replace h := zchk_some h
    obtain ⟨hm, h⟩ := h
    replace hm := of_decide_eq_true hm
    have hC := (tX10_needBox hl0 a1 g hv1)
    try dsimp only [ztV, ztI, ztJ] at hC
    obtain rfl := Option.some.inj h
    exact ⟨Nat.le_trans hm hk.2, z_cvX (pc := 2) (nc := 1 + (g1.2.2.2 / 64 - g.2.2.2 / 64)) (ns := 6 + 2 * (g1.2.2.2 - g.2.2.2)) hG [.int a1] [] zc_X10 DL_0 hC zy_X10_needBox ⟨w896, wp37⟩ w894 dX10_box_2 rfl (Nat.le_of_ble_eq_true rfl) (by have hm := hm; have hb : g1.2.2.2 ≤ C := hk.2; omega) (by have hm := hm; have hb : g1.2.2.2 ≤ C := hk.2; omega) (Nat.le_of_ble_eq_true rfl) rfl hk.1⟩
  replace h := zel2_l h
  replace h := zchk_some h
  obtain ⟨hm, h⟩ := h
  replace hm := of_decide_eq_true hm
  have hC := (tX10_needBox hl0 a1 g hv1)
  try dsimp only [ztV, ztI, ztJ] at hC
  refine And.elim (fun hb kk => ⟨Nat.le_trans hm hb, z_cvV (pc := 2) (A' := 1 + (C / 64 - g1.2.2.2 / 64)) (B' := 6 + 2 * (C - g1.2.2.2)) (nc := 1 + (g1.2.2.2 / 64 - g.2.2.2 / 64)) (ns := 6 + 2 * (g1.2.2.2 - g.2.2.2)) hG [.int a1] [] zc_X10 DL_0 hC zy_X10_needBox ⟨w896, wp37⟩ w894 dX10_box_2 rfl (Nat.le_of_ble_eq_true rfl) (by have hm := hm; have hb : g1.2.2.2 ≤ C := hb; omega) (by have hm := hm; have hb : g1.2.2.2 ≤ C := hb; omega) rfl (Nat.le_of_ble_eq_true rfl) rfl kk⟩) ?_
  refine And.imp_right (fun kk => z_iload_n (pc := 5) hG 2 rfl rfl dX10_box_5 kk) ?_
  refine And.imp_right (fun kk => z_iconst (pc := 6) hG kc_m1 dX10_box_6 kk) ?_
  refine zbr (c := a2 = (-1 : Int32)) (fun hc => ?_) (fun hc => ?_) (fun k1 k2 => z_icmp_ne (pc := 7) (tgt := 19) hG dX10_box_7 rfl k2 k1)
  · replace h := zif_t hc h
    refine And.imp_right (fun kk => z_aload_n (pc := 10) hG 0 rfl rfl dX10_box_10 kk) ?_
    refine And.imp_right (fun kk => z_getr (pc := 11) hG zc_X10 inX10 DL_0 5 rfl (by decide) rfl w284 dX10_box_11 kk) ?_
    refine And.imp_right (fun kk => z_iload_n (pc := 14) hG 1 rfl rfl dX10_box_14 kk) ?_
    replace h := zbind h
    obtain ⟨v4, hv4, h⟩ := h
    refine And.imp_right (fun kk => z_cvI (pc := 15) (A' := 1 + (C / 64 - g1.2.2.2 / 64)) (B' := 6 + 2 * (C - g1.2.2.2)) hG [.int a1] [] zc_X0 DL_26 (tX0_entering hl0 a1 g1 hv4) zy_X0_entering ⟨w958, w959⟩ w957 dX10_box_15 rfl (Nat.le_of_ble_eq_true rfl) (by omega) (by omega) rfl (Nat.le_of_ble_eq_true rfl) rfl kk) ?_
    obtain rfl := Option.some.inj h
    exact ⟨hk.2, z_iret (pc := 18) hG rfl rfl hk.1 dX10_box_18⟩
  · replace h := zif_f hc h
    refine And.imp_right (fun kk => z_aload_n (pc := 19) hG 0 rfl rfl dX10_box_19 kk) ?_
    refine And.imp_right (fun kk => z_iload_n (pc := 20) hG 2 rfl rfl dX10_box_20 kk) ?_
    replace h := zbind h
    obtain ⟨w2 | e, hv2, h⟩ := h
    rotate_left
    · replace h := zel_r h
      obtain rfl := Option.some.inj h
      exact ⟨hk.2, z_cvX (pc := 21) hG [.int a2] [] zc_X10 DL_0 (tX10_needField hl0 a2 g1 hv2) zy_X10_needField ⟨w835, wp35⟩ w833 dX10_box_21 rfl (Nat.le_of_ble_eq_true rfl) (by omega) (by omega) (Nat.le_of_ble_eq_true rfl) rfl hk.1⟩
    replace h := zel_l h
    refine And.imp_right (fun kk => z_cvV (pc := 21) (A' := 0 + (C / 64 - g1.2.2.2 / 64)) (B' := 0 + 2 * (C - g1.2.2.2)) hG [.int a2] [] zc_X10 DL_0 (tX10_needField hl0 a2 g1 hv2) zy_X10_needField ⟨w835, wp35⟩ w833 dX10_box_21 rfl (Nat.le_of_ble_eq_true rfl) (by omega) (by omega) rfl (Nat.le_of_ble_eq_true rfl) rfl kk) ?_
    refine And.imp_right (fun kk => z_aload_n (pc := 24) hG 0 rfl rfl dX10_box_24 kk) ?_
    refine And.imp_right (fun kk => z_getr (pc := 25) hG zc_X10 inX10 DL_0 5 rfl (by decide) rfl w284 dX10_box_25 kk) ?_
    refine And.imp_right (fun kk => z_iload_n (pc := 28) hG 1 rfl rfl dX10_box_28 kk) ?_
    refine And.imp_right (fun kk => z_iload_n (pc := 29) hG 2 rfl rfl dX10_box_29 kk) ?_
    replace h := zbind h
    obtain ⟨v3, hv3, h⟩ := h
    refine And.imp_right (fun kk => z_cvI (pc := 30) (A' := 0 + (C / 64 - g1.2.2.2 / 64)) (B' := 0 + 2 * (C - g1.2.2.2)) hG [.int a1, .int a2] [] zc_X0 DL_26 (tX0_setOf hl0 a1 a2 g1 hv3) zy_X0_setOf ⟨w903, w904⟩ w962 dX10_box_30 rfl (Nat.le_of_ble_eq_true rfl) (by omega) (by omega) rfl (Nat.le_of_ble_eq_true rfl) rfl kk) ?_
    obtain rfl := Option.some.inj h
    exact ⟨hk.2, z_iret (pc := 33) hG rfl rfl hk.1 dX10_box_33⟩
noncomputable def wX0_holding_12 (a2 : Int32) (a3 : Int32) (s : (Int32 × Int32 × zS)) : Option ((Int32 × Int32 × zS) ⊕ (Int32 × zS)) :=
  (nX0_size s.2.2).bind fun v2 => zchk (decide (s.2.2.2.2.2 ≤ v2.2.2.2.2)) (if v2.1 ≤ s.2.1 then (zex (some (((-1 : Int32), v2.2)))) else (zchk (zin s.2.1 v2.2.2.2.2) (if (a3 &&& ((v2.2.1 27 s.2.1.toNatClampNeg) ^^^ (-1 : Int32))) = 0 then (if s.1 = a2 then (zex (some ((s.2.1, v2.2)))) else (some (.inl ((s.1 + (1 : Int32)), (s.2.1 + (1 : Int32)), v2.2)))) else (some (.inl (s.1, (s.2.1 + (1 : Int32)), v2.2))))))
noncomputable def nX0_holding (a1 : Int32) (a2 : Int32) (g : zS) : Option (Int32 × zS) :=
  (nX0_formOf a1 g).bind fun v1 => wh (wX0_holding_12 a2 v1) ((0 : Int32), (0 : Int32), g)
def qX0_holding_12 (x : zXx) (C : Nat) (a2 : Int32) (a3 : Int32) (o : (Int32 × Int32 × zS) ⊕ (Int32 × zS)) : Prop := match o with
  | .inl s => zgr s.2.2 C ∧ zK x 62 12 [(0, .ref 26), (2, .int a2), (3, .int a3), (4, .int s.1), (5, .int s.2.1)] [] zD s.2.2 (0 + (C / 64 - s.2.2.2.2.2 / 64)) (0 + 2 * (C - s.2.2.2.2.2))
  | .inr r => (ztg x = (.inl (some (.int r.1)), zD, r.2) ∧ zgr r.2 C)
set_option maxHeartbeats 60000 in
theorem kwX0_holding_12 {x : zXx} (hG : zG x cX0_holding 6 RX0 ((Option.some Jvm.ClassFile.FieldType.int))) (hl0 : (zl0 x).flags = flags0) (C : Nat) (a2 : Int32) (a3 : Int32) {o : (Int32 × zS)} (hk : (ztg x = (.inl (some (.int o.1)), zD, o.2) ∧ zgr o.2 C)) : ∀ s : (Int32 × Int32 × zS), wh (wX0_holding_12 a2 a3) s = some o → zgr s.2.2 C ∧ zK x 62 12 [(0, .ref 26), (2, .int a2), (3, .int a3), (4, .int s.1), (5, .int s.2.1)] [] zD s.2.2 (0 + (C / 64 - s.2.2.2.2.2 / 64)) (0 + 2 * (C - s.2.2.2.2.2)) := by
  refine wh_ind (fun s : (Int32 × Int32 × zS) => zgr s.2.2 C ∧ zK x 62 12 [(0, .ref 26), (2, .int a2), (3, .int a3), (4, .int s.1), (5, .int s.2.1)] [] zD s.2.2 (0 + (C / 64 - s.2.2.2.2.2 / 64)) (0 + 2 * (C - s.2.2.2.2.2))) (fun s o h hk2 => ?_)
  replace hk : qX0_holding_12 x C a2 a3 o := by
    cases o with
    | inl s => exact hk2
    | inr r => subst hk2; exact hk
  clear hk2
  unfold wX0_holding_12 at h
  refine And.imp_right (fun kk => z_iload (pc := 12) hG 4 rfl dX0_holding_12 kk) ?_
  refine And.imp_right (fun kk => z_aload_n (pc := 14) hG 0 rfl rfl dX0_holding_14 kk) ?_
  replace h := zbind h
  obtain ⟨v2, hv2, h⟩ := h
  replace h := zchk_some h
  obtain ⟨hm, h⟩ := h
  replace hm := of_decide_eq_true hm
  refine And.elim (fun hb kk => ⟨Nat.le_trans hm hb, z_cvI (pc := 15) (A' := 0 + (C / 64 - v2.2.2.2.2 / 64)) (B' := 0 + 2 * (C - v2.2.2.2.2)) (nc := 0 + (v2.2.2.2.2 / 64 - s.2.2.2.2.2 / 64)) (ns := 0 + 2 * (v2.2.2.2.2 - s.2.2.2.2.2)) hG [] [.int s.2.1] zc_X0 DL_26 (tX0_size hl0  s.2.2 hv2) zy_X0_size ⟨w344, w345⟩ w1070 dX0_holding_15 rfl (Nat.le_of_ble_eq_true rfl) (by have hm := hm; have hb : v2.2.2.2.2 ≤ C := hb; omega) (by have hm := hm; have hb : v2.2.2.2.2 ≤ C := hb; omega) rfl (Nat.le_of_ble_eq_true rfl) rfl kk⟩) ?_
  refine zbr (c := v2.1 ≤ s.2.1) (fun hc => ?_) (fun hc => ?_) (fun k1 k2 => z_icmp_ge (pc := 18) (tgt := 53) hG dX0_holding_18 rfl k1 k2)
  · replace h := zif_t hc h
    replace h := zex_some h
    obtain ⟨o, h, rfl⟩ := h
    refine And.imp_right (fun kk => z_iconst (pc := 53) hG kc_m1 dX0_holding_53 kk) ?_
    obtain rfl := Option.some.inj h
    exact ⟨hk.2, z_iret (pc := 54) hG rfl rfl hk.1 dX0_holding_54⟩
  · replace h := zif_f hc h
    refine And.imp_right (fun kk => z_iload_n (pc := 21) hG 2 rfl rfl dX0_holding_21 kk) ?_
    refine And.imp_right (fun kk => z_aload_n (pc := 22) hG 0 rfl rfl dX0_holding_22 kk) ?_
    refine And.imp_right (fun kk => z_getr (pc := 23) hG zc_X0 inX0 DL_26 2 rfl (by decide) rfl w183 dX0_holding_23 kk) ?_
    refine And.imp_right (fun kk => z_iload (pc := 26) hG 4 rfl dX0_holding_26 kk) ?_
    replace h := zchk_some h
    obtain ⟨hc, h⟩ := h
    refine And.imp_right (fun kk => z_fald (pc := 28) hG DL_27 (zin_in hc) dX0_holding_28 kk) ?_
    refine And.imp_right (fun kk => z_iconst (pc := 29) hG kc_m1 dX0_holding_29 kk) ?_
    refine And.imp_right (fun kk => z_ixor (pc := 30) hG dX0_holding_30 kk) ?_
    refine And.imp_right (fun kk => z_iand (pc := 31) hG dX0_holding_31 kk) ?_
    refine zbr (c := (a3 &&& ((v2.2.1 27 s.2.1.toNatClampNeg) ^^^ (-1 : Int32))) = 0) (fun hc => ?_) (fun hc => ?_) (fun k1 k2 => z_if_ne (pc := 32) (tgt := 47) hG dX0_holding_32 rfl k2 k1)
    · replace h := zif_t hc h
      refine And.imp_right (fun kk => z_iload (pc := 35) hG 3 rfl dX0_holding_35 kk) ?_
      refine And.imp_right (fun kk => z_iload_n (pc := 37) hG 1 rfl rfl dX0_holding_37 kk) ?_
      refine zbr (c := s.1 = a2) (fun hc => ?_) (fun hc => ?_) (fun k1 k2 => z_icmp_ne (pc := 38) (tgt := 44) hG dX0_holding_38 rfl k2 k1)
      · replace h := zif_t hc h
        replace h := zex_some h
        obtain ⟨o, h, rfl⟩ := h
        refine And.imp_right (fun kk => z_iload (pc := 41) hG 4 rfl dX0_holding_41 kk) ?_
        obtain rfl := Option.some.inj h
        exact ⟨hk.2, z_iret (pc := 43) hG rfl rfl hk.1 dX0_holding_43⟩
      · replace h := zif_f hc h
        refine And.imp_right (fun kk => z_iinc (pc := 44) (ls' := [(4, .int (s.1 + (1 : Int32))), (0, .ref 26), (2, .int a2), (3, .int a3), (5, .int s.2.1)]) hG 3 rfl [0, 1, 2, 3, 4] (ki_1 _) (by decide) rfl dX0_holding_44 kk) ?_
        refine And.imp_right (fun kk => z_iinc (pc := 47) (ls' := [(5, .int (s.2.1 + (1 : Int32))), (4, .int (s.1 + (1 : Int32))), (0, .ref 26), (2, .int a2), (3, .int a3)]) hG 4 rfl [0, 1, 2, 3, 4] (ki_1 _) (by decide) rfl dX0_holding_47 kk) ?_
        refine And.imp_right (fun kk => z_goto (pc := 50) (tgt := 12) hG dX0_holding_50 rfl kk) ?_
        obtain rfl := Option.some.inj h
        refine And.imp_right (fun kk => z_sub (ls' := [(0, .ref 26), (2, .int a2), (3, .int a3), (4, .int (s.1 + (1 : Int32))), (5, .int (s.2.1 + (1 : Int32)))]) [2, 3, 4, 1, 0] rfl kk) ?_
        exact hk
    · replace h := zif_f hc h
      refine And.imp_right (fun kk => z_iinc (pc := 47) (ls' := [(5, .int (s.2.1 + (1 : Int32))), (0, .ref 26), (2, .int a2), (3, .int a3), (4, .int s.1)]) hG 4 rfl [0, 1, 2, 3, 4] (ki_1 _) (by decide) rfl dX0_holding_47 kk) ?_
      refine And.imp_right (fun kk => z_goto (pc := 50) (tgt := 12) hG dX0_holding_50 rfl kk) ?_
      obtain rfl := Option.some.inj h
      refine And.imp_right (fun kk => z_sub (ls' := [(0, .ref 26), (2, .int a2), (3, .int a3), (4, .int s.1), (5, .int (s.2.1 + (1 : Int32)))]) [1, 2, 3, 4, 0] rfl kk) ?_
      exact hk
set_option maxHeartbeats 60000 in
theorem tX0_holding {l : Launch} (hl0 : l.flags = flags0) (a1 : Int32) (a2 : Int32) (g : zS) {r : (Int32 × zS)} (h : nX0_holding a1 a2 g = some r) : zC l yX0_holding cX0_holding 6 ((Option.some Jvm.ClassFile.FieldType.int)) 62 (0 + (r.2.2.2.2 / 64 - g.2.2.2 / 64)) (0 + 2 * (r.2.2.2.2 - g.2.2.2)) [.ref 26, .int a1, .int a2] zD g (.inl (some (.int r.1)), zD, r.2) := by
  refine zC_of hl0 rfl (Nat.le_of_ble_eq_true rfl) (fun x hG hxl hk _ => ?_)
  subst hxl
  obtain ⟨C, hC0⟩ : ∃ C : Nat, C = r.2.2.2.2 := ⟨_, rfl⟩
  replace hk := And.intro hk (Nat.le_of_eq hC0.symm)
  rw [← hC0]
  suffices hp : zgr g C ∧ zK x 62 0 [(0, .ref 26), (1, .int a1), (2, .int a2)] [] zD g (0 + (C / 64 - g.2.2.2 / 64)) (0 + 2 * (C - g.2.2.2)) from hp.2
  unfold nX0_holding at h
  refine And.imp_right (fun kk => z_aload_n (pc := 0) hG 0 rfl rfl dX0_holding_0 kk) ?_
  refine And.imp_right (fun kk => z_iload_n (pc := 1) hG 1 rfl rfl dX0_holding_1 kk) ?_
  replace h := zbind h
  obtain ⟨v1, hv1, h⟩ := h
  refine And.imp_right (fun kk => z_cvI (pc := 2) (A' := 0 + (C / 64 - g.2.2.2 / 64)) (B' := 0 + 2 * (C - g.2.2.2)) hG [.int a1] [] zc_X0 DL_26 (tX0_formOf hl0 a1 g hv1) zy_X0_formOf ⟨w1067, wp44⟩ w1065 dX0_holding_2 rfl (Nat.le_of_ble_eq_true rfl) (by omega) (by omega) rfl (Nat.le_of_ble_eq_true rfl) rfl kk) ?_
  refine And.imp_right (fun kk => z_istore_n (pc := 5) (ls' := [(3, .int v1), (0, .ref 26), (1, .int a1), (2, .int a2)]) hG [0, 1, 2, 3] rfl (by decide) rfl dX0_holding_5 kk) ?_
  refine And.imp_right (fun kk => z_iconst (pc := 6) hG kc_0 dX0_holding_6 kk) ?_
  refine And.imp_right (fun kk => z_istore (pc := 7) (ls' := [(4, .int (0 : Int32)), (3, .int v1), (0, .ref 26), (1, .int a1), (2, .int a2)]) hG [0, 1, 2, 3, 4] (by decide) rfl dX0_holding_7 kk) ?_
  refine And.imp_right (fun kk => z_iconst (pc := 9) hG kc_0 dX0_holding_9 kk) ?_
  refine And.imp_right (fun kk => z_istore (pc := 10) (ls' := [(5, .int (0 : Int32)), (4, .int (0 : Int32)), (3, .int v1), (0, .ref 26), (1, .int a1), (2, .int a2)]) hG [0, 1, 2, 3, 4, 5] (by decide) rfl dX0_holding_10 kk) ?_
  refine And.imp_right (fun kk => z_sub (ls' := [(0, .ref 26), (2, .int a2), (3, .int v1), (4, .int (0 : Int32)), (5, .int (0 : Int32))]) [3, 5, 2, 1, 0] rfl kk) ?_
  exact kwX0_holding_12 hG hl0 C a2 v1 hk ((0 : Int32), (0 : Int32), g) h
noncomputable def nX10_within (a1 : Int32) (a2 : Int32) (g : zS) : Option ((Int32 ⊕ String) × zS) :=
  (nX10_needRow a1 g).bind fun v1 => zel v1 (fun w1 => (nX10_needAnswers a1 (0 : Int32) g).bind fun v2 => zel v2 (fun w2 => (nX8_codeOf a1 g).bind fun v3 => (nX0_holding v3 a2 g).bind fun v4 => zchk (decide (g.2.2.2 ≤ v4.2.2.2.2)) (some ((.inl v4.1, v4.2)))) (fun e => some ((.inr e, g)))) (fun e => some ((.inr e, g)))
set_option maxHeartbeats 60000 in
theorem tX10_within {l : Launch} (hl0 : l.flags = flags0) (a1 : Int32) (a2 : Int32) (g : zS) {r : ((Int32 ⊕ String) × zS)} (h : nX10_within a1 a2 g = some r) : zC l yX10_within cX10_within 3 ((Option.some Jvm.ClassFile.FieldType.int)) 63 (2 + (r.2.2.2.2 / 64 - g.2.2.2 / 64)) (12 + 2 * (r.2.2.2.2 - g.2.2.2)) [.ref 0, .int a1, .int a2] zD g (ztI r.1, zD, r.2) := by
  refine zC_of hl0 rfl (Nat.le_of_ble_eq_true rfl) (fun x hG hxl hk _ => ?_)
  subst hxl
  obtain ⟨C, hC0⟩ : ∃ C : Nat, C = r.2.2.2.2 := ⟨_, rfl⟩
  replace hk := And.intro hk (Nat.le_of_eq hC0.symm)
  rw [← hC0]
  suffices hp : zgr g C ∧ zK x 63 0 [(0, .ref 0), (1, .int a1), (2, .int a2)] [] zD g (2 + (C / 64 - g.2.2.2 / 64)) (12 + 2 * (C - g.2.2.2)) from hp.2
  unfold nX10_within at h
  refine And.imp_right (fun kk => z_aload_n (pc := 0) hG 0 rfl rfl dX10_within_0 kk) ?_
  refine And.imp_right (fun kk => z_iload_n (pc := 1) hG 1 rfl rfl dX10_within_1 kk) ?_
  replace h := zbind h
  obtain ⟨w1 | e, hv1, h⟩ := h
  rotate_left
  · replace h := zel_r h
    obtain rfl := Option.some.inj h
    exact ⟨hk.2, z_cvX (pc := 2) hG [.int a1] [] zc_X10 DL_0 (tX10_needRow hl0 a1 g hv1) zy_X10_needRow ⟨w989, wp41⟩ w987 dX10_within_2 rfl (Nat.le_of_ble_eq_true rfl) (by omega) (by omega) (Nat.le_of_ble_eq_true rfl) rfl hk.1⟩
  replace h := zel_l h
  refine And.imp_right (fun kk => z_cvV (pc := 2) (A' := 1 + (C / 64 - g.2.2.2 / 64)) (B' := 6 + 2 * (C - g.2.2.2)) hG [.int a1] [] zc_X10 DL_0 (tX10_needRow hl0 a1 g hv1) zy_X10_needRow ⟨w989, wp41⟩ w987 dX10_within_2 rfl (Nat.le_of_ble_eq_true rfl) (by omega) (by omega) rfl (Nat.le_of_ble_eq_true rfl) rfl kk) ?_
  refine And.imp_right (fun kk => z_aload_n (pc := 5) hG 0 rfl rfl dX10_within_5 kk) ?_
  refine And.imp_right (fun kk => z_iload_n (pc := 6) hG 1 rfl rfl dX10_within_6 kk) ?_
  refine And.imp_right (fun kk => z_iconst (pc := 7) hG kc_0 dX10_within_7 kk) ?_
  replace h := zbind h
  obtain ⟨w2 | e, hv2, h⟩ := h
  rotate_left
  · replace h := zel_r h
    obtain rfl := Option.some.inj h
    exact ⟨hk.2, z_cvX (pc := 8) hG [.int a1, .int (0 : Int32)] [] zc_X10 DL_0 (tX10_needAnswers hl0 a1 (0 : Int32) g hv2) zy_X10_needAnswers ⟨w1058, wp43⟩ w1056 dX10_within_8 rfl (Nat.le_of_ble_eq_true rfl) (by omega) (by omega) (Nat.le_of_ble_eq_true rfl) rfl hk.1⟩
  replace h := zel_l h
  refine And.imp_right (fun kk => z_cvV (pc := 8) (A' := 0 + (C / 64 - g.2.2.2 / 64)) (B' := 0 + 2 * (C - g.2.2.2)) hG [.int a1, .int (0 : Int32)] [] zc_X10 DL_0 (tX10_needAnswers hl0 a1 (0 : Int32) g hv2) zy_X10_needAnswers ⟨w1058, wp43⟩ w1056 dX10_within_8 rfl (Nat.le_of_ble_eq_true rfl) (by omega) (by omega) rfl (Nat.le_of_ble_eq_true rfl) rfl kk) ?_
  refine And.imp_right (fun kk => z_aload_n (pc := 11) hG 0 rfl rfl dX10_within_11 kk) ?_
  refine And.imp_right (fun kk => z_getr (pc := 12) hG zc_X10 inX10 DL_0 5 rfl (by decide) rfl w284 dX10_within_12 kk) ?_
  refine And.imp_right (fun kk => z_aload_n (pc := 15) hG 0 rfl rfl dX10_within_15 kk) ?_
  refine And.imp_right (fun kk => z_getr (pc := 16) hG zc_X10 inX10 DL_0 6 rfl (by decide) rfl w285 dX10_within_16 kk) ?_
  refine And.imp_right (fun kk => z_iload_n (pc := 19) hG 1 rfl rfl dX10_within_19 kk) ?_
  replace h := zbind h
  obtain ⟨v3, hv3, h⟩ := h
  refine And.imp_right (fun kk => z_cvI (pc := 20) (A' := 0 + (C / 64 - g.2.2.2 / 64)) (B' := 0 + 2 * (C - g.2.2.2)) hG [.int a1] [.ref 26] zc_X8 DL_31 (tX8_codeOf hl0 a1 g hv3) zy_X8_codeOf ⟨w992, w993⟩ w991 dX10_within_20 rfl (Nat.le_of_ble_eq_true rfl) (by omega) (by omega) rfl (Nat.le_of_ble_eq_true rfl) rfl kk) ?_
  refine And.imp_right (fun kk => z_iload_n (pc := 23) hG 2 rfl rfl dX10_within_23 kk) ?_
  replace h := zbind h
  obtain ⟨v4, hv4, h⟩ := h
  replace h := zchk_some h
  obtain ⟨hm, h⟩ := h
  replace hm := of_decide_eq_true hm
  refine And.elim (fun hb kk => ⟨Nat.le_trans hm hb, z_cvI (pc := 24) (A' := 0 + (C / 64 - v4.2.2.2.2 / 64)) (B' := 0 + 2 * (C - v4.2.2.2.2)) (nc := 0 + (v4.2.2.2.2 / 64 - g.2.2.2 / 64)) (ns := 0 + 2 * (v4.2.2.2.2 - g.2.2.2)) hG [.int v3, .int a2] [] zc_X0 DL_26 (tX0_holding hl0 v3 a2 g hv4) zy_X0_holding ⟨w1062, w1063⟩ w1061 dX10_within_24 rfl (Nat.le_of_ble_eq_true rfl) (by have hm := hm; have hb : v4.2.2.2.2 ≤ C := hb; omega) (by have hm := hm; have hb : v4.2.2.2.2 ≤ C := hb; omega) rfl (Nat.le_of_ble_eq_true rfl) rfl kk⟩) ?_
  obtain rfl := Option.some.inj h
  exact ⟨hk.2, z_iret (pc := 27) hG rfl rfl hk.1 dX10_within_27⟩
noncomputable def wX0_countEntered_5 (a1 : Int32) (a2 : Int32) (s : (Int32 × Int32 × zS)) : Option ((Int32 × Int32 × zS) ⊕ (Int32 × zS)) :=
  (nX0_size s.2.2).bind fun v1 => zchk (decide (s.2.2.2.2.2 ≤ v1.2.2.2.2)) (if v1.1 ≤ s.2.1 then (zex (some ((s.1, v1.2)))) else (zchk (zin s.2.1 v1.2.2.2.2) (if (a1 &&& ((v1.2.1 27 s.2.1.toNatClampNeg) ^^^ (-1 : Int32))) = 0 then ((nX0_setOf s.2.1 a2 v1.2).bind fun v2 => (nX6_allValues a2 v1.2).bind fun v3 => if v2 = v3 then (some (.inl (s.1, (s.2.1 + (1 : Int32)), v1.2))) else (some (.inl ((s.1 + (1 : Int32)), (s.2.1 + (1 : Int32)), v1.2)))) else (some (.inl (s.1, (s.2.1 + (1 : Int32)), v1.2))))))
noncomputable def nX0_countEntered (a1 : Int32) (a2 : Int32) (g : zS) : Option (Int32 × zS) :=
  wh (wX0_countEntered_5 a1 a2) ((0 : Int32), (0 : Int32), g)
def qX0_countEntered_5 (x : zXx) (C : Nat) (a1 : Int32) (a2 : Int32) (o : (Int32 × Int32 × zS) ⊕ (Int32 × zS)) : Prop := match o with
  | .inl s => zgr s.2.2 C ∧ zK x 62 5 [(0, .ref 26), (1, .int a1), (2, .int a2), (3, .int s.1), (4, .int s.2.1)] [] zD s.2.2 (0 + (C / 64 - s.2.2.2.2.2 / 64)) (0 + 2 * (C - s.2.2.2.2.2))
  | .inr r => (ztg x = (.inl (some (.int r.1)), zD, r.2) ∧ zgr r.2 C)
set_option maxHeartbeats 60000 in
theorem kwX0_countEntered_5 {x : zXx} (hG : zG x cX0_countEntered 5 RX0 ((Option.some Jvm.ClassFile.FieldType.int))) (hl0 : (zl0 x).flags = flags0) (C : Nat) (a1 : Int32) (a2 : Int32) {o : (Int32 × zS)} (hk : (ztg x = (.inl (some (.int o.1)), zD, o.2) ∧ zgr o.2 C)) : ∀ s : (Int32 × Int32 × zS), wh (wX0_countEntered_5 a1 a2) s = some o → zgr s.2.2 C ∧ zK x 62 5 [(0, .ref 26), (1, .int a1), (2, .int a2), (3, .int s.1), (4, .int s.2.1)] [] zD s.2.2 (0 + (C / 64 - s.2.2.2.2.2 / 64)) (0 + 2 * (C - s.2.2.2.2.2)) := by
  refine wh_ind (fun s : (Int32 × Int32 × zS) => zgr s.2.2 C ∧ zK x 62 5 [(0, .ref 26), (1, .int a1), (2, .int a2), (3, .int s.1), (4, .int s.2.1)] [] zD s.2.2 (0 + (C / 64 - s.2.2.2.2.2 / 64)) (0 + 2 * (C - s.2.2.2.2.2))) (fun s o h hk2 => ?_)
  replace hk : qX0_countEntered_5 x C a1 a2 o := by
    cases o with
    | inl s => exact hk2
    | inr r => subst hk2; exact hk
  clear hk2
  unfold wX0_countEntered_5 at h
  refine And.imp_right (fun kk => z_iload (pc := 5) hG 4 rfl dX0_countEntered_5 kk) ?_
  refine And.imp_right (fun kk => z_aload_n (pc := 7) hG 0 rfl rfl dX0_countEntered_7 kk) ?_
  replace h := zbind h
  obtain ⟨v1, hv1, h⟩ := h
  replace h := zchk_some h
  obtain ⟨hm, h⟩ := h
  replace hm := of_decide_eq_true hm
  refine And.elim (fun hb kk => ⟨Nat.le_trans hm hb, z_cvI (pc := 8) (A' := 0 + (C / 64 - v1.2.2.2.2 / 64)) (B' := 0 + 2 * (C - v1.2.2.2.2)) (nc := 0 + (v1.2.2.2.2 / 64 - s.2.2.2.2.2 / 64)) (ns := 0 + 2 * (v1.2.2.2.2 - s.2.2.2.2.2)) hG [] [.int s.2.1] zc_X0 DL_26 (tX0_size hl0  s.2.2 hv1) zy_X0_size ⟨w344, w345⟩ w1070 dX0_countEntered_8 rfl (Nat.le_of_ble_eq_true rfl) (by have hm := hm; have hb : v1.2.2.2.2 ≤ C := hb; omega) (by have hm := hm; have hb : v1.2.2.2.2 ≤ C := hb; omega) rfl (Nat.le_of_ble_eq_true rfl) rfl kk⟩) ?_
  refine zbr (c := v1.1 ≤ s.2.1) (fun hc => ?_) (fun hc => ?_) (fun k1 k2 => z_icmp_ge (pc := 11) (tgt := 55) hG dX0_countEntered_11 rfl k1 k2)
  · replace h := zif_t hc h
    replace h := zex_some h
    obtain ⟨o, h, rfl⟩ := h
    refine And.imp_right (fun kk => z_iload_n (pc := 55) hG 3 rfl rfl dX0_countEntered_55 kk) ?_
    obtain rfl := Option.some.inj h
    exact ⟨hk.2, z_iret (pc := 56) hG rfl rfl hk.1 dX0_countEntered_56⟩
  · replace h := zif_f hc h
    refine And.imp_right (fun kk => z_iload_n (pc := 14) hG 1 rfl rfl dX0_countEntered_14 kk) ?_
    refine And.imp_right (fun kk => z_aload_n (pc := 15) hG 0 rfl rfl dX0_countEntered_15 kk) ?_
    refine And.imp_right (fun kk => z_getr (pc := 16) hG zc_X0 inX0 DL_26 2 rfl (by decide) rfl w183 dX0_countEntered_16 kk) ?_
    refine And.imp_right (fun kk => z_iload (pc := 19) hG 4 rfl dX0_countEntered_19 kk) ?_
    replace h := zchk_some h
    obtain ⟨hc, h⟩ := h
    refine And.imp_right (fun kk => z_fald (pc := 21) hG DL_27 (zin_in hc) dX0_countEntered_21 kk) ?_
    refine And.imp_right (fun kk => z_iconst (pc := 22) hG kc_m1 dX0_countEntered_22 kk) ?_
    refine And.imp_right (fun kk => z_ixor (pc := 23) hG dX0_countEntered_23 kk) ?_
    refine And.imp_right (fun kk => z_iand (pc := 24) hG dX0_countEntered_24 kk) ?_
    refine zbr (c := (a1 &&& ((v1.2.1 27 s.2.1.toNatClampNeg) ^^^ (-1 : Int32))) = 0) (fun hc => ?_) (fun hc => ?_) (fun k1 k2 => z_if_ne (pc := 25) (tgt := 49) hG dX0_countEntered_25 rfl k2 k1)
    · replace h := zif_t hc h
      refine And.imp_right (fun kk => z_aload_n (pc := 28) hG 0 rfl rfl dX0_countEntered_28 kk) ?_
      refine And.imp_right (fun kk => z_iload (pc := 29) hG 4 rfl dX0_countEntered_29 kk) ?_
      refine And.imp_right (fun kk => z_iload_n (pc := 31) hG 2 rfl rfl dX0_countEntered_31 kk) ?_
      replace h := zbind h
      obtain ⟨v2, hv2, h⟩ := h
      refine And.imp_right (fun kk => z_cvI (pc := 32) (A' := 0 + (C / 64 - v1.2.2.2.2 / 64)) (B' := 0 + 2 * (C - v1.2.2.2.2)) hG [.int s.2.1, .int a2] [] zc_X0 DL_26 (tX0_setOf hl0 s.2.1 a2 v1.2 hv2) zy_X0_setOf ⟨w903, w904⟩ w902 dX0_countEntered_32 rfl (Nat.le_of_ble_eq_true rfl) (by omega) (by omega) rfl (Nat.le_of_ble_eq_true rfl) rfl kk) ?_
      refine And.imp_right (fun kk => z_aload_n (pc := 35) hG 0 rfl rfl dX0_countEntered_35 kk) ?_
      refine And.imp_right (fun kk => z_getr (pc := 36) hG zc_X0 inX0 DL_26 0 rfl (by decide) rfl w181 dX0_countEntered_36 kk) ?_
      refine And.imp_right (fun kk => z_iload_n (pc := 39) hG 2 rfl rfl dX0_countEntered_39 kk) ?_
      replace h := zbind h
      obtain ⟨v3, hv3, h⟩ := h
      refine And.imp_right (fun kk => z_cvI (pc := 40) (A' := 0 + (C / 64 - v1.2.2.2.2 / 64)) (B' := 0 + 2 * (C - v1.2.2.2.2)) hG [.int a2] [.int v2] zc_X6 DL_3 (tX6_allValues hl0 a2 v1.2 hv3) zy_X6_allValues ⟨w687, w688⟩ w961 dX0_countEntered_40 rfl (Nat.le_of_ble_eq_true rfl) (by omega) (by omega) rfl (Nat.le_of_ble_eq_true rfl) rfl kk) ?_
      refine zbr (c := v2 = v3) (fun hc => ?_) (fun hc => ?_) (fun k1 k2 => z_icmp_eq (pc := 43) (tgt := 49) hG dX0_countEntered_43 rfl k1 k2)
      · replace h := zif_t hc h
        refine And.imp_right (fun kk => z_iinc (pc := 49) (ls' := [(4, .int (s.2.1 + (1 : Int32))), (0, .ref 26), (1, .int a1), (2, .int a2), (3, .int s.1)]) hG 4 rfl [0, 1, 2, 3, 4] (ki_1 _) (by decide) rfl dX0_countEntered_49 kk) ?_
        refine And.imp_right (fun kk => z_goto (pc := 52) (tgt := 5) hG dX0_countEntered_52 rfl kk) ?_
        obtain rfl := Option.some.inj h
        refine And.imp_right (fun kk => z_sub (ls' := [(0, .ref 26), (1, .int a1), (2, .int a2), (3, .int s.1), (4, .int (s.2.1 + (1 : Int32)))]) [1, 2, 3, 4, 0] rfl kk) ?_
        exact hk
      · replace h := zif_f hc h
        refine And.imp_right (fun kk => z_iinc (pc := 46) (ls' := [(3, .int (s.1 + (1 : Int32))), (0, .ref 26), (1, .int a1), (2, .int a2), (4, .int s.2.1)]) hG 3 rfl [0, 1, 2, 3, 4] (ki_1 _) (by decide) rfl dX0_countEntered_46 kk) ?_
        refine And.imp_right (fun kk => z_iinc (pc := 49) (ls' := [(4, .int (s.2.1 + (1 : Int32))), (3, .int (s.1 + (1 : Int32))), (0, .ref 26), (1, .int a1), (2, .int a2)]) hG 4 rfl [0, 1, 2, 3, 4] (ki_1 _) (by decide) rfl dX0_countEntered_49 kk) ?_
        refine And.imp_right (fun kk => z_goto (pc := 52) (tgt := 5) hG dX0_countEntered_52 rfl kk) ?_
        obtain rfl := Option.some.inj h
        refine And.imp_right (fun kk => z_sub (ls' := [(0, .ref 26), (1, .int a1), (2, .int a2), (3, .int (s.1 + (1 : Int32))), (4, .int (s.2.1 + (1 : Int32)))]) [2, 3, 4, 1, 0] rfl kk) ?_
        exact hk
    · replace h := zif_f hc h
      refine And.imp_right (fun kk => z_iinc (pc := 49) (ls' := [(4, .int (s.2.1 + (1 : Int32))), (0, .ref 26), (1, .int a1), (2, .int a2), (3, .int s.1)]) hG 4 rfl [0, 1, 2, 3, 4] (ki_1 _) (by decide) rfl dX0_countEntered_49 kk) ?_
      refine And.imp_right (fun kk => z_goto (pc := 52) (tgt := 5) hG dX0_countEntered_52 rfl kk) ?_
      obtain rfl := Option.some.inj h
      refine And.imp_right (fun kk => z_sub (ls' := [(0, .ref 26), (1, .int a1), (2, .int a2), (3, .int s.1), (4, .int (s.2.1 + (1 : Int32)))]) [1, 2, 3, 4, 0] rfl kk) ?_
      exact hk
set_option maxHeartbeats 60000 in
theorem tX0_countEntered {l : Launch} (hl0 : l.flags = flags0) (a1 : Int32) (a2 : Int32) (g : zS) {r : (Int32 × zS)} (h : nX0_countEntered a1 a2 g = some r) : zC l yX0_countEntered cX0_countEntered 5 ((Option.some Jvm.ClassFile.FieldType.int)) 62 (0 + (r.2.2.2.2 / 64 - g.2.2.2 / 64)) (0 + 2 * (r.2.2.2.2 - g.2.2.2)) [.ref 26, .int a1, .int a2] zD g (.inl (some (.int r.1)), zD, r.2) := by
  refine zC_of hl0 rfl (Nat.le_of_ble_eq_true rfl) (fun x hG hxl hk _ => ?_)
  subst hxl
  obtain ⟨C, hC0⟩ : ∃ C : Nat, C = r.2.2.2.2 := ⟨_, rfl⟩
  replace hk := And.intro hk (Nat.le_of_eq hC0.symm)
  rw [← hC0]
  suffices hp : zgr g C ∧ zK x 62 0 [(0, .ref 26), (1, .int a1), (2, .int a2)] [] zD g (0 + (C / 64 - g.2.2.2 / 64)) (0 + 2 * (C - g.2.2.2)) from hp.2
  unfold nX0_countEntered at h
  refine And.imp_right (fun kk => z_iconst (pc := 0) hG kc_0 dX0_countEntered_0 kk) ?_
  refine And.imp_right (fun kk => z_istore_n (pc := 1) (ls' := [(3, .int (0 : Int32)), (0, .ref 26), (1, .int a1), (2, .int a2)]) hG [0, 1, 2, 3] rfl (by decide) rfl dX0_countEntered_1 kk) ?_
  refine And.imp_right (fun kk => z_iconst (pc := 2) hG kc_0 dX0_countEntered_2 kk) ?_
  refine And.imp_right (fun kk => z_istore (pc := 3) (ls' := [(4, .int (0 : Int32)), (3, .int (0 : Int32)), (0, .ref 26), (1, .int a1), (2, .int a2)]) hG [0, 1, 2, 3, 4] (by decide) rfl dX0_countEntered_3 kk) ?_
  refine And.imp_right (fun kk => z_sub (ls' := [(0, .ref 26), (1, .int a1), (2, .int a2), (3, .int (0 : Int32)), (4, .int (0 : Int32))]) [2, 3, 4, 1, 0] rfl kk) ?_
  exact kwX0_countEntered_5 hG hl0 C a1 a2 hk ((0 : Int32), (0 : Int32), g) h
noncomputable def jX0_blamed_64 (a1 : Int32) (a2 : Int32) (a3 : Int32) (a4 : Int32) (a5 : Int32) (s0 : Int32) (g : zS) : Option ((Int32 × Int32 × Int32 × zS) ⊕ (Int32 × zS)) :=
  if a3 < a5 then (some (.inl (a4, a5, (a4 + (1 : Int32)), g))) else (if a5 = a3 then (if s0 = 0 then (some (.inl (a2, a3, (a4 + (1 : Int32)), g))) else (some (.inl (a4, a5, (a4 + (1 : Int32)), g)))) else (some (.inl (a2, a3, (a4 + (1 : Int32)), g))))
noncomputable def jX0_blamed_63 (a1 : Int32) (a2 : Int32) (a3 : Int32) (a4 : Int32) (a5 : Int32) (g : zS) : Option ((Int32 × Int32 × Int32 × zS) ⊕ (Int32 × zS)) :=
  jX0_blamed_64 a1 a2 a3 a4 a5 (0 : Int32) g
noncomputable def wX0_blamed_7 (a1 : Int32) (s : (Int32 × Int32 × Int32 × zS)) : Option ((Int32 × Int32 × Int32 × zS) ⊕ (Int32 × zS)) :=
  if (s.2.2.2.1 3 0) ≤ s.2.2.1 then (zex (some ((s.1, s.2.2.2)))) else ((nX0_formOf a1 s.2.2.2).bind fun v1 => (nX0_countEntered v1 s.2.2.1 s.2.2.2).bind fun v2 => zchk (decide (s.2.2.2.2.2.2 ≤ v2.2.2.2.2)) (if s.1 = (-1 : Int32) then (jX0_blamed_63 a1 s.1 s.2.1 s.2.2.1 v2.1 v2.2) else (zchk (zin s.2.2.1 5) (zchk (zin s.1 5) (if (v2.2.1 5 s.1.toNatClampNeg) ≤ (v2.2.1 5 s.2.2.1.toNatClampNeg) then (jX0_blamed_63 a1 s.1 s.2.1 s.2.2.1 v2.1 v2.2) else (jX0_blamed_64 a1 s.1 s.2.1 s.2.2.1 v2.1 (1 : Int32) v2.2))))))
noncomputable def nX0_blamed (a1 : Int32) (g : zS) : Option (Int32 × zS) :=
  wh (wX0_blamed_7 a1) ((-1 : Int32), (0 : Int32), (0 : Int32), g)
def qX0_blamed_7 (x : zXx) (C : Nat) (a1 : Int32) (o : (Int32 × Int32 × Int32 × zS) ⊕ (Int32 × zS)) : Prop := match o with
  | .inl s => zgr s.2.2.2 C ∧ zK x 63 7 [(0, .ref 26), (1, .int a1), (2, .int s.1), (3, .int s.2.1), (4, .int s.2.2.1)] [] zD s.2.2.2 (0 + (C / 64 - s.2.2.2.2.2.2 / 64)) (0 + 2 * (C - s.2.2.2.2.2.2))
  | .inr r => (ztg x = (.inl (some (.int r.1)), zD, r.2) ∧ zgr r.2 C)
set_option maxHeartbeats 60000 in
theorem kjX0_blamed_64 {x : zXx} (hG : zG x cX0_blamed 7 RX0 ((Option.some Jvm.ClassFile.FieldType.int))) (hl0 : (zl0 x).flags = flags0) (C : Nat) (a1 : Int32) (a2 : Int32) (a3 : Int32) (a4 : Int32) (a5 : Int32) (s0 : Int32) (g : zS) {o : ((Int32 × Int32 × Int32 × zS) ⊕ (Int32 × zS))} (h : jX0_blamed_64 a1 a2 a3 a4 a5 s0 g = some o) (hk : qX0_blamed_7 x C a1 o) : zgr g C ∧ zK x 63 64 [(0, .ref 26), (1, .int a1), (2, .int a2), (3, .int a3), (4, .int a4), (5, .int a5)] [.int s0] zD g (0 + (C / 64 - g.2.2.2 / 64)) (0 + 2 * (C - g.2.2.2)) := by
  unfold jX0_blamed_64 at h
  refine And.imp_right (fun kk => z_istore (pc := 64) (ls' := [(6, .int s0), (0, .ref 26), (1, .int a1), (2, .int a2), (3, .int a3), (4, .int a4), (5, .int a5)]) hG [0, 1, 2, 3, 4, 5, 6] (by decide) rfl dX0_blamed_64 kk) ?_
  refine And.imp_right (fun kk => z_iload (pc := 66) hG 6 rfl dX0_blamed_66 kk) ?_
  refine And.imp_right (fun kk => z_iload_n (pc := 68) hG 4 rfl rfl dX0_blamed_68 kk) ?_
  refine zbr (c := a3 < a5) (fun hc => ?_) (fun hc => ?_) (fun k1 k2 => z_icmp_gt (pc := 69) (tgt := 83) hG dX0_blamed_69 rfl k1 k2)
  · replace h := zif_t hc h
    refine And.imp_right (fun kk => z_iload (pc := 83) hG 6 rfl dX0_blamed_83 kk) ?_
    refine And.imp_right (fun kk => z_istore_n (pc := 85) (ls' := [(3, .int a5), (6, .int s0), (0, .ref 26), (1, .int a1), (2, .int a2), (4, .int a4), (5, .int a5)]) hG [0, 1, 2, 3, 4, 5, 6] rfl (by decide) rfl dX0_blamed_85 kk) ?_
    refine And.imp_right (fun kk => z_iload (pc := 86) hG 5 rfl dX0_blamed_86 kk) ?_
    refine And.imp_right (fun kk => z_istore_n (pc := 88) (ls' := [(2, .int a4), (3, .int a5), (6, .int s0), (0, .ref 26), (1, .int a1), (4, .int a4), (5, .int a5)]) hG [0, 1, 2, 3, 4, 5, 6] rfl (by decide) rfl dX0_blamed_88 kk) ?_
    refine And.imp_right (fun kk => z_iinc (pc := 89) (ls' := [(4, .int (a4 + (1 : Int32))), (2, .int a4), (3, .int a5), (6, .int s0), (0, .ref 26), (1, .int a1), (5, .int a5)]) hG 5 rfl [0, 1, 2, 3, 4, 5, 6] (ki_1 _) (by decide) rfl dX0_blamed_89 kk) ?_
    refine And.imp_right (fun kk => z_goto (pc := 92) (tgt := 7) hG dX0_blamed_92 rfl kk) ?_
    obtain rfl := Option.some.inj h
    refine And.imp_right (fun kk => z_sub (ls' := [(0, .ref 26), (1, .int a1), (2, .int a4), (3, .int a5), (4, .int (a4 + (1 : Int32)))]) [4, 5, 1, 2, 0] rfl kk) ?_
    exact hk
  · replace h := zif_f hc h
    refine And.imp_right (fun kk => z_iload (pc := 72) hG 6 rfl dX0_blamed_72 kk) ?_
    refine And.imp_right (fun kk => z_iload_n (pc := 74) hG 4 rfl rfl dX0_blamed_74 kk) ?_
    refine zbr (c := a5 = a3) (fun hc => ?_) (fun hc => ?_) (fun k1 k2 => z_icmp_ne (pc := 75) (tgt := 89) hG dX0_blamed_75 rfl k2 k1)
    · replace h := zif_t hc h
      refine And.imp_right (fun kk => z_iload (pc := 78) hG 0 rfl dX0_blamed_78 kk) ?_
      refine zbr (c := s0 = 0) (fun hc => ?_) (fun hc => ?_) (fun k1 k2 => z_if_eq (pc := 80) (tgt := 89) hG dX0_blamed_80 rfl k1 k2)
      · replace h := zif_t hc h
        refine And.imp_right (fun kk => z_iinc (pc := 89) (ls' := [(4, .int (a4 + (1 : Int32))), (6, .int s0), (0, .ref 26), (1, .int a1), (2, .int a2), (3, .int a3), (5, .int a5)]) hG 5 rfl [0, 1, 2, 3, 4, 5, 6] (ki_1 _) (by decide) rfl dX0_blamed_89 kk) ?_
        refine And.imp_right (fun kk => z_goto (pc := 92) (tgt := 7) hG dX0_blamed_92 rfl kk) ?_
        obtain rfl := Option.some.inj h
        refine And.imp_right (fun kk => z_sub (ls' := [(0, .ref 26), (1, .int a1), (2, .int a2), (3, .int a3), (4, .int (a4 + (1 : Int32)))]) [2, 3, 4, 5, 0] rfl kk) ?_
        exact hk
      · replace h := zif_f hc h
        refine And.imp_right (fun kk => z_iload (pc := 83) hG 6 rfl dX0_blamed_83 kk) ?_
        refine And.imp_right (fun kk => z_istore_n (pc := 85) (ls' := [(3, .int a5), (6, .int s0), (0, .ref 26), (1, .int a1), (2, .int a2), (4, .int a4), (5, .int a5)]) hG [0, 1, 2, 3, 4, 5, 6] rfl (by decide) rfl dX0_blamed_85 kk) ?_
        refine And.imp_right (fun kk => z_iload (pc := 86) hG 5 rfl dX0_blamed_86 kk) ?_
        refine And.imp_right (fun kk => z_istore_n (pc := 88) (ls' := [(2, .int a4), (3, .int a5), (6, .int s0), (0, .ref 26), (1, .int a1), (4, .int a4), (5, .int a5)]) hG [0, 1, 2, 3, 4, 5, 6] rfl (by decide) rfl dX0_blamed_88 kk) ?_
        refine And.imp_right (fun kk => z_iinc (pc := 89) (ls' := [(4, .int (a4 + (1 : Int32))), (2, .int a4), (3, .int a5), (6, .int s0), (0, .ref 26), (1, .int a1), (5, .int a5)]) hG 5 rfl [0, 1, 2, 3, 4, 5, 6] (ki_1 _) (by decide) rfl dX0_blamed_89 kk) ?_
        refine And.imp_right (fun kk => z_goto (pc := 92) (tgt := 7) hG dX0_blamed_92 rfl kk) ?_
        obtain rfl := Option.some.inj h
        refine And.imp_right (fun kk => z_sub (ls' := [(0, .ref 26), (1, .int a1), (2, .int a4), (3, .int a5), (4, .int (a4 + (1 : Int32)))]) [4, 5, 1, 2, 0] rfl kk) ?_
        exact hk
    · replace h := zif_f hc h
      refine And.imp_right (fun kk => z_iinc (pc := 89) (ls' := [(4, .int (a4 + (1 : Int32))), (6, .int s0), (0, .ref 26), (1, .int a1), (2, .int a2), (3, .int a3), (5, .int a5)]) hG 5 rfl [0, 1, 2, 3, 4, 5, 6] (ki_1 _) (by decide) rfl dX0_blamed_89 kk) ?_
      refine And.imp_right (fun kk => z_goto (pc := 92) (tgt := 7) hG dX0_blamed_92 rfl kk) ?_
      obtain rfl := Option.some.inj h
      refine And.imp_right (fun kk => z_sub (ls' := [(0, .ref 26), (1, .int a1), (2, .int a2), (3, .int a3), (4, .int (a4 + (1 : Int32)))]) [2, 3, 4, 5, 0] rfl kk) ?_
      exact hk
set_option maxHeartbeats 60000 in
theorem kjX0_blamed_63 {x : zXx} (hG : zG x cX0_blamed 7 RX0 ((Option.some Jvm.ClassFile.FieldType.int))) (hl0 : (zl0 x).flags = flags0) (C : Nat) (a1 : Int32) (a2 : Int32) (a3 : Int32) (a4 : Int32) (a5 : Int32) (g : zS) {o : ((Int32 × Int32 × Int32 × zS) ⊕ (Int32 × zS))} (h : jX0_blamed_63 a1 a2 a3 a4 a5 g = some o) (hk : qX0_blamed_7 x C a1 o) : zgr g C ∧ zK x 63 63 [(0, .ref 26), (1, .int a1), (2, .int a2), (3, .int a3), (4, .int a4), (5, .int a5)] [] zD g (0 + (C / 64 - g.2.2.2 / 64)) (0 + 2 * (C - g.2.2.2)) := by
  unfold jX0_blamed_63 at h
  refine And.imp_right (fun kk => z_iconst (pc := 63) hG kc_0 dX0_blamed_63 kk) ?_
  exact kjX0_blamed_64 hG hl0 C a1 a2 a3 a4 a5 (0 : Int32) g h hk
set_option maxHeartbeats 60000 in
theorem kwX0_blamed_7 {x : zXx} (hG : zG x cX0_blamed 7 RX0 ((Option.some Jvm.ClassFile.FieldType.int))) (hl0 : (zl0 x).flags = flags0) (C : Nat) (a1 : Int32) {o : (Int32 × zS)} (hk : (ztg x = (.inl (some (.int o.1)), zD, o.2) ∧ zgr o.2 C)) : ∀ s : (Int32 × Int32 × Int32 × zS), wh (wX0_blamed_7 a1) s = some o → zgr s.2.2.2 C ∧ zK x 63 7 [(0, .ref 26), (1, .int a1), (2, .int s.1), (3, .int s.2.1), (4, .int s.2.2.1)] [] zD s.2.2.2 (0 + (C / 64 - s.2.2.2.2.2.2 / 64)) (0 + 2 * (C - s.2.2.2.2.2.2)) := by
  refine wh_ind (fun s : (Int32 × Int32 × Int32 × zS) => zgr s.2.2.2 C ∧ zK x 63 7 [(0, .ref 26), (1, .int a1), (2, .int s.1), (3, .int s.2.1), (4, .int s.2.2.1)] [] zD s.2.2.2 (0 + (C / 64 - s.2.2.2.2.2.2 / 64)) (0 + 2 * (C - s.2.2.2.2.2.2))) (fun s o h hk2 => ?_)
  replace hk : qX0_blamed_7 x C a1 o := by
    cases o with
    | inl s => exact hk2
    | inr r => subst hk2; exact hk
  clear hk2
  unfold wX0_blamed_7 at h
  refine And.imp_right (fun kk => z_iload (pc := 7) hG 4 rfl dX0_blamed_7 kk) ?_
  refine And.imp_right (fun kk => z_aload_n (pc := 9) hG 0 rfl rfl dX0_blamed_9 kk) ?_
  refine And.imp_right (fun kk => z_getr (pc := 10) hG zc_X0 inX0 DL_26 0 rfl (by decide) rfl w181 dX0_blamed_10 kk) ?_
  refine And.imp_right (fun kk => z_geti (pc := 13) hG zc_X6 inX6 DL_3 0 rfl (by decide) rfl w62 dX0_blamed_13 kk) ?_
  refine zbr (c := (s.2.2.2.1 3 0) ≤ s.2.2.1) (fun hc => ?_) (fun hc => ?_) (fun k1 k2 => z_icmp_ge (pc := 16) (tgt := 95) hG dX0_blamed_16 rfl k1 k2)
  · replace h := zif_t hc h
    replace h := zex_some h
    obtain ⟨o, h, rfl⟩ := h
    refine And.imp_right (fun kk => z_iload_n (pc := 95) hG 2 rfl rfl dX0_blamed_95 kk) ?_
    obtain rfl := Option.some.inj h
    exact ⟨hk.2, z_iret (pc := 96) hG rfl rfl hk.1 dX0_blamed_96⟩
  · replace h := zif_f hc h
    refine And.imp_right (fun kk => z_aload_n (pc := 19) hG 0 rfl rfl dX0_blamed_19 kk) ?_
    refine And.imp_right (fun kk => z_aload_n (pc := 20) hG 0 rfl rfl dX0_blamed_20 kk) ?_
    refine And.imp_right (fun kk => z_iload_n (pc := 21) hG 1 rfl rfl dX0_blamed_21 kk) ?_
    replace h := zbind h
    obtain ⟨v1, hv1, h⟩ := h
    refine And.imp_right (fun kk => z_cvI (pc := 22) (A' := 0 + (C / 64 - s.2.2.2.2.2.2 / 64)) (B' := 0 + 2 * (C - s.2.2.2.2.2.2)) hG [.int a1] [.ref 26] zc_X0 DL_26 (tX0_formOf hl0 a1 s.2.2.2 hv1) zy_X0_formOf ⟨w1067, wp44⟩ w1065 dX0_blamed_22 rfl (Nat.le_of_ble_eq_true rfl) (by omega) (by omega) rfl (Nat.le_of_ble_eq_true rfl) rfl kk) ?_
    refine And.imp_right (fun kk => z_iload (pc := 25) hG 4 rfl dX0_blamed_25 kk) ?_
    replace h := zbind h
    obtain ⟨v2, hv2, h⟩ := h
    replace h := zchk_some h
    obtain ⟨hm, h⟩ := h
    replace hm := of_decide_eq_true hm
    refine And.elim (fun hb kk => ⟨Nat.le_trans hm hb, z_cvI (pc := 27) (A' := 0 + (C / 64 - v2.2.2.2.2 / 64)) (B' := 0 + 2 * (C - v2.2.2.2.2)) (nc := 0 + (v2.2.2.2.2 / 64 - s.2.2.2.2.2.2 / 64)) (ns := 0 + 2 * (v2.2.2.2.2 - s.2.2.2.2.2.2)) hG [.int v1, .int s.2.2.1] [] zc_X0 DL_26 (tX0_countEntered hl0 v1 s.2.2.1 s.2.2.2 hv2) zy_X0_countEntered ⟨w1124, wp48⟩ w1122 dX0_blamed_27 rfl (Nat.le_of_ble_eq_true rfl) (by have hm := hm; have hb : v2.2.2.2.2 ≤ C := hb; omega) (by have hm := hm; have hb : v2.2.2.2.2 ≤ C := hb; omega) rfl (Nat.le_of_ble_eq_true rfl) rfl kk⟩) ?_
    refine And.imp_right (fun kk => z_istore (pc := 30) (ls' := [(5, .int v2.1), (0, .ref 26), (1, .int a1), (2, .int s.1), (3, .int s.2.1), (4, .int s.2.2.1)]) hG [0, 1, 2, 3, 4, 5] (by decide) rfl dX0_blamed_30 kk) ?_
    refine And.imp_right (fun kk => z_iload_n (pc := 32) hG 3 rfl rfl dX0_blamed_32 kk) ?_
    refine And.imp_right (fun kk => z_iconst (pc := 33) hG kc_m1 dX0_blamed_33 kk) ?_
    refine zbr (c := s.1 = (-1 : Int32)) (fun hc => ?_) (fun hc => ?_) (fun k1 k2 => z_icmp_eq (pc := 34) (tgt := 63) hG dX0_blamed_34 rfl k1 k2)
    · replace h := zif_t hc h
      refine And.imp_right (fun kk => z_sub (ls' := [(0, .ref 26), (1, .int a1), (2, .int s.1), (3, .int s.2.1), (4, .int s.2.2.1), (5, .int v2.1)]) [1, 2, 3, 4, 5, 0] rfl kk) ?_
      exact kjX0_blamed_63 hG hl0 C a1 s.1 s.2.1 s.2.2.1 v2.1 v2.2 h hk
    · replace h := zif_f hc h
      refine And.imp_right (fun kk => z_aload_n (pc := 37) hG 1 rfl rfl dX0_blamed_37 kk) ?_
      refine And.imp_right (fun kk => z_getr (pc := 38) hG zc_X0 inX0 DL_26 0 rfl (by decide) rfl w181 dX0_blamed_38 kk) ?_
      refine And.imp_right (fun kk => z_getr (pc := 41) hG zc_X6 inX6 DL_3 2 rfl (by decide) rfl w73 dX0_blamed_41 kk) ?_
      refine And.imp_right (fun kk => z_iload (pc := 44) hG 5 rfl dX0_blamed_44 kk) ?_
      replace h := zchk_some h
      obtain ⟨hc, h⟩ := h
      refine And.imp_right (fun kk => z_iald (pc := 46) hG DL_5 (zin_in hc) dX0_blamed_46 kk) ?_
      refine And.imp_right (fun kk => z_aload_n (pc := 47) hG 1 rfl rfl dX0_blamed_47 kk) ?_
      refine And.imp_right (fun kk => z_getr (pc := 48) hG zc_X0 inX0 DL_26 0 rfl (by decide) rfl w181 dX0_blamed_48 kk) ?_
      refine And.imp_right (fun kk => z_getr (pc := 51) hG zc_X6 inX6 DL_3 2 rfl (by decide) rfl w73 dX0_blamed_51 kk) ?_
      refine And.imp_right (fun kk => z_iload_n (pc := 54) hG 3 rfl rfl dX0_blamed_54 kk) ?_
      replace h := zchk_some h
      obtain ⟨hc, h⟩ := h
      refine And.imp_right (fun kk => z_iald (pc := 55) hG DL_5 (zin_in hc) dX0_blamed_55 kk) ?_
      refine zbr (c := (v2.2.1 5 s.1.toNatClampNeg) ≤ (v2.2.1 5 s.2.2.1.toNatClampNeg)) (fun hc => ?_) (fun hc => ?_) (fun k1 k2 => z_icmp_ge (pc := 56) (tgt := 63) hG dX0_blamed_56 rfl k1 k2)
      · replace h := zif_t hc h
        refine And.imp_right (fun kk => z_sub (ls' := [(0, .ref 26), (1, .int a1), (2, .int s.1), (3, .int s.2.1), (4, .int s.2.2.1), (5, .int v2.1)]) [1, 2, 3, 4, 5, 0] rfl kk) ?_
        exact kjX0_blamed_63 hG hl0 C a1 s.1 s.2.1 s.2.2.1 v2.1 v2.2 h hk
      · replace h := zif_f hc h
        refine And.imp_right (fun kk => z_iconst (pc := 59) hG kc_1 dX0_blamed_59 kk) ?_
        refine And.imp_right (fun kk => z_goto (pc := 60) (tgt := 64) hG dX0_blamed_60 rfl kk) ?_
        refine And.imp_right (fun kk => z_sub (ls' := [(0, .ref 26), (1, .int a1), (2, .int s.1), (3, .int s.2.1), (4, .int s.2.2.1), (5, .int v2.1)]) [1, 2, 3, 4, 5, 0] rfl kk) ?_
        exact kjX0_blamed_64 hG hl0 C a1 s.1 s.2.1 s.2.2.1 v2.1 (1 : Int32) v2.2 h hk
set_option maxHeartbeats 60000 in
theorem tX0_blamed {l : Launch} (hl0 : l.flags = flags0) (a1 : Int32) (g : zS) {r : (Int32 × zS)} (h : nX0_blamed a1 g = some r) : zC l yX0_blamed cX0_blamed 7 ((Option.some Jvm.ClassFile.FieldType.int)) 63 (0 + (r.2.2.2.2 / 64 - g.2.2.2 / 64)) (0 + 2 * (r.2.2.2.2 - g.2.2.2)) [.ref 26, .int a1] zD g (.inl (some (.int r.1)), zD, r.2) := by
  refine zC_of hl0 rfl (Nat.le_of_ble_eq_true rfl) (fun x hG hxl hk _ => ?_)
  subst hxl
  obtain ⟨C, hC0⟩ : ∃ C : Nat, C = r.2.2.2.2 := ⟨_, rfl⟩
  replace hk := And.intro hk (Nat.le_of_eq hC0.symm)
  rw [← hC0]
  suffices hp : zgr g C ∧ zK x 63 0 [(0, .ref 26), (1, .int a1)] [] zD g (0 + (C / 64 - g.2.2.2 / 64)) (0 + 2 * (C - g.2.2.2)) from hp.2
  unfold nX0_blamed at h
  refine And.imp_right (fun kk => z_iconst (pc := 0) hG kc_m1 dX0_blamed_0 kk) ?_
  refine And.imp_right (fun kk => z_istore_n (pc := 1) (ls' := [(2, .int (-1 : Int32)), (0, .ref 26), (1, .int a1)]) hG [0, 1, 2] rfl (by decide) rfl dX0_blamed_1 kk) ?_
  refine And.imp_right (fun kk => z_iconst (pc := 2) hG kc_0 dX0_blamed_2 kk) ?_
  refine And.imp_right (fun kk => z_istore_n (pc := 3) (ls' := [(3, .int (0 : Int32)), (2, .int (-1 : Int32)), (0, .ref 26), (1, .int a1)]) hG [0, 1, 2, 3] rfl (by decide) rfl dX0_blamed_3 kk) ?_
  refine And.imp_right (fun kk => z_iconst (pc := 4) hG kc_0 dX0_blamed_4 kk) ?_
  refine And.imp_right (fun kk => z_istore (pc := 5) (ls' := [(4, .int (0 : Int32)), (3, .int (0 : Int32)), (2, .int (-1 : Int32)), (0, .ref 26), (1, .int a1)]) hG [0, 1, 2, 3, 4] (by decide) rfl dX0_blamed_5 kk) ?_
  refine And.imp_right (fun kk => z_sub (ls' := [(0, .ref 26), (1, .int a1), (2, .int (-1 : Int32)), (3, .int (0 : Int32)), (4, .int (0 : Int32))]) [3, 4, 2, 1, 0] rfl kk) ?_
  exact kwX0_blamed_7 hG hl0 C a1 hk ((-1 : Int32), (0 : Int32), (0 : Int32), g) h
noncomputable def nX10_blame (a1 : Int32) (g : zS) : Option ((Int32 ⊕ String) × zS) :=
  (nX10_needRow a1 g).bind fun v1 => zel v1 (fun w1 => (nX10_needAnswers a1 (0 : Int32) g).bind fun v2 => zel v2 (fun w2 => (nX8_codeOf a1 g).bind fun v3 => (nX0_blamed v3 g).bind fun v4 => zchk (decide (g.2.2.2 ≤ v4.2.2.2.2)) (some ((.inl v4.1, v4.2)))) (fun e => some ((.inr e, g)))) (fun e => some ((.inr e, g)))
set_option maxHeartbeats 60000 in
theorem tX10_blame {l : Launch} (hl0 : l.flags = flags0) (a1 : Int32) (g : zS) {r : ((Int32 ⊕ String) × zS)} (h : nX10_blame a1 g = some r) : zC l yX10_blame cX10_blame 2 ((Option.some Jvm.ClassFile.FieldType.int)) 64 (2 + (r.2.2.2.2 / 64 - g.2.2.2 / 64)) (12 + 2 * (r.2.2.2.2 - g.2.2.2)) [.ref 0, .int a1] zD g (ztI r.1, zD, r.2) := by
  refine zC_of hl0 rfl (Nat.le_of_ble_eq_true rfl) (fun x hG hxl hk _ => ?_)
  subst hxl
  obtain ⟨C, hC0⟩ : ∃ C : Nat, C = r.2.2.2.2 := ⟨_, rfl⟩
  replace hk := And.intro hk (Nat.le_of_eq hC0.symm)
  rw [← hC0]
  suffices hp : zgr g C ∧ zK x 64 0 [(0, .ref 0), (1, .int a1)] [] zD g (2 + (C / 64 - g.2.2.2 / 64)) (12 + 2 * (C - g.2.2.2)) from hp.2
  unfold nX10_blame at h
  refine And.imp_right (fun kk => z_aload_n (pc := 0) hG 0 rfl rfl dX10_blame_0 kk) ?_
  refine And.imp_right (fun kk => z_iload_n (pc := 1) hG 1 rfl rfl dX10_blame_1 kk) ?_
  replace h := zbind h
  obtain ⟨w1 | e, hv1, h⟩ := h
  rotate_left
  · replace h := zel_r h
    obtain rfl := Option.some.inj h
    exact ⟨hk.2, z_cvX (pc := 2) hG [.int a1] [] zc_X10 DL_0 (tX10_needRow hl0 a1 g hv1) zy_X10_needRow ⟨w989, wp41⟩ w987 dX10_blame_2 rfl (Nat.le_of_ble_eq_true rfl) (by omega) (by omega) (Nat.le_of_ble_eq_true rfl) rfl hk.1⟩
  replace h := zel_l h
  refine And.imp_right (fun kk => z_cvV (pc := 2) (A' := 1 + (C / 64 - g.2.2.2 / 64)) (B' := 6 + 2 * (C - g.2.2.2)) hG [.int a1] [] zc_X10 DL_0 (tX10_needRow hl0 a1 g hv1) zy_X10_needRow ⟨w989, wp41⟩ w987 dX10_blame_2 rfl (Nat.le_of_ble_eq_true rfl) (by omega) (by omega) rfl (Nat.le_of_ble_eq_true rfl) rfl kk) ?_
  refine And.imp_right (fun kk => z_aload_n (pc := 5) hG 0 rfl rfl dX10_blame_5 kk) ?_
  refine And.imp_right (fun kk => z_iload_n (pc := 6) hG 1 rfl rfl dX10_blame_6 kk) ?_
  refine And.imp_right (fun kk => z_iconst (pc := 7) hG kc_0 dX10_blame_7 kk) ?_
  replace h := zbind h
  obtain ⟨w2 | e, hv2, h⟩ := h
  rotate_left
  · replace h := zel_r h
    obtain rfl := Option.some.inj h
    exact ⟨hk.2, z_cvX (pc := 8) hG [.int a1, .int (0 : Int32)] [] zc_X10 DL_0 (tX10_needAnswers hl0 a1 (0 : Int32) g hv2) zy_X10_needAnswers ⟨w1058, wp43⟩ w1056 dX10_blame_8 rfl (Nat.le_of_ble_eq_true rfl) (by omega) (by omega) (Nat.le_of_ble_eq_true rfl) rfl hk.1⟩
  replace h := zel_l h
  refine And.imp_right (fun kk => z_cvV (pc := 8) (A' := 0 + (C / 64 - g.2.2.2 / 64)) (B' := 0 + 2 * (C - g.2.2.2)) hG [.int a1, .int (0 : Int32)] [] zc_X10 DL_0 (tX10_needAnswers hl0 a1 (0 : Int32) g hv2) zy_X10_needAnswers ⟨w1058, wp43⟩ w1056 dX10_blame_8 rfl (Nat.le_of_ble_eq_true rfl) (by omega) (by omega) rfl (Nat.le_of_ble_eq_true rfl) rfl kk) ?_
  refine And.imp_right (fun kk => z_aload_n (pc := 11) hG 0 rfl rfl dX10_blame_11 kk) ?_
  refine And.imp_right (fun kk => z_getr (pc := 12) hG zc_X10 inX10 DL_0 5 rfl (by decide) rfl w284 dX10_blame_12 kk) ?_
  refine And.imp_right (fun kk => z_aload_n (pc := 15) hG 0 rfl rfl dX10_blame_15 kk) ?_
  refine And.imp_right (fun kk => z_getr (pc := 16) hG zc_X10 inX10 DL_0 6 rfl (by decide) rfl w285 dX10_blame_16 kk) ?_
  refine And.imp_right (fun kk => z_iload_n (pc := 19) hG 1 rfl rfl dX10_blame_19 kk) ?_
  replace h := zbind h
  obtain ⟨v3, hv3, h⟩ := h
  refine And.imp_right (fun kk => z_cvI (pc := 20) (A' := 0 + (C / 64 - g.2.2.2 / 64)) (B' := 0 + 2 * (C - g.2.2.2)) hG [.int a1] [.ref 26] zc_X8 DL_31 (tX8_codeOf hl0 a1 g hv3) zy_X8_codeOf ⟨w992, w993⟩ w991 dX10_blame_20 rfl (Nat.le_of_ble_eq_true rfl) (by omega) (by omega) rfl (Nat.le_of_ble_eq_true rfl) rfl kk) ?_
  replace h := zbind h
  obtain ⟨v4, hv4, h⟩ := h
  replace h := zchk_some h
  obtain ⟨hm, h⟩ := h
  replace hm := of_decide_eq_true hm
  refine And.elim (fun hb kk => ⟨Nat.le_trans hm hb, z_cvI (pc := 23) (A' := 0 + (C / 64 - v4.2.2.2.2 / 64)) (B' := 0 + 2 * (C - v4.2.2.2.2)) (nc := 0 + (v4.2.2.2.2 / 64 - g.2.2.2 / 64)) (ns := 0 + 2 * (v4.2.2.2.2 - g.2.2.2)) hG [.int v3] [] zc_X0 DL_26 (tX0_blamed hl0 v3 g hv4) zy_X0_blamed ⟨w1119, w1120⟩ w1118 dX10_blame_23 rfl (Nat.le_of_ble_eq_true rfl) (by have hm := hm; have hb : v4.2.2.2.2 ≤ C := hb; omega) (by have hm := hm; have hb : v4.2.2.2.2 ≤ C := hb; omega) rfl (Nat.le_of_ble_eq_true rfl) rfl kk⟩) ?_
  obtain rfl := Option.some.inj h
  exact ⟨hk.2, z_iret (pc := 26) hG rfl rfl hk.1 dX10_blame_26⟩
