theorem dX0_init_0 : decode cX0_init 0 = .ok (.aload_n 0, 1) := by decide +kernel
theorem dX0_init_1 : decode cX0_init 1 = .ok (.invokespecial 3, 3) := by decide +kernel
theorem dX0_init_4 : decode cX0_init 4 = .ok (.aload_n 0, 1) := by decide +kernel
theorem dX0_init_5 : decode cX0_init 5 = .ok (.iconst 2, 1) := by decide +kernel
theorem dX0_init_6 : decode cX0_init 6 = .ok (.putfield 9, 3) := by decide +kernel
theorem dX0_init_9 : decode cX0_init 9 = .ok (.aload_n 0, 1) := by decide +kernel
theorem dX0_init_10 : decode cX0_init 10 = .ok (.bipush 10, 2) := by decide +kernel
theorem dX0_init_12 : decode cX0_init 12 = .ok (.putfield 15, 3) := by decide +kernel
theorem dX0_init_15 : decode cX0_init 15 = .ok (.aload_n 0, 1) := by decide +kernel
theorem dX0_init_16 : decode cX0_init 16 = .ok (.aload_n 1, 1) := by decide +kernel
theorem dX0_init_17 : decode cX0_init 17 = .ok (.putfield 18, 3) := by decide +kernel
theorem dX0_init_20 : decode cX0_init 20 = .ok (.aload_n 0, 1) := by decide +kernel
theorem dX0_init_21 : decode cX0_init 21 = .ok (.aload_n 2, 1) := by decide +kernel
theorem dX0_init_22 : decode cX0_init 22 = .ok (.putfield 22, 3) := by decide +kernel
theorem dX0_init_25 : decode cX0_init 25 = .ok (.return_, 1) := by decide +kernel
theorem dX0_agree_0 : decode cX0_agree 0 = .ok (.iload_n 1, 1) := by decide +kernel
theorem dX0_agree_1 : decode cX0_agree 1 = .ok (.iconst 0, 1) := by decide +kernel
theorem dX0_agree_2 : decode cX0_agree 2 = .ok (.bipush 30, 2) := by decide +kernel
theorem dX0_agree_4 : decode cX0_agree 4 = .ok (.invokestatic 26, 3) := by decide +kernel
theorem dX0_agree_7 : decode cX0_agree 7 = .ok (.ifCond .eq 13, 3) := by decide +kernel
theorem dX0_agree_10 : decode cX0_agree 10 = .ok (.iload_n 2, 1) := by decide +kernel
theorem dX0_agree_11 : decode cX0_agree 11 = .ok (.iconst 0, 1) := by decide +kernel
theorem dX0_agree_12 : decode cX0_agree 12 = .ok (.bipush 100, 2) := by decide +kernel
theorem dX0_agree_14 : decode cX0_agree 14 = .ok (.invokestatic 26, 3) := by decide +kernel
theorem dX0_agree_17 : decode cX0_agree 17 = .ok (.ifCond .ne 5, 3) := by decide +kernel
theorem dX0_agree_20 : decode cX0_agree 20 = .ok (.iconst 0, 1) := by decide +kernel
theorem dX0_agree_21 : decode cX0_agree 21 = .ok (.ireturn, 1) := by decide +kernel
theorem dX0_agree_22 : decode cX0_agree 22 = .ok (.aload_n 0, 1) := by decide +kernel
theorem dX0_agree_23 : decode cX0_agree 23 = .ok (.iload_n 1, 1) := by decide +kernel
theorem dX0_agree_24 : decode cX0_agree 24 = .ok (.putfield 9, 3) := by decide +kernel
theorem dX0_agree_27 : decode cX0_agree 27 = .ok (.aload_n 0, 1) := by decide +kernel
theorem dX0_agree_28 : decode cX0_agree 28 = .ok (.iload_n 2, 1) := by decide +kernel
theorem dX0_agree_29 : decode cX0_agree 29 = .ok (.putfield 15, 3) := by decide +kernel
theorem dX0_agree_32 : decode cX0_agree 32 = .ok (.iconst 1, 1) := by decide +kernel
theorem dX0_agree_33 : decode cX0_agree 33 = .ok (.ireturn, 1) := by decide +kernel
theorem dX0_owed_0 : decode cX0_owed 0 = .ok (.aload_n 0, 1) := by decide +kernel
theorem dX0_owed_1 : decode cX0_owed 1 = .ok (.getfield 18, 3) := by decide +kernel
theorem dX0_owed_4 : decode cX0_owed 4 = .ok (.iload_n 1, 1) := by decide +kernel
theorem dX0_owed_5 : decode cX0_owed 5 = .ok (.invokevirtual 30, 3) := by decide +kernel
theorem dX0_owed_8 : decode cX0_owed 8 = .ok (.ifCond .eq 10, 3) := by decide +kernel
theorem dX0_owed_11 : decode cX0_owed 11 = .ok (.iload_n 2, 1) := by decide +kernel
theorem dX0_owed_12 : decode cX0_owed 12 = .ok (.invokestatic 36, 3) := by decide +kernel
theorem dX0_owed_15 : decode cX0_owed 15 = .ok (.ifCond .ne 5, 3) := by decide +kernel
theorem dX0_owed_18 : decode cX0_owed 18 = .ok (.iconst 0, 1) := by decide +kernel
theorem dX0_owed_19 : decode cX0_owed 19 = .ok (.ireturn, 1) := by decide +kernel
theorem dX0_owed_20 : decode cX0_owed 20 = .ok (.aload_n 0, 1) := by decide +kernel
theorem dX0_owed_21 : decode cX0_owed 21 = .ok (.getfield 22, 3) := by decide +kernel
theorem dX0_owed_24 : decode cX0_owed 24 = .ok (.invokevirtual 39, 3) := by decide +kernel
theorem dX0_owed_27 : decode cX0_owed 27 = .ok (.aload_n 0, 1) := by decide +kernel
theorem dX0_owed_28 : decode cX0_owed 28 = .ok (.iload_n 1, 1) := by decide +kernel
theorem dX0_owed_29 : decode cX0_owed 29 = .ok (.iload_n 2, 1) := by decide +kernel
theorem dX0_owed_30 : decode cX0_owed 30 = .ok (.invokevirtual 44, 3) := by decide +kernel
theorem dX0_owed_33 : decode cX0_owed 33 = .ok (.ireturn, 1) := by decide +kernel
theorem dX0_owedAsJoined_0 : decode cX0_owedAsJoined 0 = .ok (.aload_n 0, 1) := by decide +kernel
theorem dX0_owedAsJoined_1 : decode cX0_owedAsJoined 1 = .ok (.getfield 18, 3) := by decide +kernel
theorem dX0_owedAsJoined_4 : decode cX0_owedAsJoined 4 = .ok (.getfield 48, 3) := by decide +kernel
theorem dX0_owedAsJoined_7 : decode cX0_owedAsJoined 7 = .ok (.iload_n 1, 1) := by decide +kernel
theorem dX0_owedAsJoined_8 : decode cX0_owedAsJoined 8 = .ok (.iaload, 1) := by decide +kernel
theorem dX0_owedAsJoined_9 : decode cX0_owedAsJoined 9 = .ok (.iload_n 2, 1) := by decide +kernel
theorem dX0_owedAsJoined_10 : decode cX0_owedAsJoined 10 = .ok (.if_icmp .ne 5, 3) := by decide +kernel
theorem dX0_owedAsJoined_13 : decode cX0_owedAsJoined 13 = .ok (.iconst 0, 1) := by decide +kernel
theorem dX0_owedAsJoined_14 : decode cX0_owedAsJoined 14 = .ok (.ireturn, 1) := by decide +kernel
theorem dX0_owedAsJoined_15 : decode cX0_owedAsJoined 15 = .ok (.iconst 0, 1) := by decide +kernel
theorem dX0_owedAsJoined_16 : decode cX0_owedAsJoined 16 = .ok (.istore_n 3, 1) := by decide +kernel
theorem dX0_owedAsJoined_17 : decode cX0_owedAsJoined 17 = .ok (.iconst (-1), 1) := by decide +kernel
theorem dX0_owedAsJoined_18 : decode cX0_owedAsJoined 18 = .ok (.istore 4, 2) := by decide +kernel
theorem dX0_owedAsJoined_20 : decode cX0_owedAsJoined 20 = .ok (.iconst 0, 1) := by decide +kernel
theorem dX0_owedAsJoined_21 : decode cX0_owedAsJoined 21 = .ok (.istore 5, 2) := by decide +kernel
theorem dX0_owedAsJoined_23 : decode cX0_owedAsJoined 23 = .ok (.iload 5, 2) := by decide +kernel
theorem dX0_owedAsJoined_25 : decode cX0_owedAsJoined 25 = .ok (.aload_n 0, 1) := by decide +kernel
theorem dX0_owedAsJoined_26 : decode cX0_owedAsJoined 26 = .ok (.getfield 18, 3) := by decide +kernel
theorem dX0_owedAsJoined_29 : decode cX0_owedAsJoined 29 = .ok (.getfield 52, 3) := by decide +kernel
theorem dX0_owedAsJoined_32 : decode cX0_owedAsJoined 32 = .ok (.if_icmp .ge 75, 3) := by decide +kernel
theorem dX0_owedAsJoined_35 : decode cX0_owedAsJoined 35 = .ok (.aload_n 0, 1) := by decide +kernel
theorem dX0_owedAsJoined_36 : decode cX0_owedAsJoined 36 = .ok (.getfield 22, 3) := by decide +kernel
theorem dX0_owedAsJoined_39 : decode cX0_owedAsJoined 39 = .ok (.getfield 55, 3) := by decide +kernel
theorem dX0_owedAsJoined_42 : decode cX0_owedAsJoined 42 = .ok (.iload 5, 2) := by decide +kernel
theorem dX0_owedAsJoined_44 : decode cX0_owedAsJoined 44 = .ok (.iaload, 1) := by decide +kernel
theorem dX0_owedAsJoined_45 : decode cX0_owedAsJoined 45 = .ok (.iload_n 1, 1) := by decide +kernel
theorem dX0_owedAsJoined_46 : decode cX0_owedAsJoined 46 = .ok (.if_icmp .ne 55, 3) := by decide +kernel
theorem dX0_owedAsJoined_49 : decode cX0_owedAsJoined 49 = .ok (.iload 4, 2) := by decide +kernel
theorem dX0_owedAsJoined_51 : decode cX0_owedAsJoined 51 = .ok (.iconst (-1), 1) := by decide +kernel
theorem dX0_owedAsJoined_52 : decode cX0_owedAsJoined 52 = .ok (.if_icmp .eq 45, 3) := by decide +kernel
theorem dX0_owedAsJoined_55 : decode cX0_owedAsJoined 55 = .ok (.aload_n 0, 1) := by decide +kernel
theorem dX0_owedAsJoined_56 : decode cX0_owedAsJoined 56 = .ok (.getfield 18, 3) := by decide +kernel
theorem dX0_owedAsJoined_59 : decode cX0_owedAsJoined 59 = .ok (.getfield 58, 3) := by decide +kernel
theorem dX0_owedAsJoined_62 : decode cX0_owedAsJoined 62 = .ok (.iload 4, 2) := by decide +kernel
theorem dX0_owedAsJoined_64 : decode cX0_owedAsJoined 64 = .ok (.iaload, 1) := by decide +kernel
theorem dX0_owedAsJoined_65 : decode cX0_owedAsJoined 65 = .ok (.iload_n 2, 1) := by decide +kernel
theorem dX0_owedAsJoined_66 : decode cX0_owedAsJoined 66 = .ok (.if_icmp .ne 31, 3) := by decide +kernel
theorem dX0_owedAsJoined_69 : decode cX0_owedAsJoined 69 = .ok (.iload_n 3, 1) := by decide +kernel
theorem dX0_owedAsJoined_70 : decode cX0_owedAsJoined 70 = .ok (.aload_n 0, 1) := by decide +kernel
theorem dX0_owedAsJoined_71 : decode cX0_owedAsJoined 71 = .ok (.aload_n 0, 1) := by decide +kernel
theorem dX0_owedAsJoined_72 : decode cX0_owedAsJoined 72 = .ok (.getfield 18, 3) := by decide +kernel
theorem dX0_owedAsJoined_75 : decode cX0_owedAsJoined 75 = .ok (.getfield 61, 3) := by decide +kernel
theorem dX0_owedAsJoined_78 : decode cX0_owedAsJoined 78 = .ok (.iload 5, 2) := by decide +kernel
theorem dX0_owedAsJoined_80 : decode cX0_owedAsJoined 80 = .ok (.iaload, 1) := by decide +kernel
theorem dX0_owedAsJoined_81 : decode cX0_owedAsJoined 81 = .ok (.aload_n 0, 1) := by decide +kernel
theorem dX0_owedAsJoined_82 : decode cX0_owedAsJoined 82 = .ok (.getfield 18, 3) := by decide +kernel
theorem dX0_owedAsJoined_85 : decode cX0_owedAsJoined 85 = .ok (.getfield 61, 3) := by decide +kernel
theorem dX0_owedAsJoined_88 : decode cX0_owedAsJoined 88 = .ok (.iload 4, 2) := by decide +kernel
theorem dX0_owedAsJoined_90 : decode cX0_owedAsJoined 90 = .ok (.iaload, 1) := by decide +kernel
theorem dX0_owedAsJoined_91 : decode cX0_owedAsJoined 91 = .ok (.isub, 1) := by decide +kernel
theorem dX0_owedAsJoined_92 : decode cX0_owedAsJoined 92 = .ok (.invokevirtual 64, 3) := by decide +kernel
theorem dX0_owedAsJoined_95 : decode cX0_owedAsJoined 95 = .ok (.iadd, 1) := by decide +kernel
theorem dX0_owedAsJoined_96 : decode cX0_owedAsJoined 96 = .ok (.istore_n 3, 1) := by decide +kernel
theorem dX0_owedAsJoined_97 : decode cX0_owedAsJoined 97 = .ok (.iload 5, 2) := by decide +kernel
theorem dX0_owedAsJoined_99 : decode cX0_owedAsJoined 99 = .ok (.istore 4, 2) := by decide +kernel
theorem dX0_owedAsJoined_101 : decode cX0_owedAsJoined 101 = .ok (.iinc 5 1, 3) := by decide +kernel
theorem dX0_owedAsJoined_104 : decode cX0_owedAsJoined 104 = .ok (.goto (-81), 3) := by decide +kernel
theorem dX0_owedAsJoined_107 : decode cX0_owedAsJoined 107 = .ok (.iload_n 3, 1) := by decide +kernel
theorem dX0_owedAsJoined_108 : decode cX0_owedAsJoined 108 = .ok (.ireturn, 1) := by decide +kernel
theorem dX0_priceOf_0 : decode cX0_priceOf 0 = .ok (.iconst 0, 1) := by decide +kernel
theorem dX0_priceOf_1 : decode cX0_priceOf 1 = .ok (.iload_n 1, 1) := by decide +kernel
theorem dX0_priceOf_2 : decode cX0_priceOf 2 = .ok (.aload_n 0, 1) := by decide +kernel
theorem dX0_priceOf_3 : decode cX0_priceOf 3 = .ok (.getfield 9, 3) := by decide +kernel
theorem dX0_priceOf_6 : decode cX0_priceOf 6 = .ok (.isub, 1) := by decide +kernel
theorem dX0_priceOf_7 : decode cX0_priceOf 7 = .ok (.invokestatic 68, 3) := by decide +kernel
theorem dX0_priceOf_10 : decode cX0_priceOf 10 = .ok (.aload_n 0, 1) := by decide +kernel
theorem dX0_priceOf_11 : decode cX0_priceOf 11 = .ok (.getfield 15, 3) := by decide +kernel
theorem dX0_priceOf_14 : decode cX0_priceOf 14 = .ok (.imul, 1) := by decide +kernel
theorem dX0_priceOf_15 : decode cX0_priceOf 15 = .ok (.ireturn, 1) := by decide +kernel
theorem dX0_addCharges_0 : decode cX0_addCharges 0 = .ok (.aload_n 1, 1) := by decide +kernel
theorem dX0_addCharges_1 : decode cX0_addCharges 1 = .ok (.arraylength, 1) := by decide +kernel
theorem dX0_addCharges_2 : decode cX0_addCharges 2 = .ok (.bipush 8, 2) := by decide +kernel
theorem dX0_addCharges_4 : decode cX0_addCharges 4 = .ok (.if_icmp .ge 4, 3) := by decide +kernel
theorem dX0_addCharges_7 : decode cX0_addCharges 7 = .ok (.return_, 1) := by decide +kernel
theorem dX0_addCharges_8 : decode cX0_addCharges 8 = .ok (.aload_n 0, 1) := by decide +kernel
theorem dX0_addCharges_9 : decode cX0_addCharges 9 = .ok (.getfield 22, 3) := by decide +kernel
theorem dX0_addCharges_12 : decode cX0_addCharges 12 = .ok (.invokevirtual 39, 3) := by decide +kernel
theorem dX0_addCharges_15 : decode cX0_addCharges 15 = .ok (.iconst 0, 1) := by decide +kernel
theorem dX0_addCharges_16 : decode cX0_addCharges 16 = .ok (.istore_n 2, 1) := by decide +kernel
theorem dX0_addCharges_17 : decode cX0_addCharges 17 = .ok (.iload_n 2, 1) := by decide +kernel
theorem dX0_addCharges_18 : decode cX0_addCharges 18 = .ok (.aload_n 0, 1) := by decide +kernel
theorem dX0_addCharges_19 : decode cX0_addCharges 19 = .ok (.getfield 18, 3) := by decide +kernel
theorem dX0_addCharges_22 : decode cX0_addCharges 22 = .ok (.getfield 73, 3) := by decide +kernel
theorem dX0_addCharges_25 : decode cX0_addCharges 25 = .ok (.if_icmp .ge 55, 3) := by decide +kernel
theorem dX0_addCharges_28 : decode cX0_addCharges 28 = .ok (.iconst 0, 1) := by decide +kernel
theorem dX0_addCharges_29 : decode cX0_addCharges 29 = .ok (.istore_n 3, 1) := by decide +kernel
theorem dX0_addCharges_30 : decode cX0_addCharges 30 = .ok (.iload_n 3, 1) := by decide +kernel
theorem dX0_addCharges_31 : decode cX0_addCharges 31 = .ok (.bipush 8, 2) := by decide +kernel
theorem dX0_addCharges_33 : decode cX0_addCharges 33 = .ok (.if_icmp .ge 41, 3) := by decide +kernel
theorem dX0_addCharges_36 : decode cX0_addCharges 36 = .ok (.aload_n 0, 1) := by decide +kernel
theorem dX0_addCharges_37 : decode cX0_addCharges 37 = .ok (.iload_n 2, 1) := by decide +kernel
theorem dX0_addCharges_38 : decode cX0_addCharges 38 = .ok (.iload_n 3, 1) := by decide +kernel
theorem dX0_addCharges_39 : decode cX0_addCharges 39 = .ok (.invokevirtual 44, 3) := by decide +kernel
theorem dX0_addCharges_42 : decode cX0_addCharges 42 = .ok (.istore 4, 2) := by decide +kernel
theorem dX0_addCharges_44 : decode cX0_addCharges 44 = .ok (.aload_n 1, 1) := by decide +kernel
theorem dX0_addCharges_45 : decode cX0_addCharges 45 = .ok (.iload_n 3, 1) := by decide +kernel
theorem dX0_addCharges_46 : decode cX0_addCharges 46 = .ok (.dup2, 1) := by decide +kernel
theorem dX0_addCharges_47 : decode cX0_addCharges 47 = .ok (.iaload, 1) := by decide +kernel
theorem dX0_addCharges_48 : decode cX0_addCharges 48 = .ok (.iload 4, 2) := by decide +kernel
theorem dX0_addCharges_50 : decode cX0_addCharges 50 = .ok (.isub, 1) := by decide +kernel
theorem dX0_addCharges_51 : decode cX0_addCharges 51 = .ok (.iastore, 1) := by decide +kernel
theorem dX0_addCharges_52 : decode cX0_addCharges 52 = .ok (.aload_n 1, 1) := by decide +kernel
theorem dX0_addCharges_53 : decode cX0_addCharges 53 = .ok (.aload_n 0, 1) := by decide +kernel
theorem dX0_addCharges_54 : decode cX0_addCharges 54 = .ok (.getfield 18, 3) := by decide +kernel
theorem dX0_addCharges_57 : decode cX0_addCharges 57 = .ok (.getfield 48, 3) := by decide +kernel
theorem dX0_addCharges_60 : decode cX0_addCharges 60 = .ok (.iload_n 2, 1) := by decide +kernel
theorem dX0_addCharges_61 : decode cX0_addCharges 61 = .ok (.iaload, 1) := by decide +kernel
theorem dX0_addCharges_62 : decode cX0_addCharges 62 = .ok (.dup2, 1) := by decide +kernel
theorem dX0_addCharges_63 : decode cX0_addCharges 63 = .ok (.iaload, 1) := by decide +kernel
theorem dX0_addCharges_64 : decode cX0_addCharges 64 = .ok (.iload 4, 2) := by decide +kernel
theorem dX0_addCharges_66 : decode cX0_addCharges 66 = .ok (.iadd, 1) := by decide +kernel
theorem dX0_addCharges_67 : decode cX0_addCharges 67 = .ok (.iastore, 1) := by decide +kernel
theorem dX0_addCharges_68 : decode cX0_addCharges 68 = .ok (.iinc 3 1, 3) := by decide +kernel
theorem dX0_addCharges_71 : decode cX0_addCharges 71 = .ok (.goto (-41), 3) := by decide +kernel
theorem dX0_addCharges_74 : decode cX0_addCharges 74 = .ok (.iinc 2 1, 3) := by decide +kernel
theorem dX0_addCharges_77 : decode cX0_addCharges 77 = .ok (.goto (-60), 3) := by decide +kernel
theorem dX0_addCharges_80 : decode cX0_addCharges 80 = .ok (.return_, 1) := by decide +kernel
theorem dX1_init_0 : decode cX1_init 0 = .ok (.aload_n 0, 1) := by decide +kernel
theorem dX1_init_1 : decode cX1_init 1 = .ok (.invokespecial 3, 3) := by decide +kernel
theorem dX1_init_4 : decode cX1_init 4 = .ok (.aload_n 0, 1) := by decide +kernel
theorem dX1_init_5 : decode cX1_init 5 = .ok (.sipush 256, 3) := by decide +kernel
theorem dX1_init_8 : decode cX1_init 8 = .ok (.newarray .int, 2) := by decide +kernel
theorem dX1_init_10 : decode cX1_init 10 = .ok (.putfield 11, 3) := by decide +kernel
theorem dX1_init_13 : decode cX1_init 13 = .ok (.aload_n 0, 1) := by decide +kernel
theorem dX1_init_14 : decode cX1_init 14 = .ok (.sipush 256, 3) := by decide +kernel
theorem dX1_init_17 : decode cX1_init 17 = .ok (.newarray .int, 2) := by decide +kernel
theorem dX1_init_19 : decode cX1_init 19 = .ok (.putfield 15, 3) := by decide +kernel
theorem dX1_init_22 : decode cX1_init 22 = .ok (.aload_n 0, 1) := by decide +kernel
theorem dX1_init_23 : decode cX1_init 23 = .ok (.iconst 0, 1) := by decide +kernel
theorem dX1_init_24 : decode cX1_init 24 = .ok (.putfield 18, 3) := by decide +kernel
theorem dX1_init_27 : decode cX1_init 27 = .ok (.return_, 1) := by decide +kernel
theorem dX1_weigh_0 : decode cX1_weigh 0 = .ok (.aload_n 1, 1) := by decide +kernel
theorem dX1_weigh_1 : decode cX1_weigh 1 = .ok (.arraylength, 1) := by decide +kernel
theorem dX1_weigh_2 : decode cX1_weigh 2 = .ok (.bipush 8, 2) := by decide +kernel
theorem dX1_weigh_4 : decode cX1_weigh 4 = .ok (.if_icmp .ge 4, 3) := by decide +kernel
theorem dX1_weigh_7 : decode cX1_weigh 7 = .ok (.return_, 1) := by decide +kernel
theorem dX1_weigh_8 : decode cX1_weigh 8 = .ok (.aload_n 0, 1) := by decide +kernel
theorem dX1_weigh_9 : decode cX1_weigh 9 = .ok (.iconst 0, 1) := by decide +kernel
theorem dX1_weigh_10 : decode cX1_weigh 10 = .ok (.putfield 18, 3) := by decide +kernel
theorem dX1_weigh_13 : decode cX1_weigh 13 = .ok (.iconst 0, 1) := by decide +kernel
theorem dX1_weigh_14 : decode cX1_weigh 14 = .ok (.istore_n 2, 1) := by decide +kernel
theorem dX1_weigh_15 : decode cX1_weigh 15 = .ok (.iload_n 2, 1) := by decide +kernel
theorem dX1_weigh_16 : decode cX1_weigh 16 = .ok (.bipush 8, 2) := by decide +kernel
theorem dX1_weigh_18 : decode cX1_weigh 18 = .ok (.if_icmp .ge 27, 3) := by decide +kernel
theorem dX1_weigh_21 : decode cX1_weigh 21 = .ok (.aload_n 1, 1) := by decide +kernel
theorem dX1_weigh_22 : decode cX1_weigh 22 = .ok (.iload_n 2, 1) := by decide +kernel
theorem dX1_weigh_23 : decode cX1_weigh 23 = .ok (.iaload, 1) := by decide +kernel
theorem dX1_weigh_24 : decode cX1_weigh 24 = .ok (.ifCond .eq 15, 3) := by decide +kernel
theorem dX1_weigh_27 : decode cX1_weigh 27 = .ok (.aload_n 0, 1) := by decide +kernel
theorem dX1_weigh_28 : decode cX1_weigh 28 = .ok (.dup, 1) := by decide +kernel
theorem dX1_weigh_29 : decode cX1_weigh 29 = .ok (.getfield 18, 3) := by decide +kernel
theorem dX1_weigh_32 : decode cX1_weigh 32 = .ok (.iconst 1, 1) := by decide +kernel
theorem dX1_weigh_33 : decode cX1_weigh 33 = .ok (.iload_n 2, 1) := by decide +kernel
theorem dX1_weigh_34 : decode cX1_weigh 34 = .ok (.ishl, 1) := by decide +kernel
theorem dX1_weigh_35 : decode cX1_weigh 35 = .ok (.ior, 1) := by decide +kernel
theorem dX1_weigh_36 : decode cX1_weigh 36 = .ok (.putfield 18, 3) := by decide +kernel
theorem dX1_weigh_39 : decode cX1_weigh 39 = .ok (.iinc 2 1, 3) := by decide +kernel
theorem dX1_weigh_42 : decode cX1_weigh 42 = .ok (.goto (-27), 3) := by decide +kernel
theorem dX1_weigh_45 : decode cX1_weigh 45 = .ok (.iconst 1, 1) := by decide +kernel
theorem dX1_weigh_46 : decode cX1_weigh 46 = .ok (.istore_n 2, 1) := by decide +kernel
theorem dX1_weigh_47 : decode cX1_weigh 47 = .ok (.iload_n 2, 1) := by decide +kernel
theorem dX1_weigh_48 : decode cX1_weigh 48 = .ok (.sipush 256, 3) := by decide +kernel
theorem dX1_weigh_51 : decode cX1_weigh 51 = .ok (.if_icmp .ge 26, 3) := by decide +kernel
theorem dX1_weigh_54 : decode cX1_weigh 54 = .ok (.iload_n 2, 1) := by decide +kernel
theorem dX1_weigh_55 : decode cX1_weigh 55 = .ok (.aload_n 0, 1) := by decide +kernel
theorem dX1_weigh_56 : decode cX1_weigh 56 = .ok (.getfield 18, 3) := by decide +kernel
theorem dX1_weigh_59 : decode cX1_weigh 59 = .ok (.iconst (-1), 1) := by decide +kernel
theorem dX1_weigh_60 : decode cX1_weigh 60 = .ok (.ixor, 1) := by decide +kernel
theorem dX1_weigh_61 : decode cX1_weigh 61 = .ok (.iand, 1) := by decide +kernel
theorem dX1_weigh_62 : decode cX1_weigh 62 = .ok (.ifCond .ne 9, 3) := by decide +kernel
theorem dX1_weigh_65 : decode cX1_weigh 65 = .ok (.aload_n 0, 1) := by decide +kernel
theorem dX1_weigh_66 : decode cX1_weigh 66 = .ok (.iload_n 2, 1) := by decide +kernel
theorem dX1_weigh_67 : decode cX1_weigh 67 = .ok (.aload_n 1, 1) := by decide +kernel
theorem dX1_weigh_68 : decode cX1_weigh 68 = .ok (.invokevirtual 22, 3) := by decide +kernel
theorem dX1_weigh_71 : decode cX1_weigh 71 = .ok (.iinc 2 1, 3) := by decide +kernel
theorem dX1_weigh_74 : decode cX1_weigh 74 = .ok (.goto (-27), 3) := by decide +kernel
theorem dX1_weigh_77 : decode cX1_weigh 77 = .ok (.return_, 1) := by decide +kernel
theorem dX1_weighSet_0 : decode cX1_weighSet 0 = .ok (.iconst 0, 1) := by decide +kernel
theorem dX1_weighSet_1 : decode cX1_weighSet 1 = .ok (.istore_n 3, 1) := by decide +kernel
theorem dX1_weighSet_2 : decode cX1_weighSet 2 = .ok (.iconst 0, 1) := by decide +kernel
theorem dX1_weighSet_3 : decode cX1_weighSet 3 = .ok (.istore 4, 2) := by decide +kernel
theorem dX1_weighSet_5 : decode cX1_weighSet 5 = .ok (.iconst 0, 1) := by decide +kernel
theorem dX1_weighSet_6 : decode cX1_weighSet 6 = .ok (.istore 5, 2) := by decide +kernel
theorem dX1_weighSet_8 : decode cX1_weighSet 8 = .ok (.iload 5, 2) := by decide +kernel
theorem dX1_weighSet_10 : decode cX1_weighSet 10 = .ok (.bipush 8, 2) := by decide +kernel
theorem dX1_weighSet_12 : decode cX1_weighSet 12 = .ok (.if_icmp .ge 45, 3) := by decide +kernel
theorem dX1_weighSet_15 : decode cX1_weighSet 15 = .ok (.iconst 1, 1) := by decide +kernel
theorem dX1_weighSet_16 : decode cX1_weighSet 16 = .ok (.iload 5, 2) := by decide +kernel
theorem dX1_weighSet_18 : decode cX1_weighSet 18 = .ok (.ishl, 1) := by decide +kernel
theorem dX1_weighSet_19 : decode cX1_weighSet 19 = .ok (.istore 6, 2) := by decide +kernel
theorem dX1_weighSet_21 : decode cX1_weighSet 21 = .ok (.iload_n 1, 1) := by decide +kernel
theorem dX1_weighSet_22 : decode cX1_weighSet 22 = .ok (.iload 6, 2) := by decide +kernel
theorem dX1_weighSet_24 : decode cX1_weighSet 24 = .ok (.iand, 1) := by decide +kernel
theorem dX1_weighSet_25 : decode cX1_weighSet 25 = .ok (.ifCond .eq 26, 3) := by decide +kernel
theorem dX1_weighSet_28 : decode cX1_weighSet 28 = .ok (.iload_n 3, 1) := by decide +kernel
theorem dX1_weighSet_29 : decode cX1_weighSet 29 = .ok (.aload_n 2, 1) := by decide +kernel
theorem dX1_weighSet_30 : decode cX1_weighSet 30 = .ok (.iload 5, 2) := by decide +kernel
theorem dX1_weighSet_32 : decode cX1_weighSet 32 = .ok (.iaload, 1) := by decide +kernel
theorem dX1_weighSet_33 : decode cX1_weighSet 33 = .ok (.iadd, 1) := by decide +kernel
theorem dX1_weighSet_34 : decode cX1_weighSet 34 = .ok (.istore_n 3, 1) := by decide +kernel
theorem dX1_weighSet_35 : decode cX1_weighSet 35 = .ok (.iload 4, 2) := by decide +kernel
theorem dX1_weighSet_37 : decode cX1_weighSet 37 = .ok (.aload_n 0, 1) := by decide +kernel
theorem dX1_weighSet_38 : decode cX1_weighSet 38 = .ok (.getfield 15, 3) := by decide +kernel
theorem dX1_weighSet_41 : decode cX1_weighSet 41 = .ok (.iload_n 1, 1) := by decide +kernel
theorem dX1_weighSet_42 : decode cX1_weighSet 42 = .ok (.iload 6, 2) := by decide +kernel
theorem dX1_weighSet_44 : decode cX1_weighSet 44 = .ok (.ixor, 1) := by decide +kernel
theorem dX1_weighSet_45 : decode cX1_weighSet 45 = .ok (.iaload, 1) := by decide +kernel
theorem dX1_weighSet_46 : decode cX1_weighSet 46 = .ok (.invokestatic 26, 3) := by decide +kernel
theorem dX1_weighSet_49 : decode cX1_weighSet 49 = .ok (.istore 4, 2) := by decide +kernel
theorem dX1_weighSet_51 : decode cX1_weighSet 51 = .ok (.iinc 5 1, 3) := by decide +kernel
theorem dX1_weighSet_54 : decode cX1_weighSet 54 = .ok (.goto (-46), 3) := by decide +kernel
theorem dX1_weighSet_57 : decode cX1_weighSet 57 = .ok (.aload_n 0, 1) := by decide +kernel
theorem dX1_weighSet_58 : decode cX1_weighSet 58 = .ok (.getfield 11, 3) := by decide +kernel
theorem dX1_weighSet_61 : decode cX1_weighSet 61 = .ok (.iload_n 1, 1) := by decide +kernel
theorem dX1_weighSet_62 : decode cX1_weighSet 62 = .ok (.iload_n 3, 1) := by decide +kernel
theorem dX1_weighSet_63 : decode cX1_weighSet 63 = .ok (.iastore, 1) := by decide +kernel
theorem dX1_weighSet_64 : decode cX1_weighSet 64 = .ok (.aload_n 0, 1) := by decide +kernel
theorem dX1_weighSet_65 : decode cX1_weighSet 65 = .ok (.getfield 15, 3) := by decide +kernel
theorem dX1_weighSet_68 : decode cX1_weighSet 68 = .ok (.iload_n 1, 1) := by decide +kernel
theorem dX1_weighSet_69 : decode cX1_weighSet 69 = .ok (.iload_n 3, 1) := by decide +kernel
theorem dX1_weighSet_70 : decode cX1_weighSet 70 = .ok (.ifCond .ne 10, 3) := by decide +kernel
theorem dX1_weighSet_73 : decode cX1_weighSet 73 = .ok (.iload 4, 2) := by decide +kernel
theorem dX1_weighSet_75 : decode cX1_weighSet 75 = .ok (.iconst 1, 1) := by decide +kernel
theorem dX1_weighSet_76 : decode cX1_weighSet 76 = .ok (.iadd, 1) := by decide +kernel
theorem dX1_weighSet_77 : decode cX1_weighSet 77 = .ok (.goto 5, 3) := by decide +kernel
theorem dX1_weighSet_80 : decode cX1_weighSet 80 = .ok (.iload 4, 2) := by decide +kernel
theorem dX1_weighSet_82 : decode cX1_weighSet 82 = .ok (.iastore, 1) := by decide +kernel
theorem dX1_weighSet_83 : decode cX1_weighSet 83 = .ok (.return_, 1) := by decide +kernel
theorem dX1_payments_0 : decode cX1_payments 0 = .ok (.aload_n 0, 1) := by decide +kernel
theorem dX1_payments_1 : decode cX1_payments 1 = .ok (.getfield 18, 3) := by decide +kernel
theorem dX1_payments_4 : decode cX1_payments 4 = .ok (.invokestatic 32, 3) := by decide +kernel
theorem dX1_payments_7 : decode cX1_payments 7 = .ok (.aload_n 0, 1) := by decide +kernel
theorem dX1_payments_8 : decode cX1_payments 8 = .ok (.getfield 15, 3) := by decide +kernel
theorem dX1_payments_11 : decode cX1_payments 11 = .ok (.aload_n 0, 1) := by decide +kernel
theorem dX1_payments_12 : decode cX1_payments 12 = .ok (.getfield 18, 3) := by decide +kernel
theorem dX1_payments_15 : decode cX1_payments 15 = .ok (.iaload, 1) := by decide +kernel
theorem dX1_payments_16 : decode cX1_payments 16 = .ok (.isub, 1) := by decide +kernel
theorem dX1_payments_17 : decode cX1_payments 17 = .ok (.ireturn, 1) := by decide +kernel
theorem dX1_groupWith_0 : decode cX1_groupWith 0 = .ok (.iconst 1, 1) := by decide +kernel
theorem dX1_groupWith_1 : decode cX1_groupWith 1 = .ok (.iload_n 1, 1) := by decide +kernel
theorem dX1_groupWith_2 : decode cX1_groupWith 2 = .ok (.ishl, 1) := by decide +kernel
theorem dX1_groupWith_3 : decode cX1_groupWith 3 = .ok (.istore_n 2, 1) := by decide +kernel
theorem dX1_groupWith_4 : decode cX1_groupWith 4 = .ok (.aload_n 0, 1) := by decide +kernel
theorem dX1_groupWith_5 : decode cX1_groupWith 5 = .ok (.getfield 18, 3) := by decide +kernel
theorem dX1_groupWith_8 : decode cX1_groupWith 8 = .ok (.istore_n 3, 1) := by decide +kernel
theorem dX1_groupWith_9 : decode cX1_groupWith 9 = .ok (.iconst 0, 1) := by decide +kernel
theorem dX1_groupWith_10 : decode cX1_groupWith 10 = .ok (.istore 4, 2) := by decide +kernel
theorem dX1_groupWith_12 : decode cX1_groupWith 12 = .ok (.iload 4, 2) := by decide +kernel
theorem dX1_groupWith_14 : decode cX1_groupWith 14 = .ok (.bipush 8, 2) := by decide +kernel
theorem dX1_groupWith_16 : decode cX1_groupWith 16 = .ok (.if_icmp .ge 37, 3) := by decide +kernel
theorem dX1_groupWith_19 : decode cX1_groupWith 19 = .ok (.iload_n 3, 1) := by decide +kernel
theorem dX1_groupWith_20 : decode cX1_groupWith 20 = .ok (.ifCond .eq 33, 3) := by decide +kernel
theorem dX1_groupWith_23 : decode cX1_groupWith 23 = .ok (.aload_n 0, 1) := by decide +kernel
theorem dX1_groupWith_24 : decode cX1_groupWith 24 = .ok (.iload_n 3, 1) := by decide +kernel
theorem dX1_groupWith_25 : decode cX1_groupWith 25 = .ok (.invokevirtual 38, 3) := by decide +kernel
theorem dX1_groupWith_28 : decode cX1_groupWith 28 = .ok (.istore 5, 2) := by decide +kernel
theorem dX1_groupWith_30 : decode cX1_groupWith 30 = .ok (.iload 5, 2) := by decide +kernel
theorem dX1_groupWith_32 : decode cX1_groupWith 32 = .ok (.iload_n 2, 1) := by decide +kernel
theorem dX1_groupWith_33 : decode cX1_groupWith 33 = .ok (.iand, 1) := by decide +kernel
theorem dX1_groupWith_34 : decode cX1_groupWith 34 = .ok (.ifCond .eq 6, 3) := by decide +kernel
theorem dX1_groupWith_37 : decode cX1_groupWith 37 = .ok (.iload 5, 2) := by decide +kernel
theorem dX1_groupWith_39 : decode cX1_groupWith 39 = .ok (.ireturn, 1) := by decide +kernel
theorem dX1_groupWith_40 : decode cX1_groupWith 40 = .ok (.iload_n 3, 1) := by decide +kernel
theorem dX1_groupWith_41 : decode cX1_groupWith 41 = .ok (.iload 5, 2) := by decide +kernel
theorem dX1_groupWith_43 : decode cX1_groupWith 43 = .ok (.iconst (-1), 1) := by decide +kernel
theorem dX1_groupWith_44 : decode cX1_groupWith 44 = .ok (.ixor, 1) := by decide +kernel
theorem dX1_groupWith_45 : decode cX1_groupWith 45 = .ok (.iand, 1) := by decide +kernel
theorem dX1_groupWith_46 : decode cX1_groupWith 46 = .ok (.istore_n 3, 1) := by decide +kernel
theorem dX1_groupWith_47 : decode cX1_groupWith 47 = .ok (.iinc 4 1, 3) := by decide +kernel
theorem dX1_groupWith_50 : decode cX1_groupWith 50 = .ok (.goto (-38), 3) := by decide +kernel
theorem dX1_groupWith_53 : decode cX1_groupWith 53 = .ok (.iconst 0, 1) := by decide +kernel
theorem dX1_groupWith_54 : decode cX1_groupWith 54 = .ok (.ireturn, 1) := by decide +kernel
theorem dX1_firstGroup_0 : decode cX1_firstGroup 0 = .ok (.iload_n 1, 1) := by decide +kernel
theorem dX1_firstGroup_1 : decode cX1_firstGroup 1 = .ok (.iload_n 1, 1) := by decide +kernel
theorem dX1_firstGroup_2 : decode cX1_firstGroup 2 = .ok (.ineg, 1) := by decide +kernel
theorem dX1_firstGroup_3 : decode cX1_firstGroup 3 = .ok (.iand, 1) := by decide +kernel
theorem dX1_firstGroup_4 : decode cX1_firstGroup 4 = .ok (.istore_n 2, 1) := by decide +kernel
theorem dX1_firstGroup_5 : decode cX1_firstGroup 5 = .ok (.iload_n 2, 1) := by decide +kernel
theorem dX1_firstGroup_6 : decode cX1_firstGroup 6 = .ok (.istore_n 3, 1) := by decide +kernel
theorem dX1_firstGroup_7 : decode cX1_firstGroup 7 = .ok (.iload_n 3, 1) := by decide +kernel
theorem dX1_firstGroup_8 : decode cX1_firstGroup 8 = .ok (.iload_n 1, 1) := by decide +kernel
theorem dX1_firstGroup_9 : decode cX1_firstGroup 9 = .ok (.if_icmp .ge 65, 3) := by decide +kernel
theorem dX1_firstGroup_12 : decode cX1_firstGroup 12 = .ok (.iload_n 3, 1) := by decide +kernel
theorem dX1_firstGroup_13 : decode cX1_firstGroup 13 = .ok (.iload_n 1, 1) := by decide +kernel
theorem dX1_firstGroup_14 : decode cX1_firstGroup 14 = .ok (.iconst (-1), 1) := by decide +kernel
theorem dX1_firstGroup_15 : decode cX1_firstGroup 15 = .ok (.ixor, 1) := by decide +kernel
theorem dX1_firstGroup_16 : decode cX1_firstGroup 16 = .ok (.iand, 1) := by decide +kernel
theorem dX1_firstGroup_17 : decode cX1_firstGroup 17 = .ok (.ifCond .ne 13, 3) := by decide +kernel
theorem dX1_firstGroup_20 : decode cX1_firstGroup 20 = .ok (.iload_n 3, 1) := by decide +kernel
theorem dX1_firstGroup_21 : decode cX1_firstGroup 21 = .ok (.iload_n 2, 1) := by decide +kernel
theorem dX1_firstGroup_22 : decode cX1_firstGroup 22 = .ok (.iand, 1) := by decide +kernel
theorem dX1_firstGroup_23 : decode cX1_firstGroup 23 = .ok (.ifCond .eq 7, 3) := by decide +kernel
theorem dX1_firstGroup_26 : decode cX1_firstGroup 26 = .ok (.iconst 1, 1) := by decide +kernel
theorem dX1_firstGroup_27 : decode cX1_firstGroup 27 = .ok (.goto 4, 3) := by decide +kernel
theorem dX1_firstGroup_30 : decode cX1_firstGroup 30 = .ok (.iconst 0, 1) := by decide +kernel
theorem dX1_firstGroup_31 : decode cX1_firstGroup 31 = .ok (.istore 4, 2) := by decide +kernel
theorem dX1_firstGroup_33 : decode cX1_firstGroup 33 = .ok (.iload 4, 2) := by decide +kernel
theorem dX1_firstGroup_35 : decode cX1_firstGroup 35 = .ok (.ifCond .eq 33, 3) := by decide +kernel
theorem dX1_firstGroup_38 : decode cX1_firstGroup 38 = .ok (.aload_n 0, 1) := by decide +kernel
theorem dX1_firstGroup_39 : decode cX1_firstGroup 39 = .ok (.getfield 11, 3) := by decide +kernel
theorem dX1_firstGroup_42 : decode cX1_firstGroup 42 = .ok (.iload_n 3, 1) := by decide +kernel
theorem dX1_firstGroup_43 : decode cX1_firstGroup 43 = .ok (.iaload, 1) := by decide +kernel
theorem dX1_firstGroup_44 : decode cX1_firstGroup 44 = .ok (.ifCond .ne 24, 3) := by decide +kernel
theorem dX1_firstGroup_47 : decode cX1_firstGroup 47 = .ok (.aload_n 0, 1) := by decide +kernel
theorem dX1_firstGroup_48 : decode cX1_firstGroup 48 = .ok (.getfield 15, 3) := by decide +kernel
theorem dX1_firstGroup_51 : decode cX1_firstGroup 51 = .ok (.iload_n 1, 1) := by decide +kernel
theorem dX1_firstGroup_52 : decode cX1_firstGroup 52 = .ok (.iload_n 3, 1) := by decide +kernel
theorem dX1_firstGroup_53 : decode cX1_firstGroup 53 = .ok (.ixor, 1) := by decide +kernel
theorem dX1_firstGroup_54 : decode cX1_firstGroup 54 = .ok (.iaload, 1) := by decide +kernel
theorem dX1_firstGroup_55 : decode cX1_firstGroup 55 = .ok (.iconst 1, 1) := by decide +kernel
theorem dX1_firstGroup_56 : decode cX1_firstGroup 56 = .ok (.iadd, 1) := by decide +kernel
theorem dX1_firstGroup_57 : decode cX1_firstGroup 57 = .ok (.aload_n 0, 1) := by decide +kernel
theorem dX1_firstGroup_58 : decode cX1_firstGroup 58 = .ok (.getfield 15, 3) := by decide +kernel
theorem dX1_firstGroup_61 : decode cX1_firstGroup 61 = .ok (.iload_n 1, 1) := by decide +kernel
theorem dX1_firstGroup_62 : decode cX1_firstGroup 62 = .ok (.iaload, 1) := by decide +kernel
theorem dX1_firstGroup_63 : decode cX1_firstGroup 63 = .ok (.if_icmp .ne 5, 3) := by decide +kernel
theorem dX1_firstGroup_66 : decode cX1_firstGroup 66 = .ok (.iload_n 3, 1) := by decide +kernel
theorem dX1_firstGroup_67 : decode cX1_firstGroup 67 = .ok (.ireturn, 1) := by decide +kernel
theorem dX1_firstGroup_68 : decode cX1_firstGroup 68 = .ok (.iinc 3 1, 3) := by decide +kernel
theorem dX1_firstGroup_71 : decode cX1_firstGroup 71 = .ok (.goto (-64), 3) := by decide +kernel
theorem dX1_firstGroup_74 : decode cX1_firstGroup 74 = .ok (.iload_n 1, 1) := by decide +kernel
theorem dX1_firstGroup_75 : decode cX1_firstGroup 75 = .ok (.ireturn, 1) := by decide +kernel
theorem dX2_init_0 : decode cX2_init 0 = .ok (.aload_n 0, 1) := by decide +kernel
theorem dX2_init_1 : decode cX2_init 1 = .ok (.invokespecial 3, 3) := by decide +kernel
theorem dX2_init_4 : decode cX2_init 4 = .ok (.aload_n 0, 1) := by decide +kernel
theorem dX2_init_5 : decode cX2_init 5 = .ok (.bipush 28, 2) := by decide +kernel
theorem dX2_init_7 : decode cX2_init 7 = .ok (.newarray .int, 2) := by decide +kernel
theorem dX2_init_9 : decode cX2_init 9 = .ok (.putfield 9, 3) := by decide +kernel
theorem dX2_init_12 : decode cX2_init 12 = .ok (.aload_n 0, 1) := by decide +kernel
theorem dX2_init_13 : decode cX2_init 13 = .ok (.bipush 8, 2) := by decide +kernel
theorem dX2_init_15 : decode cX2_init 15 = .ok (.newarray .int, 2) := by decide +kernel
theorem dX2_init_17 : decode cX2_init 17 = .ok (.putfield 15, 3) := by decide +kernel
theorem dX2_init_20 : decode cX2_init 20 = .ok (.aload_n 0, 1) := by decide +kernel
theorem dX2_init_21 : decode cX2_init 21 = .ok (.bipush 7, 2) := by decide +kernel
theorem dX2_init_23 : decode cX2_init 23 = .ok (.newarray .int, 2) := by decide +kernel
theorem dX2_init_25 : decode cX2_init 25 = .ok (.putfield 18, 3) := by decide +kernel
theorem dX2_init_28 : decode cX2_init 28 = .ok (.aload_n 0, 1) := by decide +kernel
theorem dX2_init_29 : decode cX2_init 29 = .ok (.iconst 4, 1) := by decide +kernel
theorem dX2_init_30 : decode cX2_init 30 = .ok (.newarray .int, 2) := by decide +kernel
theorem dX2_init_32 : decode cX2_init 32 = .ok (.putfield 21, 3) := by decide +kernel
theorem dX2_init_35 : decode cX2_init 35 = .ok (.aload_n 0, 1) := by decide +kernel
theorem dX2_init_36 : decode cX2_init 36 = .ok (.bipush 7, 2) := by decide +kernel
theorem dX2_init_38 : decode cX2_init 38 = .ok (.newarray .int, 2) := by decide +kernel
theorem dX2_init_40 : decode cX2_init 40 = .ok (.putfield 24, 3) := by decide +kernel
theorem dX2_init_43 : decode cX2_init 43 = .ok (.aload_n 0, 1) := by decide +kernel
theorem dX2_init_44 : decode cX2_init 44 = .ok (.iconst 0, 1) := by decide +kernel
theorem dX2_init_45 : decode cX2_init 45 = .ok (.putfield 27, 3) := by decide +kernel
theorem dX2_init_48 : decode cX2_init 48 = .ok (.aload_n 0, 1) := by decide +kernel
theorem dX2_init_49 : decode cX2_init 49 = .ok (.iconst 0, 1) := by decide +kernel
theorem dX2_init_50 : decode cX2_init 50 = .ok (.putfield 31, 3) := by decide +kernel
theorem dX2_init_53 : decode cX2_init 53 = .ok (.aload_n 0, 1) := by decide +kernel
theorem dX2_init_54 : decode cX2_init 54 = .ok (.aload_n 1, 1) := by decide +kernel
theorem dX2_init_55 : decode cX2_init 55 = .ok (.putfield 35, 3) := by decide +kernel
theorem dX2_init_58 : decode cX2_init 58 = .ok (.aload_n 0, 1) := by decide +kernel
theorem dX2_init_59 : decode cX2_init 59 = .ok (.aload_n 2, 1) := by decide +kernel
theorem dX2_init_60 : decode cX2_init 60 = .ok (.putfield 39, 3) := by decide +kernel
theorem dX2_init_63 : decode cX2_init 63 = .ok (.return_, 1) := by decide +kernel
theorem dX2_forget_0 : decode cX2_forget 0 = .ok (.aload_n 0, 1) := by decide +kernel
theorem dX2_forget_1 : decode cX2_forget 1 = .ok (.iconst 0, 1) := by decide +kernel
theorem dX2_forget_2 : decode cX2_forget 2 = .ok (.putfield 31, 3) := by decide +kernel
theorem dX2_forget_5 : decode cX2_forget 5 = .ok (.return_, 1) := by decide +kernel
theorem dX2_wagonOf_0 : decode cX2_wagonOf 0 = .ok (.aload_n 0, 1) := by decide +kernel
theorem dX2_wagonOf_1 : decode cX2_wagonOf 1 = .ok (.getfield 39, 3) := by decide +kernel
theorem dX2_wagonOf_4 : decode cX2_wagonOf 4 = .ok (.iload_n 1, 1) := by decide +kernel
theorem dX2_wagonOf_5 : decode cX2_wagonOf 5 = .ok (.invokevirtual 43, 3) := by decide +kernel
theorem dX2_wagonOf_8 : decode cX2_wagonOf 8 = .ok (.ifCond .ne 5, 3) := by decide +kernel
theorem dX2_wagonOf_11 : decode cX2_wagonOf 11 = .ok (.iconst (-1), 1) := by decide +kernel
theorem dX2_wagonOf_12 : decode cX2_wagonOf 12 = .ok (.ireturn, 1) := by decide +kernel
theorem dX2_wagonOf_13 : decode cX2_wagonOf 13 = .ok (.aload_n 0, 1) := by decide +kernel
theorem dX2_wagonOf_14 : decode cX2_wagonOf 14 = .ok (.invokevirtual 49, 3) := by decide +kernel
theorem dX2_wagonOf_17 : decode cX2_wagonOf 17 = .ok (.aload_n 0, 1) := by decide +kernel
theorem dX2_wagonOf_18 : decode cX2_wagonOf 18 = .ok (.getfield 24, 3) := by decide +kernel
theorem dX2_wagonOf_21 : decode cX2_wagonOf 21 = .ok (.iload_n 1, 1) := by decide +kernel
theorem dX2_wagonOf_22 : decode cX2_wagonOf 22 = .ok (.iaload, 1) := by decide +kernel
theorem dX2_wagonOf_23 : decode cX2_wagonOf 23 = .ok (.ireturn, 1) := by decide +kernel
theorem dX2_lowestCost_0 : decode cX2_lowestCost 0 = .ok (.aload_n 0, 1) := by decide +kernel
theorem dX2_lowestCost_1 : decode cX2_lowestCost 1 = .ok (.invokevirtual 49, 3) := by decide +kernel
theorem dX2_lowestCost_4 : decode cX2_lowestCost 4 = .ok (.aload_n 0, 1) := by decide +kernel
theorem dX2_lowestCost_5 : decode cX2_lowestCost 5 = .ok (.getfield 27, 3) := by decide +kernel
theorem dX2_lowestCost_8 : decode cX2_lowestCost 8 = .ok (.ireturn, 1) := by decide +kernel
theorem dX2_solve_0 : decode cX2_solve 0 = .ok (.aload_n 0, 1) := by decide +kernel
theorem dX2_solve_1 : decode cX2_solve 1 = .ok (.getfield 31, 3) := by decide +kernel
theorem dX2_solve_4 : decode cX2_solve 4 = .ok (.ifCond .eq 4, 3) := by decide +kernel
theorem dX2_solve_7 : decode cX2_solve 7 = .ok (.return_, 1) := by decide +kernel
theorem dX2_solve_8 : decode cX2_solve 8 = .ok (.aload_n 0, 1) := by decide +kernel
theorem dX2_solve_9 : decode cX2_solve 9 = .ok (.invokevirtual 52, 3) := by decide +kernel
theorem dX2_solve_12 : decode cX2_solve 12 = .ok (.aload_n 0, 1) := by decide +kernel
theorem dX2_solve_13 : decode cX2_solve 13 = .ok (.getfield 21, 3) := by decide +kernel
theorem dX2_solve_16 : decode cX2_solve 16 = .ok (.iconst (-1), 1) := by decide +kernel
theorem dX2_solve_17 : decode cX2_solve 17 = .ok (.invokestatic 55, 3) := by decide +kernel
theorem dX2_solve_20 : decode cX2_solve 20 = .ok (.aload_n 0, 1) := by decide +kernel
theorem dX2_solve_21 : decode cX2_solve 21 = .ok (.aload_n 0, 1) := by decide +kernel
theorem dX2_solve_22 : decode cX2_solve 22 = .ok (.getfield 39, 3) := by decide +kernel
theorem dX2_solve_25 : decode cX2_solve 25 = .ok (.getfield 61, 3) := by decide +kernel
theorem dX2_solve_28 : decode cX2_solve 28 = .ok (.iconst 3, 1) := by decide +kernel
theorem dX2_solve_29 : decode cX2_solve 29 = .ok (.imul, 1) := by decide +kernel
theorem dX2_solve_30 : decode cX2_solve 30 = .ok (.iconst 1, 1) := by decide +kernel
theorem dX2_solve_31 : decode cX2_solve 31 = .ok (.iadd, 1) := by decide +kernel
theorem dX2_solve_32 : decode cX2_solve 32 = .ok (.putfield 27, 3) := by decide +kernel
theorem dX2_solve_35 : decode cX2_solve 35 = .ok (.aload_n 0, 1) := by decide +kernel
theorem dX2_solve_36 : decode cX2_solve 36 = .ok (.iconst 0, 1) := by decide +kernel
theorem dX2_solve_37 : decode cX2_solve 37 = .ok (.iconst 0, 1) := by decide +kernel
theorem dX2_solve_38 : decode cX2_solve 38 = .ok (.invokestatic 64, 3) := by decide +kernel
theorem dX2_solve_41 : decode cX2_solve 41 = .ok (.aload_n 0, 1) := by decide +kernel
theorem dX2_solve_42 : decode cX2_solve 42 = .ok (.iconst 1, 1) := by decide +kernel
theorem dX2_solve_43 : decode cX2_solve 43 = .ok (.putfield 31, 3) := by decide +kernel
theorem dX2_solve_46 : decode cX2_solve 46 = .ok (.return_, 1) := by decide +kernel
theorem dX2_measureErrors_0 : decode cX2_measureErrors 0 = .ok (.aload_n 0, 1) := by decide +kernel
theorem dX2_measureErrors_1 : decode cX2_measureErrors 1 = .ok (.getfield 15, 3) := by decide +kernel
theorem dX2_measureErrors_4 : decode cX2_measureErrors 4 = .ok (.aload_n 0, 1) := by decide +kernel
theorem dX2_measureErrors_5 : decode cX2_measureErrors 5 = .ok (.getfield 39, 3) := by decide +kernel
theorem dX2_measureErrors_8 : decode cX2_measureErrors 8 = .ok (.getfield 61, 3) := by decide +kernel
theorem dX2_measureErrors_11 : decode cX2_measureErrors 11 = .ok (.iconst 0, 1) := by decide +kernel
theorem dX2_measureErrors_12 : decode cX2_measureErrors 12 = .ok (.iastore, 1) := by decide +kernel
theorem dX2_measureErrors_13 : decode cX2_measureErrors 13 = .ok (.aload_n 0, 1) := by decide +kernel
theorem dX2_measureErrors_14 : decode cX2_measureErrors 14 = .ok (.getfield 39, 3) := by decide +kernel
theorem dX2_measureErrors_17 : decode cX2_measureErrors 17 = .ok (.getfield 61, 3) := by decide +kernel
theorem dX2_measureErrors_20 : decode cX2_measureErrors 20 = .ok (.iconst 1, 1) := by decide +kernel
theorem dX2_measureErrors_21 : decode cX2_measureErrors 21 = .ok (.isub, 1) := by decide +kernel
theorem dX2_measureErrors_22 : decode cX2_measureErrors 22 = .ok (.istore_n 1, 1) := by decide +kernel
theorem dX2_measureErrors_23 : decode cX2_measureErrors 23 = .ok (.iload_n 1, 1) := by decide +kernel
theorem dX2_measureErrors_24 : decode cX2_measureErrors 24 = .ok (.ifCond .lt 88, 3) := by decide +kernel
theorem dX2_measureErrors_27 : decode cX2_measureErrors 27 = .ok (.iconst 3, 1) := by decide +kernel
theorem dX2_measureErrors_28 : decode cX2_measureErrors 28 = .ok (.istore_n 2, 1) := by decide +kernel
theorem dX2_measureErrors_29 : decode cX2_measureErrors 29 = .ok (.iconst 0, 1) := by decide +kernel
theorem dX2_measureErrors_30 : decode cX2_measureErrors 30 = .ok (.istore_n 3, 1) := by decide +kernel
theorem dX2_measureErrors_31 : decode cX2_measureErrors 31 = .ok (.iload_n 3, 1) := by decide +kernel
theorem dX2_measureErrors_32 : decode cX2_measureErrors 32 = .ok (.aload_n 0, 1) := by decide +kernel
theorem dX2_measureErrors_33 : decode cX2_measureErrors 33 = .ok (.getfield 39, 3) := by decide +kernel
theorem dX2_measureErrors_36 : decode cX2_measureErrors 36 = .ok (.getfield 68, 3) := by decide +kernel
theorem dX2_measureErrors_39 : decode cX2_measureErrors 39 = .ok (.if_icmp .ge 51, 3) := by decide +kernel
theorem dX2_measureErrors_42 : decode cX2_measureErrors 42 = .ok (.aload_n 0, 1) := by decide +kernel
theorem dX2_measureErrors_43 : decode cX2_measureErrors 43 = .ok (.getfield 39, 3) := by decide +kernel
theorem dX2_measureErrors_46 : decode cX2_measureErrors 46 = .ok (.getfield 71, 3) := by decide +kernel
theorem dX2_measureErrors_49 : decode cX2_measureErrors 49 = .ok (.iload_n 1, 1) := by decide +kernel
theorem dX2_measureErrors_50 : decode cX2_measureErrors 50 = .ok (.iaload, 1) := by decide +kernel
theorem dX2_measureErrors_51 : decode cX2_measureErrors 51 = .ok (.aload_n 0, 1) := by decide +kernel
theorem dX2_measureErrors_52 : decode cX2_measureErrors 52 = .ok (.getfield 39, 3) := by decide +kernel
theorem dX2_measureErrors_55 : decode cX2_measureErrors 55 = .ok (.getfield 74, 3) := by decide +kernel
theorem dX2_measureErrors_58 : decode cX2_measureErrors 58 = .ok (.iload_n 3, 1) := by decide +kernel
theorem dX2_measureErrors_59 : decode cX2_measureErrors 59 = .ok (.iaload, 1) := by decide +kernel
theorem dX2_measureErrors_60 : decode cX2_measureErrors 60 = .ok (.invokestatic 77, 3) := by decide +kernel
theorem dX2_measureErrors_63 : decode cX2_measureErrors 63 = .ok (.istore 4, 2) := by decide +kernel
theorem dX2_measureErrors_65 : decode cX2_measureErrors 65 = .ok (.aload_n 0, 1) := by decide +kernel
theorem dX2_measureErrors_66 : decode cX2_measureErrors 66 = .ok (.getfield 9, 3) := by decide +kernel
theorem dX2_measureErrors_69 : decode cX2_measureErrors 69 = .ok (.iload_n 1, 1) := by decide +kernel
theorem dX2_measureErrors_70 : decode cX2_measureErrors 70 = .ok (.iconst 4, 1) := by decide +kernel
theorem dX2_measureErrors_71 : decode cX2_measureErrors 71 = .ok (.imul, 1) := by decide +kernel
theorem dX2_measureErrors_72 : decode cX2_measureErrors 72 = .ok (.iload_n 3, 1) := by decide +kernel
theorem dX2_measureErrors_73 : decode cX2_measureErrors 73 = .ok (.iadd, 1) := by decide +kernel
theorem dX2_measureErrors_74 : decode cX2_measureErrors 74 = .ok (.iload 4, 2) := by decide +kernel
theorem dX2_measureErrors_76 : decode cX2_measureErrors 76 = .ok (.iastore, 1) := by decide +kernel
theorem dX2_measureErrors_77 : decode cX2_measureErrors 77 = .ok (.iload_n 2, 1) := by decide +kernel
theorem dX2_measureErrors_78 : decode cX2_measureErrors 78 = .ok (.iload 4, 2) := by decide +kernel
theorem dX2_measureErrors_80 : decode cX2_measureErrors 80 = .ok (.invokestatic 81, 3) := by decide +kernel
theorem dX2_measureErrors_83 : decode cX2_measureErrors 83 = .ok (.istore_n 2, 1) := by decide +kernel
theorem dX2_measureErrors_84 : decode cX2_measureErrors 84 = .ok (.iinc 3 1, 3) := by decide +kernel
theorem dX2_measureErrors_87 : decode cX2_measureErrors 87 = .ok (.goto (-56), 3) := by decide +kernel
theorem dX2_measureErrors_90 : decode cX2_measureErrors 90 = .ok (.aload_n 0, 1) := by decide +kernel
theorem dX2_measureErrors_91 : decode cX2_measureErrors 91 = .ok (.getfield 15, 3) := by decide +kernel
theorem dX2_measureErrors_94 : decode cX2_measureErrors 94 = .ok (.iload_n 1, 1) := by decide +kernel
theorem dX2_measureErrors_95 : decode cX2_measureErrors 95 = .ok (.aload_n 0, 1) := by decide +kernel
theorem dX2_measureErrors_96 : decode cX2_measureErrors 96 = .ok (.getfield 15, 3) := by decide +kernel
theorem dX2_measureErrors_99 : decode cX2_measureErrors 99 = .ok (.iload_n 1, 1) := by decide +kernel
theorem dX2_measureErrors_100 : decode cX2_measureErrors 100 = .ok (.iconst 1, 1) := by decide +kernel
theorem dX2_measureErrors_101 : decode cX2_measureErrors 101 = .ok (.iadd, 1) := by decide +kernel
theorem dX2_measureErrors_102 : decode cX2_measureErrors 102 = .ok (.iaload, 1) := by decide +kernel
theorem dX2_measureErrors_103 : decode cX2_measureErrors 103 = .ok (.iload_n 2, 1) := by decide +kernel
theorem dX2_measureErrors_104 : decode cX2_measureErrors 104 = .ok (.iadd, 1) := by decide +kernel
theorem dX2_measureErrors_105 : decode cX2_measureErrors 105 = .ok (.iastore, 1) := by decide +kernel
theorem dX2_measureErrors_106 : decode cX2_measureErrors 106 = .ok (.iinc 1 (-1), 3) := by decide +kernel
theorem dX2_measureErrors_109 : decode cX2_measureErrors 109 = .ok (.goto (-86), 3) := by decide +kernel
theorem dX2_measureErrors_112 : decode cX2_measureErrors 112 = .ok (.return_, 1) := by decide +kernel
theorem dX2_searchFrom_0 : decode cX2_searchFrom 0 = .ok (.iload_n 1, 1) := by decide +kernel
theorem dX2_searchFrom_1 : decode cX2_searchFrom 1 = .ok (.aload_n 0, 1) := by decide +kernel
theorem dX2_searchFrom_2 : decode cX2_searchFrom 2 = .ok (.getfield 39, 3) := by decide +kernel
theorem dX2_searchFrom_5 : decode cX2_searchFrom 5 = .ok (.getfield 61, 3) := by decide +kernel
theorem dX2_searchFrom_8 : decode cX2_searchFrom 8 = .ok (.if_icmp .gt 18, 3) := by decide +kernel
theorem dX2_searchFrom_11 : decode cX2_searchFrom 11 = .ok (.iload_n 2, 1) := by decide +kernel
theorem dX2_searchFrom_12 : decode cX2_searchFrom 12 = .ok (.aload_n 0, 1) := by decide +kernel
theorem dX2_searchFrom_13 : decode cX2_searchFrom 13 = .ok (.getfield 15, 3) := by decide +kernel
theorem dX2_searchFrom_16 : decode cX2_searchFrom 16 = .ok (.iload_n 1, 1) := by decide +kernel
theorem dX2_searchFrom_17 : decode cX2_searchFrom 17 = .ok (.iaload, 1) := by decide +kernel
theorem dX2_searchFrom_18 : decode cX2_searchFrom 18 = .ok (.iadd, 1) := by decide +kernel
theorem dX2_searchFrom_19 : decode cX2_searchFrom 19 = .ok (.aload_n 0, 1) := by decide +kernel
theorem dX2_searchFrom_20 : decode cX2_searchFrom 20 = .ok (.getfield 27, 3) := by decide +kernel
theorem dX2_searchFrom_23 : decode cX2_searchFrom 23 = .ok (.if_icmp .lt 4, 3) := by decide +kernel
theorem dX2_searchFrom_26 : decode cX2_searchFrom 26 = .ok (.return_, 1) := by decide +kernel
theorem dX2_searchFrom_27 : decode cX2_searchFrom 27 = .ok (.iload_n 1, 1) := by decide +kernel
theorem dX2_searchFrom_28 : decode cX2_searchFrom 28 = .ok (.aload_n 0, 1) := by decide +kernel
theorem dX2_searchFrom_29 : decode cX2_searchFrom 29 = .ok (.getfield 39, 3) := by decide +kernel
theorem dX2_searchFrom_32 : decode cX2_searchFrom 32 = .ok (.getfield 61, 3) := by decide +kernel
theorem dX2_searchFrom_35 : decode cX2_searchFrom 35 = .ok (.if_icmp .ne 9, 3) := by decide +kernel
theorem dX2_searchFrom_38 : decode cX2_searchFrom 38 = .ok (.aload_n 0, 1) := by decide +kernel
theorem dX2_searchFrom_39 : decode cX2_searchFrom 39 = .ok (.iload_n 2, 1) := by decide +kernel
theorem dX2_searchFrom_40 : decode cX2_searchFrom 40 = .ok (.invokevirtual 86, 3) := by decide +kernel
theorem dX2_searchFrom_43 : decode cX2_searchFrom 43 = .ok (.return_, 1) := by decide +kernel
theorem dX2_searchFrom_44 : decode cX2_searchFrom 44 = .ok (.iconst 0, 1) := by decide +kernel
theorem dX2_searchFrom_45 : decode cX2_searchFrom 45 = .ok (.istore_n 3, 1) := by decide +kernel
theorem dX2_searchFrom_46 : decode cX2_searchFrom 46 = .ok (.iload_n 3, 1) := by decide +kernel
theorem dX2_searchFrom_47 : decode cX2_searchFrom 47 = .ok (.aload_n 0, 1) := by decide +kernel
theorem dX2_searchFrom_48 : decode cX2_searchFrom 48 = .ok (.getfield 39, 3) := by decide +kernel
theorem dX2_searchFrom_51 : decode cX2_searchFrom 51 = .ok (.getfield 68, 3) := by decide +kernel
theorem dX2_searchFrom_54 : decode cX2_searchFrom 54 = .ok (.if_icmp .ge 82, 3) := by decide +kernel
theorem dX2_searchFrom_57 : decode cX2_searchFrom 57 = .ok (.aload_n 0, 1) := by decide +kernel
theorem dX2_searchFrom_58 : decode cX2_searchFrom 58 = .ok (.getfield 9, 3) := by decide +kernel
theorem dX2_searchFrom_61 : decode cX2_searchFrom 61 = .ok (.iload_n 1, 1) := by decide +kernel
theorem dX2_searchFrom_62 : decode cX2_searchFrom 62 = .ok (.iconst 4, 1) := by decide +kernel
theorem dX2_searchFrom_63 : decode cX2_searchFrom 63 = .ok (.imul, 1) := by decide +kernel
theorem dX2_searchFrom_64 : decode cX2_searchFrom 64 = .ok (.iload_n 3, 1) := by decide +kernel
theorem dX2_searchFrom_65 : decode cX2_searchFrom 65 = .ok (.iadd, 1) := by decide +kernel
theorem dX2_searchFrom_66 : decode cX2_searchFrom 66 = .ok (.iaload, 1) := by decide +kernel
theorem dX2_searchFrom_67 : decode cX2_searchFrom 67 = .ok (.istore 4, 2) := by decide +kernel
theorem dX2_searchFrom_69 : decode cX2_searchFrom 69 = .ok (.iload 4, 2) := by decide +kernel
theorem dX2_searchFrom_71 : decode cX2_searchFrom 71 = .ok (.iconst 2, 1) := by decide +kernel
theorem dX2_searchFrom_72 : decode cX2_searchFrom 72 = .ok (.if_icmp .gt 58, 3) := by decide +kernel
theorem dX2_searchFrom_75 : decode cX2_searchFrom 75 = .ok (.aload_n 0, 1) := by decide +kernel
theorem dX2_searchFrom_76 : decode cX2_searchFrom 76 = .ok (.aload_n 0, 1) := by decide +kernel
theorem dX2_searchFrom_77 : decode cX2_searchFrom 77 = .ok (.getfield 21, 3) := by decide +kernel
theorem dX2_searchFrom_80 : decode cX2_searchFrom 80 = .ok (.iload_n 3, 1) := by decide +kernel
theorem dX2_searchFrom_81 : decode cX2_searchFrom 81 = .ok (.iaload, 1) := by decide +kernel
theorem dX2_searchFrom_82 : decode cX2_searchFrom 82 = .ok (.iload_n 1, 1) := by decide +kernel
theorem dX2_searchFrom_83 : decode cX2_searchFrom 83 = .ok (.invokevirtual 90, 3) := by decide +kernel
theorem dX2_searchFrom_86 : decode cX2_searchFrom 86 = .ok (.ifCond .eq 44, 3) := by decide +kernel
theorem dX2_searchFrom_89 : decode cX2_searchFrom 89 = .ok (.aload_n 0, 1) := by decide +kernel
theorem dX2_searchFrom_90 : decode cX2_searchFrom 90 = .ok (.getfield 21, 3) := by decide +kernel
theorem dX2_searchFrom_93 : decode cX2_searchFrom 93 = .ok (.iload_n 3, 1) := by decide +kernel
theorem dX2_searchFrom_94 : decode cX2_searchFrom 94 = .ok (.iaload, 1) := by decide +kernel
theorem dX2_searchFrom_95 : decode cX2_searchFrom 95 = .ok (.istore 5, 2) := by decide +kernel
theorem dX2_searchFrom_97 : decode cX2_searchFrom 97 = .ok (.aload_n 0, 1) := by decide +kernel
theorem dX2_searchFrom_98 : decode cX2_searchFrom 98 = .ok (.getfield 21, 3) := by decide +kernel
theorem dX2_searchFrom_101 : decode cX2_searchFrom 101 = .ok (.iload_n 3, 1) := by decide +kernel
theorem dX2_searchFrom_102 : decode cX2_searchFrom 102 = .ok (.iload_n 1, 1) := by decide +kernel
theorem dX2_searchFrom_103 : decode cX2_searchFrom 103 = .ok (.iastore, 1) := by decide +kernel
theorem dX2_searchFrom_104 : decode cX2_searchFrom 104 = .ok (.aload_n 0, 1) := by decide +kernel
theorem dX2_searchFrom_105 : decode cX2_searchFrom 105 = .ok (.getfield 18, 3) := by decide +kernel
theorem dX2_searchFrom_108 : decode cX2_searchFrom 108 = .ok (.iload_n 1, 1) := by decide +kernel
theorem dX2_searchFrom_109 : decode cX2_searchFrom 109 = .ok (.iload_n 3, 1) := by decide +kernel
theorem dX2_searchFrom_110 : decode cX2_searchFrom 110 = .ok (.iastore, 1) := by decide +kernel
theorem dX2_searchFrom_111 : decode cX2_searchFrom 111 = .ok (.aload_n 0, 1) := by decide +kernel
theorem dX2_searchFrom_112 : decode cX2_searchFrom 112 = .ok (.iload_n 1, 1) := by decide +kernel
theorem dX2_searchFrom_113 : decode cX2_searchFrom 113 = .ok (.iconst 1, 1) := by decide +kernel
theorem dX2_searchFrom_114 : decode cX2_searchFrom 114 = .ok (.iadd, 1) := by decide +kernel
theorem dX2_searchFrom_115 : decode cX2_searchFrom 115 = .ok (.iload_n 2, 1) := by decide +kernel
theorem dX2_searchFrom_116 : decode cX2_searchFrom 116 = .ok (.iload 4, 2) := by decide +kernel
theorem dX2_searchFrom_118 : decode cX2_searchFrom 118 = .ok (.iadd, 1) := by decide +kernel
theorem dX2_searchFrom_119 : decode cX2_searchFrom 119 = .ok (.invokestatic 64, 3) := by decide +kernel
theorem dX2_searchFrom_122 : decode cX2_searchFrom 122 = .ok (.aload_n 0, 1) := by decide +kernel
theorem dX2_searchFrom_123 : decode cX2_searchFrom 123 = .ok (.getfield 21, 3) := by decide +kernel
theorem dX2_searchFrom_126 : decode cX2_searchFrom 126 = .ok (.iload_n 3, 1) := by decide +kernel
theorem dX2_searchFrom_127 : decode cX2_searchFrom 127 = .ok (.iload 5, 2) := by decide +kernel
theorem dX2_searchFrom_129 : decode cX2_searchFrom 129 = .ok (.iastore, 1) := by decide +kernel
theorem dX2_searchFrom_130 : decode cX2_searchFrom 130 = .ok (.iinc 3 1, 3) := by decide +kernel
theorem dX2_searchFrom_133 : decode cX2_searchFrom 133 = .ok (.goto (-87), 3) := by decide +kernel
theorem dX2_searchFrom_136 : decode cX2_searchFrom 136 = .ok (.aload_n 0, 1) := by decide +kernel
theorem dX2_searchFrom_137 : decode cX2_searchFrom 137 = .ok (.getfield 18, 3) := by decide +kernel
theorem dX2_searchFrom_140 : decode cX2_searchFrom 140 = .ok (.iload_n 1, 1) := by decide +kernel
theorem dX2_searchFrom_141 : decode cX2_searchFrom 141 = .ok (.iconst (-1), 1) := by decide +kernel
theorem dX2_searchFrom_142 : decode cX2_searchFrom 142 = .ok (.iastore, 1) := by decide +kernel
theorem dX2_searchFrom_143 : decode cX2_searchFrom 143 = .ok (.aload_n 0, 1) := by decide +kernel
theorem dX2_searchFrom_144 : decode cX2_searchFrom 144 = .ok (.iload_n 1, 1) := by decide +kernel
theorem dX2_searchFrom_145 : decode cX2_searchFrom 145 = .ok (.iconst 1, 1) := by decide +kernel
theorem dX2_searchFrom_146 : decode cX2_searchFrom 146 = .ok (.iadd, 1) := by decide +kernel
theorem dX2_searchFrom_147 : decode cX2_searchFrom 147 = .ok (.iload_n 2, 1) := by decide +kernel
theorem dX2_searchFrom_148 : decode cX2_searchFrom 148 = .ok (.iconst 3, 1) := by decide +kernel
theorem dX2_searchFrom_149 : decode cX2_searchFrom 149 = .ok (.iadd, 1) := by decide +kernel
theorem dX2_searchFrom_150 : decode cX2_searchFrom 150 = .ok (.invokestatic 64, 3) := by decide +kernel
theorem dX2_searchFrom_153 : decode cX2_searchFrom 153 = .ok (.return_, 1) := by decide +kernel
theorem dX2_isInTime_0 : decode cX2_isInTime 0 = .ok (.iload_n 1, 1) := by decide +kernel
theorem dX2_isInTime_1 : decode cX2_isInTime 1 = .ok (.iconst (-1), 1) := by decide +kernel
theorem dX2_isInTime_2 : decode cX2_isInTime 2 = .ok (.if_icmp .ne 5, 3) := by decide +kernel
theorem dX2_isInTime_5 : decode cX2_isInTime 5 = .ok (.iconst 1, 1) := by decide +kernel
theorem dX2_isInTime_6 : decode cX2_isInTime 6 = .ok (.ireturn, 1) := by decide +kernel
theorem dX2_isInTime_7 : decode cX2_isInTime 7 = .ok (.aload_n 0, 1) := by decide +kernel
theorem dX2_isInTime_8 : decode cX2_isInTime 8 = .ok (.getfield 39, 3) := by decide +kernel
theorem dX2_isInTime_11 : decode cX2_isInTime 11 = .ok (.getfield 94, 3) := by decide +kernel
theorem dX2_isInTime_14 : decode cX2_isInTime 14 = .ok (.iload_n 1, 1) := by decide +kernel
theorem dX2_isInTime_15 : decode cX2_isInTime 15 = .ok (.iaload, 1) := by decide +kernel
theorem dX2_isInTime_16 : decode cX2_isInTime 16 = .ok (.istore_n 3, 1) := by decide +kernel
theorem dX2_isInTime_17 : decode cX2_isInTime 17 = .ok (.aload_n 0, 1) := by decide +kernel
theorem dX2_isInTime_18 : decode cX2_isInTime 18 = .ok (.getfield 35, 3) := by decide +kernel
theorem dX2_isInTime_21 : decode cX2_isInTime 21 = .ok (.getfield 97, 3) := by decide +kernel
theorem dX2_isInTime_24 : decode cX2_isInTime 24 = .ok (.iload_n 3, 1) := by decide +kernel
theorem dX2_isInTime_25 : decode cX2_isInTime 25 = .ok (.bipush 12, 2) := by decide +kernel
theorem dX2_isInTime_27 : decode cX2_isInTime 27 = .ok (.imul, 1) := by decide +kernel
theorem dX2_isInTime_28 : decode cX2_isInTime 28 = .ok (.aload_n 0, 1) := by decide +kernel
theorem dX2_isInTime_29 : decode cX2_isInTime 29 = .ok (.getfield 39, 3) := by decide +kernel
theorem dX2_isInTime_32 : decode cX2_isInTime 32 = .ok (.getfield 94, 3) := by decide +kernel
theorem dX2_isInTime_35 : decode cX2_isInTime 35 = .ok (.iload_n 2, 1) := by decide +kernel
theorem dX2_isInTime_36 : decode cX2_isInTime 36 = .ok (.iaload, 1) := by decide +kernel
theorem dX2_isInTime_37 : decode cX2_isInTime 37 = .ok (.iadd, 1) := by decide +kernel
theorem dX2_isInTime_38 : decode cX2_isInTime 38 = .ok (.iaload, 1) := by decide +kernel
theorem dX2_isInTime_39 : decode cX2_isInTime 39 = .ok (.istore 4, 2) := by decide +kernel
theorem dX2_isInTime_41 : decode cX2_isInTime 41 = .ok (.iload 4, 2) := by decide +kernel
theorem dX2_isInTime_43 : decode cX2_isInTime 43 = .ok (.ldc 102, 2) := by decide +kernel
theorem dX2_isInTime_45 : decode cX2_isInTime 45 = .ok (.if_icmp .lt 5, 3) := by decide +kernel
theorem dX2_isInTime_48 : decode cX2_isInTime 48 = .ok (.iconst 0, 1) := by decide +kernel
theorem dX2_isInTime_49 : decode cX2_isInTime 49 = .ok (.ireturn, 1) := by decide +kernel
theorem dX2_isInTime_50 : decode cX2_isInTime 50 = .ok (.iload 4, 2) := by decide +kernel
theorem dX2_isInTime_52 : decode cX2_isInTime 52 = .ok (.bipush 100, 2) := by decide +kernel
theorem dX2_isInTime_54 : decode cX2_isInTime 54 = .ok (.iadd, 1) := by decide +kernel
theorem dX2_isInTime_55 : decode cX2_isInTime 55 = .ok (.iconst 1, 1) := by decide +kernel
theorem dX2_isInTime_56 : decode cX2_isInTime 56 = .ok (.isub, 1) := by decide +kernel
theorem dX2_isInTime_57 : decode cX2_isInTime 57 = .ok (.bipush 100, 2) := by decide +kernel
theorem dX2_isInTime_59 : decode cX2_isInTime 59 = .ok (.idiv, 1) := by decide +kernel
theorem dX2_isInTime_60 : decode cX2_isInTime 60 = .ok (.istore 5, 2) := by decide +kernel
theorem dX2_isInTime_62 : decode cX2_isInTime 62 = .ok (.aload_n 0, 1) := by decide +kernel
theorem dX2_isInTime_63 : decode cX2_isInTime 63 = .ok (.getfield 39, 3) := by decide +kernel
theorem dX2_isInTime_66 : decode cX2_isInTime 66 = .ok (.getfield 103, 3) := by decide +kernel
theorem dX2_isInTime_69 : decode cX2_isInTime 69 = .ok (.iload_n 2, 1) := by decide +kernel
theorem dX2_isInTime_70 : decode cX2_isInTime 70 = .ok (.iaload, 1) := by decide +kernel
theorem dX2_isInTime_71 : decode cX2_isInTime 71 = .ok (.aload_n 0, 1) := by decide +kernel
theorem dX2_isInTime_72 : decode cX2_isInTime 72 = .ok (.getfield 39, 3) := by decide +kernel
theorem dX2_isInTime_75 : decode cX2_isInTime 75 = .ok (.getfield 103, 3) := by decide +kernel
theorem dX2_isInTime_78 : decode cX2_isInTime 78 = .ok (.iload_n 1, 1) := by decide +kernel
theorem dX2_isInTime_79 : decode cX2_isInTime 79 = .ok (.iaload, 1) := by decide +kernel
theorem dX2_isInTime_80 : decode cX2_isInTime 80 = .ok (.isub, 1) := by decide +kernel
theorem dX2_isInTime_81 : decode cX2_isInTime 81 = .ok (.iload 5, 2) := by decide +kernel
theorem dX2_isInTime_83 : decode cX2_isInTime 83 = .ok (.if_icmp .lt 7, 3) := by decide +kernel
theorem dX2_isInTime_86 : decode cX2_isInTime 86 = .ok (.iconst 1, 1) := by decide +kernel
theorem dX2_isInTime_87 : decode cX2_isInTime 87 = .ok (.goto 4, 3) := by decide +kernel
theorem dX2_isInTime_90 : decode cX2_isInTime 90 = .ok (.iconst 0, 1) := by decide +kernel
theorem dX2_isInTime_91 : decode cX2_isInTime 91 = .ok (.ireturn, 1) := by decide +kernel
theorem dX2_keep_0 : decode cX2_keep 0 = .ok (.aload_n 0, 1) := by decide +kernel
theorem dX2_keep_1 : decode cX2_keep 1 = .ok (.getfield 18, 3) := by decide +kernel
theorem dX2_keep_4 : decode cX2_keep 4 = .ok (.iconst 0, 1) := by decide +kernel
theorem dX2_keep_5 : decode cX2_keep 5 = .ok (.aload_n 0, 1) := by decide +kernel
theorem dX2_keep_6 : decode cX2_keep 6 = .ok (.getfield 24, 3) := by decide +kernel
theorem dX2_keep_9 : decode cX2_keep 9 = .ok (.iconst 0, 1) := by decide +kernel
theorem dX2_keep_10 : decode cX2_keep 10 = .ok (.bipush 7, 2) := by decide +kernel
theorem dX2_keep_12 : decode cX2_keep 12 = .ok (.invokestatic 106, 3) := by decide +kernel
theorem dX2_keep_15 : decode cX2_keep 15 = .ok (.aload_n 0, 1) := by decide +kernel
theorem dX2_keep_16 : decode cX2_keep 16 = .ok (.iload_n 1, 1) := by decide +kernel
theorem dX2_keep_17 : decode cX2_keep 17 = .ok (.putfield 27, 3) := by decide +kernel
theorem dX2_keep_20 : decode cX2_keep 20 = .ok (.return_, 1) := by decide +kernel
theorem dX3_init_0 : decode cX3_init 0 = .ok (.aload_n 0, 1) := by decide +kernel
theorem dX3_init_1 : decode cX3_init 1 = .ok (.invokespecial 3, 3) := by decide +kernel
theorem dX3_init_4 : decode cX3_init 4 = .ok (.aload_n 0, 1) := by decide +kernel
theorem dX3_init_5 : decode cX3_init 5 = .ok (.bipush 12, 2) := by decide +kernel
theorem dX3_init_7 : decode cX3_init 7 = .ok (.newarray .int, 2) := by decide +kernel
theorem dX3_init_9 : decode cX3_init 9 = .ok (.putfield 9, 3) := by decide +kernel
theorem dX3_init_12 : decode cX3_init 12 = .ok (.aload_n 0, 1) := by decide +kernel
theorem dX3_init_13 : decode cX3_init 13 = .ok (.bipush 12, 2) := by decide +kernel
theorem dX3_init_15 : decode cX3_init 15 = .ok (.newarray .int, 2) := by decide +kernel
theorem dX3_init_17 : decode cX3_init 17 = .ok (.putfield 15, 3) := by decide +kernel
theorem dX3_init_20 : decode cX3_init 20 = .ok (.aload_n 0, 1) := by decide +kernel
theorem dX3_init_21 : decode cX3_init 21 = .ok (.iconst 0, 1) := by decide +kernel
theorem dX3_init_22 : decode cX3_init 22 = .ok (.putfield 18, 3) := by decide +kernel
theorem dX3_init_25 : decode cX3_init 25 = .ok (.aload_n 0, 1) := by decide +kernel
theorem dX3_init_26 : decode cX3_init 26 = .ok (.iconst 0, 1) := by decide +kernel
theorem dX3_init_27 : decode cX3_init 27 = .ok (.putfield 22, 3) := by decide +kernel
theorem dX3_init_30 : decode cX3_init 30 = .ok (.aload_n 0, 1) := by decide +kernel
theorem dX3_init_31 : decode cX3_init 31 = .ok (.bipush 12, 2) := by decide +kernel
theorem dX3_init_33 : decode cX3_init 33 = .ok (.newarray .int, 2) := by decide +kernel
theorem dX3_init_35 : decode cX3_init 35 = .ok (.putfield 25, 3) := by decide +kernel
theorem dX3_init_38 : decode cX3_init 38 = .ok (.aload_n 0, 1) := by decide +kernel
theorem dX3_init_39 : decode cX3_init 39 = .ok (.sipush 144, 3) := by decide +kernel
theorem dX3_init_42 : decode cX3_init 42 = .ok (.newarray .int, 2) := by decide +kernel
theorem dX3_init_44 : decode cX3_init 44 = .ok (.putfield 28, 3) := by decide +kernel
theorem dX3_init_47 : decode cX3_init 47 = .ok (.aload_n 0, 1) := by decide +kernel
theorem dX3_init_48 : decode cX3_init 48 = .ok (.bipush 12, 2) := by decide +kernel
theorem dX3_init_50 : decode cX3_init 50 = .ok (.newarray .int, 2) := by decide +kernel
theorem dX3_init_52 : decode cX3_init 52 = .ok (.putfield 31, 3) := by decide +kernel
theorem dX3_init_55 : decode cX3_init 55 = .ok (.aload_n 0, 1) := by decide +kernel
theorem dX3_init_56 : decode cX3_init 56 = .ok (.bipush 12, 2) := by decide +kernel
theorem dX3_init_58 : decode cX3_init 58 = .ok (.newarray .int, 2) := by decide +kernel
theorem dX3_init_60 : decode cX3_init 60 = .ok (.putfield 34, 3) := by decide +kernel
theorem dX3_init_63 : decode cX3_init 63 = .ok (.aload_n 0, 1) := by decide +kernel
theorem dX3_init_64 : decode cX3_init 64 = .ok (.iconst 1, 1) := by decide +kernel
theorem dX3_init_65 : decode cX3_init 65 = .ok (.putfield 37, 3) := by decide +kernel
theorem dX3_init_68 : decode cX3_init 68 = .ok (.aload_n 0, 1) := by decide +kernel
theorem dX3_init_69 : decode cX3_init 69 = .ok (.aload_n 1, 1) := by decide +kernel
theorem dX3_init_70 : decode cX3_init 70 = .ok (.putfield 41, 3) := by decide +kernel
theorem dX3_init_73 : decode cX3_init 73 = .ok (.return_, 1) := by decide +kernel
theorem dX3_forget_0 : decode cX3_forget 0 = .ok (.aload_n 0, 1) := by decide +kernel
theorem dX3_forget_1 : decode cX3_forget 1 = .ok (.iconst 0, 1) := by decide +kernel
theorem dX3_forget_2 : decode cX3_forget 2 = .ok (.putfield 37, 3) := by decide +kernel
theorem dX3_forget_5 : decode cX3_forget 5 = .ok (.return_, 1) := by decide +kernel
theorem dX3_place_0 : decode cX3_place 0 = .ok (.iload_n 1, 1) := by decide +kernel
theorem dX3_place_1 : decode cX3_place 1 = .ok (.invokestatic 45, 3) := by decide +kernel
theorem dX3_place_4 : decode cX3_place 4 = .ok (.ifCond .eq 23, 3) := by decide +kernel
theorem dX3_place_7 : decode cX3_place 7 = .ok (.iload_n 2, 1) := by decide +kernel
theorem dX3_place_8 : decode cX3_place 8 = .ok (.iconst 0, 1) := by decide +kernel
theorem dX3_place_9 : decode cX3_place 9 = .ok (.bipush 9, 2) := by decide +kernel
theorem dX3_place_11 : decode cX3_place 11 = .ok (.invokestatic 49, 3) := by decide +kernel
theorem dX3_place_14 : decode cX3_place 14 = .ok (.ifCond .eq 13, 3) := by decide +kernel
theorem dX3_place_17 : decode cX3_place 17 = .ok (.iload_n 3, 1) := by decide +kernel
theorem dX3_place_18 : decode cX3_place 18 = .ok (.iconst 0, 1) := by decide +kernel
theorem dX3_place_19 : decode cX3_place 19 = .ok (.bipush 9, 2) := by decide +kernel
theorem dX3_place_21 : decode cX3_place 21 = .ok (.invokestatic 49, 3) := by decide +kernel
theorem dX3_place_24 : decode cX3_place 24 = .ok (.ifCond .ne 5, 3) := by decide +kernel
theorem dX3_place_27 : decode cX3_place 27 = .ok (.iconst 0, 1) := by decide +kernel
theorem dX3_place_28 : decode cX3_place 28 = .ok (.ireturn, 1) := by decide +kernel
theorem dX3_place_29 : decode cX3_place 29 = .ok (.aload_n 0, 1) := by decide +kernel
theorem dX3_place_30 : decode cX3_place 30 = .ok (.getfield 9, 3) := by decide +kernel
theorem dX3_place_33 : decode cX3_place 33 = .ok (.iload_n 1, 1) := by decide +kernel
theorem dX3_place_34 : decode cX3_place 34 = .ok (.iload_n 2, 1) := by decide +kernel
theorem dX3_place_35 : decode cX3_place 35 = .ok (.iastore, 1) := by decide +kernel
theorem dX3_place_36 : decode cX3_place 36 = .ok (.aload_n 0, 1) := by decide +kernel
theorem dX3_place_37 : decode cX3_place 37 = .ok (.getfield 15, 3) := by decide +kernel
theorem dX3_place_40 : decode cX3_place 40 = .ok (.iload_n 1, 1) := by decide +kernel
theorem dX3_place_41 : decode cX3_place 41 = .ok (.iload_n 3, 1) := by decide +kernel
theorem dX3_place_42 : decode cX3_place 42 = .ok (.iastore, 1) := by decide +kernel
theorem dX3_place_43 : decode cX3_place 43 = .ok (.aload_n 0, 1) := by decide +kernel
theorem dX3_place_44 : decode cX3_place 44 = .ok (.invokevirtual 53, 3) := by decide +kernel
theorem dX3_place_47 : decode cX3_place 47 = .ok (.iconst 1, 1) := by decide +kernel
theorem dX3_place_48 : decode cX3_place 48 = .ok (.ireturn, 1) := by decide +kernel
theorem dX3_solve_0 : decode cX3_solve 0 = .ok (.aload_n 0, 1) := by decide +kernel
theorem dX3_solve_1 : decode cX3_solve 1 = .ok (.getfield 37, 3) := by decide +kernel
theorem dX3_solve_4 : decode cX3_solve 4 = .ok (.ifCond .eq 4, 3) := by decide +kernel
theorem dX3_solve_7 : decode cX3_solve 7 = .ok (.return_, 1) := by decide +kernel
theorem dX3_solve_8 : decode cX3_solve 8 = .ok (.aload_n 0, 1) := by decide +kernel
theorem dX3_solve_9 : decode cX3_solve 9 = .ok (.invokevirtual 56, 3) := by decide +kernel
theorem dX3_solve_12 : decode cX3_solve 12 = .ok (.iconst 0, 1) := by decide +kernel
theorem dX3_solve_13 : decode cX3_solve 13 = .ok (.istore_n 1, 1) := by decide +kernel
theorem dX3_solve_14 : decode cX3_solve 14 = .ok (.iload_n 1, 1) := by decide +kernel
theorem dX3_solve_15 : decode cX3_solve 15 = .ok (.bipush 108, 2) := by decide +kernel
theorem dX3_solve_17 : decode cX3_solve 17 = .ok (.if_icmp .ge 16, 3) := by decide +kernel
theorem dX3_solve_20 : decode cX3_solve 20 = .ok (.aload_n 0, 1) := by decide +kernel
theorem dX3_solve_21 : decode cX3_solve 21 = .ok (.invokevirtual 59, 3) := by decide +kernel
theorem dX3_solve_24 : decode cX3_solve 24 = .ok (.ifCond .eq 9, 3) := by decide +kernel
theorem dX3_solve_27 : decode cX3_solve 27 = .ok (.iinc 1 1, 3) := by decide +kernel
theorem dX3_solve_30 : decode cX3_solve 30 = .ok (.goto (-16), 3) := by decide +kernel
theorem dX3_solve_33 : decode cX3_solve 33 = .ok (.aload_n 0, 1) := by decide +kernel
theorem dX3_solve_34 : decode cX3_solve 34 = .ok (.iconst 1, 1) := by decide +kernel
theorem dX3_solve_35 : decode cX3_solve 35 = .ok (.putfield 37, 3) := by decide +kernel
theorem dX3_solve_38 : decode cX3_solve 38 = .ok (.return_, 1) := by decide +kernel
theorem dX3_stayAtHome_0 : decode cX3_stayAtHome 0 = .ok (.aload_n 0, 1) := by decide +kernel
theorem dX3_stayAtHome_1 : decode cX3_stayAtHome 1 = .ok (.getfield 28, 3) := by decide +kernel
theorem dX3_stayAtHome_4 : decode cX3_stayAtHome 4 = .ok (.iconst 0, 1) := by decide +kernel
theorem dX3_stayAtHome_5 : decode cX3_stayAtHome 5 = .ok (.invokestatic 63, 3) := by decide +kernel
theorem dX3_stayAtHome_8 : decode cX3_stayAtHome 8 = .ok (.aload_n 0, 1) := by decide +kernel
theorem dX3_stayAtHome_9 : decode cX3_stayAtHome 9 = .ok (.iconst 0, 1) := by decide +kernel
theorem dX3_stayAtHome_10 : decode cX3_stayAtHome 10 = .ok (.putfield 18, 3) := by decide +kernel
theorem dX3_stayAtHome_13 : decode cX3_stayAtHome 13 = .ok (.aload_n 0, 1) := by decide +kernel
theorem dX3_stayAtHome_14 : decode cX3_stayAtHome 14 = .ok (.iconst 0, 1) := by decide +kernel
theorem dX3_stayAtHome_15 : decode cX3_stayAtHome 15 = .ok (.putfield 22, 3) := by decide +kernel
theorem dX3_stayAtHome_18 : decode cX3_stayAtHome 18 = .ok (.iconst 0, 1) := by decide +kernel
theorem dX3_stayAtHome_19 : decode cX3_stayAtHome 19 = .ok (.istore_n 1, 1) := by decide +kernel
theorem dX3_stayAtHome_20 : decode cX3_stayAtHome 20 = .ok (.iload_n 1, 1) := by decide +kernel
theorem dX3_stayAtHome_21 : decode cX3_stayAtHome 21 = .ok (.bipush 12, 2) := by decide +kernel
theorem dX3_stayAtHome_23 : decode cX3_stayAtHome 23 = .ok (.if_icmp .ge 52, 3) := by decide +kernel
theorem dX3_stayAtHome_26 : decode cX3_stayAtHome 26 = .ok (.aload_n 0, 1) := by decide +kernel
theorem dX3_stayAtHome_27 : decode cX3_stayAtHome 27 = .ok (.dup, 1) := by decide +kernel
theorem dX3_stayAtHome_28 : decode cX3_stayAtHome 28 = .ok (.getfield 18, 3) := by decide +kernel
theorem dX3_stayAtHome_31 : decode cX3_stayAtHome 31 = .ok (.aload_n 0, 1) := by decide +kernel
theorem dX3_stayAtHome_32 : decode cX3_stayAtHome 32 = .ok (.getfield 9, 3) := by decide +kernel
theorem dX3_stayAtHome_35 : decode cX3_stayAtHome 35 = .ok (.iload_n 1, 1) := by decide +kernel
theorem dX3_stayAtHome_36 : decode cX3_stayAtHome 36 = .ok (.iaload, 1) := by decide +kernel
theorem dX3_stayAtHome_37 : decode cX3_stayAtHome 37 = .ok (.aload_n 0, 1) := by decide +kernel
theorem dX3_stayAtHome_38 : decode cX3_stayAtHome 38 = .ok (.getfield 15, 3) := by decide +kernel
theorem dX3_stayAtHome_41 : decode cX3_stayAtHome 41 = .ok (.iload_n 1, 1) := by decide +kernel
theorem dX3_stayAtHome_42 : decode cX3_stayAtHome 42 = .ok (.iaload, 1) := by decide +kernel
theorem dX3_stayAtHome_43 : decode cX3_stayAtHome 43 = .ok (.invokestatic 69, 3) := by decide +kernel
theorem dX3_stayAtHome_46 : decode cX3_stayAtHome 46 = .ok (.iadd, 1) := by decide +kernel
theorem dX3_stayAtHome_47 : decode cX3_stayAtHome 47 = .ok (.putfield 18, 3) := by decide +kernel
theorem dX3_stayAtHome_50 : decode cX3_stayAtHome 50 = .ok (.aload_n 0, 1) := by decide +kernel
theorem dX3_stayAtHome_51 : decode cX3_stayAtHome 51 = .ok (.getfield 25, 3) := by decide +kernel
theorem dX3_stayAtHome_54 : decode cX3_stayAtHome 54 = .ok (.iload_n 1, 1) := by decide +kernel
theorem dX3_stayAtHome_55 : decode cX3_stayAtHome 55 = .ok (.aload_n 0, 1) := by decide +kernel
theorem dX3_stayAtHome_56 : decode cX3_stayAtHome 56 = .ok (.getfield 9, 3) := by decide +kernel
theorem dX3_stayAtHome_59 : decode cX3_stayAtHome 59 = .ok (.iload_n 1, 1) := by decide +kernel
theorem dX3_stayAtHome_60 : decode cX3_stayAtHome 60 = .ok (.iaload, 1) := by decide +kernel
theorem dX3_stayAtHome_61 : decode cX3_stayAtHome 61 = .ok (.aload_n 0, 1) := by decide +kernel
theorem dX3_stayAtHome_62 : decode cX3_stayAtHome 62 = .ok (.getfield 15, 3) := by decide +kernel
theorem dX3_stayAtHome_65 : decode cX3_stayAtHome 65 = .ok (.iload_n 1, 1) := by decide +kernel
theorem dX3_stayAtHome_66 : decode cX3_stayAtHome 66 = .ok (.iaload, 1) := by decide +kernel
theorem dX3_stayAtHome_67 : decode cX3_stayAtHome 67 = .ok (.isub, 1) := by decide +kernel
theorem dX3_stayAtHome_68 : decode cX3_stayAtHome 68 = .ok (.iastore, 1) := by decide +kernel
theorem dX3_stayAtHome_69 : decode cX3_stayAtHome 69 = .ok (.iinc 1 1, 3) := by decide +kernel
theorem dX3_stayAtHome_72 : decode cX3_stayAtHome 72 = .ok (.goto (-52), 3) := by decide +kernel
theorem dX3_stayAtHome_75 : decode cX3_stayAtHome 75 = .ok (.return_, 1) := by decide +kernel
theorem dX3_leadMore_0 : decode cX3_leadMore 0 = .ok (.aload_n 0, 1) := by decide +kernel
theorem dX3_leadMore_1 : decode cX3_leadMore 1 = .ok (.invokevirtual 75, 3) := by decide +kernel
theorem dX3_leadMore_4 : decode cX3_leadMore 4 = .ok (.aload_n 0, 1) := by decide +kernel
theorem dX3_leadMore_5 : decode cX3_leadMore 5 = .ok (.invokevirtual 78, 3) := by decide +kernel
theorem dX3_leadMore_8 : decode cX3_leadMore 8 = .ok (.istore_n 1, 1) := by decide +kernel
theorem dX3_leadMore_9 : decode cX3_leadMore 9 = .ok (.iload_n 1, 1) := by decide +kernel
theorem dX3_leadMore_10 : decode cX3_leadMore 10 = .ok (.iconst (-1), 1) := by decide +kernel
theorem dX3_leadMore_11 : decode cX3_leadMore 11 = .ok (.if_icmp .ne 5, 3) := by decide +kernel
theorem dX3_leadMore_14 : decode cX3_leadMore 14 = .ok (.iconst 0, 1) := by decide +kernel
theorem dX3_leadMore_15 : decode cX3_leadMore 15 = .ok (.ireturn, 1) := by decide +kernel
theorem dX3_leadMore_16 : decode cX3_leadMore 16 = .ok (.aload_n 0, 1) := by decide +kernel
theorem dX3_leadMore_17 : decode cX3_leadMore 17 = .ok (.iload_n 1, 1) := by decide +kernel
theorem dX3_leadMore_18 : decode cX3_leadMore 18 = .ok (.invokevirtual 82, 3) := by decide +kernel
theorem dX3_leadMore_21 : decode cX3_leadMore 21 = .ok (.istore_n 2, 1) := by decide +kernel
theorem dX3_leadMore_22 : decode cX3_leadMore 22 = .ok (.iload_n 2, 1) := by decide +kernel
theorem dX3_leadMore_23 : decode cX3_leadMore 23 = .ok (.ifCond .gt 5, 3) := by decide +kernel
theorem dX3_leadMore_26 : decode cX3_leadMore 26 = .ok (.iconst 0, 1) := by decide +kernel
theorem dX3_leadMore_27 : decode cX3_leadMore 27 = .ok (.ireturn, 1) := by decide +kernel
theorem dX3_leadMore_28 : decode cX3_leadMore 28 = .ok (.aload_n 0, 1) := by decide +kernel
theorem dX3_leadMore_29 : decode cX3_leadMore 29 = .ok (.iload_n 1, 1) := by decide +kernel
theorem dX3_leadMore_30 : decode cX3_leadMore 30 = .ok (.iload_n 2, 1) := by decide +kernel
theorem dX3_leadMore_31 : decode cX3_leadMore 31 = .ok (.invokevirtual 86, 3) := by decide +kernel
theorem dX3_leadMore_34 : decode cX3_leadMore 34 = .ok (.aload_n 0, 1) := by decide +kernel
theorem dX3_leadMore_35 : decode cX3_leadMore 35 = .ok (.dup, 1) := by decide +kernel
theorem dX3_leadMore_36 : decode cX3_leadMore 36 = .ok (.getfield 18, 3) := by decide +kernel
theorem dX3_leadMore_39 : decode cX3_leadMore 39 = .ok (.iload_n 2, 1) := by decide +kernel
theorem dX3_leadMore_40 : decode cX3_leadMore 40 = .ok (.iadd, 1) := by decide +kernel
theorem dX3_leadMore_41 : decode cX3_leadMore 41 = .ok (.putfield 18, 3) := by decide +kernel
theorem dX3_leadMore_44 : decode cX3_leadMore 44 = .ok (.aload_n 0, 1) := by decide +kernel
theorem dX3_leadMore_45 : decode cX3_leadMore 45 = .ok (.dup, 1) := by decide +kernel
theorem dX3_leadMore_46 : decode cX3_leadMore 46 = .ok (.getfield 22, 3) := by decide +kernel
theorem dX3_leadMore_49 : decode cX3_leadMore 49 = .ok (.iload_n 2, 1) := by decide +kernel
theorem dX3_leadMore_50 : decode cX3_leadMore 50 = .ok (.aload_n 0, 1) := by decide +kernel
theorem dX3_leadMore_51 : decode cX3_leadMore 51 = .ok (.getfield 31, 3) := by decide +kernel
theorem dX3_leadMore_54 : decode cX3_leadMore 54 = .ok (.iload_n 1, 1) := by decide +kernel
theorem dX3_leadMore_55 : decode cX3_leadMore 55 = .ok (.iaload, 1) := by decide +kernel
theorem dX3_leadMore_56 : decode cX3_leadMore 56 = .ok (.imul, 1) := by decide +kernel
theorem dX3_leadMore_57 : decode cX3_leadMore 57 = .ok (.iadd, 1) := by decide +kernel
theorem dX3_leadMore_58 : decode cX3_leadMore 58 = .ok (.putfield 22, 3) := by decide +kernel
theorem dX3_leadMore_61 : decode cX3_leadMore 61 = .ok (.iconst 1, 1) := by decide +kernel
theorem dX3_leadMore_62 : decode cX3_leadMore 62 = .ok (.ireturn, 1) := by decide +kernel
theorem dX3_measureReach_0 : decode cX3_measureReach 0 = .ok (.iconst 0, 1) := by decide +kernel
theorem dX3_measureReach_1 : decode cX3_measureReach 1 = .ok (.istore_n 1, 1) := by decide +kernel
theorem dX3_measureReach_2 : decode cX3_measureReach 2 = .ok (.iload_n 1, 1) := by decide +kernel
theorem dX3_measureReach_3 : decode cX3_measureReach 3 = .ok (.bipush 12, 2) := by decide +kernel
theorem dX3_measureReach_5 : decode cX3_measureReach 5 = .ok (.if_icmp .ge 37, 3) := by decide +kernel
theorem dX3_measureReach_8 : decode cX3_measureReach 8 = .ok (.aload_n 0, 1) := by decide +kernel
theorem dX3_measureReach_9 : decode cX3_measureReach 9 = .ok (.getfield 31, 3) := by decide +kernel
theorem dX3_measureReach_12 : decode cX3_measureReach 12 = .ok (.iload_n 1, 1) := by decide +kernel
theorem dX3_measureReach_13 : decode cX3_measureReach 13 = .ok (.aload_n 0, 1) := by decide +kernel
theorem dX3_measureReach_14 : decode cX3_measureReach 14 = .ok (.getfield 25, 3) := by decide +kernel
theorem dX3_measureReach_17 : decode cX3_measureReach 17 = .ok (.iload_n 1, 1) := by decide +kernel
theorem dX3_measureReach_18 : decode cX3_measureReach 18 = .ok (.iaload, 1) := by decide +kernel
theorem dX3_measureReach_19 : decode cX3_measureReach 19 = .ok (.ifCond .le 7, 3) := by decide +kernel
theorem dX3_measureReach_22 : decode cX3_measureReach 22 = .ok (.iconst 0, 1) := by decide +kernel
theorem dX3_measureReach_23 : decode cX3_measureReach 23 = .ok (.goto 5, 3) := by decide +kernel
theorem dX3_measureReach_26 : decode cX3_measureReach 26 = .ok (.ldc 90, 2) := by decide +kernel
theorem dX3_measureReach_28 : decode cX3_measureReach 28 = .ok (.iastore, 1) := by decide +kernel
theorem dX3_measureReach_29 : decode cX3_measureReach 29 = .ok (.aload_n 0, 1) := by decide +kernel
theorem dX3_measureReach_30 : decode cX3_measureReach 30 = .ok (.getfield 34, 3) := by decide +kernel
theorem dX3_measureReach_33 : decode cX3_measureReach 33 = .ok (.iload_n 1, 1) := by decide +kernel
theorem dX3_measureReach_34 : decode cX3_measureReach 34 = .ok (.iconst (-1), 1) := by decide +kernel
theorem dX3_measureReach_35 : decode cX3_measureReach 35 = .ok (.iastore, 1) := by decide +kernel
theorem dX3_measureReach_36 : decode cX3_measureReach 36 = .ok (.iinc 1 1, 3) := by decide +kernel
theorem dX3_measureReach_39 : decode cX3_measureReach 39 = .ok (.goto (-37), 3) := by decide +kernel
theorem dX3_measureReach_42 : decode cX3_measureReach 42 = .ok (.iconst 1, 1) := by decide +kernel
theorem dX3_measureReach_43 : decode cX3_measureReach 43 = .ok (.istore_n 1, 1) := by decide +kernel
theorem dX3_measureReach_44 : decode cX3_measureReach 44 = .ok (.iconst 0, 1) := by decide +kernel
theorem dX3_measureReach_45 : decode cX3_measureReach 45 = .ok (.istore_n 2, 1) := by decide +kernel
theorem dX3_measureReach_46 : decode cX3_measureReach 46 = .ok (.iload_n 2, 1) := by decide +kernel
theorem dX3_measureReach_47 : decode cX3_measureReach 47 = .ok (.bipush 12, 2) := by decide +kernel
theorem dX3_measureReach_49 : decode cX3_measureReach 49 = .ok (.if_icmp .ge 50, 3) := by decide +kernel
theorem dX3_measureReach_52 : decode cX3_measureReach 52 = .ok (.iload_n 1, 1) := by decide +kernel
theorem dX3_measureReach_53 : decode cX3_measureReach 53 = .ok (.ifCond .eq 46, 3) := by decide +kernel
theorem dX3_measureReach_56 : decode cX3_measureReach 56 = .ok (.iconst 0, 1) := by decide +kernel
theorem dX3_measureReach_57 : decode cX3_measureReach 57 = .ok (.istore_n 1, 1) := by decide +kernel
theorem dX3_measureReach_58 : decode cX3_measureReach 58 = .ok (.iconst 0, 1) := by decide +kernel
theorem dX3_measureReach_59 : decode cX3_measureReach 59 = .ok (.istore_n 3, 1) := by decide +kernel
theorem dX3_measureReach_60 : decode cX3_measureReach 60 = .ok (.iload_n 3, 1) := by decide +kernel
theorem dX3_measureReach_61 : decode cX3_measureReach 61 = .ok (.bipush 12, 2) := by decide +kernel
theorem dX3_measureReach_63 : decode cX3_measureReach 63 = .ok (.if_icmp .ge 30, 3) := by decide +kernel
theorem dX3_measureReach_66 : decode cX3_measureReach 66 = .ok (.aload_n 0, 1) := by decide +kernel
theorem dX3_measureReach_67 : decode cX3_measureReach 67 = .ok (.getfield 31, 3) := by decide +kernel
theorem dX3_measureReach_70 : decode cX3_measureReach 70 = .ok (.iload_n 3, 1) := by decide +kernel
theorem dX3_measureReach_71 : decode cX3_measureReach 71 = .ok (.iaload, 1) := by decide +kernel
theorem dX3_measureReach_72 : decode cX3_measureReach 72 = .ok (.ldc 90, 2) := by decide +kernel
theorem dX3_measureReach_74 : decode cX3_measureReach 74 = .ok (.if_icmp .ge 13, 3) := by decide +kernel
theorem dX3_measureReach_77 : decode cX3_measureReach 77 = .ok (.aload_n 0, 1) := by decide +kernel
theorem dX3_measureReach_78 : decode cX3_measureReach 78 = .ok (.iload_n 3, 1) := by decide +kernel
theorem dX3_measureReach_79 : decode cX3_measureReach 79 = .ok (.invokevirtual 91, 3) := by decide +kernel
theorem dX3_measureReach_82 : decode cX3_measureReach 82 = .ok (.ifCond .eq 5, 3) := by decide +kernel
theorem dX3_measureReach_85 : decode cX3_measureReach 85 = .ok (.iconst 1, 1) := by decide +kernel
theorem dX3_measureReach_86 : decode cX3_measureReach 86 = .ok (.istore_n 1, 1) := by decide +kernel
theorem dX3_measureReach_87 : decode cX3_measureReach 87 = .ok (.iinc 3 1, 3) := by decide +kernel
theorem dX3_measureReach_90 : decode cX3_measureReach 90 = .ok (.goto (-30), 3) := by decide +kernel
theorem dX3_measureReach_93 : decode cX3_measureReach 93 = .ok (.iinc 2 1, 3) := by decide +kernel
theorem dX3_measureReach_96 : decode cX3_measureReach 96 = .ok (.goto (-50), 3) := by decide +kernel
theorem dX3_measureReach_99 : decode cX3_measureReach 99 = .ok (.return_, 1) := by decide +kernel
theorem dX3_stepFrom_0 : decode cX3_stepFrom 0 = .ok (.iconst 0, 1) := by decide +kernel
theorem dX3_stepFrom_1 : decode cX3_stepFrom 1 = .ok (.istore_n 2, 1) := by decide +kernel
theorem dX3_stepFrom_2 : decode cX3_stepFrom 2 = .ok (.iconst 0, 1) := by decide +kernel
theorem dX3_stepFrom_3 : decode cX3_stepFrom 3 = .ok (.istore_n 3, 1) := by decide +kernel
theorem dX3_stepFrom_4 : decode cX3_stepFrom 4 = .ok (.iload_n 3, 1) := by decide +kernel
theorem dX3_stepFrom_5 : decode cX3_stepFrom 5 = .ok (.bipush 12, 2) := by decide +kernel
theorem dX3_stepFrom_7 : decode cX3_stepFrom 7 = .ok (.if_icmp .ge 66, 3) := by decide +kernel
theorem dX3_stepFrom_10 : decode cX3_stepFrom 10 = .ok (.aload_n 0, 1) := by decide +kernel
theorem dX3_stepFrom_11 : decode cX3_stepFrom 11 = .ok (.iload_n 1, 1) := by decide +kernel
theorem dX3_stepFrom_12 : decode cX3_stepFrom 12 = .ok (.iload_n 3, 1) := by decide +kernel
theorem dX3_stepFrom_13 : decode cX3_stepFrom 13 = .ok (.invokevirtual 94, 3) := by decide +kernel
theorem dX3_stepFrom_16 : decode cX3_stepFrom 16 = .ok (.istore 4, 2) := by decide +kernel
theorem dX3_stepFrom_18 : decode cX3_stepFrom 18 = .ok (.iload 4, 2) := by decide +kernel
theorem dX3_stepFrom_20 : decode cX3_stepFrom 20 = .ok (.ldc 90, 2) := by decide +kernel
theorem dX3_stepFrom_22 : decode cX3_stepFrom 22 = .ok (.if_icmp .ge 45, 3) := by decide +kernel
theorem dX3_stepFrom_25 : decode cX3_stepFrom 25 = .ok (.aload_n 0, 1) := by decide +kernel
theorem dX3_stepFrom_26 : decode cX3_stepFrom 26 = .ok (.getfield 31, 3) := by decide +kernel
theorem dX3_stepFrom_29 : decode cX3_stepFrom 29 = .ok (.iload_n 1, 1) := by decide +kernel
theorem dX3_stepFrom_30 : decode cX3_stepFrom 30 = .ok (.iaload, 1) := by decide +kernel
theorem dX3_stepFrom_31 : decode cX3_stepFrom 31 = .ok (.iload 4, 2) := by decide +kernel
theorem dX3_stepFrom_33 : decode cX3_stepFrom 33 = .ok (.iadd, 1) := by decide +kernel
theorem dX3_stepFrom_34 : decode cX3_stepFrom 34 = .ok (.aload_n 0, 1) := by decide +kernel
theorem dX3_stepFrom_35 : decode cX3_stepFrom 35 = .ok (.getfield 31, 3) := by decide +kernel
theorem dX3_stepFrom_38 : decode cX3_stepFrom 38 = .ok (.iload_n 3, 1) := by decide +kernel
theorem dX3_stepFrom_39 : decode cX3_stepFrom 39 = .ok (.iaload, 1) := by decide +kernel
theorem dX3_stepFrom_40 : decode cX3_stepFrom 40 = .ok (.if_icmp .ge 27, 3) := by decide +kernel
theorem dX3_stepFrom_43 : decode cX3_stepFrom 43 = .ok (.aload_n 0, 1) := by decide +kernel
theorem dX3_stepFrom_44 : decode cX3_stepFrom 44 = .ok (.getfield 31, 3) := by decide +kernel
theorem dX3_stepFrom_47 : decode cX3_stepFrom 47 = .ok (.iload_n 3, 1) := by decide +kernel
theorem dX3_stepFrom_48 : decode cX3_stepFrom 48 = .ok (.aload_n 0, 1) := by decide +kernel
theorem dX3_stepFrom_49 : decode cX3_stepFrom 49 = .ok (.getfield 31, 3) := by decide +kernel
theorem dX3_stepFrom_52 : decode cX3_stepFrom 52 = .ok (.iload_n 1, 1) := by decide +kernel
theorem dX3_stepFrom_53 : decode cX3_stepFrom 53 = .ok (.iaload, 1) := by decide +kernel
theorem dX3_stepFrom_54 : decode cX3_stepFrom 54 = .ok (.iload 4, 2) := by decide +kernel
theorem dX3_stepFrom_56 : decode cX3_stepFrom 56 = .ok (.iadd, 1) := by decide +kernel
theorem dX3_stepFrom_57 : decode cX3_stepFrom 57 = .ok (.iastore, 1) := by decide +kernel
theorem dX3_stepFrom_58 : decode cX3_stepFrom 58 = .ok (.aload_n 0, 1) := by decide +kernel
theorem dX3_stepFrom_59 : decode cX3_stepFrom 59 = .ok (.getfield 34, 3) := by decide +kernel
theorem dX3_stepFrom_62 : decode cX3_stepFrom 62 = .ok (.iload_n 3, 1) := by decide +kernel
theorem dX3_stepFrom_63 : decode cX3_stepFrom 63 = .ok (.iload_n 1, 1) := by decide +kernel
theorem dX3_stepFrom_64 : decode cX3_stepFrom 64 = .ok (.iastore, 1) := by decide +kernel
theorem dX3_stepFrom_65 : decode cX3_stepFrom 65 = .ok (.iconst 1, 1) := by decide +kernel
theorem dX3_stepFrom_66 : decode cX3_stepFrom 66 = .ok (.istore_n 2, 1) := by decide +kernel
theorem dX3_stepFrom_67 : decode cX3_stepFrom 67 = .ok (.iinc 3 1, 3) := by decide +kernel
theorem dX3_stepFrom_70 : decode cX3_stepFrom 70 = .ok (.goto (-66), 3) := by decide +kernel
theorem dX3_stepFrom_73 : decode cX3_stepFrom 73 = .ok (.iload_n 2, 1) := by decide +kernel
theorem dX3_stepFrom_74 : decode cX3_stepFrom 74 = .ok (.ireturn, 1) := by decide +kernel
theorem dX3_stepMiles_0 : decode cX3_stepMiles 0 = .ok (.aload_n 0, 1) := by decide +kernel
theorem dX3_stepMiles_1 : decode cX3_stepMiles 1 = .ok (.getfield 41, 3) := by decide +kernel
theorem dX3_stepMiles_4 : decode cX3_stepMiles 4 = .ok (.getfield 97, 3) := by decide +kernel
theorem dX3_stepMiles_7 : decode cX3_stepMiles 7 = .ok (.iload_n 1, 1) := by decide +kernel
theorem dX3_stepMiles_8 : decode cX3_stepMiles 8 = .ok (.bipush 12, 2) := by decide +kernel
theorem dX3_stepMiles_10 : decode cX3_stepMiles 10 = .ok (.imul, 1) := by decide +kernel
theorem dX3_stepMiles_11 : decode cX3_stepMiles 11 = .ok (.iload_n 2, 1) := by decide +kernel
theorem dX3_stepMiles_12 : decode cX3_stepMiles 12 = .ok (.iadd, 1) := by decide +kernel
theorem dX3_stepMiles_13 : decode cX3_stepMiles 13 = .ok (.iaload, 1) := by decide +kernel
theorem dX3_stepMiles_14 : decode cX3_stepMiles 14 = .ok (.istore_n 3, 1) := by decide +kernel
theorem dX3_stepMiles_15 : decode cX3_stepMiles 15 = .ok (.aload_n 0, 1) := by decide +kernel
theorem dX3_stepMiles_16 : decode cX3_stepMiles 16 = .ok (.iload_n 1, 1) := by decide +kernel
theorem dX3_stepMiles_17 : decode cX3_stepMiles 17 = .ok (.invokevirtual 102, 3) := by decide +kernel
theorem dX3_stepMiles_20 : decode cX3_stepMiles 20 = .ok (.ifCond .eq 13, 3) := by decide +kernel
theorem dX3_stepMiles_23 : decode cX3_stepMiles 23 = .ok (.aload_n 0, 1) := by decide +kernel
theorem dX3_stepMiles_24 : decode cX3_stepMiles 24 = .ok (.iload_n 2, 1) := by decide +kernel
theorem dX3_stepMiles_25 : decode cX3_stepMiles 25 = .ok (.invokevirtual 105, 3) := by decide +kernel
theorem dX3_stepMiles_28 : decode cX3_stepMiles 28 = .ok (.ifCond .eq 5, 3) := by decide +kernel
theorem dX3_stepMiles_31 : decode cX3_stepMiles 31 = .ok (.iload_n 3, 1) := by decide +kernel
theorem dX3_stepMiles_32 : decode cX3_stepMiles 32 = .ok (.ireturn, 1) := by decide +kernel
theorem dX3_stepMiles_33 : decode cX3_stepMiles 33 = .ok (.aload_n 0, 1) := by decide +kernel
theorem dX3_stepMiles_34 : decode cX3_stepMiles 34 = .ok (.iload_n 1, 1) := by decide +kernel
theorem dX3_stepMiles_35 : decode cX3_stepMiles 35 = .ok (.invokevirtual 105, 3) := by decide +kernel
theorem dX3_stepMiles_38 : decode cX3_stepMiles 38 = .ok (.ifCond .eq 28, 3) := by decide +kernel
theorem dX3_stepMiles_41 : decode cX3_stepMiles 41 = .ok (.aload_n 0, 1) := by decide +kernel
theorem dX3_stepMiles_42 : decode cX3_stepMiles 42 = .ok (.iload_n 2, 1) := by decide +kernel
theorem dX3_stepMiles_43 : decode cX3_stepMiles 43 = .ok (.invokevirtual 102, 3) := by decide +kernel
theorem dX3_stepMiles_46 : decode cX3_stepMiles 46 = .ok (.ifCond .eq 20, 3) := by decide +kernel
theorem dX3_stepMiles_49 : decode cX3_stepMiles 49 = .ok (.aload_n 0, 1) := by decide +kernel
theorem dX3_stepMiles_50 : decode cX3_stepMiles 50 = .ok (.getfield 28, 3) := by decide +kernel
theorem dX3_stepMiles_53 : decode cX3_stepMiles 53 = .ok (.iload_n 2, 1) := by decide +kernel
theorem dX3_stepMiles_54 : decode cX3_stepMiles 54 = .ok (.bipush 12, 2) := by decide +kernel
theorem dX3_stepMiles_56 : decode cX3_stepMiles 56 = .ok (.imul, 1) := by decide +kernel
theorem dX3_stepMiles_57 : decode cX3_stepMiles 57 = .ok (.iload_n 1, 1) := by decide +kernel
theorem dX3_stepMiles_58 : decode cX3_stepMiles 58 = .ok (.iadd, 1) := by decide +kernel
theorem dX3_stepMiles_59 : decode cX3_stepMiles 59 = .ok (.iaload, 1) := by decide +kernel
theorem dX3_stepMiles_60 : decode cX3_stepMiles 60 = .ok (.ifCond .le 6, 3) := by decide +kernel
theorem dX3_stepMiles_63 : decode cX3_stepMiles 63 = .ok (.iload_n 3, 1) := by decide +kernel
theorem dX3_stepMiles_64 : decode cX3_stepMiles 64 = .ok (.ineg, 1) := by decide +kernel
theorem dX3_stepMiles_65 : decode cX3_stepMiles 65 = .ok (.ireturn, 1) := by decide +kernel
theorem dX3_stepMiles_66 : decode cX3_stepMiles 66 = .ok (.ldc 90, 2) := by decide +kernel
theorem dX3_stepMiles_68 : decode cX3_stepMiles 68 = .ok (.ireturn, 1) := by decide +kernel
theorem dX3_isGiver_0 : decode cX3_isGiver 0 = .ok (.aload_n 0, 1) := by decide +kernel
theorem dX3_isGiver_1 : decode cX3_isGiver 1 = .ok (.getfield 9, 3) := by decide +kernel
theorem dX3_isGiver_4 : decode cX3_isGiver 4 = .ok (.iload_n 1, 1) := by decide +kernel
theorem dX3_isGiver_5 : decode cX3_isGiver 5 = .ok (.iaload, 1) := by decide +kernel
theorem dX3_isGiver_6 : decode cX3_isGiver 6 = .ok (.aload_n 0, 1) := by decide +kernel
theorem dX3_isGiver_7 : decode cX3_isGiver 7 = .ok (.getfield 15, 3) := by decide +kernel
theorem dX3_isGiver_10 : decode cX3_isGiver 10 = .ok (.iload_n 1, 1) := by decide +kernel
theorem dX3_isGiver_11 : decode cX3_isGiver 11 = .ok (.iaload, 1) := by decide +kernel
theorem dX3_isGiver_12 : decode cX3_isGiver 12 = .ok (.if_icmp .le 7, 3) := by decide +kernel
theorem dX3_isGiver_15 : decode cX3_isGiver 15 = .ok (.iconst 1, 1) := by decide +kernel
theorem dX3_isGiver_16 : decode cX3_isGiver 16 = .ok (.goto 4, 3) := by decide +kernel
theorem dX3_isGiver_19 : decode cX3_isGiver 19 = .ok (.iconst 0, 1) := by decide +kernel
theorem dX3_isGiver_20 : decode cX3_isGiver 20 = .ok (.ireturn, 1) := by decide +kernel
theorem dX3_isTaker_0 : decode cX3_isTaker 0 = .ok (.aload_n 0, 1) := by decide +kernel
theorem dX3_isTaker_1 : decode cX3_isTaker 1 = .ok (.getfield 9, 3) := by decide +kernel
theorem dX3_isTaker_4 : decode cX3_isTaker 4 = .ok (.iload_n 1, 1) := by decide +kernel
theorem dX3_isTaker_5 : decode cX3_isTaker 5 = .ok (.iaload, 1) := by decide +kernel
theorem dX3_isTaker_6 : decode cX3_isTaker 6 = .ok (.aload_n 0, 1) := by decide +kernel
theorem dX3_isTaker_7 : decode cX3_isTaker 7 = .ok (.getfield 15, 3) := by decide +kernel
theorem dX3_isTaker_10 : decode cX3_isTaker 10 = .ok (.iload_n 1, 1) := by decide +kernel
theorem dX3_isTaker_11 : decode cX3_isTaker 11 = .ok (.iaload, 1) := by decide +kernel
theorem dX3_isTaker_12 : decode cX3_isTaker 12 = .ok (.if_icmp .ge 7, 3) := by decide +kernel
theorem dX3_isTaker_15 : decode cX3_isTaker 15 = .ok (.iconst 1, 1) := by decide +kernel
theorem dX3_isTaker_16 : decode cX3_isTaker 16 = .ok (.goto 4, 3) := by decide +kernel
theorem dX3_isTaker_19 : decode cX3_isTaker 19 = .ok (.iconst 0, 1) := by decide +kernel
theorem dX3_isTaker_20 : decode cX3_isTaker 20 = .ok (.ireturn, 1) := by decide +kernel
theorem dX3_nearestGoal_0 : decode cX3_nearestGoal 0 = .ok (.iconst (-1), 1) := by decide +kernel
theorem dX3_nearestGoal_1 : decode cX3_nearestGoal 1 = .ok (.istore_n 1, 1) := by decide +kernel
theorem dX3_nearestGoal_2 : decode cX3_nearestGoal 2 = .ok (.ldc 90, 2) := by decide +kernel
theorem dX3_nearestGoal_4 : decode cX3_nearestGoal 4 = .ok (.istore_n 2, 1) := by decide +kernel
theorem dX3_nearestGoal_5 : decode cX3_nearestGoal 5 = .ok (.iconst 0, 1) := by decide +kernel
theorem dX3_nearestGoal_6 : decode cX3_nearestGoal 6 = .ok (.istore_n 3, 1) := by decide +kernel
theorem dX3_nearestGoal_7 : decode cX3_nearestGoal 7 = .ok (.iload_n 3, 1) := by decide +kernel
theorem dX3_nearestGoal_8 : decode cX3_nearestGoal 8 = .ok (.bipush 12, 2) := by decide +kernel
theorem dX3_nearestGoal_10 : decode cX3_nearestGoal 10 = .ok (.if_icmp .ge 37, 3) := by decide +kernel
theorem dX3_nearestGoal_13 : decode cX3_nearestGoal 13 = .ok (.aload_n 0, 1) := by decide +kernel
theorem dX3_nearestGoal_14 : decode cX3_nearestGoal 14 = .ok (.getfield 25, 3) := by decide +kernel
theorem dX3_nearestGoal_17 : decode cX3_nearestGoal 17 = .ok (.iload_n 3, 1) := by decide +kernel
theorem dX3_nearestGoal_18 : decode cX3_nearestGoal 18 = .ok (.iaload, 1) := by decide +kernel
theorem dX3_nearestGoal_19 : decode cX3_nearestGoal 19 = .ok (.ifCond .ge 22, 3) := by decide +kernel
theorem dX3_nearestGoal_22 : decode cX3_nearestGoal 22 = .ok (.aload_n 0, 1) := by decide +kernel
theorem dX3_nearestGoal_23 : decode cX3_nearestGoal 23 = .ok (.getfield 31, 3) := by decide +kernel
theorem dX3_nearestGoal_26 : decode cX3_nearestGoal 26 = .ok (.iload_n 3, 1) := by decide +kernel
theorem dX3_nearestGoal_27 : decode cX3_nearestGoal 27 = .ok (.iaload, 1) := by decide +kernel
theorem dX3_nearestGoal_28 : decode cX3_nearestGoal 28 = .ok (.iload_n 2, 1) := by decide +kernel
theorem dX3_nearestGoal_29 : decode cX3_nearestGoal 29 = .ok (.if_icmp .ge 12, 3) := by decide +kernel
theorem dX3_nearestGoal_32 : decode cX3_nearestGoal 32 = .ok (.iload_n 3, 1) := by decide +kernel
theorem dX3_nearestGoal_33 : decode cX3_nearestGoal 33 = .ok (.istore_n 1, 1) := by decide +kernel
theorem dX3_nearestGoal_34 : decode cX3_nearestGoal 34 = .ok (.aload_n 0, 1) := by decide +kernel
theorem dX3_nearestGoal_35 : decode cX3_nearestGoal 35 = .ok (.getfield 31, 3) := by decide +kernel
theorem dX3_nearestGoal_38 : decode cX3_nearestGoal 38 = .ok (.iload_n 3, 1) := by decide +kernel
theorem dX3_nearestGoal_39 : decode cX3_nearestGoal 39 = .ok (.iaload, 1) := by decide +kernel
theorem dX3_nearestGoal_40 : decode cX3_nearestGoal 40 = .ok (.istore_n 2, 1) := by decide +kernel
theorem dX3_nearestGoal_41 : decode cX3_nearestGoal 41 = .ok (.iinc 3 1, 3) := by decide +kernel
theorem dX3_nearestGoal_44 : decode cX3_nearestGoal 44 = .ok (.goto (-37), 3) := by decide +kernel
theorem dX3_nearestGoal_47 : decode cX3_nearestGoal 47 = .ok (.iload_n 1, 1) := by decide +kernel
theorem dX3_nearestGoal_48 : decode cX3_nearestGoal 48 = .ok (.ireturn, 1) := by decide +kernel
theorem dX3_amountTo_0 : decode cX3_amountTo 0 = .ok (.aload_n 0, 1) := by decide +kernel
theorem dX3_amountTo_1 : decode cX3_amountTo 1 = .ok (.getfield 25, 3) := by decide +kernel
theorem dX3_amountTo_4 : decode cX3_amountTo 4 = .ok (.iload_n 1, 1) := by decide +kernel
theorem dX3_amountTo_5 : decode cX3_amountTo 5 = .ok (.iaload, 1) := by decide +kernel
theorem dX3_amountTo_6 : decode cX3_amountTo 6 = .ok (.ineg, 1) := by decide +kernel
theorem dX3_amountTo_7 : decode cX3_amountTo 7 = .ok (.istore_n 2, 1) := by decide +kernel
theorem dX3_amountTo_8 : decode cX3_amountTo 8 = .ok (.iload_n 1, 1) := by decide +kernel
theorem dX3_amountTo_9 : decode cX3_amountTo 9 = .ok (.istore_n 3, 1) := by decide +kernel
theorem dX3_amountTo_10 : decode cX3_amountTo 10 = .ok (.iconst 0, 1) := by decide +kernel
theorem dX3_amountTo_11 : decode cX3_amountTo 11 = .ok (.istore 4, 2) := by decide +kernel
theorem dX3_amountTo_13 : decode cX3_amountTo 13 = .ok (.iload 4, 2) := by decide +kernel
theorem dX3_amountTo_15 : decode cX3_amountTo 15 = .ok (.bipush 12, 2) := by decide +kernel
theorem dX3_amountTo_17 : decode cX3_amountTo 17 = .ok (.if_icmp .ge 55, 3) := by decide +kernel
theorem dX3_amountTo_20 : decode cX3_amountTo 20 = .ok (.aload_n 0, 1) := by decide +kernel
theorem dX3_amountTo_21 : decode cX3_amountTo 21 = .ok (.getfield 34, 3) := by decide +kernel
theorem dX3_amountTo_24 : decode cX3_amountTo 24 = .ok (.iload_n 3, 1) := by decide +kernel
theorem dX3_amountTo_25 : decode cX3_amountTo 25 = .ok (.iaload, 1) := by decide +kernel
theorem dX3_amountTo_26 : decode cX3_amountTo 26 = .ok (.iconst (-1), 1) := by decide +kernel
theorem dX3_amountTo_27 : decode cX3_amountTo 27 = .ok (.if_icmp .eq 45, 3) := by decide +kernel
theorem dX3_amountTo_30 : decode cX3_amountTo 30 = .ok (.aload_n 0, 1) := by decide +kernel
theorem dX3_amountTo_31 : decode cX3_amountTo 31 = .ok (.iload_n 3, 1) := by decide +kernel
theorem dX3_amountTo_32 : decode cX3_amountTo 32 = .ok (.invokevirtual 102, 3) := by decide +kernel
theorem dX3_amountTo_35 : decode cX3_amountTo 35 = .ok (.ifCond .eq 24, 3) := by decide +kernel
theorem dX3_amountTo_38 : decode cX3_amountTo 38 = .ok (.iload_n 2, 1) := by decide +kernel
theorem dX3_amountTo_39 : decode cX3_amountTo 39 = .ok (.aload_n 0, 1) := by decide +kernel
theorem dX3_amountTo_40 : decode cX3_amountTo 40 = .ok (.getfield 28, 3) := by decide +kernel
theorem dX3_amountTo_43 : decode cX3_amountTo 43 = .ok (.iload_n 3, 1) := by decide +kernel
theorem dX3_amountTo_44 : decode cX3_amountTo 44 = .ok (.bipush 12, 2) := by decide +kernel
theorem dX3_amountTo_46 : decode cX3_amountTo 46 = .ok (.imul, 1) := by decide +kernel
theorem dX3_amountTo_47 : decode cX3_amountTo 47 = .ok (.aload_n 0, 1) := by decide +kernel
theorem dX3_amountTo_48 : decode cX3_amountTo 48 = .ok (.getfield 34, 3) := by decide +kernel
theorem dX3_amountTo_51 : decode cX3_amountTo 51 = .ok (.iload_n 3, 1) := by decide +kernel
theorem dX3_amountTo_52 : decode cX3_amountTo 52 = .ok (.iaload, 1) := by decide +kernel
theorem dX3_amountTo_53 : decode cX3_amountTo 53 = .ok (.iadd, 1) := by decide +kernel
theorem dX3_amountTo_54 : decode cX3_amountTo 54 = .ok (.iaload, 1) := by decide +kernel
theorem dX3_amountTo_55 : decode cX3_amountTo 55 = .ok (.invokestatic 69, 3) := by decide +kernel
theorem dX3_amountTo_58 : decode cX3_amountTo 58 = .ok (.istore_n 2, 1) := by decide +kernel
theorem dX3_amountTo_59 : decode cX3_amountTo 59 = .ok (.aload_n 0, 1) := by decide +kernel
theorem dX3_amountTo_60 : decode cX3_amountTo 60 = .ok (.getfield 34, 3) := by decide +kernel
theorem dX3_amountTo_63 : decode cX3_amountTo 63 = .ok (.iload_n 3, 1) := by decide +kernel
theorem dX3_amountTo_64 : decode cX3_amountTo 64 = .ok (.iaload, 1) := by decide +kernel
theorem dX3_amountTo_65 : decode cX3_amountTo 65 = .ok (.istore_n 3, 1) := by decide +kernel
theorem dX3_amountTo_66 : decode cX3_amountTo 66 = .ok (.iinc 4 1, 3) := by decide +kernel
theorem dX3_amountTo_69 : decode cX3_amountTo 69 = .ok (.goto (-56), 3) := by decide +kernel
theorem dX3_amountTo_72 : decode cX3_amountTo 72 = .ok (.iload_n 2, 1) := by decide +kernel
theorem dX3_amountTo_73 : decode cX3_amountTo 73 = .ok (.aload_n 0, 1) := by decide +kernel
theorem dX3_amountTo_74 : decode cX3_amountTo 74 = .ok (.getfield 25, 3) := by decide +kernel
theorem dX3_amountTo_77 : decode cX3_amountTo 77 = .ok (.iload_n 3, 1) := by decide +kernel
theorem dX3_amountTo_78 : decode cX3_amountTo 78 = .ok (.iaload, 1) := by decide +kernel
theorem dX3_amountTo_79 : decode cX3_amountTo 79 = .ok (.invokestatic 69, 3) := by decide +kernel
theorem dX3_amountTo_82 : decode cX3_amountTo 82 = .ok (.ireturn, 1) := by decide +kernel
theorem dX3_moveTo_0 : decode cX3_moveTo 0 = .ok (.iload_n 1, 1) := by decide +kernel
theorem dX3_moveTo_1 : decode cX3_moveTo 1 = .ok (.istore_n 3, 1) := by decide +kernel
theorem dX3_moveTo_2 : decode cX3_moveTo 2 = .ok (.iconst 0, 1) := by decide +kernel
theorem dX3_moveTo_3 : decode cX3_moveTo 3 = .ok (.istore 4, 2) := by decide +kernel
theorem dX3_moveTo_5 : decode cX3_moveTo 5 = .ok (.iload 4, 2) := by decide +kernel
theorem dX3_moveTo_7 : decode cX3_moveTo 7 = .ok (.bipush 12, 2) := by decide +kernel
theorem dX3_moveTo_9 : decode cX3_moveTo 9 = .ok (.if_icmp .ge 73, 3) := by decide +kernel
theorem dX3_moveTo_12 : decode cX3_moveTo 12 = .ok (.aload_n 0, 1) := by decide +kernel
theorem dX3_moveTo_13 : decode cX3_moveTo 13 = .ok (.getfield 34, 3) := by decide +kernel
theorem dX3_moveTo_16 : decode cX3_moveTo 16 = .ok (.iload_n 3, 1) := by decide +kernel
theorem dX3_moveTo_17 : decode cX3_moveTo 17 = .ok (.iaload, 1) := by decide +kernel
theorem dX3_moveTo_18 : decode cX3_moveTo 18 = .ok (.iconst (-1), 1) := by decide +kernel
theorem dX3_moveTo_19 : decode cX3_moveTo 19 = .ok (.if_icmp .eq 63, 3) := by decide +kernel
theorem dX3_moveTo_22 : decode cX3_moveTo 22 = .ok (.aload_n 0, 1) := by decide +kernel
theorem dX3_moveTo_23 : decode cX3_moveTo 23 = .ok (.getfield 34, 3) := by decide +kernel
theorem dX3_moveTo_26 : decode cX3_moveTo 26 = .ok (.iload_n 3, 1) := by decide +kernel
theorem dX3_moveTo_27 : decode cX3_moveTo 27 = .ok (.iaload, 1) := by decide +kernel
theorem dX3_moveTo_28 : decode cX3_moveTo 28 = .ok (.istore 5, 2) := by decide +kernel
theorem dX3_moveTo_30 : decode cX3_moveTo 30 = .ok (.aload_n 0, 1) := by decide +kernel
theorem dX3_moveTo_31 : decode cX3_moveTo 31 = .ok (.iload_n 3, 1) := by decide +kernel
theorem dX3_moveTo_32 : decode cX3_moveTo 32 = .ok (.invokevirtual 102, 3) := by decide +kernel
theorem dX3_moveTo_35 : decode cX3_moveTo 35 = .ok (.ifCond .eq 22, 3) := by decide +kernel
theorem dX3_moveTo_38 : decode cX3_moveTo 38 = .ok (.aload_n 0, 1) := by decide +kernel
theorem dX3_moveTo_39 : decode cX3_moveTo 39 = .ok (.getfield 28, 3) := by decide +kernel
theorem dX3_moveTo_42 : decode cX3_moveTo 42 = .ok (.iload_n 3, 1) := by decide +kernel
theorem dX3_moveTo_43 : decode cX3_moveTo 43 = .ok (.bipush 12, 2) := by decide +kernel
theorem dX3_moveTo_45 : decode cX3_moveTo 45 = .ok (.imul, 1) := by decide +kernel
theorem dX3_moveTo_46 : decode cX3_moveTo 46 = .ok (.iload 5, 2) := by decide +kernel
theorem dX3_moveTo_48 : decode cX3_moveTo 48 = .ok (.iadd, 1) := by decide +kernel
theorem dX3_moveTo_49 : decode cX3_moveTo 49 = .ok (.dup2, 1) := by decide +kernel
theorem dX3_moveTo_50 : decode cX3_moveTo 50 = .ok (.iaload, 1) := by decide +kernel
theorem dX3_moveTo_51 : decode cX3_moveTo 51 = .ok (.iload_n 2, 1) := by decide +kernel
theorem dX3_moveTo_52 : decode cX3_moveTo 52 = .ok (.isub, 1) := by decide +kernel
theorem dX3_moveTo_53 : decode cX3_moveTo 53 = .ok (.iastore, 1) := by decide +kernel
theorem dX3_moveTo_54 : decode cX3_moveTo 54 = .ok (.goto 19, 3) := by decide +kernel
theorem dX3_moveTo_57 : decode cX3_moveTo 57 = .ok (.aload_n 0, 1) := by decide +kernel
theorem dX3_moveTo_58 : decode cX3_moveTo 58 = .ok (.getfield 28, 3) := by decide +kernel
theorem dX3_moveTo_61 : decode cX3_moveTo 61 = .ok (.iload 5, 2) := by decide +kernel
theorem dX3_moveTo_63 : decode cX3_moveTo 63 = .ok (.bipush 12, 2) := by decide +kernel
theorem dX3_moveTo_65 : decode cX3_moveTo 65 = .ok (.imul, 1) := by decide +kernel
theorem dX3_moveTo_66 : decode cX3_moveTo 66 = .ok (.iload_n 3, 1) := by decide +kernel
theorem dX3_moveTo_67 : decode cX3_moveTo 67 = .ok (.iadd, 1) := by decide +kernel
theorem dX3_moveTo_68 : decode cX3_moveTo 68 = .ok (.dup2, 1) := by decide +kernel
theorem dX3_moveTo_69 : decode cX3_moveTo 69 = .ok (.iaload, 1) := by decide +kernel
theorem dX3_moveTo_70 : decode cX3_moveTo 70 = .ok (.iload_n 2, 1) := by decide +kernel
theorem dX3_moveTo_71 : decode cX3_moveTo 71 = .ok (.iadd, 1) := by decide +kernel
theorem dX3_moveTo_72 : decode cX3_moveTo 72 = .ok (.iastore, 1) := by decide +kernel
theorem dX3_moveTo_73 : decode cX3_moveTo 73 = .ok (.iload 5, 2) := by decide +kernel
theorem dX3_moveTo_75 : decode cX3_moveTo 75 = .ok (.istore_n 3, 1) := by decide +kernel
theorem dX3_moveTo_76 : decode cX3_moveTo 76 = .ok (.iinc 4 1, 3) := by decide +kernel
theorem dX3_moveTo_79 : decode cX3_moveTo 79 = .ok (.goto (-74), 3) := by decide +kernel
theorem dX3_moveTo_82 : decode cX3_moveTo 82 = .ok (.aload_n 0, 1) := by decide +kernel
theorem dX3_moveTo_83 : decode cX3_moveTo 83 = .ok (.getfield 25, 3) := by decide +kernel
theorem dX3_moveTo_86 : decode cX3_moveTo 86 = .ok (.iload_n 3, 1) := by decide +kernel
theorem dX3_moveTo_87 : decode cX3_moveTo 87 = .ok (.dup2, 1) := by decide +kernel
theorem dX3_moveTo_88 : decode cX3_moveTo 88 = .ok (.iaload, 1) := by decide +kernel
theorem dX3_moveTo_89 : decode cX3_moveTo 89 = .ok (.iload_n 2, 1) := by decide +kernel
theorem dX3_moveTo_90 : decode cX3_moveTo 90 = .ok (.isub, 1) := by decide +kernel
theorem dX3_moveTo_91 : decode cX3_moveTo 91 = .ok (.iastore, 1) := by decide +kernel
theorem dX3_moveTo_92 : decode cX3_moveTo 92 = .ok (.aload_n 0, 1) := by decide +kernel
theorem dX3_moveTo_93 : decode cX3_moveTo 93 = .ok (.getfield 25, 3) := by decide +kernel
theorem dX3_moveTo_96 : decode cX3_moveTo 96 = .ok (.iload_n 1, 1) := by decide +kernel
theorem dX3_moveTo_97 : decode cX3_moveTo 97 = .ok (.dup2, 1) := by decide +kernel
theorem dX3_moveTo_98 : decode cX3_moveTo 98 = .ok (.iaload, 1) := by decide +kernel
theorem dX3_moveTo_99 : decode cX3_moveTo 99 = .ok (.iload_n 2, 1) := by decide +kernel
theorem dX3_moveTo_100 : decode cX3_moveTo 100 = .ok (.iadd, 1) := by decide +kernel
theorem dX3_moveTo_101 : decode cX3_moveTo 101 = .ok (.iastore, 1) := by decide +kernel
theorem dX3_moveTo_102 : decode cX3_moveTo 102 = .ok (.return_, 1) := by decide +kernel
theorem dX4_init_0 : decode cX4_init 0 = .ok (.aload_n 0, 1) := by decide +kernel
theorem dX4_init_1 : decode cX4_init 1 = .ok (.invokespecial 3, 3) := by decide +kernel
theorem dX4_init_4 : decode cX4_init 4 = .ok (.aload_n 0, 1) := by decide +kernel
theorem dX4_init_5 : decode cX4_init 5 = .ok (.bipush 24, 2) := by decide +kernel
theorem dX4_init_7 : decode cX4_init 7 = .ok (.newarray .int, 2) := by decide +kernel
theorem dX4_init_9 : decode cX4_init 9 = .ok (.putfield 9, 3) := by decide +kernel
theorem dX4_init_12 : decode cX4_init 12 = .ok (.aload_n 0, 1) := by decide +kernel
theorem dX4_init_13 : decode cX4_init 13 = .ok (.bipush 24, 2) := by decide +kernel
theorem dX4_init_15 : decode cX4_init 15 = .ok (.newarray .int, 2) := by decide +kernel
theorem dX4_init_17 : decode cX4_init 17 = .ok (.putfield 15, 3) := by decide +kernel
theorem dX4_init_20 : decode cX4_init 20 = .ok (.aload_n 0, 1) := by decide +kernel
theorem dX4_init_21 : decode cX4_init 21 = .ok (.bipush 24, 2) := by decide +kernel
theorem dX4_init_23 : decode cX4_init 23 = .ok (.newarray .int, 2) := by decide +kernel
theorem dX4_init_25 : decode cX4_init 25 = .ok (.putfield 18, 3) := by decide +kernel
theorem dX4_init_28 : decode cX4_init 28 = .ok (.aload_n 0, 1) := by decide +kernel
theorem dX4_init_29 : decode cX4_init 29 = .ok (.bipush 24, 2) := by decide +kernel
theorem dX4_init_31 : decode cX4_init 31 = .ok (.newarray .int, 2) := by decide +kernel
theorem dX4_init_33 : decode cX4_init 33 = .ok (.putfield 21, 3) := by decide +kernel
theorem dX4_init_36 : decode cX4_init 36 = .ok (.aload_n 0, 1) := by decide +kernel
theorem dX4_init_37 : decode cX4_init 37 = .ok (.sipush 144, 3) := by decide +kernel
theorem dX4_init_40 : decode cX4_init 40 = .ok (.newarray .int, 2) := by decide +kernel
theorem dX4_init_42 : decode cX4_init 42 = .ok (.putfield 24, 3) := by decide +kernel
theorem dX4_init_45 : decode cX4_init 45 = .ok (.aload_n 0, 1) := by decide +kernel
theorem dX4_init_46 : decode cX4_init 46 = .ok (.iconst 0, 1) := by decide +kernel
theorem dX4_init_47 : decode cX4_init 47 = .ok (.putfield 27, 3) := by decide +kernel
theorem dX4_init_50 : decode cX4_init 50 = .ok (.aload_n 0, 1) := by decide +kernel
theorem dX4_init_51 : decode cX4_init 51 = .ok (.getfield 24, 3) := by decide +kernel
theorem dX4_init_54 : decode cX4_init 54 = .ok (.ldc 31, 2) := by decide +kernel
theorem dX4_init_56 : decode cX4_init 56 = .ok (.invokestatic 32, 3) := by decide +kernel
theorem dX4_init_59 : decode cX4_init 59 = .ok (.iconst 0, 1) := by decide +kernel
theorem dX4_init_60 : decode cX4_init 60 = .ok (.istore_n 1, 1) := by decide +kernel
theorem dX4_init_61 : decode cX4_init 61 = .ok (.iload_n 1, 1) := by decide +kernel
theorem dX4_init_62 : decode cX4_init 62 = .ok (.bipush 12, 2) := by decide +kernel
theorem dX4_init_64 : decode cX4_init 64 = .ok (.if_icmp .ge 21, 3) := by decide +kernel
theorem dX4_init_67 : decode cX4_init 67 = .ok (.aload_n 0, 1) := by decide +kernel
theorem dX4_init_68 : decode cX4_init 68 = .ok (.getfield 24, 3) := by decide +kernel
theorem dX4_init_71 : decode cX4_init 71 = .ok (.iload_n 1, 1) := by decide +kernel
theorem dX4_init_72 : decode cX4_init 72 = .ok (.bipush 12, 2) := by decide +kernel
theorem dX4_init_74 : decode cX4_init 74 = .ok (.imul, 1) := by decide +kernel
theorem dX4_init_75 : decode cX4_init 75 = .ok (.iload_n 1, 1) := by decide +kernel
theorem dX4_init_76 : decode cX4_init 76 = .ok (.iadd, 1) := by decide +kernel
theorem dX4_init_77 : decode cX4_init 77 = .ok (.iconst 0, 1) := by decide +kernel
theorem dX4_init_78 : decode cX4_init 78 = .ok (.iastore, 1) := by decide +kernel
theorem dX4_init_79 : decode cX4_init 79 = .ok (.iinc 1 1, 3) := by decide +kernel
theorem dX4_init_82 : decode cX4_init 82 = .ok (.goto (-21), 3) := by decide +kernel
theorem dX4_init_85 : decode cX4_init 85 = .ok (.return_, 1) := by decide +kernel
theorem dX4_addLine_0 : decode cX4_addLine 0 = .ok (.iload_n 1, 1) := by decide +kernel
theorem dX4_addLine_1 : decode cX4_addLine 1 = .ok (.invokestatic 38, 3) := by decide +kernel
theorem dX4_addLine_4 : decode cX4_addLine 4 = .ok (.ifCond .eq 22, 3) := by decide +kernel
theorem dX4_addLine_7 : decode cX4_addLine 7 = .ok (.iload_n 2, 1) := by decide +kernel
theorem dX4_addLine_8 : decode cX4_addLine 8 = .ok (.invokestatic 38, 3) := by decide +kernel
theorem dX4_addLine_11 : decode cX4_addLine 11 = .ok (.ifCond .eq 15, 3) := by decide +kernel
theorem dX4_addLine_14 : decode cX4_addLine 14 = .ok (.iload_n 1, 1) := by decide +kernel
theorem dX4_addLine_15 : decode cX4_addLine 15 = .ok (.iload_n 2, 1) := by decide +kernel
theorem dX4_addLine_16 : decode cX4_addLine 16 = .ok (.if_icmp .eq 10, 3) := by decide +kernel
theorem dX4_addLine_19 : decode cX4_addLine 19 = .ok (.iload_n 3, 1) := by decide +kernel
theorem dX4_addLine_20 : decode cX4_addLine 20 = .ok (.invokestatic 42, 3) := by decide +kernel
theorem dX4_addLine_23 : decode cX4_addLine 23 = .ok (.ifCond .ne 5, 3) := by decide +kernel
theorem dX4_addLine_26 : decode cX4_addLine 26 = .ok (.iconst (-1), 1) := by decide +kernel
theorem dX4_addLine_27 : decode cX4_addLine 27 = .ok (.ireturn, 1) := by decide +kernel
theorem dX4_addLine_28 : decode cX4_addLine 28 = .ok (.iload 4, 2) := by decide +kernel
theorem dX4_addLine_30 : decode cX4_addLine 30 = .ok (.iconst 1, 1) := by decide +kernel
theorem dX4_addLine_31 : decode cX4_addLine 31 = .ok (.sipush 200, 3) := by decide +kernel
theorem dX4_addLine_34 : decode cX4_addLine 34 = .ok (.invokestatic 45, 3) := by decide +kernel
theorem dX4_addLine_37 : decode cX4_addLine 37 = .ok (.ifCond .eq 12, 3) := by decide +kernel
theorem dX4_addLine_40 : decode cX4_addLine 40 = .ok (.aload_n 0, 1) := by decide +kernel
theorem dX4_addLine_41 : decode cX4_addLine 41 = .ok (.getfield 27, 3) := by decide +kernel
theorem dX4_addLine_44 : decode cX4_addLine 44 = .ok (.bipush 24, 2) := by decide +kernel
theorem dX4_addLine_46 : decode cX4_addLine 46 = .ok (.if_icmp .lt 5, 3) := by decide +kernel
theorem dX4_addLine_49 : decode cX4_addLine 49 = .ok (.iconst (-1), 1) := by decide +kernel
theorem dX4_addLine_50 : decode cX4_addLine 50 = .ok (.ireturn, 1) := by decide +kernel
theorem dX4_addLine_51 : decode cX4_addLine 51 = .ok (.aload_n 0, 1) := by decide +kernel
theorem dX4_addLine_52 : decode cX4_addLine 52 = .ok (.getfield 9, 3) := by decide +kernel
theorem dX4_addLine_55 : decode cX4_addLine 55 = .ok (.aload_n 0, 1) := by decide +kernel
theorem dX4_addLine_56 : decode cX4_addLine 56 = .ok (.getfield 27, 3) := by decide +kernel
theorem dX4_addLine_59 : decode cX4_addLine 59 = .ok (.iload_n 1, 1) := by decide +kernel
theorem dX4_addLine_60 : decode cX4_addLine 60 = .ok (.iastore, 1) := by decide +kernel
theorem dX4_addLine_61 : decode cX4_addLine 61 = .ok (.aload_n 0, 1) := by decide +kernel
theorem dX4_addLine_62 : decode cX4_addLine 62 = .ok (.getfield 15, 3) := by decide +kernel
theorem dX4_addLine_65 : decode cX4_addLine 65 = .ok (.aload_n 0, 1) := by decide +kernel
theorem dX4_addLine_66 : decode cX4_addLine 66 = .ok (.getfield 27, 3) := by decide +kernel
theorem dX4_addLine_69 : decode cX4_addLine 69 = .ok (.iload_n 2, 1) := by decide +kernel
theorem dX4_addLine_70 : decode cX4_addLine 70 = .ok (.iastore, 1) := by decide +kernel
theorem dX4_addLine_71 : decode cX4_addLine 71 = .ok (.aload_n 0, 1) := by decide +kernel
theorem dX4_addLine_72 : decode cX4_addLine 72 = .ok (.getfield 18, 3) := by decide +kernel
theorem dX4_addLine_75 : decode cX4_addLine 75 = .ok (.aload_n 0, 1) := by decide +kernel
theorem dX4_addLine_76 : decode cX4_addLine 76 = .ok (.getfield 27, 3) := by decide +kernel
theorem dX4_addLine_79 : decode cX4_addLine 79 = .ok (.iload_n 3, 1) := by decide +kernel
theorem dX4_addLine_80 : decode cX4_addLine 80 = .ok (.iastore, 1) := by decide +kernel
theorem dX4_addLine_81 : decode cX4_addLine 81 = .ok (.aload_n 0, 1) := by decide +kernel
theorem dX4_addLine_82 : decode cX4_addLine 82 = .ok (.getfield 21, 3) := by decide +kernel
theorem dX4_addLine_85 : decode cX4_addLine 85 = .ok (.aload_n 0, 1) := by decide +kernel
theorem dX4_addLine_86 : decode cX4_addLine 86 = .ok (.getfield 27, 3) := by decide +kernel
theorem dX4_addLine_89 : decode cX4_addLine 89 = .ok (.iload 4, 2) := by decide +kernel
theorem dX4_addLine_91 : decode cX4_addLine 91 = .ok (.iastore, 1) := by decide +kernel
theorem dX4_addLine_92 : decode cX4_addLine 92 = .ok (.aload_n 0, 1) := by decide +kernel
theorem dX4_addLine_93 : decode cX4_addLine 93 = .ok (.dup, 1) := by decide +kernel
theorem dX4_addLine_94 : decode cX4_addLine 94 = .ok (.getfield 27, 3) := by decide +kernel
theorem dX4_addLine_97 : decode cX4_addLine 97 = .ok (.iconst 1, 1) := by decide +kernel
theorem dX4_addLine_98 : decode cX4_addLine 98 = .ok (.iadd, 1) := by decide +kernel
theorem dX4_addLine_99 : decode cX4_addLine 99 = .ok (.putfield 27, 3) := by decide +kernel
theorem dX4_addLine_102 : decode cX4_addLine 102 = .ok (.aload_n 0, 1) := by decide +kernel
theorem dX4_addLine_103 : decode cX4_addLine 103 = .ok (.iload_n 1, 1) := by decide +kernel
theorem dX4_addLine_104 : decode cX4_addLine 104 = .ok (.iload_n 2, 1) := by decide +kernel
theorem dX4_addLine_105 : decode cX4_addLine 105 = .ok (.iload 4, 2) := by decide +kernel
theorem dX4_addLine_107 : decode cX4_addLine 107 = .ok (.invokevirtual 49, 3) := by decide +kernel
theorem dX4_addLine_110 : decode cX4_addLine 110 = .ok (.aload_n 0, 1) := by decide +kernel
theorem dX4_addLine_111 : decode cX4_addLine 111 = .ok (.iload_n 2, 1) := by decide +kernel
theorem dX4_addLine_112 : decode cX4_addLine 112 = .ok (.iload_n 1, 1) := by decide +kernel
theorem dX4_addLine_113 : decode cX4_addLine 113 = .ok (.iload 4, 2) := by decide +kernel
theorem dX4_addLine_115 : decode cX4_addLine 115 = .ok (.invokevirtual 49, 3) := by decide +kernel
theorem dX4_addLine_118 : decode cX4_addLine 118 = .ok (.aload_n 0, 1) := by decide +kernel
theorem dX4_addLine_119 : decode cX4_addLine 119 = .ok (.getfield 27, 3) := by decide +kernel
theorem dX4_addLine_122 : decode cX4_addLine 122 = .ok (.iconst 1, 1) := by decide +kernel
theorem dX4_addLine_123 : decode cX4_addLine 123 = .ok (.isub, 1) := by decide +kernel
theorem dX4_addLine_124 : decode cX4_addLine 124 = .ok (.ireturn, 1) := by decide +kernel
theorem dX4_shorten_0 : decode cX4_shorten 0 = .ok (.iconst 0, 1) := by decide +kernel
theorem dX4_shorten_1 : decode cX4_shorten 1 = .ok (.istore 4, 2) := by decide +kernel
theorem dX4_shorten_3 : decode cX4_shorten 3 = .ok (.iload 4, 2) := by decide +kernel
theorem dX4_shorten_5 : decode cX4_shorten 5 = .ok (.bipush 12, 2) := by decide +kernel
theorem dX4_shorten_7 : decode cX4_shorten 7 = .ok (.if_icmp .ge 83, 3) := by decide +kernel
theorem dX4_shorten_10 : decode cX4_shorten 10 = .ok (.iconst 0, 1) := by decide +kernel
theorem dX4_shorten_11 : decode cX4_shorten 11 = .ok (.istore 5, 2) := by decide +kernel
theorem dX4_shorten_13 : decode cX4_shorten 13 = .ok (.iload 5, 2) := by decide +kernel
theorem dX4_shorten_15 : decode cX4_shorten 15 = .ok (.bipush 12, 2) := by decide +kernel
theorem dX4_shorten_17 : decode cX4_shorten 17 = .ok (.if_icmp .ge 67, 3) := by decide +kernel
theorem dX4_shorten_20 : decode cX4_shorten 20 = .ok (.aload_n 0, 1) := by decide +kernel
theorem dX4_shorten_21 : decode cX4_shorten 21 = .ok (.getfield 24, 3) := by decide +kernel
theorem dX4_shorten_24 : decode cX4_shorten 24 = .ok (.iload 4, 2) := by decide +kernel
theorem dX4_shorten_26 : decode cX4_shorten 26 = .ok (.bipush 12, 2) := by decide +kernel
theorem dX4_shorten_28 : decode cX4_shorten 28 = .ok (.imul, 1) := by decide +kernel
theorem dX4_shorten_29 : decode cX4_shorten 29 = .ok (.iload_n 1, 1) := by decide +kernel
theorem dX4_shorten_30 : decode cX4_shorten 30 = .ok (.iadd, 1) := by decide +kernel
theorem dX4_shorten_31 : decode cX4_shorten 31 = .ok (.iaload, 1) := by decide +kernel
theorem dX4_shorten_32 : decode cX4_shorten 32 = .ok (.iload_n 3, 1) := by decide +kernel
theorem dX4_shorten_33 : decode cX4_shorten 33 = .ok (.iadd, 1) := by decide +kernel
theorem dX4_shorten_34 : decode cX4_shorten 34 = .ok (.aload_n 0, 1) := by decide +kernel
theorem dX4_shorten_35 : decode cX4_shorten 35 = .ok (.getfield 24, 3) := by decide +kernel
theorem dX4_shorten_38 : decode cX4_shorten 38 = .ok (.iload_n 2, 1) := by decide +kernel
theorem dX4_shorten_39 : decode cX4_shorten 39 = .ok (.bipush 12, 2) := by decide +kernel
theorem dX4_shorten_41 : decode cX4_shorten 41 = .ok (.imul, 1) := by decide +kernel
theorem dX4_shorten_42 : decode cX4_shorten 42 = .ok (.iload 5, 2) := by decide +kernel
theorem dX4_shorten_44 : decode cX4_shorten 44 = .ok (.iadd, 1) := by decide +kernel
theorem dX4_shorten_45 : decode cX4_shorten 45 = .ok (.iaload, 1) := by decide +kernel
theorem dX4_shorten_46 : decode cX4_shorten 46 = .ok (.iadd, 1) := by decide +kernel
theorem dX4_shorten_47 : decode cX4_shorten 47 = .ok (.istore 6, 2) := by decide +kernel
theorem dX4_shorten_49 : decode cX4_shorten 49 = .ok (.iload 4, 2) := by decide +kernel
theorem dX4_shorten_51 : decode cX4_shorten 51 = .ok (.bipush 12, 2) := by decide +kernel
theorem dX4_shorten_53 : decode cX4_shorten 53 = .ok (.imul, 1) := by decide +kernel
theorem dX4_shorten_54 : decode cX4_shorten 54 = .ok (.iload 5, 2) := by decide +kernel
theorem dX4_shorten_56 : decode cX4_shorten 56 = .ok (.iadd, 1) := by decide +kernel
theorem dX4_shorten_57 : decode cX4_shorten 57 = .ok (.istore 7, 2) := by decide +kernel
theorem dX4_shorten_59 : decode cX4_shorten 59 = .ok (.aload_n 0, 1) := by decide +kernel
theorem dX4_shorten_60 : decode cX4_shorten 60 = .ok (.getfield 24, 3) := by decide +kernel
theorem dX4_shorten_63 : decode cX4_shorten 63 = .ok (.iload 7, 2) := by decide +kernel
theorem dX4_shorten_65 : decode cX4_shorten 65 = .ok (.aload_n 0, 1) := by decide +kernel
theorem dX4_shorten_66 : decode cX4_shorten 66 = .ok (.getfield 24, 3) := by decide +kernel
theorem dX4_shorten_69 : decode cX4_shorten 69 = .ok (.iload 7, 2) := by decide +kernel
theorem dX4_shorten_71 : decode cX4_shorten 71 = .ok (.iaload, 1) := by decide +kernel
theorem dX4_shorten_72 : decode cX4_shorten 72 = .ok (.iload 6, 2) := by decide +kernel
theorem dX4_shorten_74 : decode cX4_shorten 74 = .ok (.invokestatic 53, 3) := by decide +kernel
theorem dX4_shorten_77 : decode cX4_shorten 77 = .ok (.iastore, 1) := by decide +kernel
theorem dX4_shorten_78 : decode cX4_shorten 78 = .ok (.iinc 5 1, 3) := by decide +kernel
theorem dX4_shorten_81 : decode cX4_shorten 81 = .ok (.goto (-68), 3) := by decide +kernel
theorem dX4_shorten_84 : decode cX4_shorten 84 = .ok (.iinc 4 1, 3) := by decide +kernel
theorem dX4_shorten_87 : decode cX4_shorten 87 = .ok (.goto (-84), 3) := by decide +kernel
theorem dX4_shorten_90 : decode cX4_shorten 90 = .ok (.return_, 1) := by decide +kernel
theorem dX4_milesBetween_0 : decode cX4_milesBetween 0 = .ok (.iload_n 1, 1) := by decide +kernel
theorem dX4_milesBetween_1 : decode cX4_milesBetween 1 = .ok (.invokestatic 38, 3) := by decide +kernel
theorem dX4_milesBetween_4 : decode cX4_milesBetween 4 = .ok (.ifCond .eq 10, 3) := by decide +kernel
theorem dX4_milesBetween_7 : decode cX4_milesBetween 7 = .ok (.iload_n 2, 1) := by decide +kernel
theorem dX4_milesBetween_8 : decode cX4_milesBetween 8 = .ok (.invokestatic 38, 3) := by decide +kernel
theorem dX4_milesBetween_11 : decode cX4_milesBetween 11 = .ok (.ifCond .ne 5, 3) := by decide +kernel
theorem dX4_milesBetween_14 : decode cX4_milesBetween 14 = .ok (.iconst (-1), 1) := by decide +kernel
theorem dX4_milesBetween_15 : decode cX4_milesBetween 15 = .ok (.ireturn, 1) := by decide +kernel
theorem dX4_milesBetween_16 : decode cX4_milesBetween 16 = .ok (.aload_n 0, 1) := by decide +kernel
theorem dX4_milesBetween_17 : decode cX4_milesBetween 17 = .ok (.getfield 24, 3) := by decide +kernel
theorem dX4_milesBetween_20 : decode cX4_milesBetween 20 = .ok (.iload_n 1, 1) := by decide +kernel
theorem dX4_milesBetween_21 : decode cX4_milesBetween 21 = .ok (.bipush 12, 2) := by decide +kernel
theorem dX4_milesBetween_23 : decode cX4_milesBetween 23 = .ok (.imul, 1) := by decide +kernel
theorem dX4_milesBetween_24 : decode cX4_milesBetween 24 = .ok (.iload_n 2, 1) := by decide +kernel
theorem dX4_milesBetween_25 : decode cX4_milesBetween 25 = .ok (.iadd, 1) := by decide +kernel
theorem dX4_milesBetween_26 : decode cX4_milesBetween 26 = .ok (.iaload, 1) := by decide +kernel
theorem dX4_milesBetween_27 : decode cX4_milesBetween 27 = .ok (.istore_n 3, 1) := by decide +kernel
theorem dX4_milesBetween_28 : decode cX4_milesBetween 28 = .ok (.iload_n 3, 1) := by decide +kernel
theorem dX4_milesBetween_29 : decode cX4_milesBetween 29 = .ok (.ldc 31, 2) := by decide +kernel
theorem dX4_milesBetween_31 : decode cX4_milesBetween 31 = .ok (.if_icmp .lt 7, 3) := by decide +kernel
theorem dX4_milesBetween_34 : decode cX4_milesBetween 34 = .ok (.iconst (-1), 1) := by decide +kernel
theorem dX4_milesBetween_35 : decode cX4_milesBetween 35 = .ok (.goto 4, 3) := by decide +kernel
theorem dX4_milesBetween_38 : decode cX4_milesBetween 38 = .ok (.iload_n 3, 1) := by decide +kernel
theorem dX4_milesBetween_39 : decode cX4_milesBetween 39 = .ok (.ireturn, 1) := by decide +kernel
theorem dX4_lineTowards_0 : decode cX4_lineTowards 0 = .ok (.aload_n 0, 1) := by decide +kernel
theorem dX4_lineTowards_1 : decode cX4_lineTowards 1 = .ok (.iload_n 1, 1) := by decide +kernel
theorem dX4_lineTowards_2 : decode cX4_lineTowards 2 = .ok (.iload_n 2, 1) := by decide +kernel
theorem dX4_lineTowards_3 : decode cX4_lineTowards 3 = .ok (.invokevirtual 59, 3) := by decide +kernel
theorem dX4_lineTowards_6 : decode cX4_lineTowards 6 = .ok (.istore_n 3, 1) := by decide +kernel
theorem dX4_lineTowards_7 : decode cX4_lineTowards 7 = .ok (.iload_n 3, 1) := by decide +kernel
theorem dX4_lineTowards_8 : decode cX4_lineTowards 8 = .ok (.iconst (-1), 1) := by decide +kernel
theorem dX4_lineTowards_9 : decode cX4_lineTowards 9 = .ok (.if_icmp .eq 8, 3) := by decide +kernel
theorem dX4_lineTowards_12 : decode cX4_lineTowards 12 = .ok (.iload_n 1, 1) := by decide +kernel
theorem dX4_lineTowards_13 : decode cX4_lineTowards 13 = .ok (.iload_n 2, 1) := by decide +kernel
theorem dX4_lineTowards_14 : decode cX4_lineTowards 14 = .ok (.if_icmp .ne 5, 3) := by decide +kernel
theorem dX4_lineTowards_17 : decode cX4_lineTowards 17 = .ok (.iconst (-1), 1) := by decide +kernel
theorem dX4_lineTowards_18 : decode cX4_lineTowards 18 = .ok (.ireturn, 1) := by decide +kernel
theorem dX4_lineTowards_19 : decode cX4_lineTowards 19 = .ok (.iconst (-1), 1) := by decide +kernel
theorem dX4_lineTowards_20 : decode cX4_lineTowards 20 = .ok (.istore 4, 2) := by decide +kernel
theorem dX4_lineTowards_22 : decode cX4_lineTowards 22 = .ok (.bipush 12, 2) := by decide +kernel
theorem dX4_lineTowards_24 : decode cX4_lineTowards 24 = .ok (.istore 5, 2) := by decide +kernel
theorem dX4_lineTowards_26 : decode cX4_lineTowards 26 = .ok (.iconst 0, 1) := by decide +kernel
theorem dX4_lineTowards_27 : decode cX4_lineTowards 27 = .ok (.istore 6, 2) := by decide +kernel
theorem dX4_lineTowards_29 : decode cX4_lineTowards 29 = .ok (.iload 6, 2) := by decide +kernel
theorem dX4_lineTowards_31 : decode cX4_lineTowards 31 = .ok (.aload_n 0, 1) := by decide +kernel
theorem dX4_lineTowards_32 : decode cX4_lineTowards 32 = .ok (.getfield 27, 3) := by decide +kernel
theorem dX4_lineTowards_35 : decode cX4_lineTowards 35 = .ok (.if_icmp .ge 63, 3) := by decide +kernel
theorem dX4_lineTowards_38 : decode cX4_lineTowards 38 = .ok (.aload_n 0, 1) := by decide +kernel
theorem dX4_lineTowards_39 : decode cX4_lineTowards 39 = .ok (.iload 6, 2) := by decide +kernel
theorem dX4_lineTowards_41 : decode cX4_lineTowards 41 = .ok (.iload_n 1, 1) := by decide +kernel
theorem dX4_lineTowards_42 : decode cX4_lineTowards 42 = .ok (.invokevirtual 62, 3) := by decide +kernel
theorem dX4_lineTowards_45 : decode cX4_lineTowards 45 = .ok (.istore 7, 2) := by decide +kernel
theorem dX4_lineTowards_47 : decode cX4_lineTowards 47 = .ok (.iload 7, 2) := by decide +kernel
theorem dX4_lineTowards_49 : decode cX4_lineTowards 49 = .ok (.iconst (-1), 1) := by decide +kernel
theorem dX4_lineTowards_50 : decode cX4_lineTowards 50 = .ok (.if_icmp .eq 42, 3) := by decide +kernel
theorem dX4_lineTowards_53 : decode cX4_lineTowards 53 = .ok (.iload 7, 2) := by decide +kernel
theorem dX4_lineTowards_55 : decode cX4_lineTowards 55 = .ok (.iload 5, 2) := by decide +kernel
theorem dX4_lineTowards_57 : decode cX4_lineTowards 57 = .ok (.if_icmp .ge 35, 3) := by decide +kernel
theorem dX4_lineTowards_60 : decode cX4_lineTowards 60 = .ok (.aload_n 0, 1) := by decide +kernel
theorem dX4_lineTowards_61 : decode cX4_lineTowards 61 = .ok (.getfield 21, 3) := by decide +kernel
theorem dX4_lineTowards_64 : decode cX4_lineTowards 64 = .ok (.iload 6, 2) := by decide +kernel
theorem dX4_lineTowards_66 : decode cX4_lineTowards 66 = .ok (.iaload, 1) := by decide +kernel
theorem dX4_lineTowards_67 : decode cX4_lineTowards 67 = .ok (.aload_n 0, 1) := by decide +kernel
theorem dX4_lineTowards_68 : decode cX4_lineTowards 68 = .ok (.getfield 24, 3) := by decide +kernel
theorem dX4_lineTowards_71 : decode cX4_lineTowards 71 = .ok (.iload 7, 2) := by decide +kernel
theorem dX4_lineTowards_73 : decode cX4_lineTowards 73 = .ok (.bipush 12, 2) := by decide +kernel
theorem dX4_lineTowards_75 : decode cX4_lineTowards 75 = .ok (.imul, 1) := by decide +kernel
theorem dX4_lineTowards_76 : decode cX4_lineTowards 76 = .ok (.iload_n 2, 1) := by decide +kernel
theorem dX4_lineTowards_77 : decode cX4_lineTowards 77 = .ok (.iadd, 1) := by decide +kernel
theorem dX4_lineTowards_78 : decode cX4_lineTowards 78 = .ok (.iaload, 1) := by decide +kernel
theorem dX4_lineTowards_79 : decode cX4_lineTowards 79 = .ok (.iadd, 1) := by decide +kernel
theorem dX4_lineTowards_80 : decode cX4_lineTowards 80 = .ok (.iload_n 3, 1) := by decide +kernel
theorem dX4_lineTowards_81 : decode cX4_lineTowards 81 = .ok (.if_icmp .ne 11, 3) := by decide +kernel
theorem dX4_lineTowards_84 : decode cX4_lineTowards 84 = .ok (.iload 6, 2) := by decide +kernel
theorem dX4_lineTowards_86 : decode cX4_lineTowards 86 = .ok (.istore 4, 2) := by decide +kernel
theorem dX4_lineTowards_88 : decode cX4_lineTowards 88 = .ok (.iload 7, 2) := by decide +kernel
theorem dX4_lineTowards_90 : decode cX4_lineTowards 90 = .ok (.istore 5, 2) := by decide +kernel
theorem dX4_lineTowards_92 : decode cX4_lineTowards 92 = .ok (.iinc 6 1, 3) := by decide +kernel
theorem dX4_lineTowards_95 : decode cX4_lineTowards 95 = .ok (.goto (-66), 3) := by decide +kernel
theorem dX4_lineTowards_98 : decode cX4_lineTowards 98 = .ok (.iload 4, 2) := by decide +kernel
theorem dX4_lineTowards_100 : decode cX4_lineTowards 100 = .ok (.ireturn, 1) := by decide +kernel
theorem dX4_farEnd_0 : decode cX4_farEnd 0 = .ok (.iload_n 1, 1) := by decide +kernel
theorem dX4_farEnd_1 : decode cX4_farEnd 1 = .ok (.ifCond .lt 11, 3) := by decide +kernel
theorem dX4_farEnd_4 : decode cX4_farEnd 4 = .ok (.iload_n 1, 1) := by decide +kernel
theorem dX4_farEnd_5 : decode cX4_farEnd 5 = .ok (.aload_n 0, 1) := by decide +kernel
theorem dX4_farEnd_6 : decode cX4_farEnd 6 = .ok (.getfield 27, 3) := by decide +kernel
theorem dX4_farEnd_9 : decode cX4_farEnd 9 = .ok (.if_icmp .lt 5, 3) := by decide +kernel
theorem dX4_farEnd_12 : decode cX4_farEnd 12 = .ok (.iconst (-1), 1) := by decide +kernel
theorem dX4_farEnd_13 : decode cX4_farEnd 13 = .ok (.ireturn, 1) := by decide +kernel
theorem dX4_farEnd_14 : decode cX4_farEnd 14 = .ok (.aload_n 0, 1) := by decide +kernel
theorem dX4_farEnd_15 : decode cX4_farEnd 15 = .ok (.getfield 9, 3) := by decide +kernel
theorem dX4_farEnd_18 : decode cX4_farEnd 18 = .ok (.iload_n 1, 1) := by decide +kernel
theorem dX4_farEnd_19 : decode cX4_farEnd 19 = .ok (.iaload, 1) := by decide +kernel
theorem dX4_farEnd_20 : decode cX4_farEnd 20 = .ok (.iload_n 2, 1) := by decide +kernel
theorem dX4_farEnd_21 : decode cX4_farEnd 21 = .ok (.if_icmp .ne 10, 3) := by decide +kernel
theorem dX4_farEnd_24 : decode cX4_farEnd 24 = .ok (.aload_n 0, 1) := by decide +kernel
theorem dX4_farEnd_25 : decode cX4_farEnd 25 = .ok (.getfield 15, 3) := by decide +kernel
theorem dX4_farEnd_28 : decode cX4_farEnd 28 = .ok (.iload_n 1, 1) := by decide +kernel
theorem dX4_farEnd_29 : decode cX4_farEnd 29 = .ok (.iaload, 1) := by decide +kernel
theorem dX4_farEnd_30 : decode cX4_farEnd 30 = .ok (.ireturn, 1) := by decide +kernel
theorem dX4_farEnd_31 : decode cX4_farEnd 31 = .ok (.aload_n 0, 1) := by decide +kernel
theorem dX4_farEnd_32 : decode cX4_farEnd 32 = .ok (.getfield 15, 3) := by decide +kernel
theorem dX4_farEnd_35 : decode cX4_farEnd 35 = .ok (.iload_n 1, 1) := by decide +kernel
theorem dX4_farEnd_36 : decode cX4_farEnd 36 = .ok (.iaload, 1) := by decide +kernel
theorem dX4_farEnd_37 : decode cX4_farEnd 37 = .ok (.iload_n 2, 1) := by decide +kernel
theorem dX4_farEnd_38 : decode cX4_farEnd 38 = .ok (.if_icmp .ne 12, 3) := by decide +kernel
theorem dX4_farEnd_41 : decode cX4_farEnd 41 = .ok (.aload_n 0, 1) := by decide +kernel
theorem dX4_farEnd_42 : decode cX4_farEnd 42 = .ok (.getfield 9, 3) := by decide +kernel
theorem dX4_farEnd_45 : decode cX4_farEnd 45 = .ok (.iload_n 1, 1) := by decide +kernel
theorem dX4_farEnd_46 : decode cX4_farEnd 46 = .ok (.iaload, 1) := by decide +kernel
theorem dX4_farEnd_47 : decode cX4_farEnd 47 = .ok (.goto 4, 3) := by decide +kernel
theorem dX4_farEnd_50 : decode cX4_farEnd 50 = .ok (.iconst (-1), 1) := by decide +kernel
theorem dX4_farEnd_51 : decode cX4_farEnd 51 = .ok (.ireturn, 1) := by decide +kernel
theorem dX5_init_0 : decode cX5_init 0 = .ok (.aload_n 0, 1) := by decide +kernel
theorem dX5_init_1 : decode cX5_init 1 = .ok (.invokespecial 3, 3) := by decide +kernel
theorem dX5_init_4 : decode cX5_init 4 = .ok (.aload_n 0, 1) := by decide +kernel
theorem dX5_init_5 : decode cX5_init 5 = .ok (.bipush 8, 2) := by decide +kernel
theorem dX5_init_7 : decode cX5_init 7 = .ok (.newarray .int, 2) := by decide +kernel
theorem dX5_init_9 : decode cX5_init 9 = .ok (.putfield 9, 3) := by decide +kernel
theorem dX5_init_12 : decode cX5_init 12 = .ok (.aload_n 0, 1) := by decide +kernel
theorem dX5_init_13 : decode cX5_init 13 = .ok (.bipush 8, 2) := by decide +kernel
theorem dX5_init_15 : decode cX5_init 15 = .ok (.newarray .int, 2) := by decide +kernel
theorem dX5_init_17 : decode cX5_init 17 = .ok (.putfield 15, 3) := by decide +kernel
theorem dX5_init_20 : decode cX5_init 20 = .ok (.aload_n 0, 1) := by decide +kernel
theorem dX5_init_21 : decode cX5_init 21 = .ok (.bipush 8, 2) := by decide +kernel
theorem dX5_init_23 : decode cX5_init 23 = .ok (.newarray .int, 2) := by decide +kernel
theorem dX5_init_25 : decode cX5_init 25 = .ok (.putfield 18, 3) := by decide +kernel
theorem dX5_init_28 : decode cX5_init 28 = .ok (.aload_n 0, 1) := by decide +kernel
theorem dX5_init_29 : decode cX5_init 29 = .ok (.iconst (-1), 1) := by decide +kernel
theorem dX5_init_30 : decode cX5_init 30 = .ok (.putfield 21, 3) := by decide +kernel
theorem dX5_init_33 : decode cX5_init 33 = .ok (.aload_n 0, 1) := by decide +kernel
theorem dX5_init_34 : decode cX5_init 34 = .ok (.iconst (-1), 1) := by decide +kernel
theorem dX5_init_35 : decode cX5_init 35 = .ok (.putfield 25, 3) := by decide +kernel
theorem dX5_init_38 : decode cX5_init 38 = .ok (.aload_n 0, 1) := by decide +kernel
theorem dX5_init_39 : decode cX5_init 39 = .ok (.aload_n 1, 1) := by decide +kernel
theorem dX5_init_40 : decode cX5_init 40 = .ok (.putfield 28, 3) := by decide +kernel
theorem dX5_init_43 : decode cX5_init 43 = .ok (.return_, 1) := by decide +kernel
theorem dX5_divide_0 : decode cX5_divide 0 = .ok (.iload_n 3, 1) := by decide +kernel
theorem dX5_divide_1 : decode cX5_divide 1 = .ok (.iconst 0, 1) := by decide +kernel
theorem dX5_divide_2 : decode cX5_divide 2 = .ok (.ldc 32, 2) := by decide +kernel
theorem dX5_divide_4 : decode cX5_divide 4 = .ok (.invokestatic 33, 3) := by decide +kernel
theorem dX5_divide_7 : decode cX5_divide 7 = .ok (.ifCond .eq 12, 3) := by decide +kernel
theorem dX5_divide_10 : decode cX5_divide 10 = .ok (.aload_n 0, 1) := by decide +kernel
theorem dX5_divide_11 : decode cX5_divide 11 = .ok (.iload_n 1, 1) := by decide +kernel
theorem dX5_divide_12 : decode cX5_divide 12 = .ok (.iload_n 2, 1) := by decide +kernel
theorem dX5_divide_13 : decode cX5_divide 13 = .ok (.invokevirtual 37, 3) := by decide +kernel
theorem dX5_divide_16 : decode cX5_divide 16 = .ok (.ifCond .ne 5, 3) := by decide +kernel
theorem dX5_divide_19 : decode cX5_divide 19 = .ok (.iconst 0, 1) := by decide +kernel
theorem dX5_divide_20 : decode cX5_divide 20 = .ok (.ireturn, 1) := by decide +kernel
theorem dX5_divide_21 : decode cX5_divide 21 = .ok (.iload_n 3, 1) := by decide +kernel
theorem dX5_divide_22 : decode cX5_divide 22 = .ok (.bipush 10, 2) := by decide +kernel
theorem dX5_divide_24 : decode cX5_divide 24 = .ok (.idiv, 1) := by decide +kernel
theorem dX5_divide_25 : decode cX5_divide 25 = .ok (.istore 4, 2) := by decide +kernel
theorem dX5_divide_27 : decode cX5_divide 27 = .ok (.aload_n 0, 1) := by decide +kernel
theorem dX5_divide_28 : decode cX5_divide 28 = .ok (.iload_n 3, 1) := by decide +kernel
theorem dX5_divide_29 : decode cX5_divide 29 = .ok (.iconst 2, 1) := by decide +kernel
theorem dX5_divide_30 : decode cX5_divide 30 = .ok (.iload 4, 2) := by decide +kernel
theorem dX5_divide_32 : decode cX5_divide 32 = .ok (.imul, 1) := by decide +kernel
theorem dX5_divide_33 : decode cX5_divide 33 = .ok (.isub, 1) := by decide +kernel
theorem dX5_divide_34 : decode cX5_divide 34 = .ok (.invokevirtual 41, 3) := by decide +kernel
theorem dX5_divide_37 : decode cX5_divide 37 = .ok (.ifCond .ne 5, 3) := by decide +kernel
theorem dX5_divide_40 : decode cX5_divide 40 = .ok (.iconst 0, 1) := by decide +kernel
theorem dX5_divide_41 : decode cX5_divide 41 = .ok (.ireturn, 1) := by decide +kernel
theorem dX5_divide_42 : decode cX5_divide 42 = .ok (.aload_n 0, 1) := by decide +kernel
theorem dX5_divide_43 : decode cX5_divide 43 = .ok (.getfield 9, 3) := by decide +kernel
theorem dX5_divide_46 : decode cX5_divide 46 = .ok (.aload_n 0, 1) := by decide +kernel
theorem dX5_divide_47 : decode cX5_divide 47 = .ok (.getfield 21, 3) := by decide +kernel
theorem dX5_divide_50 : decode cX5_divide 50 = .ok (.dup2, 1) := by decide +kernel
theorem dX5_divide_51 : decode cX5_divide 51 = .ok (.iaload, 1) := by decide +kernel
theorem dX5_divide_52 : decode cX5_divide 52 = .ok (.iload 4, 2) := by decide +kernel
theorem dX5_divide_54 : decode cX5_divide 54 = .ok (.iadd, 1) := by decide +kernel
theorem dX5_divide_55 : decode cX5_divide 55 = .ok (.iastore, 1) := by decide +kernel
theorem dX5_divide_56 : decode cX5_divide 56 = .ok (.aload_n 0, 1) := by decide +kernel
theorem dX5_divide_57 : decode cX5_divide 57 = .ok (.getfield 9, 3) := by decide +kernel
theorem dX5_divide_60 : decode cX5_divide 60 = .ok (.aload_n 0, 1) := by decide +kernel
theorem dX5_divide_61 : decode cX5_divide 61 = .ok (.getfield 25, 3) := by decide +kernel
theorem dX5_divide_64 : decode cX5_divide 64 = .ok (.dup2, 1) := by decide +kernel
theorem dX5_divide_65 : decode cX5_divide 65 = .ok (.iaload, 1) := by decide +kernel
theorem dX5_divide_66 : decode cX5_divide 66 = .ok (.iload 4, 2) := by decide +kernel
theorem dX5_divide_68 : decode cX5_divide 68 = .ok (.iadd, 1) := by decide +kernel
theorem dX5_divide_69 : decode cX5_divide 69 = .ok (.iastore, 1) := by decide +kernel
theorem dX5_divide_70 : decode cX5_divide 70 = .ok (.iconst 1, 1) := by decide +kernel
theorem dX5_divide_71 : decode cX5_divide 71 = .ok (.ireturn, 1) := by decide +kernel
theorem dX5_travel_0 : decode cX5_travel 0 = .ok (.aload_n 0, 1) := by decide +kernel
theorem dX5_travel_1 : decode cX5_travel 1 = .ok (.getfield 15, 3) := by decide +kernel
theorem dX5_travel_4 : decode cX5_travel 4 = .ok (.iconst 0, 1) := by decide +kernel
theorem dX5_travel_5 : decode cX5_travel 5 = .ok (.invokestatic 45, 3) := by decide +kernel
theorem dX5_travel_8 : decode cX5_travel 8 = .ok (.aload_n 0, 1) := by decide +kernel
theorem dX5_travel_9 : decode cX5_travel 9 = .ok (.iconst (-1), 1) := by decide +kernel
theorem dX5_travel_10 : decode cX5_travel 10 = .ok (.putfield 21, 3) := by decide +kernel
theorem dX5_travel_13 : decode cX5_travel 13 = .ok (.aload_n 0, 1) := by decide +kernel
theorem dX5_travel_14 : decode cX5_travel 14 = .ok (.iconst (-1), 1) := by decide +kernel
theorem dX5_travel_15 : decode cX5_travel 15 = .ok (.putfield 25, 3) := by decide +kernel
theorem dX5_travel_18 : decode cX5_travel 18 = .ok (.iload_n 1, 1) := by decide +kernel
theorem dX5_travel_19 : decode cX5_travel 19 = .ok (.istore_n 3, 1) := by decide +kernel
theorem dX5_travel_20 : decode cX5_travel 20 = .ok (.iconst 0, 1) := by decide +kernel
theorem dX5_travel_21 : decode cX5_travel 21 = .ok (.istore 4, 2) := by decide +kernel
theorem dX5_travel_23 : decode cX5_travel 23 = .ok (.iload 4, 2) := by decide +kernel
theorem dX5_travel_25 : decode cX5_travel 25 = .ok (.bipush 12, 2) := by decide +kernel
theorem dX5_travel_27 : decode cX5_travel 27 = .ok (.if_icmp .ge 93, 3) := by decide +kernel
theorem dX5_travel_30 : decode cX5_travel 30 = .ok (.iload_n 3, 1) := by decide +kernel
theorem dX5_travel_31 : decode cX5_travel 31 = .ok (.iload_n 2, 1) := by decide +kernel
theorem dX5_travel_32 : decode cX5_travel 32 = .ok (.if_icmp .eq 88, 3) := by decide +kernel
theorem dX5_travel_35 : decode cX5_travel 35 = .ok (.aload_n 0, 1) := by decide +kernel
theorem dX5_travel_36 : decode cX5_travel 36 = .ok (.getfield 28, 3) := by decide +kernel
theorem dX5_travel_39 : decode cX5_travel 39 = .ok (.iload_n 3, 1) := by decide +kernel
theorem dX5_travel_40 : decode cX5_travel 40 = .ok (.iload_n 2, 1) := by decide +kernel
theorem dX5_travel_41 : decode cX5_travel 41 = .ok (.invokevirtual 51, 3) := by decide +kernel
theorem dX5_travel_44 : decode cX5_travel 44 = .ok (.istore 5, 2) := by decide +kernel
theorem dX5_travel_46 : decode cX5_travel 46 = .ok (.iload 5, 2) := by decide +kernel
theorem dX5_travel_48 : decode cX5_travel 48 = .ok (.iconst (-1), 1) := by decide +kernel
theorem dX5_travel_49 : decode cX5_travel 49 = .ok (.if_icmp .ne 5, 3) := by decide +kernel
theorem dX5_travel_52 : decode cX5_travel 52 = .ok (.iconst 0, 1) := by decide +kernel
theorem dX5_travel_53 : decode cX5_travel 53 = .ok (.ireturn, 1) := by decide +kernel
theorem dX5_travel_54 : decode cX5_travel 54 = .ok (.aload_n 0, 1) := by decide +kernel
theorem dX5_travel_55 : decode cX5_travel 55 = .ok (.aload_n 0, 1) := by decide +kernel
theorem dX5_travel_56 : decode cX5_travel 56 = .ok (.getfield 28, 3) := by decide +kernel
theorem dX5_travel_59 : decode cX5_travel 59 = .ok (.getfield 57, 3) := by decide +kernel
theorem dX5_travel_62 : decode cX5_travel 62 = .ok (.iload 5, 2) := by decide +kernel
theorem dX5_travel_64 : decode cX5_travel 64 = .ok (.iaload, 1) := by decide +kernel
theorem dX5_travel_65 : decode cX5_travel 65 = .ok (.putfield 25, 3) := by decide +kernel
theorem dX5_travel_68 : decode cX5_travel 68 = .ok (.iload 4, 2) := by decide +kernel
theorem dX5_travel_70 : decode cX5_travel 70 = .ok (.ifCond .ne 11, 3) := by decide +kernel
theorem dX5_travel_73 : decode cX5_travel 73 = .ok (.aload_n 0, 1) := by decide +kernel
theorem dX5_travel_74 : decode cX5_travel 74 = .ok (.aload_n 0, 1) := by decide +kernel
theorem dX5_travel_75 : decode cX5_travel 75 = .ok (.getfield 25, 3) := by decide +kernel
theorem dX5_travel_78 : decode cX5_travel 78 = .ok (.putfield 21, 3) := by decide +kernel
theorem dX5_travel_81 : decode cX5_travel 81 = .ok (.aload_n 0, 1) := by decide +kernel
theorem dX5_travel_82 : decode cX5_travel 82 = .ok (.getfield 15, 3) := by decide +kernel
theorem dX5_travel_85 : decode cX5_travel 85 = .ok (.aload_n 0, 1) := by decide +kernel
theorem dX5_travel_86 : decode cX5_travel 86 = .ok (.getfield 25, 3) := by decide +kernel
theorem dX5_travel_89 : decode cX5_travel 89 = .ok (.dup2, 1) := by decide +kernel
theorem dX5_travel_90 : decode cX5_travel 90 = .ok (.iaload, 1) := by decide +kernel
theorem dX5_travel_91 : decode cX5_travel 91 = .ok (.aload_n 0, 1) := by decide +kernel
theorem dX5_travel_92 : decode cX5_travel 92 = .ok (.getfield 28, 3) := by decide +kernel
theorem dX5_travel_95 : decode cX5_travel 95 = .ok (.getfield 60, 3) := by decide +kernel
theorem dX5_travel_98 : decode cX5_travel 98 = .ok (.iload 5, 2) := by decide +kernel
theorem dX5_travel_100 : decode cX5_travel 100 = .ok (.iaload, 1) := by decide +kernel
theorem dX5_travel_101 : decode cX5_travel 101 = .ok (.iadd, 1) := by decide +kernel
theorem dX5_travel_102 : decode cX5_travel 102 = .ok (.iastore, 1) := by decide +kernel
theorem dX5_travel_103 : decode cX5_travel 103 = .ok (.aload_n 0, 1) := by decide +kernel
theorem dX5_travel_104 : decode cX5_travel 104 = .ok (.getfield 28, 3) := by decide +kernel
theorem dX5_travel_107 : decode cX5_travel 107 = .ok (.iload 5, 2) := by decide +kernel
theorem dX5_travel_109 : decode cX5_travel 109 = .ok (.iload_n 3, 1) := by decide +kernel
theorem dX5_travel_110 : decode cX5_travel 110 = .ok (.invokevirtual 63, 3) := by decide +kernel
theorem dX5_travel_113 : decode cX5_travel 113 = .ok (.istore_n 3, 1) := by decide +kernel
theorem dX5_travel_114 : decode cX5_travel 114 = .ok (.iinc 4 1, 3) := by decide +kernel
theorem dX5_travel_117 : decode cX5_travel 117 = .ok (.goto (-94), 3) := by decide +kernel
theorem dX5_travel_120 : decode cX5_travel 120 = .ok (.aload_n 0, 1) := by decide +kernel
theorem dX5_travel_121 : decode cX5_travel 121 = .ok (.getfield 21, 3) := by decide +kernel
theorem dX5_travel_124 : decode cX5_travel 124 = .ok (.invokestatic 66, 3) := by decide +kernel
theorem dX5_travel_127 : decode cX5_travel 127 = .ok (.ifCond .eq 22, 3) := by decide +kernel
theorem dX5_travel_130 : decode cX5_travel 130 = .ok (.aload_n 0, 1) := by decide +kernel
theorem dX5_travel_131 : decode cX5_travel 131 = .ok (.getfield 25, 3) := by decide +kernel
theorem dX5_travel_134 : decode cX5_travel 134 = .ok (.invokestatic 66, 3) := by decide +kernel
theorem dX5_travel_137 : decode cX5_travel 137 = .ok (.ifCond .eq 12, 3) := by decide +kernel
theorem dX5_travel_140 : decode cX5_travel 140 = .ok (.iload_n 3, 1) := by decide +kernel
theorem dX5_travel_141 : decode cX5_travel 141 = .ok (.iload_n 2, 1) := by decide +kernel
theorem dX5_travel_142 : decode cX5_travel 142 = .ok (.if_icmp .ne 7, 3) := by decide +kernel
theorem dX5_travel_145 : decode cX5_travel 145 = .ok (.iconst 1, 1) := by decide +kernel
theorem dX5_travel_146 : decode cX5_travel 146 = .ok (.goto 4, 3) := by decide +kernel
theorem dX5_travel_149 : decode cX5_travel 149 = .ok (.iconst 0, 1) := by decide +kernel
theorem dX5_travel_150 : decode cX5_travel 150 = .ok (.ireturn, 1) := by decide +kernel
theorem dX5_divideByMiles_0 : decode cX5_divideByMiles 0 = .ok (.aload_n 0, 1) := by decide +kernel
theorem dX5_divideByMiles_1 : decode cX5_divideByMiles 1 = .ok (.getfield 15, 3) := by decide +kernel
theorem dX5_divideByMiles_4 : decode cX5_divideByMiles 4 = .ok (.invokestatic 69, 3) := by decide +kernel
theorem dX5_divideByMiles_7 : decode cX5_divideByMiles 7 = .ok (.istore_n 2, 1) := by decide +kernel
theorem dX5_divideByMiles_8 : decode cX5_divideByMiles 8 = .ok (.iload_n 2, 1) := by decide +kernel
theorem dX5_divideByMiles_9 : decode cX5_divideByMiles 9 = .ok (.ifCond .gt 5, 3) := by decide +kernel
theorem dX5_divideByMiles_12 : decode cX5_divideByMiles 12 = .ok (.iconst 0, 1) := by decide +kernel
theorem dX5_divideByMiles_13 : decode cX5_divideByMiles 13 = .ok (.ireturn, 1) := by decide +kernel
theorem dX5_divideByMiles_14 : decode cX5_divideByMiles 14 = .ok (.iload_n 1, 1) := by decide +kernel
theorem dX5_divideByMiles_15 : decode cX5_divideByMiles 15 = .ok (.istore_n 3, 1) := by decide +kernel
theorem dX5_divideByMiles_16 : decode cX5_divideByMiles 16 = .ok (.iconst 0, 1) := by decide +kernel
theorem dX5_divideByMiles_17 : decode cX5_divideByMiles 17 = .ok (.istore 4, 2) := by decide +kernel
theorem dX5_divideByMiles_19 : decode cX5_divideByMiles 19 = .ok (.iload 4, 2) := by decide +kernel
theorem dX5_divideByMiles_21 : decode cX5_divideByMiles 21 = .ok (.bipush 8, 2) := by decide +kernel
theorem dX5_divideByMiles_23 : decode cX5_divideByMiles 23 = .ok (.if_icmp .ge 58, 3) := by decide +kernel
theorem dX5_divideByMiles_26 : decode cX5_divideByMiles 26 = .ok (.iload_n 1, 1) := by decide +kernel
theorem dX5_divideByMiles_27 : decode cX5_divideByMiles 27 = .ok (.i2l, 1) := by decide +kernel
theorem dX5_divideByMiles_28 : decode cX5_divideByMiles 28 = .ok (.aload_n 0, 1) := by decide +kernel
theorem dX5_divideByMiles_29 : decode cX5_divideByMiles 29 = .ok (.getfield 15, 3) := by decide +kernel
theorem dX5_divideByMiles_32 : decode cX5_divideByMiles 32 = .ok (.iload 4, 2) := by decide +kernel
theorem dX5_divideByMiles_34 : decode cX5_divideByMiles 34 = .ok (.iaload, 1) := by decide +kernel
theorem dX5_divideByMiles_35 : decode cX5_divideByMiles 35 = .ok (.i2l, 1) := by decide +kernel
theorem dX5_divideByMiles_36 : decode cX5_divideByMiles 36 = .ok (.lmul, 1) := by decide +kernel
theorem dX5_divideByMiles_37 : decode cX5_divideByMiles 37 = .ok (.lstore 5, 2) := by decide +kernel
theorem dX5_divideByMiles_39 : decode cX5_divideByMiles 39 = .ok (.aload_n 0, 1) := by decide +kernel
theorem dX5_divideByMiles_40 : decode cX5_divideByMiles 40 = .ok (.getfield 9, 3) := by decide +kernel
theorem dX5_divideByMiles_43 : decode cX5_divideByMiles 43 = .ok (.iload 4, 2) := by decide +kernel
theorem dX5_divideByMiles_45 : decode cX5_divideByMiles 45 = .ok (.lload 5, 2) := by decide +kernel
theorem dX5_divideByMiles_47 : decode cX5_divideByMiles 47 = .ok (.iload_n 2, 1) := by decide +kernel
theorem dX5_divideByMiles_48 : decode cX5_divideByMiles 48 = .ok (.i2l, 1) := by decide +kernel
theorem dX5_divideByMiles_49 : decode cX5_divideByMiles 49 = .ok (.ldiv, 1) := by decide +kernel
theorem dX5_divideByMiles_50 : decode cX5_divideByMiles 50 = .ok (.l2i, 1) := by decide +kernel
theorem dX5_divideByMiles_51 : decode cX5_divideByMiles 51 = .ok (.iastore, 1) := by decide +kernel
theorem dX5_divideByMiles_52 : decode cX5_divideByMiles 52 = .ok (.aload_n 0, 1) := by decide +kernel
theorem dX5_divideByMiles_53 : decode cX5_divideByMiles 53 = .ok (.getfield 18, 3) := by decide +kernel
theorem dX5_divideByMiles_56 : decode cX5_divideByMiles 56 = .ok (.iload 4, 2) := by decide +kernel
theorem dX5_divideByMiles_58 : decode cX5_divideByMiles 58 = .ok (.lload 5, 2) := by decide +kernel
theorem dX5_divideByMiles_60 : decode cX5_divideByMiles 60 = .ok (.iload_n 2, 1) := by decide +kernel
theorem dX5_divideByMiles_61 : decode cX5_divideByMiles 61 = .ok (.i2l, 1) := by decide +kernel
theorem dX5_divideByMiles_62 : decode cX5_divideByMiles 62 = .ok (.lrem, 1) := by decide +kernel
theorem dX5_divideByMiles_63 : decode cX5_divideByMiles 63 = .ok (.l2i, 1) := by decide +kernel
theorem dX5_divideByMiles_64 : decode cX5_divideByMiles 64 = .ok (.iastore, 1) := by decide +kernel
theorem dX5_divideByMiles_65 : decode cX5_divideByMiles 65 = .ok (.iload_n 3, 1) := by decide +kernel
theorem dX5_divideByMiles_66 : decode cX5_divideByMiles 66 = .ok (.aload_n 0, 1) := by decide +kernel
theorem dX5_divideByMiles_67 : decode cX5_divideByMiles 67 = .ok (.getfield 9, 3) := by decide +kernel
theorem dX5_divideByMiles_70 : decode cX5_divideByMiles 70 = .ok (.iload 4, 2) := by decide +kernel
theorem dX5_divideByMiles_72 : decode cX5_divideByMiles 72 = .ok (.iaload, 1) := by decide +kernel
theorem dX5_divideByMiles_73 : decode cX5_divideByMiles 73 = .ok (.isub, 1) := by decide +kernel
theorem dX5_divideByMiles_74 : decode cX5_divideByMiles 74 = .ok (.istore_n 3, 1) := by decide +kernel
theorem dX5_divideByMiles_75 : decode cX5_divideByMiles 75 = .ok (.iinc 4 1, 3) := by decide +kernel
theorem dX5_divideByMiles_78 : decode cX5_divideByMiles 78 = .ok (.goto (-59), 3) := by decide +kernel
theorem dX5_divideByMiles_81 : decode cX5_divideByMiles 81 = .ok (.iconst 0, 1) := by decide +kernel
theorem dX5_divideByMiles_82 : decode cX5_divideByMiles 82 = .ok (.istore 4, 2) := by decide +kernel
theorem dX5_divideByMiles_84 : decode cX5_divideByMiles 84 = .ok (.iload 4, 2) := by decide +kernel
theorem dX5_divideByMiles_86 : decode cX5_divideByMiles 86 = .ok (.bipush 8, 2) := by decide +kernel
theorem dX5_divideByMiles_88 : decode cX5_divideByMiles 88 = .ok (.if_icmp .ge 19, 3) := by decide +kernel
theorem dX5_divideByMiles_91 : decode cX5_divideByMiles 91 = .ok (.iload 4, 2) := by decide +kernel
theorem dX5_divideByMiles_93 : decode cX5_divideByMiles 93 = .ok (.iload_n 3, 1) := by decide +kernel
theorem dX5_divideByMiles_94 : decode cX5_divideByMiles 94 = .ok (.if_icmp .ge 13, 3) := by decide +kernel
theorem dX5_divideByMiles_97 : decode cX5_divideByMiles 97 = .ok (.aload_n 0, 1) := by decide +kernel
theorem dX5_divideByMiles_98 : decode cX5_divideByMiles 98 = .ok (.invokevirtual 73, 3) := by decide +kernel
theorem dX5_divideByMiles_101 : decode cX5_divideByMiles 101 = .ok (.iinc 4 1, 3) := by decide +kernel
theorem dX5_divideByMiles_104 : decode cX5_divideByMiles 104 = .ok (.goto (-20), 3) := by decide +kernel
theorem dX5_divideByMiles_107 : decode cX5_divideByMiles 107 = .ok (.iconst 1, 1) := by decide +kernel
theorem dX5_divideByMiles_108 : decode cX5_divideByMiles 108 = .ok (.ireturn, 1) := by decide +kernel
theorem dX5_giveOneMore_0 : decode cX5_giveOneMore 0 = .ok (.iconst 0, 1) := by decide +kernel
theorem dX5_giveOneMore_1 : decode cX5_giveOneMore 1 = .ok (.istore_n 1, 1) := by decide +kernel
theorem dX5_giveOneMore_2 : decode cX5_giveOneMore 2 = .ok (.iconst 1, 1) := by decide +kernel
theorem dX5_giveOneMore_3 : decode cX5_giveOneMore 3 = .ok (.istore_n 2, 1) := by decide +kernel
theorem dX5_giveOneMore_4 : decode cX5_giveOneMore 4 = .ok (.iload_n 2, 1) := by decide +kernel
theorem dX5_giveOneMore_5 : decode cX5_giveOneMore 5 = .ok (.bipush 8, 2) := by decide +kernel
theorem dX5_giveOneMore_7 : decode cX5_giveOneMore 7 = .ok (.if_icmp .ge 26, 3) := by decide +kernel
theorem dX5_giveOneMore_10 : decode cX5_giveOneMore 10 = .ok (.aload_n 0, 1) := by decide +kernel
theorem dX5_giveOneMore_11 : decode cX5_giveOneMore 11 = .ok (.getfield 18, 3) := by decide +kernel
theorem dX5_giveOneMore_14 : decode cX5_giveOneMore 14 = .ok (.iload_n 2, 1) := by decide +kernel
theorem dX5_giveOneMore_15 : decode cX5_giveOneMore 15 = .ok (.iaload, 1) := by decide +kernel
theorem dX5_giveOneMore_16 : decode cX5_giveOneMore 16 = .ok (.aload_n 0, 1) := by decide +kernel
theorem dX5_giveOneMore_17 : decode cX5_giveOneMore 17 = .ok (.getfield 18, 3) := by decide +kernel
theorem dX5_giveOneMore_20 : decode cX5_giveOneMore 20 = .ok (.iload_n 1, 1) := by decide +kernel
theorem dX5_giveOneMore_21 : decode cX5_giveOneMore 21 = .ok (.iaload, 1) := by decide +kernel
theorem dX5_giveOneMore_22 : decode cX5_giveOneMore 22 = .ok (.if_icmp .le 5, 3) := by decide +kernel
theorem dX5_giveOneMore_25 : decode cX5_giveOneMore 25 = .ok (.iload_n 2, 1) := by decide +kernel
theorem dX5_giveOneMore_26 : decode cX5_giveOneMore 26 = .ok (.istore_n 1, 1) := by decide +kernel
theorem dX5_giveOneMore_27 : decode cX5_giveOneMore 27 = .ok (.iinc 2 1, 3) := by decide +kernel
theorem dX5_giveOneMore_30 : decode cX5_giveOneMore 30 = .ok (.goto (-26), 3) := by decide +kernel
theorem dX5_giveOneMore_33 : decode cX5_giveOneMore 33 = .ok (.aload_n 0, 1) := by decide +kernel
theorem dX5_giveOneMore_34 : decode cX5_giveOneMore 34 = .ok (.getfield 9, 3) := by decide +kernel
theorem dX5_giveOneMore_37 : decode cX5_giveOneMore 37 = .ok (.iload_n 1, 1) := by decide +kernel
theorem dX5_giveOneMore_38 : decode cX5_giveOneMore 38 = .ok (.dup2, 1) := by decide +kernel
theorem dX5_giveOneMore_39 : decode cX5_giveOneMore 39 = .ok (.iaload, 1) := by decide +kernel
theorem dX5_giveOneMore_40 : decode cX5_giveOneMore 40 = .ok (.iconst 1, 1) := by decide +kernel
theorem dX5_giveOneMore_41 : decode cX5_giveOneMore 41 = .ok (.iadd, 1) := by decide +kernel
theorem dX5_giveOneMore_42 : decode cX5_giveOneMore 42 = .ok (.iastore, 1) := by decide +kernel
theorem dX5_giveOneMore_43 : decode cX5_giveOneMore 43 = .ok (.aload_n 0, 1) := by decide +kernel
theorem dX5_giveOneMore_44 : decode cX5_giveOneMore 44 = .ok (.getfield 18, 3) := by decide +kernel
theorem dX5_giveOneMore_47 : decode cX5_giveOneMore 47 = .ok (.iload_n 1, 1) := by decide +kernel
theorem dX5_giveOneMore_48 : decode cX5_giveOneMore 48 = .ok (.iconst (-1), 1) := by decide +kernel
theorem dX5_giveOneMore_49 : decode cX5_giveOneMore 49 = .ok (.iastore, 1) := by decide +kernel
theorem dX5_giveOneMore_50 : decode cX5_giveOneMore 50 = .ok (.return_, 1) := by decide +kernel
theorem dX6_init_0 : decode cX6_init 0 = .ok (.aload_n 0, 1) := by decide +kernel
theorem dX6_init_1 : decode cX6_init 1 = .ok (.invokespecial 3, 3) := by decide +kernel
theorem dX6_init_4 : decode cX6_init 4 = .ok (.aload_n 0, 1) := by decide +kernel
theorem dX6_init_5 : decode cX6_init 5 = .ok (.iconst 4, 1) := by decide +kernel
theorem dX6_init_6 : decode cX6_init 6 = .ok (.newarray .int, 2) := by decide +kernel
theorem dX6_init_8 : decode cX6_init 8 = .ok (.putfield 9, 3) := by decide +kernel
theorem dX6_init_11 : decode cX6_init 11 = .ok (.aload_n 0, 1) := by decide +kernel
theorem dX6_init_12 : decode cX6_init 12 = .ok (.iconst 4, 1) := by decide +kernel
theorem dX6_init_13 : decode cX6_init 13 = .ok (.newarray .int, 2) := by decide +kernel
theorem dX6_init_15 : decode cX6_init 15 = .ok (.putfield 15, 3) := by decide +kernel
theorem dX6_init_18 : decode cX6_init 18 = .ok (.aload_n 0, 1) := by decide +kernel
theorem dX6_init_19 : decode cX6_init 19 = .ok (.iconst 0, 1) := by decide +kernel
theorem dX6_init_20 : decode cX6_init 20 = .ok (.putfield 18, 3) := by decide +kernel
theorem dX6_init_23 : decode cX6_init 23 = .ok (.aload_n 0, 1) := by decide +kernel
theorem dX6_init_24 : decode cX6_init 24 = .ok (.bipush 7, 2) := by decide +kernel
theorem dX6_init_26 : decode cX6_init 26 = .ok (.newarray .int, 2) := by decide +kernel
theorem dX6_init_28 : decode cX6_init 28 = .ok (.putfield 22, 3) := by decide +kernel
theorem dX6_init_31 : decode cX6_init 31 = .ok (.aload_n 0, 1) := by decide +kernel
theorem dX6_init_32 : decode cX6_init 32 = .ok (.bipush 7, 2) := by decide +kernel
theorem dX6_init_34 : decode cX6_init 34 = .ok (.newarray .int, 2) := by decide +kernel
theorem dX6_init_36 : decode cX6_init 36 = .ok (.putfield 25, 3) := by decide +kernel
theorem dX6_init_39 : decode cX6_init 39 = .ok (.aload_n 0, 1) := by decide +kernel
theorem dX6_init_40 : decode cX6_init 40 = .ok (.bipush 7, 2) := by decide +kernel
theorem dX6_init_42 : decode cX6_init 42 = .ok (.newarray .int, 2) := by decide +kernel
theorem dX6_init_44 : decode cX6_init 44 = .ok (.putfield 28, 3) := by decide +kernel
theorem dX6_init_47 : decode cX6_init 47 = .ok (.aload_n 0, 1) := by decide +kernel
theorem dX6_init_48 : decode cX6_init 48 = .ok (.bipush 7, 2) := by decide +kernel
theorem dX6_init_50 : decode cX6_init 50 = .ok (.newarray .int, 2) := by decide +kernel
theorem dX6_init_52 : decode cX6_init 52 = .ok (.putfield 31, 3) := by decide +kernel
theorem dX6_init_55 : decode cX6_init 55 = .ok (.aload_n 0, 1) := by decide +kernel
theorem dX6_init_56 : decode cX6_init 56 = .ok (.iconst 0, 1) := by decide +kernel
theorem dX6_init_57 : decode cX6_init 57 = .ok (.putfield 34, 3) := by decide +kernel
theorem dX6_init_60 : decode cX6_init 60 = .ok (.return_, 1) := by decide +kernel
theorem dX6_addWagon_0 : decode cX6_addWagon 0 = .ok (.iload_n 1, 1) := by decide +kernel
theorem dX6_addWagon_1 : decode cX6_addWagon 1 = .ok (.invokestatic 37, 3) := by decide +kernel
theorem dX6_addWagon_4 : decode cX6_addWagon 4 = .ok (.ifCond .eq 18, 3) := by decide +kernel
theorem dX6_addWagon_7 : decode cX6_addWagon 7 = .ok (.iload_n 2, 1) := by decide +kernel
theorem dX6_addWagon_8 : decode cX6_addWagon 8 = .ok (.invokestatic 41, 3) := by decide +kernel
theorem dX6_addWagon_11 : decode cX6_addWagon 11 = .ok (.ifCond .eq 11, 3) := by decide +kernel
theorem dX6_addWagon_14 : decode cX6_addWagon 14 = .ok (.aload_n 0, 1) := by decide +kernel
theorem dX6_addWagon_15 : decode cX6_addWagon 15 = .ok (.getfield 18, 3) := by decide +kernel
theorem dX6_addWagon_18 : decode cX6_addWagon 18 = .ok (.iconst 4, 1) := by decide +kernel
theorem dX6_addWagon_19 : decode cX6_addWagon 19 = .ok (.if_icmp .lt 5, 3) := by decide +kernel
theorem dX6_addWagon_22 : decode cX6_addWagon 22 = .ok (.iconst (-1), 1) := by decide +kernel
theorem dX6_addWagon_23 : decode cX6_addWagon 23 = .ok (.ireturn, 1) := by decide +kernel
theorem dX6_addWagon_24 : decode cX6_addWagon 24 = .ok (.iconst 0, 1) := by decide +kernel
theorem dX6_addWagon_25 : decode cX6_addWagon 25 = .ok (.istore_n 3, 1) := by decide +kernel
theorem dX6_addWagon_26 : decode cX6_addWagon 26 = .ok (.iload_n 3, 1) := by decide +kernel
theorem dX6_addWagon_27 : decode cX6_addWagon 27 = .ok (.aload_n 0, 1) := by decide +kernel
theorem dX6_addWagon_28 : decode cX6_addWagon 28 = .ok (.getfield 18, 3) := by decide +kernel
theorem dX6_addWagon_31 : decode cX6_addWagon 31 = .ok (.if_icmp .ge 21, 3) := by decide +kernel
theorem dX6_addWagon_34 : decode cX6_addWagon 34 = .ok (.aload_n 0, 1) := by decide +kernel
theorem dX6_addWagon_35 : decode cX6_addWagon 35 = .ok (.getfield 9, 3) := by decide +kernel
theorem dX6_addWagon_38 : decode cX6_addWagon 38 = .ok (.iload_n 3, 1) := by decide +kernel
theorem dX6_addWagon_39 : decode cX6_addWagon 39 = .ok (.iaload, 1) := by decide +kernel
theorem dX6_addWagon_40 : decode cX6_addWagon 40 = .ok (.iload_n 1, 1) := by decide +kernel
theorem dX6_addWagon_41 : decode cX6_addWagon 41 = .ok (.if_icmp .ne 5, 3) := by decide +kernel
theorem dX6_addWagon_44 : decode cX6_addWagon 44 = .ok (.iconst (-1), 1) := by decide +kernel
theorem dX6_addWagon_45 : decode cX6_addWagon 45 = .ok (.ireturn, 1) := by decide +kernel
theorem dX6_addWagon_46 : decode cX6_addWagon 46 = .ok (.iinc 3 1, 3) := by decide +kernel
theorem dX6_addWagon_49 : decode cX6_addWagon 49 = .ok (.goto (-23), 3) := by decide +kernel
theorem dX6_addWagon_52 : decode cX6_addWagon 52 = .ok (.aload_n 0, 1) := by decide +kernel
theorem dX6_addWagon_53 : decode cX6_addWagon 53 = .ok (.getfield 9, 3) := by decide +kernel
theorem dX6_addWagon_56 : decode cX6_addWagon 56 = .ok (.aload_n 0, 1) := by decide +kernel
theorem dX6_addWagon_57 : decode cX6_addWagon 57 = .ok (.getfield 18, 3) := by decide +kernel
theorem dX6_addWagon_60 : decode cX6_addWagon 60 = .ok (.iload_n 1, 1) := by decide +kernel
theorem dX6_addWagon_61 : decode cX6_addWagon 61 = .ok (.iastore, 1) := by decide +kernel
theorem dX6_addWagon_62 : decode cX6_addWagon 62 = .ok (.aload_n 0, 1) := by decide +kernel
theorem dX6_addWagon_63 : decode cX6_addWagon 63 = .ok (.getfield 15, 3) := by decide +kernel
theorem dX6_addWagon_66 : decode cX6_addWagon 66 = .ok (.aload_n 0, 1) := by decide +kernel
theorem dX6_addWagon_67 : decode cX6_addWagon 67 = .ok (.getfield 18, 3) := by decide +kernel
theorem dX6_addWagon_70 : decode cX6_addWagon 70 = .ok (.iload_n 2, 1) := by decide +kernel
theorem dX6_addWagon_71 : decode cX6_addWagon 71 = .ok (.iastore, 1) := by decide +kernel
theorem dX6_addWagon_72 : decode cX6_addWagon 72 = .ok (.aload_n 0, 1) := by decide +kernel
theorem dX6_addWagon_73 : decode cX6_addWagon 73 = .ok (.dup, 1) := by decide +kernel
theorem dX6_addWagon_74 : decode cX6_addWagon 74 = .ok (.getfield 18, 3) := by decide +kernel
theorem dX6_addWagon_77 : decode cX6_addWagon 77 = .ok (.iconst 1, 1) := by decide +kernel
theorem dX6_addWagon_78 : decode cX6_addWagon 78 = .ok (.iadd, 1) := by decide +kernel
theorem dX6_addWagon_79 : decode cX6_addWagon 79 = .ok (.putfield 18, 3) := by decide +kernel
theorem dX6_addWagon_82 : decode cX6_addWagon 82 = .ok (.aload_n 0, 1) := by decide +kernel
theorem dX6_addWagon_83 : decode cX6_addWagon 83 = .ok (.getfield 18, 3) := by decide +kernel
theorem dX6_addWagon_86 : decode cX6_addWagon 86 = .ok (.iconst 1, 1) := by decide +kernel
theorem dX6_addWagon_87 : decode cX6_addWagon 87 = .ok (.isub, 1) := by decide +kernel
theorem dX6_addWagon_88 : decode cX6_addWagon 88 = .ok (.ireturn, 1) := by decide +kernel
theorem dX6_addSight_0 : decode cX6_addSight 0 = .ok (.iload_n 1, 1) := by decide +kernel
theorem dX6_addSight_1 : decode cX6_addSight 1 = .ok (.invokestatic 37, 3) := by decide +kernel
theorem dX6_addSight_4 : decode cX6_addSight 4 = .ok (.ifCond .eq 18, 3) := by decide +kernel
theorem dX6_addSight_7 : decode cX6_addSight 7 = .ok (.iload_n 2, 1) := by decide +kernel
theorem dX6_addSight_8 : decode cX6_addSight 8 = .ok (.invokestatic 44, 3) := by decide +kernel
theorem dX6_addSight_11 : decode cX6_addSight 11 = .ok (.ifCond .eq 11, 3) := by decide +kernel
theorem dX6_addSight_14 : decode cX6_addSight 14 = .ok (.iload 4, 2) := by decide +kernel
theorem dX6_addSight_16 : decode cX6_addSight 16 = .ok (.invokestatic 41, 3) := by decide +kernel
theorem dX6_addSight_19 : decode cX6_addSight 19 = .ok (.ifCond .ne 5, 3) := by decide +kernel
theorem dX6_addSight_22 : decode cX6_addSight 22 = .ok (.iconst (-1), 1) := by decide +kernel
theorem dX6_addSight_23 : decode cX6_addSight 23 = .ok (.ireturn, 1) := by decide +kernel
theorem dX6_addSight_24 : decode cX6_addSight 24 = .ok (.iload_n 3, 1) := by decide +kernel
theorem dX6_addSight_25 : decode cX6_addSight 25 = .ok (.iconst 0, 1) := by decide +kernel
theorem dX6_addSight_26 : decode cX6_addSight 26 = .ok (.sipush 999, 3) := by decide +kernel
theorem dX6_addSight_29 : decode cX6_addSight 29 = .ok (.invokestatic 47, 3) := by decide +kernel
theorem dX6_addSight_32 : decode cX6_addSight 32 = .ok (.ifCond .eq 12, 3) := by decide +kernel
theorem dX6_addSight_35 : decode cX6_addSight 35 = .ok (.aload_n 0, 1) := by decide +kernel
theorem dX6_addSight_36 : decode cX6_addSight 36 = .ok (.getfield 34, 3) := by decide +kernel
theorem dX6_addSight_39 : decode cX6_addSight 39 = .ok (.bipush 7, 2) := by decide +kernel
theorem dX6_addSight_41 : decode cX6_addSight 41 = .ok (.if_icmp .lt 5, 3) := by decide +kernel
theorem dX6_addSight_44 : decode cX6_addSight 44 = .ok (.iconst (-1), 1) := by decide +kernel
theorem dX6_addSight_45 : decode cX6_addSight 45 = .ok (.ireturn, 1) := by decide +kernel
theorem dX6_addSight_46 : decode cX6_addSight 46 = .ok (.aload_n 0, 1) := by decide +kernel
theorem dX6_addSight_47 : decode cX6_addSight 47 = .ok (.getfield 34, 3) := by decide +kernel
theorem dX6_addSight_50 : decode cX6_addSight 50 = .ok (.ifCond .le 20, 3) := by decide +kernel
theorem dX6_addSight_53 : decode cX6_addSight 53 = .ok (.iload_n 3, 1) := by decide +kernel
theorem dX6_addSight_54 : decode cX6_addSight 54 = .ok (.aload_n 0, 1) := by decide +kernel
theorem dX6_addSight_55 : decode cX6_addSight 55 = .ok (.getfield 28, 3) := by decide +kernel
theorem dX6_addSight_58 : decode cX6_addSight 58 = .ok (.aload_n 0, 1) := by decide +kernel
theorem dX6_addSight_59 : decode cX6_addSight 59 = .ok (.getfield 34, 3) := by decide +kernel
theorem dX6_addSight_62 : decode cX6_addSight 62 = .ok (.iconst 1, 1) := by decide +kernel
theorem dX6_addSight_63 : decode cX6_addSight 63 = .ok (.isub, 1) := by decide +kernel
theorem dX6_addSight_64 : decode cX6_addSight 64 = .ok (.iaload, 1) := by decide +kernel
theorem dX6_addSight_65 : decode cX6_addSight 65 = .ok (.if_icmp .ge 5, 3) := by decide +kernel
theorem dX6_addSight_68 : decode cX6_addSight 68 = .ok (.iconst (-1), 1) := by decide +kernel
theorem dX6_addSight_69 : decode cX6_addSight 69 = .ok (.ireturn, 1) := by decide +kernel
theorem dX6_addSight_70 : decode cX6_addSight 70 = .ok (.aload_n 0, 1) := by decide +kernel
theorem dX6_addSight_71 : decode cX6_addSight 71 = .ok (.getfield 22, 3) := by decide +kernel
theorem dX6_addSight_74 : decode cX6_addSight 74 = .ok (.aload_n 0, 1) := by decide +kernel
theorem dX6_addSight_75 : decode cX6_addSight 75 = .ok (.getfield 34, 3) := by decide +kernel
theorem dX6_addSight_78 : decode cX6_addSight 78 = .ok (.iload_n 1, 1) := by decide +kernel
theorem dX6_addSight_79 : decode cX6_addSight 79 = .ok (.iastore, 1) := by decide +kernel
theorem dX6_addSight_80 : decode cX6_addSight 80 = .ok (.aload_n 0, 1) := by decide +kernel
theorem dX6_addSight_81 : decode cX6_addSight 81 = .ok (.getfield 25, 3) := by decide +kernel
theorem dX6_addSight_84 : decode cX6_addSight 84 = .ok (.aload_n 0, 1) := by decide +kernel
theorem dX6_addSight_85 : decode cX6_addSight 85 = .ok (.getfield 34, 3) := by decide +kernel
theorem dX6_addSight_88 : decode cX6_addSight 88 = .ok (.iload_n 2, 1) := by decide +kernel
theorem dX6_addSight_89 : decode cX6_addSight 89 = .ok (.iastore, 1) := by decide +kernel
theorem dX6_addSight_90 : decode cX6_addSight 90 = .ok (.aload_n 0, 1) := by decide +kernel
theorem dX6_addSight_91 : decode cX6_addSight 91 = .ok (.getfield 28, 3) := by decide +kernel
theorem dX6_addSight_94 : decode cX6_addSight 94 = .ok (.aload_n 0, 1) := by decide +kernel
theorem dX6_addSight_95 : decode cX6_addSight 95 = .ok (.getfield 34, 3) := by decide +kernel
theorem dX6_addSight_98 : decode cX6_addSight 98 = .ok (.iload_n 3, 1) := by decide +kernel
theorem dX6_addSight_99 : decode cX6_addSight 99 = .ok (.iastore, 1) := by decide +kernel
theorem dX6_addSight_100 : decode cX6_addSight 100 = .ok (.aload_n 0, 1) := by decide +kernel
theorem dX6_addSight_101 : decode cX6_addSight 101 = .ok (.getfield 31, 3) := by decide +kernel
theorem dX6_addSight_104 : decode cX6_addSight 104 = .ok (.aload_n 0, 1) := by decide +kernel
theorem dX6_addSight_105 : decode cX6_addSight 105 = .ok (.getfield 34, 3) := by decide +kernel
theorem dX6_addSight_108 : decode cX6_addSight 108 = .ok (.iload 4, 2) := by decide +kernel
theorem dX6_addSight_110 : decode cX6_addSight 110 = .ok (.iastore, 1) := by decide +kernel
theorem dX6_addSight_111 : decode cX6_addSight 111 = .ok (.aload_n 0, 1) := by decide +kernel
theorem dX6_addSight_112 : decode cX6_addSight 112 = .ok (.dup, 1) := by decide +kernel
theorem dX6_addSight_113 : decode cX6_addSight 113 = .ok (.getfield 34, 3) := by decide +kernel
theorem dX6_addSight_116 : decode cX6_addSight 116 = .ok (.iconst 1, 1) := by decide +kernel
theorem dX6_addSight_117 : decode cX6_addSight 117 = .ok (.iadd, 1) := by decide +kernel
theorem dX6_addSight_118 : decode cX6_addSight 118 = .ok (.putfield 34, 3) := by decide +kernel
theorem dX6_addSight_121 : decode cX6_addSight 121 = .ok (.aload_n 0, 1) := by decide +kernel
theorem dX6_addSight_122 : decode cX6_addSight 122 = .ok (.getfield 34, 3) := by decide +kernel
theorem dX6_addSight_125 : decode cX6_addSight 125 = .ok (.iconst 1, 1) := by decide +kernel
theorem dX6_addSight_126 : decode cX6_addSight 126 = .ok (.isub, 1) := by decide +kernel
theorem dX6_addSight_127 : decode cX6_addSight 127 = .ok (.ireturn, 1) := by decide +kernel
theorem dX6_hasWagon_0 : decode cX6_hasWagon 0 = .ok (.iload_n 1, 1) := by decide +kernel
theorem dX6_hasWagon_1 : decode cX6_hasWagon 1 = .ok (.ifCond .lt 15, 3) := by decide +kernel
theorem dX6_hasWagon_4 : decode cX6_hasWagon 4 = .ok (.iload_n 1, 1) := by decide +kernel
theorem dX6_hasWagon_5 : decode cX6_hasWagon 5 = .ok (.aload_n 0, 1) := by decide +kernel
theorem dX6_hasWagon_6 : decode cX6_hasWagon 6 = .ok (.getfield 18, 3) := by decide +kernel
theorem dX6_hasWagon_9 : decode cX6_hasWagon 9 = .ok (.if_icmp .ge 7, 3) := by decide +kernel
theorem dX6_hasWagon_12 : decode cX6_hasWagon 12 = .ok (.iconst 1, 1) := by decide +kernel
theorem dX6_hasWagon_13 : decode cX6_hasWagon 13 = .ok (.goto 4, 3) := by decide +kernel
theorem dX6_hasWagon_16 : decode cX6_hasWagon 16 = .ok (.iconst 0, 1) := by decide +kernel
theorem dX6_hasWagon_17 : decode cX6_hasWagon 17 = .ok (.ireturn, 1) := by decide +kernel
theorem dX6_hasSight_0 : decode cX6_hasSight 0 = .ok (.iload_n 1, 1) := by decide +kernel
theorem dX6_hasSight_1 : decode cX6_hasSight 1 = .ok (.ifCond .lt 15, 3) := by decide +kernel
theorem dX6_hasSight_4 : decode cX6_hasSight 4 = .ok (.iload_n 1, 1) := by decide +kernel
theorem dX6_hasSight_5 : decode cX6_hasSight 5 = .ok (.aload_n 0, 1) := by decide +kernel
theorem dX6_hasSight_6 : decode cX6_hasSight 6 = .ok (.getfield 34, 3) := by decide +kernel
theorem dX6_hasSight_9 : decode cX6_hasSight 9 = .ok (.if_icmp .ge 7, 3) := by decide +kernel
theorem dX6_hasSight_12 : decode cX6_hasSight 12 = .ok (.iconst 1, 1) := by decide +kernel
theorem dX6_hasSight_13 : decode cX6_hasSight 13 = .ok (.goto 4, 3) := by decide +kernel
theorem dX6_hasSight_16 : decode cX6_hasSight 16 = .ok (.iconst 0, 1) := by decide +kernel
theorem dX6_hasSight_17 : decode cX6_hasSight 17 = .ok (.ireturn, 1) := by decide +kernel
theorem dX6_errorOf_0 : decode cX6_errorOf 0 = .ok (.aload_n 0, 1) := by decide +kernel
theorem dX6_errorOf_1 : decode cX6_errorOf 1 = .ok (.iload_n 1, 1) := by decide +kernel
theorem dX6_errorOf_2 : decode cX6_errorOf 2 = .ok (.invokevirtual 51, 3) := by decide +kernel
theorem dX6_errorOf_5 : decode cX6_errorOf 5 = .ok (.ifCond .eq 11, 3) := by decide +kernel
theorem dX6_errorOf_8 : decode cX6_errorOf 8 = .ok (.aload_n 0, 1) := by decide +kernel
theorem dX6_errorOf_9 : decode cX6_errorOf 9 = .ok (.iload_n 2, 1) := by decide +kernel
theorem dX6_errorOf_10 : decode cX6_errorOf 10 = .ok (.invokevirtual 54, 3) := by decide +kernel
theorem dX6_errorOf_13 : decode cX6_errorOf 13 = .ok (.ifCond .ne 5, 3) := by decide +kernel
theorem dX6_errorOf_16 : decode cX6_errorOf 16 = .ok (.iconst (-1), 1) := by decide +kernel
theorem dX6_errorOf_17 : decode cX6_errorOf 17 = .ok (.ireturn, 1) := by decide +kernel
theorem dX6_errorOf_18 : decode cX6_errorOf 18 = .ok (.aload_n 0, 1) := by decide +kernel
theorem dX6_errorOf_19 : decode cX6_errorOf 19 = .ok (.getfield 22, 3) := by decide +kernel
theorem dX6_errorOf_22 : decode cX6_errorOf 22 = .ok (.iload_n 1, 1) := by decide +kernel
theorem dX6_errorOf_23 : decode cX6_errorOf 23 = .ok (.iaload, 1) := by decide +kernel
theorem dX6_errorOf_24 : decode cX6_errorOf 24 = .ok (.aload_n 0, 1) := by decide +kernel
theorem dX6_errorOf_25 : decode cX6_errorOf 25 = .ok (.getfield 9, 3) := by decide +kernel
theorem dX6_errorOf_28 : decode cX6_errorOf 28 = .ok (.iload_n 2, 1) := by decide +kernel
theorem dX6_errorOf_29 : decode cX6_errorOf 29 = .ok (.iaload, 1) := by decide +kernel
theorem dX6_errorOf_30 : decode cX6_errorOf 30 = .ok (.invokestatic 57, 3) := by decide +kernel
theorem dX6_errorOf_33 : decode cX6_errorOf 33 = .ok (.ireturn, 1) := by decide +kernel
theorem dX6_difference_0 : decode cX6_difference 0 = .ok (.iconst 0, 1) := by decide +kernel
theorem dX6_difference_1 : decode cX6_difference 1 = .ok (.istore_n 2, 1) := by decide +kernel
theorem dX6_difference_2 : decode cX6_difference 2 = .ok (.iconst 0, 1) := by decide +kernel
theorem dX6_difference_3 : decode cX6_difference 3 = .ok (.istore_n 3, 1) := by decide +kernel
theorem dX6_difference_4 : decode cX6_difference 4 = .ok (.iconst (-1), 1) := by decide +kernel
theorem dX6_difference_5 : decode cX6_difference 5 = .ok (.istore 4, 2) := by decide +kernel
theorem dX6_difference_7 : decode cX6_difference 7 = .ok (.iconst (-1), 1) := by decide +kernel
theorem dX6_difference_8 : decode cX6_difference 8 = .ok (.istore 5, 2) := by decide +kernel
theorem dX6_difference_10 : decode cX6_difference 10 = .ok (.iload_n 0, 1) := by decide +kernel
theorem dX6_difference_11 : decode cX6_difference 11 = .ok (.istore 6, 2) := by decide +kernel
theorem dX6_difference_13 : decode cX6_difference 13 = .ok (.iload_n 1, 1) := by decide +kernel
theorem dX6_difference_14 : decode cX6_difference 14 = .ok (.istore 7, 2) := by decide +kernel
theorem dX6_difference_16 : decode cX6_difference 16 = .ok (.iconst 0, 1) := by decide +kernel
theorem dX6_difference_17 : decode cX6_difference 17 = .ok (.istore 8, 2) := by decide +kernel
theorem dX6_difference_19 : decode cX6_difference 19 = .ok (.iload 8, 2) := by decide +kernel
theorem dX6_difference_21 : decode cX6_difference 21 = .ok (.iconst 5, 1) := by decide +kernel
theorem dX6_difference_22 : decode cX6_difference 22 = .ok (.if_icmp .ge 79, 3) := by decide +kernel
theorem dX6_difference_25 : decode cX6_difference 25 = .ok (.iload 6, 2) := by decide +kernel
theorem dX6_difference_27 : decode cX6_difference 27 = .ok (.bipush 10, 2) := by decide +kernel
theorem dX6_difference_29 : decode cX6_difference 29 = .ok (.irem, 1) := by decide +kernel
theorem dX6_difference_30 : decode cX6_difference 30 = .ok (.istore 9, 2) := by decide +kernel
theorem dX6_difference_32 : decode cX6_difference 32 = .ok (.iload 7, 2) := by decide +kernel
theorem dX6_difference_34 : decode cX6_difference 34 = .ok (.bipush 10, 2) := by decide +kernel
theorem dX6_difference_36 : decode cX6_difference 36 = .ok (.irem, 1) := by decide +kernel
theorem dX6_difference_37 : decode cX6_difference 37 = .ok (.istore 10, 2) := by decide +kernel
theorem dX6_difference_39 : decode cX6_difference 39 = .ok (.iload 9, 2) := by decide +kernel
theorem dX6_difference_41 : decode cX6_difference 41 = .ok (.iload 10, 2) := by decide +kernel
theorem dX6_difference_43 : decode cX6_difference 43 = .ok (.if_icmp .eq 30, 3) := by decide +kernel
theorem dX6_difference_46 : decode cX6_difference 46 = .ok (.iinc 2 1, 3) := by decide +kernel
theorem dX6_difference_49 : decode cX6_difference 49 = .ok (.iload_n 3, 1) := by decide +kernel
theorem dX6_difference_50 : decode cX6_difference 50 = .ok (.ifCond .ne 17, 3) := by decide +kernel
theorem dX6_difference_53 : decode cX6_difference 53 = .ok (.iload 9, 2) := by decide +kernel
theorem dX6_difference_55 : decode cX6_difference 55 = .ok (.iload 5, 2) := by decide +kernel
theorem dX6_difference_57 : decode cX6_difference 57 = .ok (.if_icmp .ne 14, 3) := by decide +kernel
theorem dX6_difference_60 : decode cX6_difference 60 = .ok (.iload 10, 2) := by decide +kernel
theorem dX6_difference_62 : decode cX6_difference 62 = .ok (.iload 4, 2) := by decide +kernel
theorem dX6_difference_64 : decode cX6_difference 64 = .ok (.if_icmp .ne 7, 3) := by decide +kernel
theorem dX6_difference_67 : decode cX6_difference 67 = .ok (.iconst 1, 1) := by decide +kernel
theorem dX6_difference_68 : decode cX6_difference 68 = .ok (.goto 4, 3) := by decide +kernel
theorem dX6_difference_71 : decode cX6_difference 71 = .ok (.iconst 0, 1) := by decide +kernel
theorem dX6_difference_72 : decode cX6_difference 72 = .ok (.istore_n 3, 1) := by decide +kernel
theorem dX6_difference_73 : decode cX6_difference 73 = .ok (.iload 9, 2) := by decide +kernel
theorem dX6_difference_75 : decode cX6_difference 75 = .ok (.istore 4, 2) := by decide +kernel
theorem dX6_difference_77 : decode cX6_difference 77 = .ok (.iload 10, 2) := by decide +kernel
theorem dX6_difference_79 : decode cX6_difference 79 = .ok (.istore 5, 2) := by decide +kernel
theorem dX6_difference_81 : decode cX6_difference 81 = .ok (.iload 6, 2) := by decide +kernel
theorem dX6_difference_83 : decode cX6_difference 83 = .ok (.bipush 10, 2) := by decide +kernel
theorem dX6_difference_85 : decode cX6_difference 85 = .ok (.idiv, 1) := by decide +kernel
theorem dX6_difference_86 : decode cX6_difference 86 = .ok (.istore 6, 2) := by decide +kernel
theorem dX6_difference_88 : decode cX6_difference 88 = .ok (.iload 7, 2) := by decide +kernel
theorem dX6_difference_90 : decode cX6_difference 90 = .ok (.bipush 10, 2) := by decide +kernel
theorem dX6_difference_92 : decode cX6_difference 92 = .ok (.idiv, 1) := by decide +kernel
theorem dX6_difference_93 : decode cX6_difference 93 = .ok (.istore 7, 2) := by decide +kernel
theorem dX6_difference_95 : decode cX6_difference 95 = .ok (.iinc 8 1, 3) := by decide +kernel
theorem dX6_difference_98 : decode cX6_difference 98 = .ok (.goto (-79), 3) := by decide +kernel
theorem dX6_difference_101 : decode cX6_difference 101 = .ok (.iload_n 2, 1) := by decide +kernel
theorem dX6_difference_102 : decode cX6_difference 102 = .ok (.iconst 2, 1) := by decide +kernel
theorem dX6_difference_103 : decode cX6_difference 103 = .ok (.if_icmp .ne 9, 3) := by decide +kernel
theorem dX6_difference_106 : decode cX6_difference 106 = .ok (.iload_n 3, 1) := by decide +kernel
theorem dX6_difference_107 : decode cX6_difference 107 = .ok (.ifCond .eq 5, 3) := by decide +kernel
theorem dX6_difference_110 : decode cX6_difference 110 = .ok (.iconst 1, 1) := by decide +kernel
theorem dX6_difference_111 : decode cX6_difference 111 = .ok (.ireturn, 1) := by decide +kernel
theorem dX6_difference_112 : decode cX6_difference 112 = .ok (.iload_n 2, 1) := by decide +kernel
theorem dX6_difference_113 : decode cX6_difference 113 = .ok (.iconst 2, 1) := by decide +kernel
theorem dX6_difference_114 : decode cX6_difference 114 = .ok (.if_icmp .le 8, 3) := by decide +kernel
theorem dX6_difference_117 : decode cX6_difference 117 = .ok (.bipush 9, 2) := by decide +kernel
theorem dX6_difference_119 : decode cX6_difference 119 = .ok (.goto 4, 3) := by decide +kernel
theorem dX6_difference_122 : decode cX6_difference 122 = .ok (.iload_n 2, 1) := by decide +kernel
theorem dX6_difference_123 : decode cX6_difference 123 = .ok (.ireturn, 1) := by decide +kernel
theorem dX7_init_0 : decode cX7_init 0 = .ok (.aload_n 0, 1) := by decide +kernel
theorem dX7_init_1 : decode cX7_init 1 = .ok (.invokespecial 1, 3) := by decide +kernel
theorem dX7_init_4 : decode cX7_init 4 = .ok (.aload_n 0, 1) := by decide +kernel
theorem dX7_init_5 : decode cX7_init 5 = .ok (.new 7, 3) := by decide +kernel
theorem dX7_init_8 : decode cX7_init 8 = .ok (.dup, 1) := by decide +kernel
theorem dX7_init_9 : decode cX7_init 9 = .ok (.invokespecial 9, 3) := by decide +kernel
theorem dX7_init_12 : decode cX7_init 12 = .ok (.putfield 10, 3) := by decide +kernel
theorem dX7_init_15 : decode cX7_init 15 = .ok (.aload_n 0, 1) := by decide +kernel
theorem dX7_init_16 : decode cX7_init 16 = .ok (.new 16, 3) := by decide +kernel
theorem dX7_init_19 : decode cX7_init 19 = .ok (.dup, 1) := by decide +kernel
theorem dX7_init_20 : decode cX7_init 20 = .ok (.aload_n 0, 1) := by decide +kernel
theorem dX7_init_21 : decode cX7_init 21 = .ok (.getfield 10, 3) := by decide +kernel
theorem dX7_init_24 : decode cX7_init 24 = .ok (.invokespecial 18, 3) := by decide +kernel
theorem dX7_init_27 : decode cX7_init 27 = .ok (.putfield 21, 3) := by decide +kernel
theorem dX7_init_30 : decode cX7_init 30 = .ok (.aload_n 0, 1) := by decide +kernel
theorem dX7_init_31 : decode cX7_init 31 = .ok (.new 25, 3) := by decide +kernel
theorem dX7_init_34 : decode cX7_init 34 = .ok (.dup, 1) := by decide +kernel
theorem dX7_init_35 : decode cX7_init 35 = .ok (.invokespecial 27, 3) := by decide +kernel
theorem dX7_init_38 : decode cX7_init 38 = .ok (.putfield 28, 3) := by decide +kernel
theorem dX7_init_41 : decode cX7_init 41 = .ok (.aload_n 0, 1) := by decide +kernel
theorem dX7_init_42 : decode cX7_init 42 = .ok (.new 32, 3) := by decide +kernel
theorem dX7_init_45 : decode cX7_init 45 = .ok (.dup, 1) := by decide +kernel
theorem dX7_init_46 : decode cX7_init 46 = .ok (.aload_n 0, 1) := by decide +kernel
theorem dX7_init_47 : decode cX7_init 47 = .ok (.getfield 10, 3) := by decide +kernel
theorem dX7_init_50 : decode cX7_init 50 = .ok (.aload_n 0, 1) := by decide +kernel
theorem dX7_init_51 : decode cX7_init 51 = .ok (.getfield 28, 3) := by decide +kernel
theorem dX7_init_54 : decode cX7_init 54 = .ok (.invokespecial 34, 3) := by decide +kernel
theorem dX7_init_57 : decode cX7_init 57 = .ok (.putfield 37, 3) := by decide +kernel
theorem dX7_init_60 : decode cX7_init 60 = .ok (.aload_n 0, 1) := by decide +kernel
theorem dX7_init_61 : decode cX7_init 61 = .ok (.new 41, 3) := by decide +kernel
theorem dX7_init_64 : decode cX7_init 64 = .ok (.dup, 1) := by decide +kernel
theorem dX7_init_65 : decode cX7_init 65 = .ok (.aload_n 0, 1) := by decide +kernel
theorem dX7_init_66 : decode cX7_init 66 = .ok (.getfield 28, 3) := by decide +kernel
theorem dX7_init_69 : decode cX7_init 69 = .ok (.aload_n 0, 1) := by decide +kernel
theorem dX7_init_70 : decode cX7_init 70 = .ok (.getfield 37, 3) := by decide +kernel
theorem dX7_init_73 : decode cX7_init 73 = .ok (.invokespecial 43, 3) := by decide +kernel
theorem dX7_init_76 : decode cX7_init 76 = .ok (.putfield 46, 3) := by decide +kernel
theorem dX7_init_79 : decode cX7_init 79 = .ok (.aload_n 0, 1) := by decide +kernel
theorem dX7_init_80 : decode cX7_init 80 = .ok (.new 50, 3) := by decide +kernel
theorem dX7_init_83 : decode cX7_init 83 = .ok (.dup, 1) := by decide +kernel
theorem dX7_init_84 : decode cX7_init 84 = .ok (.invokespecial 52, 3) := by decide +kernel
theorem dX7_init_87 : decode cX7_init 87 = .ok (.putfield 53, 3) := by decide +kernel
theorem dX7_init_90 : decode cX7_init 90 = .ok (.aload_n 0, 1) := by decide +kernel
theorem dX7_init_91 : decode cX7_init 91 = .ok (.new 57, 3) := by decide +kernel
theorem dX7_init_94 : decode cX7_init 94 = .ok (.dup, 1) := by decide +kernel
theorem dX7_init_95 : decode cX7_init 95 = .ok (.aload_n 0, 1) := by decide +kernel
theorem dX7_init_96 : decode cX7_init 96 = .ok (.getfield 10, 3) := by decide +kernel
theorem dX7_init_99 : decode cX7_init 99 = .ok (.invokespecial 59, 3) := by decide +kernel
theorem dX7_init_102 : decode cX7_init 102 = .ok (.putfield 60, 3) := by decide +kernel
theorem dX7_init_105 : decode cX7_init 105 = .ok (.aload_n 0, 1) := by decide +kernel
theorem dX7_init_106 : decode cX7_init 106 = .ok (.bipush 8, 2) := by decide +kernel
theorem dX7_init_108 : decode cX7_init 108 = .ok (.newarray .int, 2) := by decide +kernel
theorem dX7_init_110 : decode cX7_init 110 = .ok (.putfield 64, 3) := by decide +kernel
theorem dX7_init_113 : decode cX7_init 113 = .ok (.aload_n 0, 1) := by decide +kernel
theorem dX7_init_114 : decode cX7_init 114 = .ok (.bipush 8, 2) := by decide +kernel
theorem dX7_init_116 : decode cX7_init 116 = .ok (.newarray .int, 2) := by decide +kernel
theorem dX7_init_118 : decode cX7_init 118 = .ok (.putfield 68, 3) := by decide +kernel
theorem dX7_init_121 : decode cX7_init 121 = .ok (.aload_n 0, 1) := by decide +kernel
theorem dX7_init_122 : decode cX7_init 122 = .ok (.iconst 0, 1) := by decide +kernel
theorem dX7_init_123 : decode cX7_init 123 = .ok (.putfield 71, 3) := by decide +kernel
theorem dX7_init_126 : decode cX7_init 126 = .ok (.return_, 1) := by decide +kernel
theorem dX7_line_0 : decode cX7_line 0 = .ok (.aload_n 0, 1) := by decide +kernel
theorem dX7_line_1 : decode cX7_line 1 = .ok (.getfield 10, 3) := by decide +kernel
theorem dX7_line_4 : decode cX7_line 4 = .ok (.iload_n 1, 1) := by decide +kernel
theorem dX7_line_5 : decode cX7_line 5 = .ok (.iload_n 2, 1) := by decide +kernel
theorem dX7_line_6 : decode cX7_line 6 = .ok (.iload_n 3, 1) := by decide +kernel
theorem dX7_line_7 : decode cX7_line 7 = .ok (.iload 4, 2) := by decide +kernel
theorem dX7_line_9 : decode cX7_line 9 = .ok (.invokevirtual 75, 3) := by decide +kernel
theorem dX7_line_12 : decode cX7_line 12 = .ok (.istore 5, 2) := by decide +kernel
theorem dX7_line_14 : decode cX7_line 14 = .ok (.iload 5, 2) := by decide +kernel
theorem dX7_line_16 : decode cX7_line 16 = .ok (.iconst (-1), 1) := by decide +kernel
theorem dX7_line_17 : decode cX7_line 17 = .ok (.if_icmp .eq 17, 3) := by decide +kernel
theorem dX7_line_20 : decode cX7_line 20 = .ok (.aload_n 0, 1) := by decide +kernel
theorem dX7_line_21 : decode cX7_line 21 = .ok (.getfield 37, 3) := by decide +kernel
theorem dX7_line_24 : decode cX7_line 24 = .ok (.invokevirtual 79, 3) := by decide +kernel
theorem dX7_line_27 : decode cX7_line 27 = .ok (.aload_n 0, 1) := by decide +kernel
theorem dX7_line_28 : decode cX7_line 28 = .ok (.getfield 60, 3) := by decide +kernel
theorem dX7_line_31 : decode cX7_line 31 = .ok (.invokevirtual 82, 3) := by decide +kernel
theorem dX7_line_34 : decode cX7_line 34 = .ok (.iload 5, 2) := by decide +kernel
theorem dX7_line_36 : decode cX7_line 36 = .ok (.ireturn, 1) := by decide +kernel
theorem dX7_least_0 : decode cX7_least 0 = .ok (.aload_n 0, 1) := by decide +kernel
theorem dX7_least_1 : decode cX7_least 1 = .ok (.getfield 10, 3) := by decide +kernel
theorem dX7_least_4 : decode cX7_least 4 = .ok (.iload_n 1, 1) := by decide +kernel
theorem dX7_least_5 : decode cX7_least 5 = .ok (.iload_n 2, 1) := by decide +kernel
theorem dX7_least_6 : decode cX7_least 6 = .ok (.invokevirtual 83, 3) := by decide +kernel
theorem dX7_least_9 : decode cX7_least 9 = .ok (.ireturn, 1) := by decide +kernel
theorem dX7_route_0 : decode cX7_route 0 = .ok (.aload_n 0, 1) := by decide +kernel
theorem dX7_route_1 : decode cX7_route 1 = .ok (.getfield 10, 3) := by decide +kernel
theorem dX7_route_4 : decode cX7_route 4 = .ok (.iload_n 1, 1) := by decide +kernel
theorem dX7_route_5 : decode cX7_route 5 = .ok (.iload_n 2, 1) := by decide +kernel
theorem dX7_route_6 : decode cX7_route 6 = .ok (.invokevirtual 87, 3) := by decide +kernel
theorem dX7_route_9 : decode cX7_route 9 = .ok (.ireturn, 1) := by decide +kernel
theorem dX7_part_0 : decode cX7_part 0 = .ok (.iload 4, 2) := by decide +kernel
theorem dX7_part_2 : decode cX7_part 2 = .ok (.invokestatic 90, 3) := by decide +kernel
theorem dX7_part_5 : decode cX7_part 5 = .ok (.ifCond .eq 16, 3) := by decide +kernel
theorem dX7_part_8 : decode cX7_part 8 = .ok (.aload_n 0, 1) := by decide +kernel
theorem dX7_part_9 : decode cX7_part 9 = .ok (.getfield 21, 3) := by decide +kernel
theorem dX7_part_12 : decode cX7_part 12 = .ok (.iload_n 1, 1) := by decide +kernel
theorem dX7_part_13 : decode cX7_part 13 = .ok (.iload_n 2, 1) := by decide +kernel
theorem dX7_part_14 : decode cX7_part 14 = .ok (.iload_n 3, 1) := by decide +kernel
theorem dX7_part_15 : decode cX7_part 15 = .ok (.invokevirtual 94, 3) := by decide +kernel
theorem dX7_part_18 : decode cX7_part 18 = .ok (.ifCond .ne 5, 3) := by decide +kernel
theorem dX7_part_21 : decode cX7_part 21 = .ok (.iconst (-1), 1) := by decide +kernel
theorem dX7_part_22 : decode cX7_part 22 = .ok (.ireturn, 1) := by decide +kernel
theorem dX7_part_23 : decode cX7_part 23 = .ok (.aload_n 0, 1) := by decide +kernel
theorem dX7_part_24 : decode cX7_part 24 = .ok (.getfield 21, 3) := by decide +kernel
theorem dX7_part_27 : decode cX7_part 27 = .ok (.getfield 98, 3) := by decide +kernel
theorem dX7_part_30 : decode cX7_part 30 = .ok (.iload 4, 2) := by decide +kernel
theorem dX7_part_32 : decode cX7_part 32 = .ok (.iaload, 1) := by decide +kernel
theorem dX7_part_33 : decode cX7_part 33 = .ok (.ireturn, 1) := by decide +kernel
theorem dX7_book_0 : decode cX7_book 0 = .ok (.iload 4, 2) := by decide +kernel
theorem dX7_book_2 : decode cX7_book 2 = .ok (.invokestatic 90, 3) := by decide +kernel
theorem dX7_book_5 : decode cX7_book 5 = .ok (.ifCond .eq 26, 3) := by decide +kernel
theorem dX7_book_8 : decode cX7_book 8 = .ok (.aload_n 0, 1) := by decide +kernel
theorem dX7_book_9 : decode cX7_book 9 = .ok (.getfield 71, 3) := by decide +kernel
theorem dX7_book_12 : decode cX7_book 12 = .ok (.sipush 1000, 3) := by decide +kernel
theorem dX7_book_15 : decode cX7_book 15 = .ok (.if_icmp .ge 16, 3) := by decide +kernel
theorem dX7_book_18 : decode cX7_book 18 = .ok (.aload_n 0, 1) := by decide +kernel
theorem dX7_book_19 : decode cX7_book 19 = .ok (.getfield 21, 3) := by decide +kernel
theorem dX7_book_22 : decode cX7_book 22 = .ok (.iload_n 1, 1) := by decide +kernel
theorem dX7_book_23 : decode cX7_book 23 = .ok (.iload_n 2, 1) := by decide +kernel
theorem dX7_book_24 : decode cX7_book 24 = .ok (.iload_n 3, 1) := by decide +kernel
theorem dX7_book_25 : decode cX7_book 25 = .ok (.invokevirtual 94, 3) := by decide +kernel
theorem dX7_book_28 : decode cX7_book 28 = .ok (.ifCond .ne 5, 3) := by decide +kernel
theorem dX7_book_31 : decode cX7_book 31 = .ok (.iconst 0, 1) := by decide +kernel
theorem dX7_book_32 : decode cX7_book 32 = .ok (.ireturn, 1) := by decide +kernel
theorem dX7_book_33 : decode cX7_book 33 = .ok (.iconst 0, 1) := by decide +kernel
theorem dX7_book_34 : decode cX7_book 34 = .ok (.istore 5, 2) := by decide +kernel
theorem dX7_book_36 : decode cX7_book 36 = .ok (.iload 5, 2) := by decide +kernel
theorem dX7_book_38 : decode cX7_book 38 = .ok (.bipush 8, 2) := by decide +kernel
theorem dX7_book_40 : decode cX7_book 40 = .ok (.if_icmp .ge 49, 3) := by decide +kernel
theorem dX7_book_43 : decode cX7_book 43 = .ok (.aload_n 0, 1) := by decide +kernel
theorem dX7_book_44 : decode cX7_book 44 = .ok (.getfield 64, 3) := by decide +kernel
theorem dX7_book_47 : decode cX7_book 47 = .ok (.iload 5, 2) := by decide +kernel
theorem dX7_book_49 : decode cX7_book 49 = .ok (.dup2, 1) := by decide +kernel
theorem dX7_book_50 : decode cX7_book 50 = .ok (.iaload, 1) := by decide +kernel
theorem dX7_book_51 : decode cX7_book 51 = .ok (.aload_n 0, 1) := by decide +kernel
theorem dX7_book_52 : decode cX7_book 52 = .ok (.getfield 21, 3) := by decide +kernel
theorem dX7_book_55 : decode cX7_book 55 = .ok (.getfield 98, 3) := by decide +kernel
theorem dX7_book_58 : decode cX7_book 58 = .ok (.iload 5, 2) := by decide +kernel
theorem dX7_book_60 : decode cX7_book 60 = .ok (.iaload, 1) := by decide +kernel
theorem dX7_book_61 : decode cX7_book 61 = .ok (.iadd, 1) := by decide +kernel
theorem dX7_book_62 : decode cX7_book 62 = .ok (.iastore, 1) := by decide +kernel
theorem dX7_book_63 : decode cX7_book 63 = .ok (.aload_n 0, 1) := by decide +kernel
theorem dX7_book_64 : decode cX7_book 64 = .ok (.getfield 64, 3) := by decide +kernel
theorem dX7_book_67 : decode cX7_book 67 = .ok (.iload 4, 2) := by decide +kernel
theorem dX7_book_69 : decode cX7_book 69 = .ok (.dup2, 1) := by decide +kernel
theorem dX7_book_70 : decode cX7_book 70 = .ok (.iaload, 1) := by decide +kernel
theorem dX7_book_71 : decode cX7_book 71 = .ok (.aload_n 0, 1) := by decide +kernel
theorem dX7_book_72 : decode cX7_book 72 = .ok (.getfield 21, 3) := by decide +kernel
theorem dX7_book_75 : decode cX7_book 75 = .ok (.getfield 98, 3) := by decide +kernel
theorem dX7_book_78 : decode cX7_book 78 = .ok (.iload 5, 2) := by decide +kernel
theorem dX7_book_80 : decode cX7_book 80 = .ok (.iaload, 1) := by decide +kernel
theorem dX7_book_81 : decode cX7_book 81 = .ok (.isub, 1) := by decide +kernel
theorem dX7_book_82 : decode cX7_book 82 = .ok (.iastore, 1) := by decide +kernel
theorem dX7_book_83 : decode cX7_book 83 = .ok (.iinc 5 1, 3) := by decide +kernel
theorem dX7_book_86 : decode cX7_book 86 = .ok (.goto (-50), 3) := by decide +kernel
theorem dX7_book_89 : decode cX7_book 89 = .ok (.aload_n 0, 1) := by decide +kernel
theorem dX7_book_90 : decode cX7_book 90 = .ok (.dup, 1) := by decide +kernel
theorem dX7_book_91 : decode cX7_book 91 = .ok (.getfield 71, 3) := by decide +kernel
theorem dX7_book_94 : decode cX7_book 94 = .ok (.iconst 1, 1) := by decide +kernel
theorem dX7_book_95 : decode cX7_book 95 = .ok (.iadd, 1) := by decide +kernel
theorem dX7_book_96 : decode cX7_book 96 = .ok (.putfield 71, 3) := by decide +kernel
theorem dX7_book_99 : decode cX7_book 99 = .ok (.iconst 1, 1) := by decide +kernel
theorem dX7_book_100 : decode cX7_book 100 = .ok (.ireturn, 1) := by decide +kernel
theorem dX7_wagon_0 : decode cX7_wagon 0 = .ok (.aload_n 0, 1) := by decide +kernel
theorem dX7_wagon_1 : decode cX7_wagon 1 = .ok (.getfield 28, 3) := by decide +kernel
theorem dX7_wagon_4 : decode cX7_wagon 4 = .ok (.iload_n 1, 1) := by decide +kernel
theorem dX7_wagon_5 : decode cX7_wagon 5 = .ok (.iload_n 2, 1) := by decide +kernel
theorem dX7_wagon_6 : decode cX7_wagon 6 = .ok (.invokevirtual 101, 3) := by decide +kernel
theorem dX7_wagon_9 : decode cX7_wagon 9 = .ok (.istore_n 3, 1) := by decide +kernel
theorem dX7_wagon_10 : decode cX7_wagon 10 = .ok (.iload_n 3, 1) := by decide +kernel
theorem dX7_wagon_11 : decode cX7_wagon 11 = .ok (.iconst (-1), 1) := by decide +kernel
theorem dX7_wagon_12 : decode cX7_wagon 12 = .ok (.if_icmp .eq 10, 3) := by decide +kernel
theorem dX7_wagon_15 : decode cX7_wagon 15 = .ok (.aload_n 0, 1) := by decide +kernel
theorem dX7_wagon_16 : decode cX7_wagon 16 = .ok (.getfield 37, 3) := by decide +kernel
theorem dX7_wagon_19 : decode cX7_wagon 19 = .ok (.invokevirtual 79, 3) := by decide +kernel
theorem dX7_wagon_22 : decode cX7_wagon 22 = .ok (.iload_n 3, 1) := by decide +kernel
theorem dX7_wagon_23 : decode cX7_wagon 23 = .ok (.ireturn, 1) := by decide +kernel
theorem dX7_see_0 : decode cX7_see 0 = .ok (.aload_n 0, 1) := by decide +kernel
theorem dX7_see_1 : decode cX7_see 1 = .ok (.getfield 28, 3) := by decide +kernel
theorem dX7_see_4 : decode cX7_see 4 = .ok (.iload_n 1, 1) := by decide +kernel
theorem dX7_see_5 : decode cX7_see 5 = .ok (.iload_n 2, 1) := by decide +kernel
theorem dX7_see_6 : decode cX7_see 6 = .ok (.iload_n 3, 1) := by decide +kernel
theorem dX7_see_7 : decode cX7_see 7 = .ok (.iload 4, 2) := by decide +kernel
theorem dX7_see_9 : decode cX7_see 9 = .ok (.invokevirtual 104, 3) := by decide +kernel
theorem dX7_see_12 : decode cX7_see 12 = .ok (.istore 5, 2) := by decide +kernel
theorem dX7_see_14 : decode cX7_see 14 = .ok (.iload 5, 2) := by decide +kernel
theorem dX7_see_16 : decode cX7_see 16 = .ok (.iconst (-1), 1) := by decide +kernel
theorem dX7_see_17 : decode cX7_see 17 = .ok (.if_icmp .eq 10, 3) := by decide +kernel
theorem dX7_see_20 : decode cX7_see 20 = .ok (.aload_n 0, 1) := by decide +kernel
theorem dX7_see_21 : decode cX7_see 21 = .ok (.getfield 37, 3) := by decide +kernel
theorem dX7_see_24 : decode cX7_see 24 = .ok (.invokevirtual 79, 3) := by decide +kernel
theorem dX7_see_27 : decode cX7_see 27 = .ok (.iload 5, 2) := by decide +kernel
theorem dX7_see_29 : decode cX7_see 29 = .ok (.ireturn, 1) := by decide +kernel
theorem dX7_close_0 : decode cX7_close 0 = .ok (.aload_n 0, 1) := by decide +kernel
theorem dX7_close_1 : decode cX7_close 1 = .ok (.getfield 46, 3) := by decide +kernel
theorem dX7_close_4 : decode cX7_close 4 = .ok (.aload_n 0, 1) := by decide +kernel
theorem dX7_close_5 : decode cX7_close 5 = .ok (.getfield 64, 3) := by decide +kernel
theorem dX7_close_8 : decode cX7_close 8 = .ok (.invokevirtual 107, 3) := by decide +kernel
theorem dX7_close_11 : decode cX7_close 11 = .ok (.aload_n 0, 1) := by decide +kernel
theorem dX7_close_12 : decode cX7_close 12 = .ok (.getfield 28, 3) := by decide +kernel
theorem dX7_close_15 : decode cX7_close 15 = .ok (.getfield 111, 3) := by decide +kernel
theorem dX7_close_18 : decode cX7_close 18 = .ok (.istore_n 1, 1) := by decide +kernel
theorem dX7_close_19 : decode cX7_close 19 = .ok (.aload_n 0, 1) := by decide +kernel
theorem dX7_close_20 : decode cX7_close 20 = .ok (.getfield 28, 3) := by decide +kernel
theorem dX7_close_23 : decode cX7_close 23 = .ok (.iconst 0, 1) := by decide +kernel
theorem dX7_close_24 : decode cX7_close 24 = .ok (.putfield 111, 3) := by decide +kernel
theorem dX7_close_27 : decode cX7_close 27 = .ok (.aload_n 0, 1) := by decide +kernel
theorem dX7_close_28 : decode cX7_close 28 = .ok (.getfield 37, 3) := by decide +kernel
theorem dX7_close_31 : decode cX7_close 31 = .ok (.invokevirtual 79, 3) := by decide +kernel
theorem dX7_close_34 : decode cX7_close 34 = .ok (.iload_n 1, 1) := by decide +kernel
theorem dX7_close_35 : decode cX7_close 35 = .ok (.ireturn, 1) := by decide +kernel
theorem dX7_error_0 : decode cX7_error 0 = .ok (.aload_n 0, 1) := by decide +kernel
theorem dX7_error_1 : decode cX7_error 1 = .ok (.getfield 28, 3) := by decide +kernel
theorem dX7_error_4 : decode cX7_error 4 = .ok (.iload_n 1, 1) := by decide +kernel
theorem dX7_error_5 : decode cX7_error 5 = .ok (.iload_n 2, 1) := by decide +kernel
theorem dX7_error_6 : decode cX7_error 6 = .ok (.invokevirtual 114, 3) := by decide +kernel
theorem dX7_error_9 : decode cX7_error 9 = .ok (.ireturn, 1) := by decide +kernel
theorem dX7_whose_0 : decode cX7_whose 0 = .ok (.aload_n 0, 1) := by decide +kernel
theorem dX7_whose_1 : decode cX7_whose 1 = .ok (.getfield 37, 3) := by decide +kernel
theorem dX7_whose_4 : decode cX7_whose 4 = .ok (.iload_n 1, 1) := by decide +kernel
theorem dX7_whose_5 : decode cX7_whose 5 = .ok (.invokevirtual 117, 3) := by decide +kernel
theorem dX7_whose_8 : decode cX7_whose 8 = .ok (.ireturn, 1) := by decide +kernel
theorem dX7_cost_0 : decode cX7_cost 0 = .ok (.aload_n 0, 1) := by decide +kernel
theorem dX7_cost_1 : decode cX7_cost 1 = .ok (.getfield 37, 3) := by decide +kernel
theorem dX7_cost_4 : decode cX7_cost 4 = .ok (.invokevirtual 121, 3) := by decide +kernel
theorem dX7_cost_7 : decode cX7_cost 7 = .ok (.ireturn, 1) := by decide +kernel
theorem dX7_terms_0 : decode cX7_terms 0 = .ok (.aload_n 0, 1) := by decide +kernel
theorem dX7_terms_1 : decode cX7_terms 1 = .ok (.getfield 46, 3) := by decide +kernel
theorem dX7_terms_4 : decode cX7_terms 4 = .ok (.iload_n 1, 1) := by decide +kernel
theorem dX7_terms_5 : decode cX7_terms 5 = .ok (.iload_n 2, 1) := by decide +kernel
theorem dX7_terms_6 : decode cX7_terms 6 = .ok (.invokevirtual 125, 3) := by decide +kernel
theorem dX7_terms_9 : decode cX7_terms 9 = .ok (.ireturn, 1) := by decide +kernel
theorem dX7_charge_0 : decode cX7_charge 0 = .ok (.aload_n 0, 1) := by decide +kernel
theorem dX7_charge_1 : decode cX7_charge 1 = .ok (.getfield 46, 3) := by decide +kernel
theorem dX7_charge_4 : decode cX7_charge 4 = .ok (.iload_n 1, 1) := by decide +kernel
theorem dX7_charge_5 : decode cX7_charge 5 = .ok (.iload_n 2, 1) := by decide +kernel
theorem dX7_charge_6 : decode cX7_charge 6 = .ok (.invokevirtual 129, 3) := by decide +kernel
theorem dX7_charge_9 : decode cX7_charge 9 = .ok (.ireturn, 1) := by decide +kernel
theorem dX7_balance_0 : decode cX7_balance 0 = .ok (.iload_n 1, 1) := by decide +kernel
theorem dX7_balance_1 : decode cX7_balance 1 = .ok (.invokestatic 90, 3) := by decide +kernel
theorem dX7_balance_4 : decode cX7_balance 4 = .ok (.ifCond .ne 5, 3) := by decide +kernel
theorem dX7_balance_7 : decode cX7_balance 7 = .ok (.iconst 0, 1) := by decide +kernel
theorem dX7_balance_8 : decode cX7_balance 8 = .ok (.ireturn, 1) := by decide +kernel
theorem dX7_balance_9 : decode cX7_balance 9 = .ok (.aload_n 0, 1) := by decide +kernel
theorem dX7_balance_10 : decode cX7_balance 10 = .ok (.invokevirtual 132, 3) := by decide +kernel
theorem dX7_balance_13 : decode cX7_balance 13 = .ok (.aload_n 0, 1) := by decide +kernel
theorem dX7_balance_14 : decode cX7_balance 14 = .ok (.getfield 68, 3) := by decide +kernel
theorem dX7_balance_17 : decode cX7_balance 17 = .ok (.iload_n 1, 1) := by decide +kernel
theorem dX7_balance_18 : decode cX7_balance 18 = .ok (.iaload, 1) := by decide +kernel
theorem dX7_balance_19 : decode cX7_balance 19 = .ok (.ireturn, 1) := by decide +kernel
theorem dX7_fewest_0 : decode cX7_fewest 0 = .ok (.aload_n 0, 1) := by decide +kernel
theorem dX7_fewest_1 : decode cX7_fewest 1 = .ok (.invokevirtual 132, 3) := by decide +kernel
theorem dX7_fewest_4 : decode cX7_fewest 4 = .ok (.aload_n 0, 1) := by decide +kernel
theorem dX7_fewest_5 : decode cX7_fewest 5 = .ok (.getfield 53, 3) := by decide +kernel
theorem dX7_fewest_8 : decode cX7_fewest 8 = .ok (.aload_n 0, 1) := by decide +kernel
theorem dX7_fewest_9 : decode cX7_fewest 9 = .ok (.getfield 68, 3) := by decide +kernel
theorem dX7_fewest_12 : decode cX7_fewest 12 = .ok (.invokevirtual 135, 3) := by decide +kernel
theorem dX7_fewest_15 : decode cX7_fewest 15 = .ok (.aload_n 0, 1) := by decide +kernel
theorem dX7_fewest_16 : decode cX7_fewest 16 = .ok (.getfield 53, 3) := by decide +kernel
theorem dX7_fewest_19 : decode cX7_fewest 19 = .ok (.invokevirtual 138, 3) := by decide +kernel
theorem dX7_fewest_22 : decode cX7_fewest 22 = .ok (.ireturn, 1) := by decide +kernel
theorem dX7_group_0 : decode cX7_group 0 = .ok (.iload_n 1, 1) := by decide +kernel
theorem dX7_group_1 : decode cX7_group 1 = .ok (.invokestatic 90, 3) := by decide +kernel
theorem dX7_group_4 : decode cX7_group 4 = .ok (.ifCond .ne 5, 3) := by decide +kernel
theorem dX7_group_7 : decode cX7_group 7 = .ok (.iconst 0, 1) := by decide +kernel
theorem dX7_group_8 : decode cX7_group 8 = .ok (.ireturn, 1) := by decide +kernel
theorem dX7_group_9 : decode cX7_group 9 = .ok (.aload_n 0, 1) := by decide +kernel
theorem dX7_group_10 : decode cX7_group 10 = .ok (.invokevirtual 132, 3) := by decide +kernel
theorem dX7_group_13 : decode cX7_group 13 = .ok (.aload_n 0, 1) := by decide +kernel
theorem dX7_group_14 : decode cX7_group 14 = .ok (.getfield 53, 3) := by decide +kernel
theorem dX7_group_17 : decode cX7_group 17 = .ok (.aload_n 0, 1) := by decide +kernel
theorem dX7_group_18 : decode cX7_group 18 = .ok (.getfield 68, 3) := by decide +kernel
theorem dX7_group_21 : decode cX7_group 21 = .ok (.invokevirtual 135, 3) := by decide +kernel
theorem dX7_group_24 : decode cX7_group 24 = .ok (.aload_n 0, 1) := by decide +kernel
theorem dX7_group_25 : decode cX7_group 25 = .ok (.getfield 53, 3) := by decide +kernel
theorem dX7_group_28 : decode cX7_group 28 = .ok (.iload_n 1, 1) := by decide +kernel
theorem dX7_group_29 : decode cX7_group 29 = .ok (.invokevirtual 141, 3) := by decide +kernel
theorem dX7_group_32 : decode cX7_group 32 = .ok (.ireturn, 1) := by decide +kernel
theorem dX7_empties_0 : decode cX7_empties 0 = .ok (.aload_n 0, 1) := by decide +kernel
theorem dX7_empties_1 : decode cX7_empties 1 = .ok (.getfield 60, 3) := by decide +kernel
theorem dX7_empties_4 : decode cX7_empties 4 = .ok (.iload_n 1, 1) := by decide +kernel
theorem dX7_empties_5 : decode cX7_empties 5 = .ok (.iload_n 2, 1) := by decide +kernel
theorem dX7_empties_6 : decode cX7_empties 6 = .ok (.iload_n 3, 1) := by decide +kernel
theorem dX7_empties_7 : decode cX7_empties 7 = .ok (.invokevirtual 144, 3) := by decide +kernel
theorem dX7_empties_10 : decode cX7_empties 10 = .ok (.ireturn, 1) := by decide +kernel
theorem dX7_met_0 : decode cX7_met 0 = .ok (.aload_n 0, 1) := by decide +kernel
theorem dX7_met_1 : decode cX7_met 1 = .ok (.getfield 60, 3) := by decide +kernel
theorem dX7_met_4 : decode cX7_met 4 = .ok (.invokevirtual 147, 3) := by decide +kernel
theorem dX7_met_7 : decode cX7_met 7 = .ok (.aload_n 0, 1) := by decide +kernel
theorem dX7_met_8 : decode cX7_met 8 = .ok (.getfield 60, 3) := by decide +kernel
theorem dX7_met_11 : decode cX7_met 11 = .ok (.getfield 150, 3) := by decide +kernel
theorem dX7_met_14 : decode cX7_met 14 = .ok (.ireturn, 1) := by decide +kernel
theorem dX7_led_0 : decode cX7_led 0 = .ok (.aload_n 0, 1) := by decide +kernel
theorem dX7_led_1 : decode cX7_led 1 = .ok (.getfield 60, 3) := by decide +kernel
theorem dX7_led_4 : decode cX7_led 4 = .ok (.invokevirtual 147, 3) := by decide +kernel
theorem dX7_led_7 : decode cX7_led 7 = .ok (.aload_n 0, 1) := by decide +kernel
theorem dX7_led_8 : decode cX7_led 8 = .ok (.getfield 60, 3) := by decide +kernel
theorem dX7_led_11 : decode cX7_led 11 = .ok (.getfield 153, 3) := by decide +kernel
theorem dX7_led_14 : decode cX7_led 14 = .ok (.ireturn, 1) := by decide +kernel
theorem dX7_count_0 : decode cX7_count 0 = .ok (.iload_n 1, 1) := by decide +kernel
theorem dX7_count_1 : decode cX7_count 1 = .ok (.tableswitch 90 0 5 #[39, 47, 55, 63, 68, 79], 39) := by decide +kernel
theorem dX7_count_40 : decode cX7_count 40 = .ok (.aload_n 0, 1) := by decide +kernel
theorem dX7_count_41 : decode cX7_count 41 = .ok (.getfield 10, 3) := by decide +kernel
theorem dX7_count_44 : decode cX7_count 44 = .ok (.getfield 156, 3) := by decide +kernel
theorem dX7_count_47 : decode cX7_count 47 = .ok (.ireturn, 1) := by decide +kernel
theorem dX7_count_48 : decode cX7_count 48 = .ok (.aload_n 0, 1) := by decide +kernel
theorem dX7_count_49 : decode cX7_count 49 = .ok (.getfield 28, 3) := by decide +kernel
theorem dX7_count_52 : decode cX7_count 52 = .ok (.getfield 159, 3) := by decide +kernel
theorem dX7_count_55 : decode cX7_count 55 = .ok (.ireturn, 1) := by decide +kernel
theorem dX7_count_56 : decode cX7_count 56 = .ok (.aload_n 0, 1) := by decide +kernel
theorem dX7_count_57 : decode cX7_count 57 = .ok (.getfield 28, 3) := by decide +kernel
theorem dX7_count_60 : decode cX7_count 60 = .ok (.getfield 111, 3) := by decide +kernel
theorem dX7_count_63 : decode cX7_count 63 = .ok (.ireturn, 1) := by decide +kernel
theorem dX7_count_64 : decode cX7_count 64 = .ok (.aload_n 0, 1) := by decide +kernel
theorem dX7_count_65 : decode cX7_count 65 = .ok (.getfield 71, 3) := by decide +kernel
theorem dX7_count_68 : decode cX7_count 68 = .ok (.ireturn, 1) := by decide +kernel
theorem dX7_count_69 : decode cX7_count 69 = .ok (.aload_n 0, 1) := by decide +kernel
theorem dX7_count_70 : decode cX7_count 70 = .ok (.getfield 60, 3) := by decide +kernel
theorem dX7_count_73 : decode cX7_count 73 = .ok (.getfield 162, 3) := by decide +kernel
theorem dX7_count_76 : decode cX7_count 76 = .ok (.invokestatic 165, 3) := by decide +kernel
theorem dX7_count_79 : decode cX7_count 79 = .ok (.ireturn, 1) := by decide +kernel
theorem dX7_count_80 : decode cX7_count 80 = .ok (.aload_n 0, 1) := by decide +kernel
theorem dX7_count_81 : decode cX7_count 81 = .ok (.getfield 60, 3) := by decide +kernel
theorem dX7_count_84 : decode cX7_count 84 = .ok (.getfield 169, 3) := by decide +kernel
theorem dX7_count_87 : decode cX7_count 87 = .ok (.invokestatic 165, 3) := by decide +kernel
theorem dX7_count_90 : decode cX7_count 90 = .ok (.ireturn, 1) := by decide +kernel
theorem dX7_count_91 : decode cX7_count 91 = .ok (.iconst (-1), 1) := by decide +kernel
theorem dX7_count_92 : decode cX7_count 92 = .ok (.ireturn, 1) := by decide +kernel
theorem dX7_strikeBalances_0 : decode cX7_strikeBalances 0 = .ok (.aload_n 0, 1) := by decide +kernel
theorem dX7_strikeBalances_1 : decode cX7_strikeBalances 1 = .ok (.getfield 64, 3) := by decide +kernel
theorem dX7_strikeBalances_4 : decode cX7_strikeBalances 4 = .ok (.iconst 0, 1) := by decide +kernel
theorem dX7_strikeBalances_5 : decode cX7_strikeBalances 5 = .ok (.aload_n 0, 1) := by decide +kernel
theorem dX7_strikeBalances_6 : decode cX7_strikeBalances 6 = .ok (.getfield 68, 3) := by decide +kernel
theorem dX7_strikeBalances_9 : decode cX7_strikeBalances 9 = .ok (.iconst 0, 1) := by decide +kernel
theorem dX7_strikeBalances_10 : decode cX7_strikeBalances 10 = .ok (.bipush 8, 2) := by decide +kernel
theorem dX7_strikeBalances_12 : decode cX7_strikeBalances 12 = .ok (.invokestatic 172, 3) := by decide +kernel
theorem dX7_strikeBalances_15 : decode cX7_strikeBalances 15 = .ok (.aload_n 0, 1) := by decide +kernel
theorem dX7_strikeBalances_16 : decode cX7_strikeBalances 16 = .ok (.getfield 46, 3) := by decide +kernel
theorem dX7_strikeBalances_19 : decode cX7_strikeBalances 19 = .ok (.aload_n 0, 1) := by decide +kernel
theorem dX7_strikeBalances_20 : decode cX7_strikeBalances 20 = .ok (.getfield 68, 3) := by decide +kernel
theorem dX7_strikeBalances_23 : decode cX7_strikeBalances 23 = .ok (.invokevirtual 107, 3) := by decide +kernel
theorem dX7_strikeBalances_26 : decode cX7_strikeBalances 26 = .ok (.return_, 1) := by decide +kernel
theorem dX7_isWithin_0 : decode cX7_isWithin 0 = .ok (.iload_n 0, 1) := by decide +kernel
theorem dX7_isWithin_1 : decode cX7_isWithin 1 = .ok (.iload_n 1, 1) := by decide +kernel
theorem dX7_isWithin_2 : decode cX7_isWithin 2 = .ok (.if_icmp .lt 12, 3) := by decide +kernel
theorem dX7_isWithin_5 : decode cX7_isWithin 5 = .ok (.iload_n 0, 1) := by decide +kernel
theorem dX7_isWithin_6 : decode cX7_isWithin 6 = .ok (.iload_n 2, 1) := by decide +kernel
theorem dX7_isWithin_7 : decode cX7_isWithin 7 = .ok (.if_icmp .gt 7, 3) := by decide +kernel
theorem dX7_isWithin_10 : decode cX7_isWithin 10 = .ok (.iconst 1, 1) := by decide +kernel
theorem dX7_isWithin_11 : decode cX7_isWithin 11 = .ok (.goto 4, 3) := by decide +kernel
theorem dX7_isWithin_14 : decode cX7_isWithin 14 = .ok (.iconst 0, 1) := by decide +kernel
theorem dX7_isWithin_15 : decode cX7_isWithin 15 = .ok (.ireturn, 1) := by decide +kernel
theorem dX7_isCompany_0 : decode cX7_isCompany 0 = .ok (.iload_n 0, 1) := by decide +kernel
theorem dX7_isCompany_1 : decode cX7_isCompany 1 = .ok (.ifCond .lt 13, 3) := by decide +kernel
theorem dX7_isCompany_4 : decode cX7_isCompany 4 = .ok (.iload_n 0, 1) := by decide +kernel
theorem dX7_isCompany_5 : decode cX7_isCompany 5 = .ok (.bipush 8, 2) := by decide +kernel
theorem dX7_isCompany_7 : decode cX7_isCompany 7 = .ok (.if_icmp .ge 7, 3) := by decide +kernel
theorem dX7_isCompany_10 : decode cX7_isCompany 10 = .ok (.iconst 1, 1) := by decide +kernel
theorem dX7_isCompany_11 : decode cX7_isCompany 11 = .ok (.goto 4, 3) := by decide +kernel
theorem dX7_isCompany_14 : decode cX7_isCompany 14 = .ok (.iconst 0, 1) := by decide +kernel
theorem dX7_isCompany_15 : decode cX7_isCompany 15 = .ok (.ireturn, 1) := by decide +kernel
theorem dX7_isJunction_0 : decode cX7_isJunction 0 = .ok (.iload_n 0, 1) := by decide +kernel
theorem dX7_isJunction_1 : decode cX7_isJunction 1 = .ok (.ifCond .lt 13, 3) := by decide +kernel
theorem dX7_isJunction_4 : decode cX7_isJunction 4 = .ok (.iload_n 0, 1) := by decide +kernel
theorem dX7_isJunction_5 : decode cX7_isJunction 5 = .ok (.bipush 12, 2) := by decide +kernel
theorem dX7_isJunction_7 : decode cX7_isJunction 7 = .ok (.if_icmp .ge 7, 3) := by decide +kernel
theorem dX7_isJunction_10 : decode cX7_isJunction 10 = .ok (.iconst 1, 1) := by decide +kernel
theorem dX7_isJunction_11 : decode cX7_isJunction 11 = .ok (.goto 4, 3) := by decide +kernel
theorem dX7_isJunction_14 : decode cX7_isJunction 14 = .ok (.iconst 0, 1) := by decide +kernel
theorem dX7_isJunction_15 : decode cX7_isJunction 15 = .ok (.ireturn, 1) := by decide +kernel
theorem dX7_isMark_0 : decode cX7_isMark 0 = .ok (.iload_n 0, 1) := by decide +kernel
theorem dX7_isMark_1 : decode cX7_isMark 1 = .ok (.sipush 10000, 3) := by decide +kernel
theorem dX7_isMark_4 : decode cX7_isMark 4 = .ok (.ldc 178, 2) := by decide +kernel
theorem dX7_isMark_6 : decode cX7_isMark 6 = .ok (.invokestatic 179, 3) := by decide +kernel
theorem dX7_isMark_9 : decode cX7_isMark 9 = .ok (.ireturn, 1) := by decide +kernel
theorem dX7_sumOf_0 : decode cX7_sumOf 0 = .ok (.iconst 0, 1) := by decide +kernel
theorem dX7_sumOf_1 : decode cX7_sumOf 1 = .ok (.istore_n 1, 1) := by decide +kernel
theorem dX7_sumOf_2 : decode cX7_sumOf 2 = .ok (.iconst 0, 1) := by decide +kernel
theorem dX7_sumOf_3 : decode cX7_sumOf 3 = .ok (.istore_n 2, 1) := by decide +kernel
theorem dX7_sumOf_4 : decode cX7_sumOf 4 = .ok (.iload_n 2, 1) := by decide +kernel
theorem dX7_sumOf_5 : decode cX7_sumOf 5 = .ok (.aload_n 0, 1) := by decide +kernel
theorem dX7_sumOf_6 : decode cX7_sumOf 6 = .ok (.arraylength, 1) := by decide +kernel
theorem dX7_sumOf_7 : decode cX7_sumOf 7 = .ok (.if_icmp .ge 15, 3) := by decide +kernel
theorem dX7_sumOf_10 : decode cX7_sumOf 10 = .ok (.iload_n 1, 1) := by decide +kernel
theorem dX7_sumOf_11 : decode cX7_sumOf 11 = .ok (.aload_n 0, 1) := by decide +kernel
theorem dX7_sumOf_12 : decode cX7_sumOf 12 = .ok (.iload_n 2, 1) := by decide +kernel
theorem dX7_sumOf_13 : decode cX7_sumOf 13 = .ok (.iaload, 1) := by decide +kernel
theorem dX7_sumOf_14 : decode cX7_sumOf 14 = .ok (.iadd, 1) := by decide +kernel
theorem dX7_sumOf_15 : decode cX7_sumOf 15 = .ok (.istore_n 1, 1) := by decide +kernel
theorem dX7_sumOf_16 : decode cX7_sumOf 16 = .ok (.iinc 2 1, 3) := by decide +kernel
theorem dX7_sumOf_19 : decode cX7_sumOf 19 = .ok (.goto (-15), 3) := by decide +kernel
theorem dX7_sumOf_22 : decode cX7_sumOf 22 = .ok (.iload_n 1, 1) := by decide +kernel
theorem dX7_sumOf_23 : decode cX7_sumOf 23 = .ok (.ireturn, 1) := by decide +kernel
theorem dX8_init_0 : decode cX8_init 0 = .ok (.aload_n 0, 1) := by decide +kernel
theorem dX8_init_1 : decode cX8_init 1 = .ok (.invokespecial 1, 3) := by decide +kernel
theorem dX8_init_4 : decode cX8_init 4 = .ok (.aload_n 0, 1) := by decide +kernel
theorem dX8_init_5 : decode cX8_init 5 = .ok (.bipush 24, 2) := by decide +kernel
theorem dX8_init_7 : decode cX8_init 7 = .ok (.newarray .int, 2) := by decide +kernel
theorem dX8_init_9 : decode cX8_init 9 = .ok (.putfield 9, 3) := by decide +kernel
theorem dX8_init_12 : decode cX8_init 12 = .ok (.aload_n 0, 1) := by decide +kernel
theorem dX8_init_13 : decode cX8_init 13 = .ok (.bipush 24, 2) := by decide +kernel
theorem dX8_init_15 : decode cX8_init 15 = .ok (.newarray .int, 2) := by decide +kernel
theorem dX8_init_17 : decode cX8_init 17 = .ok (.putfield 13, 3) := by decide +kernel
theorem dX8_init_20 : decode cX8_init 20 = .ok (.aload_n 0, 1) := by decide +kernel
theorem dX8_init_21 : decode cX8_init 21 = .ok (.bipush 24, 2) := by decide +kernel
theorem dX8_init_23 : decode cX8_init 23 = .ok (.newarray .int, 2) := by decide +kernel
theorem dX8_init_25 : decode cX8_init 25 = .ok (.putfield 16, 3) := by decide +kernel
theorem dX8_init_28 : decode cX8_init 28 = .ok (.aload_n 0, 1) := by decide +kernel
theorem dX8_init_29 : decode cX8_init 29 = .ok (.bipush 24, 2) := by decide +kernel
theorem dX8_init_31 : decode cX8_init 31 = .ok (.newarray .int, 2) := by decide +kernel
theorem dX8_init_33 : decode cX8_init 33 = .ok (.putfield 19, 3) := by decide +kernel
theorem dX8_init_36 : decode cX8_init 36 = .ok (.aload_n 0, 1) := by decide +kernel
theorem dX8_init_37 : decode cX8_init 37 = .ok (.sipush 144, 3) := by decide +kernel
theorem dX8_init_40 : decode cX8_init 40 = .ok (.newarray .int, 2) := by decide +kernel
theorem dX8_init_42 : decode cX8_init 42 = .ok (.putfield 22, 3) := by decide +kernel
theorem dX8_init_45 : decode cX8_init 45 = .ok (.aload_n 0, 1) := by decide +kernel
theorem dX8_init_46 : decode cX8_init 46 = .ok (.iconst 4, 1) := by decide +kernel
theorem dX8_init_47 : decode cX8_init 47 = .ok (.newarray .int, 2) := by decide +kernel
theorem dX8_init_49 : decode cX8_init 49 = .ok (.putfield 25, 3) := by decide +kernel
theorem dX8_init_52 : decode cX8_init 52 = .ok (.aload_n 0, 1) := by decide +kernel
theorem dX8_init_53 : decode cX8_init 53 = .ok (.iconst 4, 1) := by decide +kernel
theorem dX8_init_54 : decode cX8_init 54 = .ok (.newarray .int, 2) := by decide +kernel
theorem dX8_init_56 : decode cX8_init 56 = .ok (.putfield 28, 3) := by decide +kernel
theorem dX8_init_59 : decode cX8_init 59 = .ok (.aload_n 0, 1) := by decide +kernel
theorem dX8_init_60 : decode cX8_init 60 = .ok (.bipush 7, 2) := by decide +kernel
theorem dX8_init_62 : decode cX8_init 62 = .ok (.newarray .int, 2) := by decide +kernel
theorem dX8_init_64 : decode cX8_init 64 = .ok (.putfield 31, 3) := by decide +kernel
theorem dX8_init_67 : decode cX8_init 67 = .ok (.aload_n 0, 1) := by decide +kernel
theorem dX8_init_68 : decode cX8_init 68 = .ok (.bipush 7, 2) := by decide +kernel
theorem dX8_init_70 : decode cX8_init 70 = .ok (.newarray .int, 2) := by decide +kernel
theorem dX8_init_72 : decode cX8_init 72 = .ok (.putfield 34, 3) := by decide +kernel
theorem dX8_init_75 : decode cX8_init 75 = .ok (.aload_n 0, 1) := by decide +kernel
theorem dX8_init_76 : decode cX8_init 76 = .ok (.bipush 7, 2) := by decide +kernel
theorem dX8_init_78 : decode cX8_init 78 = .ok (.newarray .int, 2) := by decide +kernel
theorem dX8_init_80 : decode cX8_init 80 = .ok (.putfield 37, 3) := by decide +kernel
theorem dX8_init_83 : decode cX8_init 83 = .ok (.aload_n 0, 1) := by decide +kernel
theorem dX8_init_84 : decode cX8_init 84 = .ok (.bipush 7, 2) := by decide +kernel
theorem dX8_init_86 : decode cX8_init 86 = .ok (.newarray .int, 2) := by decide +kernel
theorem dX8_init_88 : decode cX8_init 88 = .ok (.putfield 40, 3) := by decide +kernel
theorem dX8_init_91 : decode cX8_init 91 = .ok (.aload_n 0, 1) := by decide +kernel
theorem dX8_init_92 : decode cX8_init 92 = .ok (.iconst 2, 1) := by decide +kernel
theorem dX8_init_93 : decode cX8_init 93 = .ok (.putfield 43, 3) := by decide +kernel
theorem dX8_init_96 : decode cX8_init 96 = .ok (.aload_n 0, 1) := by decide +kernel
theorem dX8_init_97 : decode cX8_init 97 = .ok (.bipush 10, 2) := by decide +kernel
theorem dX8_init_99 : decode cX8_init 99 = .ok (.putfield 47, 3) := by decide +kernel
theorem dX8_init_102 : decode cX8_init 102 = .ok (.aload_n 0, 1) := by decide +kernel
theorem dX8_init_103 : decode cX8_init 103 = .ok (.bipush 8, 2) := by decide +kernel
theorem dX8_init_105 : decode cX8_init 105 = .ok (.newarray .int, 2) := by decide +kernel
theorem dX8_init_107 : decode cX8_init 107 = .ok (.putfield 50, 3) := by decide +kernel
theorem dX8_init_110 : decode cX8_init 110 = .ok (.aload_n 0, 1) := by decide +kernel
theorem dX8_init_111 : decode cX8_init 111 = .ok (.bipush 12, 2) := by decide +kernel
theorem dX8_init_113 : decode cX8_init 113 = .ok (.newarray .int, 2) := by decide +kernel
theorem dX8_init_115 : decode cX8_init 115 = .ok (.putfield 53, 3) := by decide +kernel
theorem dX8_init_118 : decode cX8_init 118 = .ok (.aload_n 0, 1) := by decide +kernel
theorem dX8_init_119 : decode cX8_init 119 = .ok (.bipush 12, 2) := by decide +kernel
theorem dX8_init_121 : decode cX8_init 121 = .ok (.newarray .int, 2) := by decide +kernel
theorem dX8_init_123 : decode cX8_init 123 = .ok (.putfield 56, 3) := by decide +kernel
theorem dX8_init_126 : decode cX8_init 126 = .ok (.aload_n 0, 1) := by decide +kernel
theorem dX8_init_127 : decode cX8_init 127 = .ok (.bipush 8, 2) := by decide +kernel
theorem dX8_init_129 : decode cX8_init 129 = .ok (.newarray .int, 2) := by decide +kernel
theorem dX8_init_131 : decode cX8_init 131 = .ok (.putfield 59, 3) := by decide +kernel
theorem dX8_init_134 : decode cX8_init 134 = .ok (.aload_n 0, 1) := by decide +kernel
theorem dX8_init_135 : decode cX8_init 135 = .ok (.bipush 8, 2) := by decide +kernel
theorem dX8_init_137 : decode cX8_init 137 = .ok (.newarray .int, 2) := by decide +kernel
theorem dX8_init_139 : decode cX8_init 139 = .ok (.putfield 62, 3) := by decide +kernel
theorem dX8_init_142 : decode cX8_init 142 = .ok (.aload_n 0, 1) := by decide +kernel
theorem dX8_init_143 : decode cX8_init 143 = .ok (.bipush 8, 2) := by decide +kernel
theorem dX8_init_145 : decode cX8_init 145 = .ok (.newarray .long, 2) := by decide +kernel
theorem dX8_init_147 : decode cX8_init 147 = .ok (.putfield 65, 3) := by decide +kernel
theorem dX8_init_150 : decode cX8_init 150 = .ok (.aload_n 0, 1) := by decide +kernel
theorem dX8_init_151 : decode cX8_init 151 = .ok (.bipush 7, 2) := by decide +kernel
theorem dX8_init_153 : decode cX8_init 153 = .ok (.newarray .int, 2) := by decide +kernel
theorem dX8_init_155 : decode cX8_init 155 = .ok (.putfield 69, 3) := by decide +kernel
theorem dX8_init_158 : decode cX8_init 158 = .ok (.aload_n 0, 1) := by decide +kernel
theorem dX8_init_159 : decode cX8_init 159 = .ok (.bipush 7, 2) := by decide +kernel
theorem dX8_init_161 : decode cX8_init 161 = .ok (.newarray .int, 2) := by decide +kernel
theorem dX8_init_163 : decode cX8_init 163 = .ok (.putfield 72, 3) := by decide +kernel
theorem dX8_init_166 : decode cX8_init 166 = .ok (.aload_n 0, 1) := by decide +kernel
theorem dX8_init_167 : decode cX8_init 167 = .ok (.bipush 8, 2) := by decide +kernel
theorem dX8_init_169 : decode cX8_init 169 = .ok (.newarray .int, 2) := by decide +kernel
theorem dX8_init_171 : decode cX8_init 171 = .ok (.putfield 75, 3) := by decide +kernel
theorem dX8_init_174 : decode cX8_init 174 = .ok (.aload_n 0, 1) := by decide +kernel
theorem dX8_init_175 : decode cX8_init 175 = .ok (.sipush 256, 3) := by decide +kernel
theorem dX8_init_178 : decode cX8_init 178 = .ok (.newarray .int, 2) := by decide +kernel
theorem dX8_init_180 : decode cX8_init 180 = .ok (.putfield 78, 3) := by decide +kernel
theorem dX8_init_183 : decode cX8_init 183 = .ok (.aload_n 0, 1) := by decide +kernel
theorem dX8_init_184 : decode cX8_init 184 = .ok (.sipush 144, 3) := by decide +kernel
theorem dX8_init_187 : decode cX8_init 187 = .ok (.newarray .int, 2) := by decide +kernel
theorem dX8_init_189 : decode cX8_init 189 = .ok (.putfield 81, 3) := by decide +kernel
theorem dX8_init_192 : decode cX8_init 192 = .ok (.aload_n 0, 1) := by decide +kernel
theorem dX8_init_193 : decode cX8_init 193 = .ok (.bipush 24, 2) := by decide +kernel
theorem dX8_init_195 : decode cX8_init 195 = .ok (.newarray .int, 2) := by decide +kernel
theorem dX8_init_197 : decode cX8_init 197 = .ok (.putfield 84, 3) := by decide +kernel
theorem dX8_init_200 : decode cX8_init 200 = .ok (.aload_n 0, 1) := by decide +kernel
theorem dX8_init_201 : decode cX8_init 201 = .ok (.bipush 24, 2) := by decide +kernel
theorem dX8_init_203 : decode cX8_init 203 = .ok (.newarray .int, 2) := by decide +kernel
theorem dX8_init_205 : decode cX8_init 205 = .ok (.putfield 87, 3) := by decide +kernel
theorem dX8_init_208 : decode cX8_init 208 = .ok (.aload_n 0, 1) := by decide +kernel
theorem dX8_init_209 : decode cX8_init 209 = .ok (.invokevirtual 90, 3) := by decide +kernel
theorem dX8_init_212 : decode cX8_init 212 = .ok (.return_, 1) := by decide +kernel
theorem dX8_in_0 : decode cX8_in 0 = .ok (.iload_n 0, 1) := by decide +kernel
theorem dX8_in_1 : decode cX8_in 1 = .ok (.iload_n 1, 1) := by decide +kernel
theorem dX8_in_2 : decode cX8_in 2 = .ok (.if_icmp .lt 12, 3) := by decide +kernel
theorem dX8_in_5 : decode cX8_in 5 = .ok (.iload_n 0, 1) := by decide +kernel
theorem dX8_in_6 : decode cX8_in 6 = .ok (.iload_n 2, 1) := by decide +kernel
theorem dX8_in_7 : decode cX8_in 7 = .ok (.if_icmp .gt 7, 3) := by decide +kernel
theorem dX8_in_10 : decode cX8_in 10 = .ok (.iconst 1, 1) := by decide +kernel
theorem dX8_in_11 : decode cX8_in 11 = .ok (.goto 4, 3) := by decide +kernel
theorem dX8_in_14 : decode cX8_in 14 = .ok (.iconst 0, 1) := by decide +kernel
theorem dX8_in_15 : decode cX8_in 15 = .ok (.ireturn, 1) := by decide +kernel
theorem dX8_isJunction_0 : decode cX8_isJunction 0 = .ok (.iload_n 0, 1) := by decide +kernel
theorem dX8_isJunction_1 : decode cX8_isJunction 1 = .ok (.iconst 0, 1) := by decide +kernel
theorem dX8_isJunction_2 : decode cX8_isJunction 2 = .ok (.bipush 11, 2) := by decide +kernel
theorem dX8_isJunction_4 : decode cX8_isJunction 4 = .ok (.invokestatic 93, 3) := by decide +kernel
theorem dX8_isJunction_7 : decode cX8_isJunction 7 = .ok (.ireturn, 1) := by decide +kernel
theorem dX8_isCompany_0 : decode cX8_isCompany 0 = .ok (.iload_n 0, 1) := by decide +kernel
theorem dX8_isCompany_1 : decode cX8_isCompany 1 = .ok (.iconst 0, 1) := by decide +kernel
theorem dX8_isCompany_2 : decode cX8_isCompany 2 = .ok (.bipush 7, 2) := by decide +kernel
theorem dX8_isCompany_4 : decode cX8_isCompany 4 = .ok (.invokestatic 93, 3) := by decide +kernel
theorem dX8_isCompany_7 : decode cX8_isCompany 7 = .ok (.ireturn, 1) := by decide +kernel
theorem dX8_reckons_0 : decode cX8_reckons 0 = .ok (.iconst 0, 1) := by decide +kernel
theorem dX8_reckons_1 : decode cX8_reckons 1 = .ok (.istore_n 1, 1) := by decide +kernel
theorem dX8_reckons_2 : decode cX8_reckons 2 = .ok (.iload_n 1, 1) := by decide +kernel
theorem dX8_reckons_3 : decode cX8_reckons 3 = .ok (.sipush 144, 3) := by decide +kernel
theorem dX8_reckons_6 : decode cX8_reckons 6 = .ok (.if_icmp .ge 28, 3) := by decide +kernel
theorem dX8_reckons_9 : decode cX8_reckons 9 = .ok (.aload_n 0, 1) := by decide +kernel
theorem dX8_reckons_10 : decode cX8_reckons 10 = .ok (.getfield 22, 3) := by decide +kernel
theorem dX8_reckons_13 : decode cX8_reckons 13 = .ok (.iload_n 1, 1) := by decide +kernel
theorem dX8_reckons_14 : decode cX8_reckons 14 = .ok (.iload_n 1, 1) := by decide +kernel
theorem dX8_reckons_15 : decode cX8_reckons 15 = .ok (.bipush 13, 2) := by decide +kernel
theorem dX8_reckons_17 : decode cX8_reckons 17 = .ok (.irem, 1) := by decide +kernel
theorem dX8_reckons_18 : decode cX8_reckons 18 = .ok (.ifCond .ne 7, 3) := by decide +kernel
theorem dX8_reckons_21 : decode cX8_reckons 21 = .ok (.iconst 0, 1) := by decide +kernel
theorem dX8_reckons_22 : decode cX8_reckons 22 = .ok (.goto 5, 3) := by decide +kernel
theorem dX8_reckons_25 : decode cX8_reckons 25 = .ok (.ldc 97, 2) := by decide +kernel
theorem dX8_reckons_27 : decode cX8_reckons 27 = .ok (.iastore, 1) := by decide +kernel
theorem dX8_reckons_28 : decode cX8_reckons 28 = .ok (.iinc 1 1, 3) := by decide +kernel
theorem dX8_reckons_31 : decode cX8_reckons 31 = .ok (.goto (-29), 3) := by decide +kernel
theorem dX8_reckons_34 : decode cX8_reckons 34 = .ok (.iconst 1, 1) := by decide +kernel
theorem dX8_reckons_35 : decode cX8_reckons 35 = .ok (.istore_n 1, 1) := by decide +kernel
theorem dX8_reckons_36 : decode cX8_reckons 36 = .ok (.iload_n 1, 1) := by decide +kernel
theorem dX8_reckons_37 : decode cX8_reckons 37 = .ok (.ifCond .eq 158, 3) := by decide +kernel
theorem dX8_reckons_40 : decode cX8_reckons 40 = .ok (.iconst 0, 1) := by decide +kernel
theorem dX8_reckons_41 : decode cX8_reckons 41 = .ok (.istore_n 1, 1) := by decide +kernel
theorem dX8_reckons_42 : decode cX8_reckons 42 = .ok (.iconst 0, 1) := by decide +kernel
theorem dX8_reckons_43 : decode cX8_reckons 43 = .ok (.istore_n 2, 1) := by decide +kernel
theorem dX8_reckons_44 : decode cX8_reckons 44 = .ok (.iload_n 2, 1) := by decide +kernel
theorem dX8_reckons_45 : decode cX8_reckons 45 = .ok (.aload_n 0, 1) := by decide +kernel
theorem dX8_reckons_46 : decode cX8_reckons 46 = .ok (.getfield 98, 3) := by decide +kernel
theorem dX8_reckons_49 : decode cX8_reckons 49 = .ok (.if_icmp .ge 143, 3) := by decide +kernel
theorem dX8_reckons_52 : decode cX8_reckons 52 = .ok (.iconst 0, 1) := by decide +kernel
theorem dX8_reckons_53 : decode cX8_reckons 53 = .ok (.istore_n 3, 1) := by decide +kernel
theorem dX8_reckons_54 : decode cX8_reckons 54 = .ok (.iload_n 3, 1) := by decide +kernel
theorem dX8_reckons_55 : decode cX8_reckons 55 = .ok (.bipush 12, 2) := by decide +kernel
theorem dX8_reckons_57 : decode cX8_reckons 57 = .ok (.if_icmp .ge 129, 3) := by decide +kernel
theorem dX8_reckons_60 : decode cX8_reckons 60 = .ok (.bipush 12, 2) := by decide +kernel
theorem dX8_reckons_62 : decode cX8_reckons 62 = .ok (.aload_n 0, 1) := by decide +kernel
theorem dX8_reckons_63 : decode cX8_reckons 63 = .ok (.getfield 9, 3) := by decide +kernel
theorem dX8_reckons_66 : decode cX8_reckons 66 = .ok (.iload_n 2, 1) := by decide +kernel
theorem dX8_reckons_67 : decode cX8_reckons 67 = .ok (.iaload, 1) := by decide +kernel
theorem dX8_reckons_68 : decode cX8_reckons 68 = .ok (.imul, 1) := by decide +kernel
theorem dX8_reckons_69 : decode cX8_reckons 69 = .ok (.iload_n 3, 1) := by decide +kernel
theorem dX8_reckons_70 : decode cX8_reckons 70 = .ok (.iadd, 1) := by decide +kernel
theorem dX8_reckons_71 : decode cX8_reckons 71 = .ok (.istore 4, 2) := by decide +kernel
theorem dX8_reckons_73 : decode cX8_reckons 73 = .ok (.bipush 12, 2) := by decide +kernel
theorem dX8_reckons_75 : decode cX8_reckons 75 = .ok (.aload_n 0, 1) := by decide +kernel
theorem dX8_reckons_76 : decode cX8_reckons 76 = .ok (.getfield 13, 3) := by decide +kernel
theorem dX8_reckons_79 : decode cX8_reckons 79 = .ok (.iload_n 2, 1) := by decide +kernel
theorem dX8_reckons_80 : decode cX8_reckons 80 = .ok (.iaload, 1) := by decide +kernel
theorem dX8_reckons_81 : decode cX8_reckons 81 = .ok (.imul, 1) := by decide +kernel
theorem dX8_reckons_82 : decode cX8_reckons 82 = .ok (.iload_n 3, 1) := by decide +kernel
theorem dX8_reckons_83 : decode cX8_reckons 83 = .ok (.iadd, 1) := by decide +kernel
theorem dX8_reckons_84 : decode cX8_reckons 84 = .ok (.istore 5, 2) := by decide +kernel
theorem dX8_reckons_86 : decode cX8_reckons 86 = .ok (.aload_n 0, 1) := by decide +kernel
theorem dX8_reckons_87 : decode cX8_reckons 87 = .ok (.getfield 22, 3) := by decide +kernel
theorem dX8_reckons_90 : decode cX8_reckons 90 = .ok (.iload 5, 2) := by decide +kernel
theorem dX8_reckons_92 : decode cX8_reckons 92 = .ok (.iaload, 1) := by decide +kernel
theorem dX8_reckons_93 : decode cX8_reckons 93 = .ok (.aload_n 0, 1) := by decide +kernel
theorem dX8_reckons_94 : decode cX8_reckons 94 = .ok (.getfield 19, 3) := by decide +kernel
theorem dX8_reckons_97 : decode cX8_reckons 97 = .ok (.iload_n 2, 1) := by decide +kernel
theorem dX8_reckons_98 : decode cX8_reckons 98 = .ok (.iaload, 1) := by decide +kernel
theorem dX8_reckons_99 : decode cX8_reckons 99 = .ok (.iadd, 1) := by decide +kernel
theorem dX8_reckons_100 : decode cX8_reckons 100 = .ok (.aload_n 0, 1) := by decide +kernel
theorem dX8_reckons_101 : decode cX8_reckons 101 = .ok (.getfield 22, 3) := by decide +kernel
theorem dX8_reckons_104 : decode cX8_reckons 104 = .ok (.iload 4, 2) := by decide +kernel
theorem dX8_reckons_106 : decode cX8_reckons 106 = .ok (.iaload, 1) := by decide +kernel
theorem dX8_reckons_107 : decode cX8_reckons 107 = .ok (.if_icmp .ge 26, 3) := by decide +kernel
theorem dX8_reckons_110 : decode cX8_reckons 110 = .ok (.aload_n 0, 1) := by decide +kernel
theorem dX8_reckons_111 : decode cX8_reckons 111 = .ok (.getfield 22, 3) := by decide +kernel
theorem dX8_reckons_114 : decode cX8_reckons 114 = .ok (.iload 4, 2) := by decide +kernel
theorem dX8_reckons_116 : decode cX8_reckons 116 = .ok (.aload_n 0, 1) := by decide +kernel
theorem dX8_reckons_117 : decode cX8_reckons 117 = .ok (.getfield 22, 3) := by decide +kernel
theorem dX8_reckons_120 : decode cX8_reckons 120 = .ok (.iload 5, 2) := by decide +kernel
theorem dX8_reckons_122 : decode cX8_reckons 122 = .ok (.iaload, 1) := by decide +kernel
theorem dX8_reckons_123 : decode cX8_reckons 123 = .ok (.aload_n 0, 1) := by decide +kernel
theorem dX8_reckons_124 : decode cX8_reckons 124 = .ok (.getfield 19, 3) := by decide +kernel
theorem dX8_reckons_127 : decode cX8_reckons 127 = .ok (.iload_n 2, 1) := by decide +kernel
theorem dX8_reckons_128 : decode cX8_reckons 128 = .ok (.iaload, 1) := by decide +kernel
theorem dX8_reckons_129 : decode cX8_reckons 129 = .ok (.iadd, 1) := by decide +kernel
theorem dX8_reckons_130 : decode cX8_reckons 130 = .ok (.iastore, 1) := by decide +kernel
theorem dX8_reckons_131 : decode cX8_reckons 131 = .ok (.iconst 1, 1) := by decide +kernel
theorem dX8_reckons_132 : decode cX8_reckons 132 = .ok (.istore_n 1, 1) := by decide +kernel
theorem dX8_reckons_133 : decode cX8_reckons 133 = .ok (.aload_n 0, 1) := by decide +kernel
theorem dX8_reckons_134 : decode cX8_reckons 134 = .ok (.getfield 22, 3) := by decide +kernel
theorem dX8_reckons_137 : decode cX8_reckons 137 = .ok (.iload 4, 2) := by decide +kernel
theorem dX8_reckons_139 : decode cX8_reckons 139 = .ok (.iaload, 1) := by decide +kernel
theorem dX8_reckons_140 : decode cX8_reckons 140 = .ok (.aload_n 0, 1) := by decide +kernel
theorem dX8_reckons_141 : decode cX8_reckons 141 = .ok (.getfield 19, 3) := by decide +kernel
theorem dX8_reckons_144 : decode cX8_reckons 144 = .ok (.iload_n 2, 1) := by decide +kernel
theorem dX8_reckons_145 : decode cX8_reckons 145 = .ok (.iaload, 1) := by decide +kernel
theorem dX8_reckons_146 : decode cX8_reckons 146 = .ok (.iadd, 1) := by decide +kernel
theorem dX8_reckons_147 : decode cX8_reckons 147 = .ok (.aload_n 0, 1) := by decide +kernel
theorem dX8_reckons_148 : decode cX8_reckons 148 = .ok (.getfield 22, 3) := by decide +kernel
theorem dX8_reckons_151 : decode cX8_reckons 151 = .ok (.iload 5, 2) := by decide +kernel
theorem dX8_reckons_153 : decode cX8_reckons 153 = .ok (.iaload, 1) := by decide +kernel
theorem dX8_reckons_154 : decode cX8_reckons 154 = .ok (.if_icmp .ge 26, 3) := by decide +kernel
theorem dX8_reckons_157 : decode cX8_reckons 157 = .ok (.aload_n 0, 1) := by decide +kernel
theorem dX8_reckons_158 : decode cX8_reckons 158 = .ok (.getfield 22, 3) := by decide +kernel
theorem dX8_reckons_161 : decode cX8_reckons 161 = .ok (.iload 5, 2) := by decide +kernel
theorem dX8_reckons_163 : decode cX8_reckons 163 = .ok (.aload_n 0, 1) := by decide +kernel
theorem dX8_reckons_164 : decode cX8_reckons 164 = .ok (.getfield 22, 3) := by decide +kernel
theorem dX8_reckons_167 : decode cX8_reckons 167 = .ok (.iload 4, 2) := by decide +kernel
theorem dX8_reckons_169 : decode cX8_reckons 169 = .ok (.iaload, 1) := by decide +kernel
theorem dX8_reckons_170 : decode cX8_reckons 170 = .ok (.aload_n 0, 1) := by decide +kernel
theorem dX8_reckons_171 : decode cX8_reckons 171 = .ok (.getfield 19, 3) := by decide +kernel
theorem dX8_reckons_174 : decode cX8_reckons 174 = .ok (.iload_n 2, 1) := by decide +kernel
theorem dX8_reckons_175 : decode cX8_reckons 175 = .ok (.iaload, 1) := by decide +kernel
theorem dX8_reckons_176 : decode cX8_reckons 176 = .ok (.iadd, 1) := by decide +kernel
theorem dX8_reckons_177 : decode cX8_reckons 177 = .ok (.iastore, 1) := by decide +kernel
theorem dX8_reckons_178 : decode cX8_reckons 178 = .ok (.iconst 1, 1) := by decide +kernel
theorem dX8_reckons_179 : decode cX8_reckons 179 = .ok (.istore_n 1, 1) := by decide +kernel
theorem dX8_reckons_180 : decode cX8_reckons 180 = .ok (.iinc 3 1, 3) := by decide +kernel
theorem dX8_reckons_183 : decode cX8_reckons 183 = .ok (.goto (-129), 3) := by decide +kernel
theorem dX8_reckons_186 : decode cX8_reckons 186 = .ok (.iinc 2 1, 3) := by decide +kernel
theorem dX8_reckons_189 : decode cX8_reckons 189 = .ok (.goto (-145), 3) := by decide +kernel
theorem dX8_reckons_192 : decode cX8_reckons 192 = .ok (.goto (-156), 3) := by decide +kernel
theorem dX8_reckons_195 : decode cX8_reckons 195 = .ok (.return_, 1) := by decide +kernel
theorem dX8_line_0 : decode cX8_line 0 = .ok (.iload_n 1, 1) := by decide +kernel
theorem dX8_line_1 : decode cX8_line 1 = .ok (.invokestatic 101, 3) := by decide +kernel
theorem dX8_line_4 : decode cX8_line 4 = .ok (.ifCond .eq 43, 3) := by decide +kernel
theorem dX8_line_7 : decode cX8_line 7 = .ok (.iload_n 2, 1) := by decide +kernel
theorem dX8_line_8 : decode cX8_line 8 = .ok (.invokestatic 101, 3) := by decide +kernel
theorem dX8_line_11 : decode cX8_line 11 = .ok (.ifCond .eq 36, 3) := by decide +kernel
theorem dX8_line_14 : decode cX8_line 14 = .ok (.iload_n 1, 1) := by decide +kernel
theorem dX8_line_15 : decode cX8_line 15 = .ok (.iload_n 2, 1) := by decide +kernel
theorem dX8_line_16 : decode cX8_line 16 = .ok (.if_icmp .eq 31, 3) := by decide +kernel
theorem dX8_line_19 : decode cX8_line 19 = .ok (.iload_n 3, 1) := by decide +kernel
theorem dX8_line_20 : decode cX8_line 20 = .ok (.invokestatic 105, 3) := by decide +kernel
theorem dX8_line_23 : decode cX8_line 23 = .ok (.ifCond .eq 24, 3) := by decide +kernel
theorem dX8_line_26 : decode cX8_line 26 = .ok (.iload 4, 2) := by decide +kernel
theorem dX8_line_28 : decode cX8_line 28 = .ok (.iconst 1, 1) := by decide +kernel
theorem dX8_line_29 : decode cX8_line 29 = .ok (.sipush 200, 3) := by decide +kernel
theorem dX8_line_32 : decode cX8_line 32 = .ok (.invokestatic 93, 3) := by decide +kernel
theorem dX8_line_35 : decode cX8_line 35 = .ok (.ifCond .eq 12, 3) := by decide +kernel
theorem dX8_line_38 : decode cX8_line 38 = .ok (.aload_n 0, 1) := by decide +kernel
theorem dX8_line_39 : decode cX8_line 39 = .ok (.getfield 98, 3) := by decide +kernel
theorem dX8_line_42 : decode cX8_line 42 = .ok (.bipush 24, 2) := by decide +kernel
theorem dX8_line_44 : decode cX8_line 44 = .ok (.if_icmp .ne 5, 3) := by decide +kernel
theorem dX8_line_47 : decode cX8_line 47 = .ok (.iconst (-1), 1) := by decide +kernel
theorem dX8_line_48 : decode cX8_line 48 = .ok (.ireturn, 1) := by decide +kernel
theorem dX8_line_49 : decode cX8_line 49 = .ok (.aload_n 0, 1) := by decide +kernel
theorem dX8_line_50 : decode cX8_line 50 = .ok (.getfield 9, 3) := by decide +kernel
theorem dX8_line_53 : decode cX8_line 53 = .ok (.aload_n 0, 1) := by decide +kernel
theorem dX8_line_54 : decode cX8_line 54 = .ok (.getfield 98, 3) := by decide +kernel
theorem dX8_line_57 : decode cX8_line 57 = .ok (.iload_n 1, 1) := by decide +kernel
theorem dX8_line_58 : decode cX8_line 58 = .ok (.iastore, 1) := by decide +kernel
theorem dX8_line_59 : decode cX8_line 59 = .ok (.aload_n 0, 1) := by decide +kernel
theorem dX8_line_60 : decode cX8_line 60 = .ok (.getfield 13, 3) := by decide +kernel
theorem dX8_line_63 : decode cX8_line 63 = .ok (.aload_n 0, 1) := by decide +kernel
theorem dX8_line_64 : decode cX8_line 64 = .ok (.getfield 98, 3) := by decide +kernel
theorem dX8_line_67 : decode cX8_line 67 = .ok (.iload_n 2, 1) := by decide +kernel
theorem dX8_line_68 : decode cX8_line 68 = .ok (.iastore, 1) := by decide +kernel
theorem dX8_line_69 : decode cX8_line 69 = .ok (.aload_n 0, 1) := by decide +kernel
theorem dX8_line_70 : decode cX8_line 70 = .ok (.getfield 16, 3) := by decide +kernel
theorem dX8_line_73 : decode cX8_line 73 = .ok (.aload_n 0, 1) := by decide +kernel
theorem dX8_line_74 : decode cX8_line 74 = .ok (.getfield 98, 3) := by decide +kernel
theorem dX8_line_77 : decode cX8_line 77 = .ok (.iload_n 3, 1) := by decide +kernel
theorem dX8_line_78 : decode cX8_line 78 = .ok (.iastore, 1) := by decide +kernel
theorem dX8_line_79 : decode cX8_line 79 = .ok (.aload_n 0, 1) := by decide +kernel
theorem dX8_line_80 : decode cX8_line 80 = .ok (.getfield 19, 3) := by decide +kernel
theorem dX8_line_83 : decode cX8_line 83 = .ok (.aload_n 0, 1) := by decide +kernel
theorem dX8_line_84 : decode cX8_line 84 = .ok (.getfield 98, 3) := by decide +kernel
theorem dX8_line_87 : decode cX8_line 87 = .ok (.iload 4, 2) := by decide +kernel
theorem dX8_line_89 : decode cX8_line 89 = .ok (.iastore, 1) := by decide +kernel
theorem dX8_line_90 : decode cX8_line 90 = .ok (.aload_n 0, 1) := by decide +kernel
theorem dX8_line_91 : decode cX8_line 91 = .ok (.dup, 1) := by decide +kernel
theorem dX8_line_92 : decode cX8_line 92 = .ok (.getfield 98, 3) := by decide +kernel
theorem dX8_line_95 : decode cX8_line 95 = .ok (.iconst 1, 1) := by decide +kernel
theorem dX8_line_96 : decode cX8_line 96 = .ok (.iadd, 1) := by decide +kernel
theorem dX8_line_97 : decode cX8_line 97 = .ok (.putfield 98, 3) := by decide +kernel
theorem dX8_line_100 : decode cX8_line 100 = .ok (.aload_n 0, 1) := by decide +kernel
theorem dX8_line_101 : decode cX8_line 101 = .ok (.invokevirtual 90, 3) := by decide +kernel
theorem dX8_line_104 : decode cX8_line 104 = .ok (.aload_n 0, 1) := by decide +kernel
theorem dX8_line_105 : decode cX8_line 105 = .ok (.getfield 98, 3) := by decide +kernel
theorem dX8_line_108 : decode cX8_line 108 = .ok (.iconst 1, 1) := by decide +kernel
theorem dX8_line_109 : decode cX8_line 109 = .ok (.isub, 1) := by decide +kernel
theorem dX8_line_110 : decode cX8_line 110 = .ok (.ireturn, 1) := by decide +kernel
theorem dX8_least_0 : decode cX8_least 0 = .ok (.iload_n 1, 1) := by decide +kernel
theorem dX8_least_1 : decode cX8_least 1 = .ok (.invokestatic 101, 3) := by decide +kernel
theorem dX8_least_4 : decode cX8_least 4 = .ok (.ifCond .eq 10, 3) := by decide +kernel
theorem dX8_least_7 : decode cX8_least 7 = .ok (.iload_n 2, 1) := by decide +kernel
theorem dX8_least_8 : decode cX8_least 8 = .ok (.invokestatic 101, 3) := by decide +kernel
theorem dX8_least_11 : decode cX8_least 11 = .ok (.ifCond .ne 5, 3) := by decide +kernel
theorem dX8_least_14 : decode cX8_least 14 = .ok (.iconst (-1), 1) := by decide +kernel
theorem dX8_least_15 : decode cX8_least 15 = .ok (.ireturn, 1) := by decide +kernel
theorem dX8_least_16 : decode cX8_least 16 = .ok (.aload_n 0, 1) := by decide +kernel
theorem dX8_least_17 : decode cX8_least 17 = .ok (.getfield 22, 3) := by decide +kernel
theorem dX8_least_20 : decode cX8_least 20 = .ok (.bipush 12, 2) := by decide +kernel
theorem dX8_least_22 : decode cX8_least 22 = .ok (.iload_n 1, 1) := by decide +kernel
theorem dX8_least_23 : decode cX8_least 23 = .ok (.imul, 1) := by decide +kernel
theorem dX8_least_24 : decode cX8_least 24 = .ok (.iload_n 2, 1) := by decide +kernel
theorem dX8_least_25 : decode cX8_least 25 = .ok (.iadd, 1) := by decide +kernel
theorem dX8_least_26 : decode cX8_least 26 = .ok (.iaload, 1) := by decide +kernel
theorem dX8_least_27 : decode cX8_least 27 = .ok (.istore_n 3, 1) := by decide +kernel
theorem dX8_least_28 : decode cX8_least 28 = .ok (.iload_n 3, 1) := by decide +kernel
theorem dX8_least_29 : decode cX8_least 29 = .ok (.ldc 97, 2) := by decide +kernel
theorem dX8_least_31 : decode cX8_least 31 = .ok (.if_icmp .lt 7, 3) := by decide +kernel
theorem dX8_least_34 : decode cX8_least 34 = .ok (.iconst (-1), 1) := by decide +kernel
theorem dX8_least_35 : decode cX8_least 35 = .ok (.goto 4, 3) := by decide +kernel
theorem dX8_least_38 : decode cX8_least 38 = .ok (.iload_n 3, 1) := by decide +kernel
theorem dX8_least_39 : decode cX8_least 39 = .ok (.ireturn, 1) := by decide +kernel
theorem dX8_otherEnd_0 : decode cX8_otherEnd 0 = .ok (.aload_n 0, 1) := by decide +kernel
theorem dX8_otherEnd_1 : decode cX8_otherEnd 1 = .ok (.getfield 9, 3) := by decide +kernel
theorem dX8_otherEnd_4 : decode cX8_otherEnd 4 = .ok (.iload_n 1, 1) := by decide +kernel
theorem dX8_otherEnd_5 : decode cX8_otherEnd 5 = .ok (.iaload, 1) := by decide +kernel
theorem dX8_otherEnd_6 : decode cX8_otherEnd 6 = .ok (.iload_n 2, 1) := by decide +kernel
theorem dX8_otherEnd_7 : decode cX8_otherEnd 7 = .ok (.if_icmp .ne 12, 3) := by decide +kernel
theorem dX8_otherEnd_10 : decode cX8_otherEnd 10 = .ok (.aload_n 0, 1) := by decide +kernel
theorem dX8_otherEnd_11 : decode cX8_otherEnd 11 = .ok (.getfield 13, 3) := by decide +kernel
theorem dX8_otherEnd_14 : decode cX8_otherEnd 14 = .ok (.iload_n 1, 1) := by decide +kernel
theorem dX8_otherEnd_15 : decode cX8_otherEnd 15 = .ok (.iaload, 1) := by decide +kernel
theorem dX8_otherEnd_16 : decode cX8_otherEnd 16 = .ok (.goto 23, 3) := by decide +kernel
theorem dX8_otherEnd_19 : decode cX8_otherEnd 19 = .ok (.aload_n 0, 1) := by decide +kernel
theorem dX8_otherEnd_20 : decode cX8_otherEnd 20 = .ok (.getfield 13, 3) := by decide +kernel
theorem dX8_otherEnd_23 : decode cX8_otherEnd 23 = .ok (.iload_n 1, 1) := by decide +kernel
theorem dX8_otherEnd_24 : decode cX8_otherEnd 24 = .ok (.iaload, 1) := by decide +kernel
theorem dX8_otherEnd_25 : decode cX8_otherEnd 25 = .ok (.iload_n 2, 1) := by decide +kernel
theorem dX8_otherEnd_26 : decode cX8_otherEnd 26 = .ok (.if_icmp .ne 12, 3) := by decide +kernel
theorem dX8_otherEnd_29 : decode cX8_otherEnd 29 = .ok (.aload_n 0, 1) := by decide +kernel
theorem dX8_otherEnd_30 : decode cX8_otherEnd 30 = .ok (.getfield 9, 3) := by decide +kernel
theorem dX8_otherEnd_33 : decode cX8_otherEnd 33 = .ok (.iload_n 1, 1) := by decide +kernel
theorem dX8_otherEnd_34 : decode cX8_otherEnd 34 = .ok (.iaload, 1) := by decide +kernel
theorem dX8_otherEnd_35 : decode cX8_otherEnd 35 = .ok (.goto 4, 3) := by decide +kernel
theorem dX8_otherEnd_38 : decode cX8_otherEnd 38 = .ok (.iconst (-1), 1) := by decide +kernel
theorem dX8_otherEnd_39 : decode cX8_otherEnd 39 = .ok (.ireturn, 1) := by decide +kernel
theorem dX8_route_0 : decode cX8_route 0 = .ok (.iload_n 1, 1) := by decide +kernel
theorem dX8_route_1 : decode cX8_route 1 = .ok (.iload_n 2, 1) := by decide +kernel
theorem dX8_route_2 : decode cX8_route 2 = .ok (.if_icmp .eq 13, 3) := by decide +kernel
theorem dX8_route_5 : decode cX8_route 5 = .ok (.aload_n 0, 1) := by decide +kernel
theorem dX8_route_6 : decode cX8_route 6 = .ok (.iload_n 1, 1) := by decide +kernel
theorem dX8_route_7 : decode cX8_route 7 = .ok (.iload_n 2, 1) := by decide +kernel
theorem dX8_route_8 : decode cX8_route 8 = .ok (.invokevirtual 108, 3) := by decide +kernel
theorem dX8_route_11 : decode cX8_route 11 = .ok (.iconst (-1), 1) := by decide +kernel
theorem dX8_route_12 : decode cX8_route 12 = .ok (.if_icmp .ne 5, 3) := by decide +kernel
theorem dX8_route_15 : decode cX8_route 15 = .ok (.iconst (-1), 1) := by decide +kernel
theorem dX8_route_16 : decode cX8_route 16 = .ok (.ireturn, 1) := by decide +kernel
theorem dX8_route_17 : decode cX8_route 17 = .ok (.iconst (-1), 1) := by decide +kernel
theorem dX8_route_18 : decode cX8_route 18 = .ok (.istore_n 3, 1) := by decide +kernel
theorem dX8_route_19 : decode cX8_route 19 = .ok (.iconst 0, 1) := by decide +kernel
theorem dX8_route_20 : decode cX8_route 20 = .ok (.istore 4, 2) := by decide +kernel
theorem dX8_route_22 : decode cX8_route 22 = .ok (.iload 4, 2) := by decide +kernel
theorem dX8_route_24 : decode cX8_route 24 = .ok (.aload_n 0, 1) := by decide +kernel
theorem dX8_route_25 : decode cX8_route 25 = .ok (.getfield 98, 3) := by decide +kernel
theorem dX8_route_28 : decode cX8_route 28 = .ok (.if_icmp .ge 81, 3) := by decide +kernel
theorem dX8_route_31 : decode cX8_route 31 = .ok (.aload_n 0, 1) := by decide +kernel
theorem dX8_route_32 : decode cX8_route 32 = .ok (.iload 4, 2) := by decide +kernel
theorem dX8_route_34 : decode cX8_route 34 = .ok (.iload_n 1, 1) := by decide +kernel
theorem dX8_route_35 : decode cX8_route 35 = .ok (.invokevirtual 111, 3) := by decide +kernel
theorem dX8_route_38 : decode cX8_route 38 = .ok (.istore 5, 2) := by decide +kernel
theorem dX8_route_40 : decode cX8_route 40 = .ok (.iload 5, 2) := by decide +kernel
theorem dX8_route_42 : decode cX8_route 42 = .ok (.iconst (-1), 1) := by decide +kernel
theorem dX8_route_43 : decode cX8_route 43 = .ok (.if_icmp .eq 60, 3) := by decide +kernel
theorem dX8_route_46 : decode cX8_route 46 = .ok (.aload_n 0, 1) := by decide +kernel
theorem dX8_route_47 : decode cX8_route 47 = .ok (.iload 5, 2) := by decide +kernel
theorem dX8_route_49 : decode cX8_route 49 = .ok (.iload_n 2, 1) := by decide +kernel
theorem dX8_route_50 : decode cX8_route 50 = .ok (.invokevirtual 108, 3) := by decide +kernel
theorem dX8_route_53 : decode cX8_route 53 = .ok (.iconst (-1), 1) := by decide +kernel
theorem dX8_route_54 : decode cX8_route 54 = .ok (.if_icmp .eq 49, 3) := by decide +kernel
theorem dX8_route_57 : decode cX8_route 57 = .ok (.aload_n 0, 1) := by decide +kernel
theorem dX8_route_58 : decode cX8_route 58 = .ok (.getfield 19, 3) := by decide +kernel
theorem dX8_route_61 : decode cX8_route 61 = .ok (.iload 4, 2) := by decide +kernel
theorem dX8_route_63 : decode cX8_route 63 = .ok (.iaload, 1) := by decide +kernel
theorem dX8_route_64 : decode cX8_route 64 = .ok (.aload_n 0, 1) := by decide +kernel
theorem dX8_route_65 : decode cX8_route 65 = .ok (.iload 5, 2) := by decide +kernel
theorem dX8_route_67 : decode cX8_route 67 = .ok (.iload_n 2, 1) := by decide +kernel
theorem dX8_route_68 : decode cX8_route 68 = .ok (.invokevirtual 108, 3) := by decide +kernel
theorem dX8_route_71 : decode cX8_route 71 = .ok (.iadd, 1) := by decide +kernel
theorem dX8_route_72 : decode cX8_route 72 = .ok (.aload_n 0, 1) := by decide +kernel
theorem dX8_route_73 : decode cX8_route 73 = .ok (.iload_n 1, 1) := by decide +kernel
theorem dX8_route_74 : decode cX8_route 74 = .ok (.iload_n 2, 1) := by decide +kernel
theorem dX8_route_75 : decode cX8_route 75 = .ok (.invokevirtual 108, 3) := by decide +kernel
theorem dX8_route_78 : decode cX8_route 78 = .ok (.if_icmp .eq 6, 3) := by decide +kernel
theorem dX8_route_81 : decode cX8_route 81 = .ok (.goto 22, 3) := by decide +kernel
theorem dX8_route_84 : decode cX8_route 84 = .ok (.iload_n 3, 1) := by decide +kernel
theorem dX8_route_85 : decode cX8_route 85 = .ok (.iconst (-1), 1) := by decide +kernel
theorem dX8_route_86 : decode cX8_route 86 = .ok (.if_icmp .eq 14, 3) := by decide +kernel
theorem dX8_route_89 : decode cX8_route 89 = .ok (.iload 5, 2) := by decide +kernel
theorem dX8_route_91 : decode cX8_route 91 = .ok (.aload_n 0, 1) := by decide +kernel
theorem dX8_route_92 : decode cX8_route 92 = .ok (.iload_n 3, 1) := by decide +kernel
theorem dX8_route_93 : decode cX8_route 93 = .ok (.iload_n 1, 1) := by decide +kernel
theorem dX8_route_94 : decode cX8_route 94 = .ok (.invokevirtual 111, 3) := by decide +kernel
theorem dX8_route_97 : decode cX8_route 97 = .ok (.if_icmp .ge 6, 3) := by decide +kernel
theorem dX8_route_100 : decode cX8_route 100 = .ok (.iload 4, 2) := by decide +kernel
theorem dX8_route_102 : decode cX8_route 102 = .ok (.istore_n 3, 1) := by decide +kernel
theorem dX8_route_103 : decode cX8_route 103 = .ok (.iinc 4 1, 3) := by decide +kernel
theorem dX8_route_106 : decode cX8_route 106 = .ok (.goto (-84), 3) := by decide +kernel
theorem dX8_route_109 : decode cX8_route 109 = .ok (.iload_n 3, 1) := by decide +kernel
theorem dX8_route_110 : decode cX8_route 110 = .ok (.ireturn, 1) := by decide +kernel
theorem dX8_parts_0 : decode cX8_parts 0 = .ok (.iload_n 3, 1) := by decide +kernel
theorem dX8_parts_1 : decode cX8_parts 1 = .ok (.iconst 0, 1) := by decide +kernel
theorem dX8_parts_2 : decode cX8_parts 2 = .ok (.ldc 97, 2) := by decide +kernel
theorem dX8_parts_4 : decode cX8_parts 4 = .ok (.invokestatic 93, 3) := by decide +kernel
theorem dX8_parts_7 : decode cX8_parts 7 = .ok (.ifCond .eq 13, 3) := by decide +kernel
theorem dX8_parts_10 : decode cX8_parts 10 = .ok (.aload_n 0, 1) := by decide +kernel
theorem dX8_parts_11 : decode cX8_parts 11 = .ok (.iload_n 1, 1) := by decide +kernel
theorem dX8_parts_12 : decode cX8_parts 12 = .ok (.iload_n 2, 1) := by decide +kernel
theorem dX8_parts_13 : decode cX8_parts 13 = .ok (.invokevirtual 114, 3) := by decide +kernel
theorem dX8_parts_16 : decode cX8_parts 16 = .ok (.iconst (-1), 1) := by decide +kernel
theorem dX8_parts_17 : decode cX8_parts 17 = .ok (.if_icmp .ne 5, 3) := by decide +kernel
theorem dX8_parts_20 : decode cX8_parts 20 = .ok (.iconst 0, 1) := by decide +kernel
theorem dX8_parts_21 : decode cX8_parts 21 = .ok (.ireturn, 1) := by decide +kernel
theorem dX8_parts_22 : decode cX8_parts 22 = .ok (.iconst 0, 1) := by decide +kernel
theorem dX8_parts_23 : decode cX8_parts 23 = .ok (.istore 4, 2) := by decide +kernel
theorem dX8_parts_25 : decode cX8_parts 25 = .ok (.iload 4, 2) := by decide +kernel
theorem dX8_parts_27 : decode cX8_parts 27 = .ok (.bipush 8, 2) := by decide +kernel
theorem dX8_parts_29 : decode cX8_parts 29 = .ok (.if_icmp .ge 25, 3) := by decide +kernel
theorem dX8_parts_32 : decode cX8_parts 32 = .ok (.aload_n 0, 1) := by decide +kernel
theorem dX8_parts_33 : decode cX8_parts 33 = .ok (.getfield 59, 3) := by decide +kernel
theorem dX8_parts_36 : decode cX8_parts 36 = .ok (.iload 4, 2) := by decide +kernel
theorem dX8_parts_38 : decode cX8_parts 38 = .ok (.iconst 0, 1) := by decide +kernel
theorem dX8_parts_39 : decode cX8_parts 39 = .ok (.iastore, 1) := by decide +kernel
theorem dX8_parts_40 : decode cX8_parts 40 = .ok (.aload_n 0, 1) := by decide +kernel
theorem dX8_parts_41 : decode cX8_parts 41 = .ok (.getfield 62, 3) := by decide +kernel
theorem dX8_parts_44 : decode cX8_parts 44 = .ok (.iload 4, 2) := by decide +kernel
theorem dX8_parts_46 : decode cX8_parts 46 = .ok (.iconst 0, 1) := by decide +kernel
theorem dX8_parts_47 : decode cX8_parts 47 = .ok (.iastore, 1) := by decide +kernel
theorem dX8_parts_48 : decode cX8_parts 48 = .ok (.iinc 4 1, 3) := by decide +kernel
theorem dX8_parts_51 : decode cX8_parts 51 = .ok (.goto (-26), 3) := by decide +kernel
theorem dX8_parts_54 : decode cX8_parts 54 = .ok (.iload_n 1, 1) := by decide +kernel
theorem dX8_parts_55 : decode cX8_parts 55 = .ok (.istore 4, 2) := by decide +kernel
theorem dX8_parts_57 : decode cX8_parts 57 = .ok (.iconst (-1), 1) := by decide +kernel
theorem dX8_parts_58 : decode cX8_parts 58 = .ok (.istore 5, 2) := by decide +kernel
theorem dX8_parts_60 : decode cX8_parts 60 = .ok (.iload 4, 2) := by decide +kernel
theorem dX8_parts_62 : decode cX8_parts 62 = .ok (.iload_n 2, 1) := by decide +kernel
theorem dX8_parts_63 : decode cX8_parts 63 = .ok (.if_icmp .eq 47, 3) := by decide +kernel
theorem dX8_parts_66 : decode cX8_parts 66 = .ok (.aload_n 0, 1) := by decide +kernel
theorem dX8_parts_67 : decode cX8_parts 67 = .ok (.iload 4, 2) := by decide +kernel
theorem dX8_parts_69 : decode cX8_parts 69 = .ok (.iload_n 2, 1) := by decide +kernel
theorem dX8_parts_70 : decode cX8_parts 70 = .ok (.invokevirtual 114, 3) := by decide +kernel
theorem dX8_parts_73 : decode cX8_parts 73 = .ok (.istore 5, 2) := by decide +kernel
theorem dX8_parts_75 : decode cX8_parts 75 = .ok (.aload_n 0, 1) := by decide +kernel
theorem dX8_parts_76 : decode cX8_parts 76 = .ok (.getfield 62, 3) := by decide +kernel
theorem dX8_parts_79 : decode cX8_parts 79 = .ok (.aload_n 0, 1) := by decide +kernel
theorem dX8_parts_80 : decode cX8_parts 80 = .ok (.getfield 16, 3) := by decide +kernel
theorem dX8_parts_83 : decode cX8_parts 83 = .ok (.iload 5, 2) := by decide +kernel
theorem dX8_parts_85 : decode cX8_parts 85 = .ok (.iaload, 1) := by decide +kernel
theorem dX8_parts_86 : decode cX8_parts 86 = .ok (.dup2, 1) := by decide +kernel
theorem dX8_parts_87 : decode cX8_parts 87 = .ok (.iaload, 1) := by decide +kernel
theorem dX8_parts_88 : decode cX8_parts 88 = .ok (.aload_n 0, 1) := by decide +kernel
theorem dX8_parts_89 : decode cX8_parts 89 = .ok (.getfield 19, 3) := by decide +kernel
theorem dX8_parts_92 : decode cX8_parts 92 = .ok (.iload 5, 2) := by decide +kernel
theorem dX8_parts_94 : decode cX8_parts 94 = .ok (.iaload, 1) := by decide +kernel
theorem dX8_parts_95 : decode cX8_parts 95 = .ok (.iadd, 1) := by decide +kernel
theorem dX8_parts_96 : decode cX8_parts 96 = .ok (.iastore, 1) := by decide +kernel
theorem dX8_parts_97 : decode cX8_parts 97 = .ok (.aload_n 0, 1) := by decide +kernel
theorem dX8_parts_98 : decode cX8_parts 98 = .ok (.iload 5, 2) := by decide +kernel
theorem dX8_parts_100 : decode cX8_parts 100 = .ok (.iload 4, 2) := by decide +kernel
theorem dX8_parts_102 : decode cX8_parts 102 = .ok (.invokevirtual 111, 3) := by decide +kernel
theorem dX8_parts_105 : decode cX8_parts 105 = .ok (.istore 4, 2) := by decide +kernel
theorem dX8_parts_107 : decode cX8_parts 107 = .ok (.goto (-47), 3) := by decide +kernel
theorem dX8_parts_110 : decode cX8_parts 110 = .ok (.iload_n 3, 1) := by decide +kernel
theorem dX8_parts_111 : decode cX8_parts 111 = .ok (.bipush 10, 2) := by decide +kernel
theorem dX8_parts_113 : decode cX8_parts 113 = .ok (.idiv, 1) := by decide +kernel
theorem dX8_parts_114 : decode cX8_parts 114 = .ok (.istore 6, 2) := by decide +kernel
theorem dX8_parts_116 : decode cX8_parts 116 = .ok (.iload_n 3, 1) := by decide +kernel
theorem dX8_parts_117 : decode cX8_parts 117 = .ok (.iconst 2, 1) := by decide +kernel
theorem dX8_parts_118 : decode cX8_parts 118 = .ok (.iload 6, 2) := by decide +kernel
theorem dX8_parts_120 : decode cX8_parts 120 = .ok (.imul, 1) := by decide +kernel
theorem dX8_parts_121 : decode cX8_parts 121 = .ok (.isub, 1) := by decide +kernel
theorem dX8_parts_122 : decode cX8_parts 122 = .ok (.istore 7, 2) := by decide +kernel
theorem dX8_parts_124 : decode cX8_parts 124 = .ok (.aload_n 0, 1) := by decide +kernel
theorem dX8_parts_125 : decode cX8_parts 125 = .ok (.iload_n 1, 1) := by decide +kernel
theorem dX8_parts_126 : decode cX8_parts 126 = .ok (.iload_n 2, 1) := by decide +kernel
theorem dX8_parts_127 : decode cX8_parts 127 = .ok (.invokevirtual 108, 3) := by decide +kernel
theorem dX8_parts_130 : decode cX8_parts 130 = .ok (.istore 8, 2) := by decide +kernel
theorem dX8_parts_132 : decode cX8_parts 132 = .ok (.iload 7, 2) := by decide +kernel
theorem dX8_parts_134 : decode cX8_parts 134 = .ok (.istore 9, 2) := by decide +kernel
theorem dX8_parts_136 : decode cX8_parts 136 = .ok (.iconst 0, 1) := by decide +kernel
theorem dX8_parts_137 : decode cX8_parts 137 = .ok (.istore 10, 2) := by decide +kernel
theorem dX8_parts_139 : decode cX8_parts 139 = .ok (.iload 10, 2) := by decide +kernel
theorem dX8_parts_141 : decode cX8_parts 141 = .ok (.bipush 8, 2) := by decide +kernel
theorem dX8_parts_143 : decode cX8_parts 143 = .ok (.if_icmp .ge 78, 3) := by decide +kernel
theorem dX8_parts_146 : decode cX8_parts 146 = .ok (.iload 7, 2) := by decide +kernel
theorem dX8_parts_148 : decode cX8_parts 148 = .ok (.i2l, 1) := by decide +kernel
theorem dX8_parts_149 : decode cX8_parts 149 = .ok (.aload_n 0, 1) := by decide +kernel
theorem dX8_parts_150 : decode cX8_parts 150 = .ok (.getfield 62, 3) := by decide +kernel
theorem dX8_parts_153 : decode cX8_parts 153 = .ok (.iload 10, 2) := by decide +kernel
theorem dX8_parts_155 : decode cX8_parts 155 = .ok (.iaload, 1) := by decide +kernel
theorem dX8_parts_156 : decode cX8_parts 156 = .ok (.i2l, 1) := by decide +kernel
theorem dX8_parts_157 : decode cX8_parts 157 = .ok (.lmul, 1) := by decide +kernel
theorem dX8_parts_158 : decode cX8_parts 158 = .ok (.lstore 11, 2) := by decide +kernel
theorem dX8_parts_160 : decode cX8_parts 160 = .ok (.aload_n 0, 1) := by decide +kernel
theorem dX8_parts_161 : decode cX8_parts 161 = .ok (.getfield 59, 3) := by decide +kernel
theorem dX8_parts_164 : decode cX8_parts 164 = .ok (.iload 10, 2) := by decide +kernel
theorem dX8_parts_166 : decode cX8_parts 166 = .ok (.lload 11, 2) := by decide +kernel
theorem dX8_parts_168 : decode cX8_parts 168 = .ok (.iload 8, 2) := by decide +kernel
theorem dX8_parts_170 : decode cX8_parts 170 = .ok (.i2l, 1) := by decide +kernel
theorem dX8_parts_171 : decode cX8_parts 171 = .ok (.ldiv, 1) := by decide +kernel
theorem dX8_parts_172 : decode cX8_parts 172 = .ok (.l2i, 1) := by decide +kernel
theorem dX8_parts_173 : decode cX8_parts 173 = .ok (.iastore, 1) := by decide +kernel
theorem dX8_parts_174 : decode cX8_parts 174 = .ok (.aload_n 0, 1) := by decide +kernel
theorem dX8_parts_175 : decode cX8_parts 175 = .ok (.getfield 65, 3) := by decide +kernel
theorem dX8_parts_178 : decode cX8_parts 178 = .ok (.iload 10, 2) := by decide +kernel
theorem dX8_parts_180 : decode cX8_parts 180 = .ok (.aload_n 0, 1) := by decide +kernel
theorem dX8_parts_181 : decode cX8_parts 181 = .ok (.getfield 62, 3) := by decide +kernel
theorem dX8_parts_184 : decode cX8_parts 184 = .ok (.iload 10, 2) := by decide +kernel
theorem dX8_parts_186 : decode cX8_parts 186 = .ok (.iaload, 1) := by decide +kernel
theorem dX8_parts_187 : decode cX8_parts 187 = .ok (.ifCond .ne 9, 3) := by decide +kernel
theorem dX8_parts_190 : decode cX8_parts 190 = .ok (.ldc2_w 117, 3) := by decide +kernel
theorem dX8_parts_193 : decode cX8_parts 193 = .ok (.goto 9, 3) := by decide +kernel
theorem dX8_parts_196 : decode cX8_parts 196 = .ok (.lload 11, 2) := by decide +kernel
theorem dX8_parts_198 : decode cX8_parts 198 = .ok (.iload 8, 2) := by decide +kernel
theorem dX8_parts_200 : decode cX8_parts 200 = .ok (.i2l, 1) := by decide +kernel
theorem dX8_parts_201 : decode cX8_parts 201 = .ok (.lrem, 1) := by decide +kernel
theorem dX8_parts_202 : decode cX8_parts 202 = .ok (.lastore, 1) := by decide +kernel
theorem dX8_parts_203 : decode cX8_parts 203 = .ok (.iload 9, 2) := by decide +kernel
theorem dX8_parts_205 : decode cX8_parts 205 = .ok (.aload_n 0, 1) := by decide +kernel
theorem dX8_parts_206 : decode cX8_parts 206 = .ok (.getfield 59, 3) := by decide +kernel
theorem dX8_parts_209 : decode cX8_parts 209 = .ok (.iload 10, 2) := by decide +kernel
theorem dX8_parts_211 : decode cX8_parts 211 = .ok (.iaload, 1) := by decide +kernel
theorem dX8_parts_212 : decode cX8_parts 212 = .ok (.isub, 1) := by decide +kernel
theorem dX8_parts_213 : decode cX8_parts 213 = .ok (.istore 9, 2) := by decide +kernel
theorem dX8_parts_215 : decode cX8_parts 215 = .ok (.iinc 10 1, 3) := by decide +kernel
theorem dX8_parts_218 : decode cX8_parts 218 = .ok (.goto (-79), 3) := by decide +kernel
theorem dX8_parts_221 : decode cX8_parts 221 = .ok (.iload 9, 2) := by decide +kernel
theorem dX8_parts_223 : decode cX8_parts 223 = .ok (.ifCond .le 71, 3) := by decide +kernel
theorem dX8_parts_226 : decode cX8_parts 226 = .ok (.iconst 0, 1) := by decide +kernel
theorem dX8_parts_227 : decode cX8_parts 227 = .ok (.istore 10, 2) := by decide +kernel
theorem dX8_parts_229 : decode cX8_parts 229 = .ok (.iconst 1, 1) := by decide +kernel
theorem dX8_parts_230 : decode cX8_parts 230 = .ok (.istore 11, 2) := by decide +kernel
theorem dX8_parts_232 : decode cX8_parts 232 = .ok (.iload 11, 2) := by decide +kernel
theorem dX8_parts_234 : decode cX8_parts 234 = .ok (.bipush 8, 2) := by decide +kernel
theorem dX8_parts_236 : decode cX8_parts 236 = .ok (.if_icmp .ge 31, 3) := by decide +kernel
theorem dX8_parts_239 : decode cX8_parts 239 = .ok (.aload_n 0, 1) := by decide +kernel
theorem dX8_parts_240 : decode cX8_parts 240 = .ok (.getfield 65, 3) := by decide +kernel
theorem dX8_parts_243 : decode cX8_parts 243 = .ok (.iload 11, 2) := by decide +kernel
theorem dX8_parts_245 : decode cX8_parts 245 = .ok (.laload, 1) := by decide +kernel
theorem dX8_parts_246 : decode cX8_parts 246 = .ok (.aload_n 0, 1) := by decide +kernel
theorem dX8_parts_247 : decode cX8_parts 247 = .ok (.getfield 65, 3) := by decide +kernel
theorem dX8_parts_250 : decode cX8_parts 250 = .ok (.iload 10, 2) := by decide +kernel
theorem dX8_parts_252 : decode cX8_parts 252 = .ok (.laload, 1) := by decide +kernel
theorem dX8_parts_253 : decode cX8_parts 253 = .ok (.lcmp, 1) := by decide +kernel
theorem dX8_parts_254 : decode cX8_parts 254 = .ok (.ifCond .le 7, 3) := by decide +kernel
theorem dX8_parts_257 : decode cX8_parts 257 = .ok (.iload 11, 2) := by decide +kernel
theorem dX8_parts_259 : decode cX8_parts 259 = .ok (.istore 10, 2) := by decide +kernel
theorem dX8_parts_261 : decode cX8_parts 261 = .ok (.iinc 11 1, 3) := by decide +kernel
theorem dX8_parts_264 : decode cX8_parts 264 = .ok (.goto (-32), 3) := by decide +kernel
theorem dX8_parts_267 : decode cX8_parts 267 = .ok (.aload_n 0, 1) := by decide +kernel
theorem dX8_parts_268 : decode cX8_parts 268 = .ok (.getfield 59, 3) := by decide +kernel
theorem dX8_parts_271 : decode cX8_parts 271 = .ok (.iload 10, 2) := by decide +kernel
theorem dX8_parts_273 : decode cX8_parts 273 = .ok (.dup2, 1) := by decide +kernel
theorem dX8_parts_274 : decode cX8_parts 274 = .ok (.iaload, 1) := by decide +kernel
theorem dX8_parts_275 : decode cX8_parts 275 = .ok (.iconst 1, 1) := by decide +kernel
theorem dX8_parts_276 : decode cX8_parts 276 = .ok (.iadd, 1) := by decide +kernel
theorem dX8_parts_277 : decode cX8_parts 277 = .ok (.iastore, 1) := by decide +kernel
theorem dX8_parts_278 : decode cX8_parts 278 = .ok (.aload_n 0, 1) := by decide +kernel
theorem dX8_parts_279 : decode cX8_parts 279 = .ok (.getfield 65, 3) := by decide +kernel
theorem dX8_parts_282 : decode cX8_parts 282 = .ok (.iload 10, 2) := by decide +kernel
theorem dX8_parts_284 : decode cX8_parts 284 = .ok (.ldc2_w 117, 3) := by decide +kernel
theorem dX8_parts_287 : decode cX8_parts 287 = .ok (.lastore, 1) := by decide +kernel
theorem dX8_parts_288 : decode cX8_parts 288 = .ok (.iinc 9 (-1), 3) := by decide +kernel
theorem dX8_parts_291 : decode cX8_parts 291 = .ok (.goto (-70), 3) := by decide +kernel
theorem dX8_parts_294 : decode cX8_parts 294 = .ok (.aload_n 0, 1) := by decide +kernel
theorem dX8_parts_295 : decode cX8_parts 295 = .ok (.getfield 59, 3) := by decide +kernel
theorem dX8_parts_298 : decode cX8_parts 298 = .ok (.aload_n 0, 1) := by decide +kernel
theorem dX8_parts_299 : decode cX8_parts 299 = .ok (.getfield 16, 3) := by decide +kernel
theorem dX8_parts_302 : decode cX8_parts 302 = .ok (.aload_n 0, 1) := by decide +kernel
theorem dX8_parts_303 : decode cX8_parts 303 = .ok (.iload_n 1, 1) := by decide +kernel
theorem dX8_parts_304 : decode cX8_parts 304 = .ok (.iload_n 2, 1) := by decide +kernel
theorem dX8_parts_305 : decode cX8_parts 305 = .ok (.invokevirtual 114, 3) := by decide +kernel
theorem dX8_parts_308 : decode cX8_parts 308 = .ok (.iaload, 1) := by decide +kernel
theorem dX8_parts_309 : decode cX8_parts 309 = .ok (.dup2, 1) := by decide +kernel
theorem dX8_parts_310 : decode cX8_parts 310 = .ok (.iaload, 1) := by decide +kernel
theorem dX8_parts_311 : decode cX8_parts 311 = .ok (.iload 6, 2) := by decide +kernel
theorem dX8_parts_313 : decode cX8_parts 313 = .ok (.iadd, 1) := by decide +kernel
theorem dX8_parts_314 : decode cX8_parts 314 = .ok (.iastore, 1) := by decide +kernel
theorem dX8_parts_315 : decode cX8_parts 315 = .ok (.aload_n 0, 1) := by decide +kernel
theorem dX8_parts_316 : decode cX8_parts 316 = .ok (.getfield 59, 3) := by decide +kernel
theorem dX8_parts_319 : decode cX8_parts 319 = .ok (.aload_n 0, 1) := by decide +kernel
theorem dX8_parts_320 : decode cX8_parts 320 = .ok (.getfield 16, 3) := by decide +kernel
theorem dX8_parts_323 : decode cX8_parts 323 = .ok (.iload 5, 2) := by decide +kernel
theorem dX8_parts_325 : decode cX8_parts 325 = .ok (.iaload, 1) := by decide +kernel
theorem dX8_parts_326 : decode cX8_parts 326 = .ok (.dup2, 1) := by decide +kernel
theorem dX8_parts_327 : decode cX8_parts 327 = .ok (.iaload, 1) := by decide +kernel
theorem dX8_parts_328 : decode cX8_parts 328 = .ok (.iload 6, 2) := by decide +kernel
theorem dX8_parts_330 : decode cX8_parts 330 = .ok (.iadd, 1) := by decide +kernel
theorem dX8_parts_331 : decode cX8_parts 331 = .ok (.iastore, 1) := by decide +kernel
theorem dX8_parts_332 : decode cX8_parts 332 = .ok (.iconst 1, 1) := by decide +kernel
theorem dX8_parts_333 : decode cX8_parts 333 = .ok (.ireturn, 1) := by decide +kernel
theorem dX8_part_0 : decode cX8_part 0 = .ok (.iload 4, 2) := by decide +kernel
theorem dX8_part_2 : decode cX8_part 2 = .ok (.invokestatic 105, 3) := by decide +kernel
theorem dX8_part_5 : decode cX8_part 5 = .ok (.ifCond .eq 23, 3) := by decide +kernel
theorem dX8_part_8 : decode cX8_part 8 = .ok (.aload_n 0, 1) := by decide +kernel
theorem dX8_part_9 : decode cX8_part 9 = .ok (.iload_n 1, 1) := by decide +kernel
theorem dX8_part_10 : decode cX8_part 10 = .ok (.iload_n 2, 1) := by decide +kernel
theorem dX8_part_11 : decode cX8_part 11 = .ok (.iload_n 3, 1) := by decide +kernel
theorem dX8_part_12 : decode cX8_part 12 = .ok (.invokevirtual 119, 3) := by decide +kernel
theorem dX8_part_15 : decode cX8_part 15 = .ok (.ifCond .eq 13, 3) := by decide +kernel
theorem dX8_part_18 : decode cX8_part 18 = .ok (.aload_n 0, 1) := by decide +kernel
theorem dX8_part_19 : decode cX8_part 19 = .ok (.getfield 59, 3) := by decide +kernel
theorem dX8_part_22 : decode cX8_part 22 = .ok (.iload 4, 2) := by decide +kernel
theorem dX8_part_24 : decode cX8_part 24 = .ok (.iaload, 1) := by decide +kernel
theorem dX8_part_25 : decode cX8_part 25 = .ok (.goto 4, 3) := by decide +kernel
theorem dX8_part_28 : decode cX8_part 28 = .ok (.iconst (-1), 1) := by decide +kernel
theorem dX8_part_29 : decode cX8_part 29 = .ok (.ireturn, 1) := by decide +kernel
theorem dX8_book_0 : decode cX8_book 0 = .ok (.iload 4, 2) := by decide +kernel
theorem dX8_book_2 : decode cX8_book 2 = .ok (.invokestatic 105, 3) := by decide +kernel
theorem dX8_book_5 : decode cX8_book 5 = .ok (.ifCond .eq 23, 3) := by decide +kernel
theorem dX8_book_8 : decode cX8_book 8 = .ok (.aload_n 0, 1) := by decide +kernel
theorem dX8_book_9 : decode cX8_book 9 = .ok (.getfield 121, 3) := by decide +kernel
theorem dX8_book_12 : decode cX8_book 12 = .ok (.sipush 1000, 3) := by decide +kernel
theorem dX8_book_15 : decode cX8_book 15 = .ok (.if_icmp .eq 13, 3) := by decide +kernel
theorem dX8_book_18 : decode cX8_book 18 = .ok (.aload_n 0, 1) := by decide +kernel
theorem dX8_book_19 : decode cX8_book 19 = .ok (.iload_n 1, 1) := by decide +kernel
theorem dX8_book_20 : decode cX8_book 20 = .ok (.iload_n 2, 1) := by decide +kernel
theorem dX8_book_21 : decode cX8_book 21 = .ok (.iload_n 3, 1) := by decide +kernel
theorem dX8_book_22 : decode cX8_book 22 = .ok (.invokevirtual 119, 3) := by decide +kernel
theorem dX8_book_25 : decode cX8_book 25 = .ok (.ifCond .ne 5, 3) := by decide +kernel
theorem dX8_book_28 : decode cX8_book 28 = .ok (.iconst 0, 1) := by decide +kernel
theorem dX8_book_29 : decode cX8_book 29 = .ok (.ireturn, 1) := by decide +kernel
theorem dX8_book_30 : decode cX8_book 30 = .ok (.iconst 0, 1) := by decide +kernel
theorem dX8_book_31 : decode cX8_book 31 = .ok (.istore 5, 2) := by decide +kernel
theorem dX8_book_33 : decode cX8_book 33 = .ok (.iload 5, 2) := by decide +kernel
theorem dX8_book_35 : decode cX8_book 35 = .ok (.bipush 8, 2) := by decide +kernel
theorem dX8_book_37 : decode cX8_book 37 = .ok (.if_icmp .ge 43, 3) := by decide +kernel
theorem dX8_book_40 : decode cX8_book 40 = .ok (.aload_n 0, 1) := by decide +kernel
theorem dX8_book_41 : decode cX8_book 41 = .ok (.getfield 50, 3) := by decide +kernel
theorem dX8_book_44 : decode cX8_book 44 = .ok (.iload 5, 2) := by decide +kernel
theorem dX8_book_46 : decode cX8_book 46 = .ok (.dup2, 1) := by decide +kernel
theorem dX8_book_47 : decode cX8_book 47 = .ok (.iaload, 1) := by decide +kernel
theorem dX8_book_48 : decode cX8_book 48 = .ok (.aload_n 0, 1) := by decide +kernel
theorem dX8_book_49 : decode cX8_book 49 = .ok (.getfield 59, 3) := by decide +kernel
theorem dX8_book_52 : decode cX8_book 52 = .ok (.iload 5, 2) := by decide +kernel
theorem dX8_book_54 : decode cX8_book 54 = .ok (.iaload, 1) := by decide +kernel
theorem dX8_book_55 : decode cX8_book 55 = .ok (.iadd, 1) := by decide +kernel
theorem dX8_book_56 : decode cX8_book 56 = .ok (.iastore, 1) := by decide +kernel
theorem dX8_book_57 : decode cX8_book 57 = .ok (.aload_n 0, 1) := by decide +kernel
theorem dX8_book_58 : decode cX8_book 58 = .ok (.getfield 50, 3) := by decide +kernel
theorem dX8_book_61 : decode cX8_book 61 = .ok (.iload 4, 2) := by decide +kernel
theorem dX8_book_63 : decode cX8_book 63 = .ok (.dup2, 1) := by decide +kernel
theorem dX8_book_64 : decode cX8_book 64 = .ok (.iaload, 1) := by decide +kernel
theorem dX8_book_65 : decode cX8_book 65 = .ok (.aload_n 0, 1) := by decide +kernel
theorem dX8_book_66 : decode cX8_book 66 = .ok (.getfield 59, 3) := by decide +kernel
theorem dX8_book_69 : decode cX8_book 69 = .ok (.iload 5, 2) := by decide +kernel
theorem dX8_book_71 : decode cX8_book 71 = .ok (.iaload, 1) := by decide +kernel
theorem dX8_book_72 : decode cX8_book 72 = .ok (.isub, 1) := by decide +kernel
theorem dX8_book_73 : decode cX8_book 73 = .ok (.iastore, 1) := by decide +kernel
theorem dX8_book_74 : decode cX8_book 74 = .ok (.iinc 5 1, 3) := by decide +kernel
theorem dX8_book_77 : decode cX8_book 77 = .ok (.goto (-44), 3) := by decide +kernel
theorem dX8_book_80 : decode cX8_book 80 = .ok (.aload_n 0, 1) := by decide +kernel
theorem dX8_book_81 : decode cX8_book 81 = .ok (.dup, 1) := by decide +kernel
theorem dX8_book_82 : decode cX8_book 82 = .ok (.getfield 121, 3) := by decide +kernel
theorem dX8_book_85 : decode cX8_book 85 = .ok (.iconst 1, 1) := by decide +kernel
theorem dX8_book_86 : decode cX8_book 86 = .ok (.iadd, 1) := by decide +kernel
theorem dX8_book_87 : decode cX8_book 87 = .ok (.putfield 121, 3) := by decide +kernel
theorem dX8_book_90 : decode cX8_book 90 = .ok (.iconst 1, 1) := by decide +kernel
theorem dX8_book_91 : decode cX8_book 91 = .ok (.ireturn, 1) := by decide +kernel
theorem dX8_wagon_0 : decode cX8_wagon 0 = .ok (.iload_n 1, 1) := by decide +kernel
theorem dX8_wagon_1 : decode cX8_wagon 1 = .ok (.sipush 10000, 3) := by decide +kernel
theorem dX8_wagon_4 : decode cX8_wagon 4 = .ok (.ldc 124, 2) := by decide +kernel
theorem dX8_wagon_6 : decode cX8_wagon 6 = .ok (.invokestatic 93, 3) := by decide +kernel
theorem dX8_wagon_9 : decode cX8_wagon 9 = .ok (.ifCond .eq 18, 3) := by decide +kernel
theorem dX8_wagon_12 : decode cX8_wagon 12 = .ok (.iload_n 2, 1) := by decide +kernel
theorem dX8_wagon_13 : decode cX8_wagon 13 = .ok (.invokestatic 105, 3) := by decide +kernel
theorem dX8_wagon_16 : decode cX8_wagon 16 = .ok (.ifCond .eq 11, 3) := by decide +kernel
theorem dX8_wagon_19 : decode cX8_wagon 19 = .ok (.aload_n 0, 1) := by decide +kernel
theorem dX8_wagon_20 : decode cX8_wagon 20 = .ok (.getfield 125, 3) := by decide +kernel
theorem dX8_wagon_23 : decode cX8_wagon 23 = .ok (.iconst 4, 1) := by decide +kernel
theorem dX8_wagon_24 : decode cX8_wagon 24 = .ok (.if_icmp .ne 5, 3) := by decide +kernel
theorem dX8_wagon_27 : decode cX8_wagon 27 = .ok (.iconst (-1), 1) := by decide +kernel
theorem dX8_wagon_28 : decode cX8_wagon 28 = .ok (.ireturn, 1) := by decide +kernel
theorem dX8_wagon_29 : decode cX8_wagon 29 = .ok (.iconst 0, 1) := by decide +kernel
theorem dX8_wagon_30 : decode cX8_wagon 30 = .ok (.istore_n 3, 1) := by decide +kernel
theorem dX8_wagon_31 : decode cX8_wagon 31 = .ok (.iload_n 3, 1) := by decide +kernel
theorem dX8_wagon_32 : decode cX8_wagon 32 = .ok (.aload_n 0, 1) := by decide +kernel
theorem dX8_wagon_33 : decode cX8_wagon 33 = .ok (.getfield 125, 3) := by decide +kernel
theorem dX8_wagon_36 : decode cX8_wagon 36 = .ok (.if_icmp .ge 21, 3) := by decide +kernel
theorem dX8_wagon_39 : decode cX8_wagon 39 = .ok (.aload_n 0, 1) := by decide +kernel
theorem dX8_wagon_40 : decode cX8_wagon 40 = .ok (.getfield 25, 3) := by decide +kernel
theorem dX8_wagon_43 : decode cX8_wagon 43 = .ok (.iload_n 3, 1) := by decide +kernel
theorem dX8_wagon_44 : decode cX8_wagon 44 = .ok (.iaload, 1) := by decide +kernel
theorem dX8_wagon_45 : decode cX8_wagon 45 = .ok (.iload_n 1, 1) := by decide +kernel
theorem dX8_wagon_46 : decode cX8_wagon 46 = .ok (.if_icmp .ne 5, 3) := by decide +kernel
theorem dX8_wagon_49 : decode cX8_wagon 49 = .ok (.iconst (-1), 1) := by decide +kernel
theorem dX8_wagon_50 : decode cX8_wagon 50 = .ok (.ireturn, 1) := by decide +kernel
theorem dX8_wagon_51 : decode cX8_wagon 51 = .ok (.iinc 3 1, 3) := by decide +kernel
theorem dX8_wagon_54 : decode cX8_wagon 54 = .ok (.goto (-23), 3) := by decide +kernel
theorem dX8_wagon_57 : decode cX8_wagon 57 = .ok (.aload_n 0, 1) := by decide +kernel
theorem dX8_wagon_58 : decode cX8_wagon 58 = .ok (.getfield 25, 3) := by decide +kernel
theorem dX8_wagon_61 : decode cX8_wagon 61 = .ok (.aload_n 0, 1) := by decide +kernel
theorem dX8_wagon_62 : decode cX8_wagon 62 = .ok (.getfield 125, 3) := by decide +kernel
theorem dX8_wagon_65 : decode cX8_wagon 65 = .ok (.iload_n 1, 1) := by decide +kernel
theorem dX8_wagon_66 : decode cX8_wagon 66 = .ok (.iastore, 1) := by decide +kernel
theorem dX8_wagon_67 : decode cX8_wagon 67 = .ok (.aload_n 0, 1) := by decide +kernel
theorem dX8_wagon_68 : decode cX8_wagon 68 = .ok (.getfield 28, 3) := by decide +kernel
theorem dX8_wagon_71 : decode cX8_wagon 71 = .ok (.aload_n 0, 1) := by decide +kernel
theorem dX8_wagon_72 : decode cX8_wagon 72 = .ok (.getfield 125, 3) := by decide +kernel
theorem dX8_wagon_75 : decode cX8_wagon 75 = .ok (.iload_n 2, 1) := by decide +kernel
theorem dX8_wagon_76 : decode cX8_wagon 76 = .ok (.iastore, 1) := by decide +kernel
theorem dX8_wagon_77 : decode cX8_wagon 77 = .ok (.aload_n 0, 1) := by decide +kernel
theorem dX8_wagon_78 : decode cX8_wagon 78 = .ok (.dup, 1) := by decide +kernel
theorem dX8_wagon_79 : decode cX8_wagon 79 = .ok (.getfield 125, 3) := by decide +kernel
theorem dX8_wagon_82 : decode cX8_wagon 82 = .ok (.iconst 1, 1) := by decide +kernel
theorem dX8_wagon_83 : decode cX8_wagon 83 = .ok (.iadd, 1) := by decide +kernel
theorem dX8_wagon_84 : decode cX8_wagon 84 = .ok (.putfield 125, 3) := by decide +kernel
theorem dX8_wagon_87 : decode cX8_wagon 87 = .ok (.aload_n 0, 1) := by decide +kernel
theorem dX8_wagon_88 : decode cX8_wagon 88 = .ok (.getfield 125, 3) := by decide +kernel
theorem dX8_wagon_91 : decode cX8_wagon 91 = .ok (.iconst 1, 1) := by decide +kernel
theorem dX8_wagon_92 : decode cX8_wagon 92 = .ok (.isub, 1) := by decide +kernel
theorem dX8_wagon_93 : decode cX8_wagon 93 = .ok (.ireturn, 1) := by decide +kernel
theorem dX8_see_0 : decode cX8_see 0 = .ok (.iload_n 1, 1) := by decide +kernel
theorem dX8_see_1 : decode cX8_see 1 = .ok (.sipush 10000, 3) := by decide +kernel
theorem dX8_see_4 : decode cX8_see 4 = .ok (.ldc 124, 2) := by decide +kernel
theorem dX8_see_6 : decode cX8_see 6 = .ok (.invokestatic 93, 3) := by decide +kernel
theorem dX8_see_9 : decode cX8_see 9 = .ok (.ifCond .eq 38, 3) := by decide +kernel
theorem dX8_see_12 : decode cX8_see 12 = .ok (.iload_n 2, 1) := by decide +kernel
theorem dX8_see_13 : decode cX8_see 13 = .ok (.invokestatic 101, 3) := by decide +kernel
theorem dX8_see_16 : decode cX8_see 16 = .ok (.ifCond .eq 31, 3) := by decide +kernel
theorem dX8_see_19 : decode cX8_see 19 = .ok (.iload_n 3, 1) := by decide +kernel
theorem dX8_see_20 : decode cX8_see 20 = .ok (.iconst 0, 1) := by decide +kernel
theorem dX8_see_21 : decode cX8_see 21 = .ok (.sipush 999, 3) := by decide +kernel
theorem dX8_see_24 : decode cX8_see 24 = .ok (.invokestatic 93, 3) := by decide +kernel
theorem dX8_see_27 : decode cX8_see 27 = .ok (.ifCond .eq 20, 3) := by decide +kernel
theorem dX8_see_30 : decode cX8_see 30 = .ok (.iload 4, 2) := by decide +kernel
theorem dX8_see_32 : decode cX8_see 32 = .ok (.invokestatic 105, 3) := by decide +kernel
theorem dX8_see_35 : decode cX8_see 35 = .ok (.ifCond .eq 12, 3) := by decide +kernel
theorem dX8_see_38 : decode cX8_see 38 = .ok (.aload_n 0, 1) := by decide +kernel
theorem dX8_see_39 : decode cX8_see 39 = .ok (.getfield 128, 3) := by decide +kernel
theorem dX8_see_42 : decode cX8_see 42 = .ok (.bipush 7, 2) := by decide +kernel
theorem dX8_see_44 : decode cX8_see 44 = .ok (.if_icmp .ne 5, 3) := by decide +kernel
theorem dX8_see_47 : decode cX8_see 47 = .ok (.iconst (-1), 1) := by decide +kernel
theorem dX8_see_48 : decode cX8_see 48 = .ok (.ireturn, 1) := by decide +kernel
theorem dX8_see_49 : decode cX8_see 49 = .ok (.aload_n 0, 1) := by decide +kernel
theorem dX8_see_50 : decode cX8_see 50 = .ok (.getfield 128, 3) := by decide +kernel
theorem dX8_see_53 : decode cX8_see 53 = .ok (.ifCond .le 20, 3) := by decide +kernel
theorem dX8_see_56 : decode cX8_see 56 = .ok (.iload_n 3, 1) := by decide +kernel
theorem dX8_see_57 : decode cX8_see 57 = .ok (.aload_n 0, 1) := by decide +kernel
theorem dX8_see_58 : decode cX8_see 58 = .ok (.getfield 37, 3) := by decide +kernel
theorem dX8_see_61 : decode cX8_see 61 = .ok (.aload_n 0, 1) := by decide +kernel
theorem dX8_see_62 : decode cX8_see 62 = .ok (.getfield 128, 3) := by decide +kernel
theorem dX8_see_65 : decode cX8_see 65 = .ok (.iconst 1, 1) := by decide +kernel
theorem dX8_see_66 : decode cX8_see 66 = .ok (.isub, 1) := by decide +kernel
theorem dX8_see_67 : decode cX8_see 67 = .ok (.iaload, 1) := by decide +kernel
theorem dX8_see_68 : decode cX8_see 68 = .ok (.if_icmp .ge 5, 3) := by decide +kernel
theorem dX8_see_71 : decode cX8_see 71 = .ok (.iconst (-1), 1) := by decide +kernel
theorem dX8_see_72 : decode cX8_see 72 = .ok (.ireturn, 1) := by decide +kernel
theorem dX8_see_73 : decode cX8_see 73 = .ok (.aload_n 0, 1) := by decide +kernel
theorem dX8_see_74 : decode cX8_see 74 = .ok (.getfield 31, 3) := by decide +kernel
theorem dX8_see_77 : decode cX8_see 77 = .ok (.aload_n 0, 1) := by decide +kernel
theorem dX8_see_78 : decode cX8_see 78 = .ok (.getfield 128, 3) := by decide +kernel
theorem dX8_see_81 : decode cX8_see 81 = .ok (.iload_n 1, 1) := by decide +kernel
theorem dX8_see_82 : decode cX8_see 82 = .ok (.iastore, 1) := by decide +kernel
theorem dX8_see_83 : decode cX8_see 83 = .ok (.aload_n 0, 1) := by decide +kernel
theorem dX8_see_84 : decode cX8_see 84 = .ok (.getfield 34, 3) := by decide +kernel
theorem dX8_see_87 : decode cX8_see 87 = .ok (.aload_n 0, 1) := by decide +kernel
theorem dX8_see_88 : decode cX8_see 88 = .ok (.getfield 128, 3) := by decide +kernel
theorem dX8_see_91 : decode cX8_see 91 = .ok (.iload_n 2, 1) := by decide +kernel
theorem dX8_see_92 : decode cX8_see 92 = .ok (.iastore, 1) := by decide +kernel
theorem dX8_see_93 : decode cX8_see 93 = .ok (.aload_n 0, 1) := by decide +kernel
theorem dX8_see_94 : decode cX8_see 94 = .ok (.getfield 37, 3) := by decide +kernel
theorem dX8_see_97 : decode cX8_see 97 = .ok (.aload_n 0, 1) := by decide +kernel
theorem dX8_see_98 : decode cX8_see 98 = .ok (.getfield 128, 3) := by decide +kernel
theorem dX8_see_101 : decode cX8_see 101 = .ok (.iload_n 3, 1) := by decide +kernel
theorem dX8_see_102 : decode cX8_see 102 = .ok (.iastore, 1) := by decide +kernel
theorem dX8_see_103 : decode cX8_see 103 = .ok (.aload_n 0, 1) := by decide +kernel
theorem dX8_see_104 : decode cX8_see 104 = .ok (.getfield 40, 3) := by decide +kernel
theorem dX8_see_107 : decode cX8_see 107 = .ok (.aload_n 0, 1) := by decide +kernel
theorem dX8_see_108 : decode cX8_see 108 = .ok (.getfield 128, 3) := by decide +kernel
theorem dX8_see_111 : decode cX8_see 111 = .ok (.iload 4, 2) := by decide +kernel
theorem dX8_see_113 : decode cX8_see 113 = .ok (.iastore, 1) := by decide +kernel
theorem dX8_see_114 : decode cX8_see 114 = .ok (.aload_n 0, 1) := by decide +kernel
theorem dX8_see_115 : decode cX8_see 115 = .ok (.dup, 1) := by decide +kernel
theorem dX8_see_116 : decode cX8_see 116 = .ok (.getfield 128, 3) := by decide +kernel
theorem dX8_see_119 : decode cX8_see 119 = .ok (.iconst 1, 1) := by decide +kernel
theorem dX8_see_120 : decode cX8_see 120 = .ok (.iadd, 1) := by decide +kernel
theorem dX8_see_121 : decode cX8_see 121 = .ok (.putfield 128, 3) := by decide +kernel
theorem dX8_see_124 : decode cX8_see 124 = .ok (.aload_n 0, 1) := by decide +kernel
theorem dX8_see_125 : decode cX8_see 125 = .ok (.getfield 128, 3) := by decide +kernel
theorem dX8_see_128 : decode cX8_see 128 = .ok (.iconst 1, 1) := by decide +kernel
theorem dX8_see_129 : decode cX8_see 129 = .ok (.isub, 1) := by decide +kernel
theorem dX8_see_130 : decode cX8_see 130 = .ok (.ireturn, 1) := by decide +kernel
theorem dX8_digit_0 : decode cX8_digit 0 = .ok (.iload_n 0, 1) := by decide +kernel
theorem dX8_digit_1 : decode cX8_digit 1 = .ok (.istore_n 2, 1) := by decide +kernel
theorem dX8_digit_2 : decode cX8_digit 2 = .ok (.iconst 0, 1) := by decide +kernel
theorem dX8_digit_3 : decode cX8_digit 3 = .ok (.istore_n 3, 1) := by decide +kernel
theorem dX8_digit_4 : decode cX8_digit 4 = .ok (.iload_n 3, 1) := by decide +kernel
theorem dX8_digit_5 : decode cX8_digit 5 = .ok (.iload_n 1, 1) := by decide +kernel
theorem dX8_digit_6 : decode cX8_digit 6 = .ok (.if_icmp .ge 14, 3) := by decide +kernel
theorem dX8_digit_9 : decode cX8_digit 9 = .ok (.iload_n 2, 1) := by decide +kernel
theorem dX8_digit_10 : decode cX8_digit 10 = .ok (.bipush 10, 2) := by decide +kernel
theorem dX8_digit_12 : decode cX8_digit 12 = .ok (.idiv, 1) := by decide +kernel
theorem dX8_digit_13 : decode cX8_digit 13 = .ok (.istore_n 2, 1) := by decide +kernel
theorem dX8_digit_14 : decode cX8_digit 14 = .ok (.iinc 3 1, 3) := by decide +kernel
theorem dX8_digit_17 : decode cX8_digit 17 = .ok (.goto (-13), 3) := by decide +kernel
theorem dX8_digit_20 : decode cX8_digit 20 = .ok (.iload_n 2, 1) := by decide +kernel
theorem dX8_digit_21 : decode cX8_digit 21 = .ok (.bipush 10, 2) := by decide +kernel
theorem dX8_digit_23 : decode cX8_digit 23 = .ok (.irem, 1) := by decide +kernel
theorem dX8_digit_24 : decode cX8_digit 24 = .ok (.ireturn, 1) := by decide +kernel
theorem dX8_errorOf_0 : decode cX8_errorOf 0 = .ok (.iconst 0, 1) := by decide +kernel
theorem dX8_errorOf_1 : decode cX8_errorOf 1 = .ok (.istore_n 2, 1) := by decide +kernel
theorem dX8_errorOf_2 : decode cX8_errorOf 2 = .ok (.iconst 0, 1) := by decide +kernel
theorem dX8_errorOf_3 : decode cX8_errorOf 3 = .ok (.istore_n 3, 1) := by decide +kernel
theorem dX8_errorOf_4 : decode cX8_errorOf 4 = .ok (.iconst 0, 1) := by decide +kernel
theorem dX8_errorOf_5 : decode cX8_errorOf 5 = .ok (.istore 4, 2) := by decide +kernel
theorem dX8_errorOf_7 : decode cX8_errorOf 7 = .ok (.iload 4, 2) := by decide +kernel
theorem dX8_errorOf_9 : decode cX8_errorOf 9 = .ok (.iconst 5, 1) := by decide +kernel
theorem dX8_errorOf_10 : decode cX8_errorOf 10 = .ok (.if_icmp .ge 97, 3) := by decide +kernel
theorem dX8_errorOf_13 : decode cX8_errorOf 13 = .ok (.iload_n 2, 1) := by decide +kernel
theorem dX8_errorOf_14 : decode cX8_errorOf 14 = .ok (.iload_n 0, 1) := by decide +kernel
theorem dX8_errorOf_15 : decode cX8_errorOf 15 = .ok (.iload 4, 2) := by decide +kernel
theorem dX8_errorOf_17 : decode cX8_errorOf 17 = .ok (.invokestatic 131, 3) := by decide +kernel
theorem dX8_errorOf_20 : decode cX8_errorOf 20 = .ok (.iload_n 1, 1) := by decide +kernel
theorem dX8_errorOf_21 : decode cX8_errorOf 21 = .ok (.iload 4, 2) := by decide +kernel
theorem dX8_errorOf_23 : decode cX8_errorOf 23 = .ok (.invokestatic 131, 3) := by decide +kernel
theorem dX8_errorOf_26 : decode cX8_errorOf 26 = .ok (.if_icmp .eq 7, 3) := by decide +kernel
theorem dX8_errorOf_29 : decode cX8_errorOf 29 = .ok (.iconst 1, 1) := by decide +kernel
theorem dX8_errorOf_30 : decode cX8_errorOf 30 = .ok (.goto 4, 3) := by decide +kernel
theorem dX8_errorOf_33 : decode cX8_errorOf 33 = .ok (.iconst 0, 1) := by decide +kernel
theorem dX8_errorOf_34 : decode cX8_errorOf 34 = .ok (.iadd, 1) := by decide +kernel
theorem dX8_errorOf_35 : decode cX8_errorOf 35 = .ok (.istore_n 2, 1) := by decide +kernel
theorem dX8_errorOf_36 : decode cX8_errorOf 36 = .ok (.iload_n 3, 1) := by decide +kernel
theorem dX8_errorOf_37 : decode cX8_errorOf 37 = .ok (.ifCond .ne 58, 3) := by decide +kernel
theorem dX8_errorOf_40 : decode cX8_errorOf 40 = .ok (.iload 4, 2) := by decide +kernel
theorem dX8_errorOf_42 : decode cX8_errorOf 42 = .ok (.iconst 4, 1) := by decide +kernel
theorem dX8_errorOf_43 : decode cX8_errorOf 43 = .ok (.if_icmp .ge 56, 3) := by decide +kernel
theorem dX8_errorOf_46 : decode cX8_errorOf 46 = .ok (.iload_n 0, 1) := by decide +kernel
theorem dX8_errorOf_47 : decode cX8_errorOf 47 = .ok (.iload 4, 2) := by decide +kernel
theorem dX8_errorOf_49 : decode cX8_errorOf 49 = .ok (.invokestatic 131, 3) := by decide +kernel
theorem dX8_errorOf_52 : decode cX8_errorOf 52 = .ok (.iload_n 1, 1) := by decide +kernel
theorem dX8_errorOf_53 : decode cX8_errorOf 53 = .ok (.iload 4, 2) := by decide +kernel
theorem dX8_errorOf_55 : decode cX8_errorOf 55 = .ok (.invokestatic 131, 3) := by decide +kernel
theorem dX8_errorOf_58 : decode cX8_errorOf 58 = .ok (.if_icmp .eq 41, 3) := by decide +kernel
theorem dX8_errorOf_61 : decode cX8_errorOf 61 = .ok (.iload_n 0, 1) := by decide +kernel
theorem dX8_errorOf_62 : decode cX8_errorOf 62 = .ok (.iload 4, 2) := by decide +kernel
theorem dX8_errorOf_64 : decode cX8_errorOf 64 = .ok (.invokestatic 131, 3) := by decide +kernel
theorem dX8_errorOf_67 : decode cX8_errorOf 67 = .ok (.iload_n 1, 1) := by decide +kernel
theorem dX8_errorOf_68 : decode cX8_errorOf 68 = .ok (.iload 4, 2) := by decide +kernel
theorem dX8_errorOf_70 : decode cX8_errorOf 70 = .ok (.iconst 1, 1) := by decide +kernel
theorem dX8_errorOf_71 : decode cX8_errorOf 71 = .ok (.iadd, 1) := by decide +kernel
theorem dX8_errorOf_72 : decode cX8_errorOf 72 = .ok (.invokestatic 131, 3) := by decide +kernel
theorem dX8_errorOf_75 : decode cX8_errorOf 75 = .ok (.if_icmp .ne 24, 3) := by decide +kernel
theorem dX8_errorOf_78 : decode cX8_errorOf 78 = .ok (.iload_n 0, 1) := by decide +kernel
theorem dX8_errorOf_79 : decode cX8_errorOf 79 = .ok (.iload 4, 2) := by decide +kernel
theorem dX8_errorOf_81 : decode cX8_errorOf 81 = .ok (.iconst 1, 1) := by decide +kernel
theorem dX8_errorOf_82 : decode cX8_errorOf 82 = .ok (.iadd, 1) := by decide +kernel
theorem dX8_errorOf_83 : decode cX8_errorOf 83 = .ok (.invokestatic 131, 3) := by decide +kernel
theorem dX8_errorOf_86 : decode cX8_errorOf 86 = .ok (.iload_n 1, 1) := by decide +kernel
theorem dX8_errorOf_87 : decode cX8_errorOf 87 = .ok (.iload 4, 2) := by decide +kernel
theorem dX8_errorOf_89 : decode cX8_errorOf 89 = .ok (.invokestatic 131, 3) := by decide +kernel
theorem dX8_errorOf_92 : decode cX8_errorOf 92 = .ok (.if_icmp .ne 7, 3) := by decide +kernel
theorem dX8_errorOf_95 : decode cX8_errorOf 95 = .ok (.iconst 1, 1) := by decide +kernel
theorem dX8_errorOf_96 : decode cX8_errorOf 96 = .ok (.goto 4, 3) := by decide +kernel
theorem dX8_errorOf_99 : decode cX8_errorOf 99 = .ok (.iconst 0, 1) := by decide +kernel
theorem dX8_errorOf_100 : decode cX8_errorOf 100 = .ok (.istore_n 3, 1) := by decide +kernel
theorem dX8_errorOf_101 : decode cX8_errorOf 101 = .ok (.iinc 4 1, 3) := by decide +kernel
theorem dX8_errorOf_104 : decode cX8_errorOf 104 = .ok (.goto (-97), 3) := by decide +kernel
theorem dX8_errorOf_107 : decode cX8_errorOf 107 = .ok (.iload_n 2, 1) := by decide +kernel
theorem dX8_errorOf_108 : decode cX8_errorOf 108 = .ok (.iconst 2, 1) := by decide +kernel
theorem dX8_errorOf_109 : decode cX8_errorOf 109 = .ok (.if_icmp .le 8, 3) := by decide +kernel
theorem dX8_errorOf_112 : decode cX8_errorOf 112 = .ok (.bipush 9, 2) := by decide +kernel
theorem dX8_errorOf_114 : decode cX8_errorOf 114 = .ok (.goto 17, 3) := by decide +kernel
theorem dX8_errorOf_117 : decode cX8_errorOf 117 = .ok (.iload_n 2, 1) := by decide +kernel
theorem dX8_errorOf_118 : decode cX8_errorOf 118 = .ok (.iconst 2, 1) := by decide +kernel
theorem dX8_errorOf_119 : decode cX8_errorOf 119 = .ok (.if_icmp .ne 11, 3) := by decide +kernel
theorem dX8_errorOf_122 : decode cX8_errorOf 122 = .ok (.iload_n 3, 1) := by decide +kernel
theorem dX8_errorOf_123 : decode cX8_errorOf 123 = .ok (.ifCond .eq 7, 3) := by decide +kernel
theorem dX8_errorOf_126 : decode cX8_errorOf 126 = .ok (.iconst 1, 1) := by decide +kernel
theorem dX8_errorOf_127 : decode cX8_errorOf 127 = .ok (.goto 4, 3) := by decide +kernel
theorem dX8_errorOf_130 : decode cX8_errorOf 130 = .ok (.iload_n 2, 1) := by decide +kernel
theorem dX8_errorOf_131 : decode cX8_errorOf 131 = .ok (.ireturn, 1) := by decide +kernel
theorem dX8_error_0 : decode cX8_error 0 = .ok (.iload_n 1, 1) := by decide +kernel
theorem dX8_error_1 : decode cX8_error 1 = .ok (.iconst 0, 1) := by decide +kernel
theorem dX8_error_2 : decode cX8_error 2 = .ok (.aload_n 0, 1) := by decide +kernel
theorem dX8_error_3 : decode cX8_error 3 = .ok (.getfield 128, 3) := by decide +kernel
theorem dX8_error_6 : decode cX8_error 6 = .ok (.iconst 1, 1) := by decide +kernel
theorem dX8_error_7 : decode cX8_error 7 = .ok (.isub, 1) := by decide +kernel
theorem dX8_error_8 : decode cX8_error 8 = .ok (.invokestatic 93, 3) := by decide +kernel
theorem dX8_error_11 : decode cX8_error 11 = .ok (.ifCond .eq 35, 3) := by decide +kernel
theorem dX8_error_14 : decode cX8_error 14 = .ok (.iload_n 2, 1) := by decide +kernel
theorem dX8_error_15 : decode cX8_error 15 = .ok (.iconst 0, 1) := by decide +kernel
theorem dX8_error_16 : decode cX8_error 16 = .ok (.aload_n 0, 1) := by decide +kernel
theorem dX8_error_17 : decode cX8_error 17 = .ok (.getfield 125, 3) := by decide +kernel
theorem dX8_error_20 : decode cX8_error 20 = .ok (.iconst 1, 1) := by decide +kernel
theorem dX8_error_21 : decode cX8_error 21 = .ok (.isub, 1) := by decide +kernel
theorem dX8_error_22 : decode cX8_error 22 = .ok (.invokestatic 93, 3) := by decide +kernel
theorem dX8_error_25 : decode cX8_error 25 = .ok (.ifCond .eq 21, 3) := by decide +kernel
theorem dX8_error_28 : decode cX8_error 28 = .ok (.aload_n 0, 1) := by decide +kernel
theorem dX8_error_29 : decode cX8_error 29 = .ok (.getfield 31, 3) := by decide +kernel
theorem dX8_error_32 : decode cX8_error 32 = .ok (.iload_n 1, 1) := by decide +kernel
theorem dX8_error_33 : decode cX8_error 33 = .ok (.iaload, 1) := by decide +kernel
theorem dX8_error_34 : decode cX8_error 34 = .ok (.aload_n 0, 1) := by decide +kernel
theorem dX8_error_35 : decode cX8_error 35 = .ok (.getfield 25, 3) := by decide +kernel
theorem dX8_error_38 : decode cX8_error 38 = .ok (.iload_n 2, 1) := by decide +kernel
theorem dX8_error_39 : decode cX8_error 39 = .ok (.iaload, 1) := by decide +kernel
theorem dX8_error_40 : decode cX8_error 40 = .ok (.invokestatic 134, 3) := by decide +kernel
theorem dX8_error_43 : decode cX8_error 43 = .ok (.goto 4, 3) := by decide +kernel
theorem dX8_error_46 : decode cX8_error 46 = .ok (.iconst (-1), 1) := by decide +kernel
theorem dX8_error_47 : decode cX8_error 47 = .ok (.ireturn, 1) := by decide +kernel
theorem dX8_canBe_0 : decode cX8_canBe 0 = .ok (.aload_n 0, 1) := by decide +kernel
theorem dX8_canBe_1 : decode cX8_canBe 1 = .ok (.getfield 69, 3) := by decide +kernel
theorem dX8_canBe_4 : decode cX8_canBe 4 = .ok (.iload_n 1, 1) := by decide +kernel
theorem dX8_canBe_5 : decode cX8_canBe 5 = .ok (.iaload, 1) := by decide +kernel
theorem dX8_canBe_6 : decode cX8_canBe 6 = .ok (.istore_n 2, 1) := by decide +kernel
theorem dX8_canBe_7 : decode cX8_canBe 7 = .ok (.iload_n 2, 1) := by decide +kernel
theorem dX8_canBe_8 : decode cX8_canBe 8 = .ok (.aload_n 0, 1) := by decide +kernel
theorem dX8_canBe_9 : decode cX8_canBe 9 = .ok (.getfield 125, 3) := by decide +kernel
theorem dX8_canBe_12 : decode cX8_canBe 12 = .ok (.if_icmp .ne 5, 3) := by decide +kernel
theorem dX8_canBe_15 : decode cX8_canBe 15 = .ok (.iconst 1, 1) := by decide +kernel
theorem dX8_canBe_16 : decode cX8_canBe 16 = .ok (.ireturn, 1) := by decide +kernel
theorem dX8_canBe_17 : decode cX8_canBe 17 = .ok (.aload_n 0, 1) := by decide +kernel
theorem dX8_canBe_18 : decode cX8_canBe 18 = .ok (.getfield 31, 3) := by decide +kernel
theorem dX8_canBe_21 : decode cX8_canBe 21 = .ok (.iload_n 1, 1) := by decide +kernel
theorem dX8_canBe_22 : decode cX8_canBe 22 = .ok (.iaload, 1) := by decide +kernel
theorem dX8_canBe_23 : decode cX8_canBe 23 = .ok (.aload_n 0, 1) := by decide +kernel
theorem dX8_canBe_24 : decode cX8_canBe 24 = .ok (.getfield 25, 3) := by decide +kernel
theorem dX8_canBe_27 : decode cX8_canBe 27 = .ok (.iload_n 2, 1) := by decide +kernel
theorem dX8_canBe_28 : decode cX8_canBe 28 = .ok (.iaload, 1) := by decide +kernel
theorem dX8_canBe_29 : decode cX8_canBe 29 = .ok (.invokestatic 134, 3) := by decide +kernel
theorem dX8_canBe_32 : decode cX8_canBe 32 = .ok (.iconst 2, 1) := by decide +kernel
theorem dX8_canBe_33 : decode cX8_canBe 33 = .ok (.if_icmp .le 5, 3) := by decide +kernel
theorem dX8_canBe_36 : decode cX8_canBe 36 = .ok (.iconst 0, 1) := by decide +kernel
theorem dX8_canBe_37 : decode cX8_canBe 37 = .ok (.ireturn, 1) := by decide +kernel
theorem dX8_canBe_38 : decode cX8_canBe 38 = .ok (.iload_n 1, 1) := by decide +kernel
theorem dX8_canBe_39 : decode cX8_canBe 39 = .ok (.iconst 1, 1) := by decide +kernel
theorem dX8_canBe_40 : decode cX8_canBe 40 = .ok (.isub, 1) := by decide +kernel
theorem dX8_canBe_41 : decode cX8_canBe 41 = .ok (.istore_n 3, 1) := by decide +kernel
theorem dX8_canBe_42 : decode cX8_canBe 42 = .ok (.iload_n 3, 1) := by decide +kernel
theorem dX8_canBe_43 : decode cX8_canBe 43 = .ok (.ifCond .lt 76, 3) := by decide +kernel
theorem dX8_canBe_46 : decode cX8_canBe 46 = .ok (.aload_n 0, 1) := by decide +kernel
theorem dX8_canBe_47 : decode cX8_canBe 47 = .ok (.getfield 69, 3) := by decide +kernel
theorem dX8_canBe_50 : decode cX8_canBe 50 = .ok (.iload_n 3, 1) := by decide +kernel
theorem dX8_canBe_51 : decode cX8_canBe 51 = .ok (.iaload, 1) := by decide +kernel
theorem dX8_canBe_52 : decode cX8_canBe 52 = .ok (.iload_n 2, 1) := by decide +kernel
theorem dX8_canBe_53 : decode cX8_canBe 53 = .ok (.if_icmp .eq 6, 3) := by decide +kernel
theorem dX8_canBe_56 : decode cX8_canBe 56 = .ok (.goto 57, 3) := by decide +kernel
theorem dX8_canBe_59 : decode cX8_canBe 59 = .ok (.aload_n 0, 1) := by decide +kernel
theorem dX8_canBe_60 : decode cX8_canBe 60 = .ok (.aload_n 0, 1) := by decide +kernel
theorem dX8_canBe_61 : decode cX8_canBe 61 = .ok (.getfield 34, 3) := by decide +kernel
theorem dX8_canBe_64 : decode cX8_canBe 64 = .ok (.iload_n 3, 1) := by decide +kernel
theorem dX8_canBe_65 : decode cX8_canBe 65 = .ok (.iaload, 1) := by decide +kernel
theorem dX8_canBe_66 : decode cX8_canBe 66 = .ok (.aload_n 0, 1) := by decide +kernel
theorem dX8_canBe_67 : decode cX8_canBe 67 = .ok (.getfield 34, 3) := by decide +kernel
theorem dX8_canBe_70 : decode cX8_canBe 70 = .ok (.iload_n 1, 1) := by decide +kernel
theorem dX8_canBe_71 : decode cX8_canBe 71 = .ok (.iaload, 1) := by decide +kernel
theorem dX8_canBe_72 : decode cX8_canBe 72 = .ok (.invokevirtual 108, 3) := by decide +kernel
theorem dX8_canBe_75 : decode cX8_canBe 75 = .ok (.istore 4, 2) := by decide +kernel
theorem dX8_canBe_77 : decode cX8_canBe 77 = .ok (.iload 4, 2) := by decide +kernel
theorem dX8_canBe_79 : decode cX8_canBe 79 = .ok (.iconst (-1), 1) := by decide +kernel
theorem dX8_canBe_80 : decode cX8_canBe 80 = .ok (.if_icmp .eq 31, 3) := by decide +kernel
theorem dX8_canBe_83 : decode cX8_canBe 83 = .ok (.aload_n 0, 1) := by decide +kernel
theorem dX8_canBe_84 : decode cX8_canBe 84 = .ok (.getfield 37, 3) := by decide +kernel
theorem dX8_canBe_87 : decode cX8_canBe 87 = .ok (.iload_n 1, 1) := by decide +kernel
theorem dX8_canBe_88 : decode cX8_canBe 88 = .ok (.iaload, 1) := by decide +kernel
theorem dX8_canBe_89 : decode cX8_canBe 89 = .ok (.aload_n 0, 1) := by decide +kernel
theorem dX8_canBe_90 : decode cX8_canBe 90 = .ok (.getfield 37, 3) := by decide +kernel
theorem dX8_canBe_93 : decode cX8_canBe 93 = .ok (.iload_n 3, 1) := by decide +kernel
theorem dX8_canBe_94 : decode cX8_canBe 94 = .ok (.iaload, 1) := by decide +kernel
theorem dX8_canBe_95 : decode cX8_canBe 95 = .ok (.isub, 1) := by decide +kernel
theorem dX8_canBe_96 : decode cX8_canBe 96 = .ok (.iload 4, 2) := by decide +kernel
theorem dX8_canBe_98 : decode cX8_canBe 98 = .ok (.bipush 99, 2) := by decide +kernel
theorem dX8_canBe_100 : decode cX8_canBe 100 = .ok (.iadd, 1) := by decide +kernel
theorem dX8_canBe_101 : decode cX8_canBe 101 = .ok (.bipush 100, 2) := by decide +kernel
theorem dX8_canBe_103 : decode cX8_canBe 103 = .ok (.idiv, 1) := by decide +kernel
theorem dX8_canBe_104 : decode cX8_canBe 104 = .ok (.if_icmp .lt 7, 3) := by decide +kernel
theorem dX8_canBe_107 : decode cX8_canBe 107 = .ok (.iconst 1, 1) := by decide +kernel
theorem dX8_canBe_108 : decode cX8_canBe 108 = .ok (.goto 4, 3) := by decide +kernel
theorem dX8_canBe_111 : decode cX8_canBe 111 = .ok (.iconst 0, 1) := by decide +kernel
theorem dX8_canBe_112 : decode cX8_canBe 112 = .ok (.ireturn, 1) := by decide +kernel
theorem dX8_canBe_113 : decode cX8_canBe 113 = .ok (.iinc 3 (-1), 3) := by decide +kernel
theorem dX8_canBe_116 : decode cX8_canBe 116 = .ok (.goto (-74), 3) := by decide +kernel
theorem dX8_canBe_119 : decode cX8_canBe 119 = .ok (.iconst 1, 1) := by decide +kernel
theorem dX8_canBe_120 : decode cX8_canBe 120 = .ok (.ireturn, 1) := by decide +kernel
theorem dX8_joins_0 : decode cX8_joins 0 = .ok (.ldc 97, 2) := by decide +kernel
theorem dX8_joins_2 : decode cX8_joins 2 = .ok (.istore_n 1, 1) := by decide +kernel
theorem dX8_joins_3 : decode cX8_joins 3 = .ok (.iconst 0, 1) := by decide +kernel
theorem dX8_joins_4 : decode cX8_joins 4 = .ok (.istore_n 2, 1) := by decide +kernel
theorem dX8_joins_5 : decode cX8_joins 5 = .ok (.aload_n 0, 1) := by decide +kernel
theorem dX8_joins_6 : decode cX8_joins 6 = .ok (.getfield 69, 3) := by decide +kernel
theorem dX8_joins_9 : decode cX8_joins 9 = .ok (.iconst 0, 1) := by decide +kernel
theorem dX8_joins_10 : decode cX8_joins 10 = .ok (.iconst (-1), 1) := by decide +kernel
theorem dX8_joins_11 : decode cX8_joins 11 = .ok (.iastore, 1) := by decide +kernel
theorem dX8_joins_12 : decode cX8_joins 12 = .ok (.aload_n 0, 1) := by decide +kernel
theorem dX8_joins_13 : decode cX8_joins 13 = .ok (.getfield 128, 3) := by decide +kernel
theorem dX8_joins_16 : decode cX8_joins 16 = .ok (.ifCond .ne 5, 3) := by decide +kernel
theorem dX8_joins_19 : decode cX8_joins 19 = .ok (.iconst 0, 1) := by decide +kernel
theorem dX8_joins_20 : decode cX8_joins 20 = .ok (.ireturn, 1) := by decide +kernel
theorem dX8_joins_21 : decode cX8_joins 21 = .ok (.iload_n 2, 1) := by decide +kernel
theorem dX8_joins_22 : decode cX8_joins 22 = .ok (.ifCond .lt 174, 3) := by decide +kernel
theorem dX8_joins_25 : decode cX8_joins 25 = .ok (.aload_n 0, 1) := by decide +kernel
theorem dX8_joins_26 : decode cX8_joins 26 = .ok (.getfield 69, 3) := by decide +kernel
theorem dX8_joins_29 : decode cX8_joins 29 = .ok (.iload_n 2, 1) := by decide +kernel
theorem dX8_joins_30 : decode cX8_joins 30 = .ok (.dup2, 1) := by decide +kernel
theorem dX8_joins_31 : decode cX8_joins 31 = .ok (.iaload, 1) := by decide +kernel
theorem dX8_joins_32 : decode cX8_joins 32 = .ok (.iconst 1, 1) := by decide +kernel
theorem dX8_joins_33 : decode cX8_joins 33 = .ok (.iadd, 1) := by decide +kernel
theorem dX8_joins_34 : decode cX8_joins 34 = .ok (.iastore, 1) := by decide +kernel
theorem dX8_joins_35 : decode cX8_joins 35 = .ok (.aload_n 0, 1) := by decide +kernel
theorem dX8_joins_36 : decode cX8_joins 36 = .ok (.getfield 69, 3) := by decide +kernel
theorem dX8_joins_39 : decode cX8_joins 39 = .ok (.iload_n 2, 1) := by decide +kernel
theorem dX8_joins_40 : decode cX8_joins 40 = .ok (.iaload, 1) := by decide +kernel
theorem dX8_joins_41 : decode cX8_joins 41 = .ok (.aload_n 0, 1) := by decide +kernel
theorem dX8_joins_42 : decode cX8_joins 42 = .ok (.getfield 125, 3) := by decide +kernel
theorem dX8_joins_45 : decode cX8_joins 45 = .ok (.if_icmp .le 9, 3) := by decide +kernel
theorem dX8_joins_48 : decode cX8_joins 48 = .ok (.iinc 2 (-1), 3) := by decide +kernel
theorem dX8_joins_51 : decode cX8_joins 51 = .ok (.goto (-30), 3) := by decide +kernel
theorem dX8_joins_54 : decode cX8_joins 54 = .ok (.aload_n 0, 1) := by decide +kernel
theorem dX8_joins_55 : decode cX8_joins 55 = .ok (.iload_n 2, 1) := by decide +kernel
theorem dX8_joins_56 : decode cX8_joins 56 = .ok (.invokevirtual 137, 3) := by decide +kernel
theorem dX8_joins_59 : decode cX8_joins 59 = .ok (.ifCond .ne 6, 3) := by decide +kernel
theorem dX8_joins_62 : decode cX8_joins 62 = .ok (.goto (-41), 3) := by decide +kernel
theorem dX8_joins_65 : decode cX8_joins 65 = .ok (.iload_n 2, 1) := by decide +kernel
theorem dX8_joins_66 : decode cX8_joins 66 = .ok (.iconst 1, 1) := by decide +kernel
theorem dX8_joins_67 : decode cX8_joins 67 = .ok (.iadd, 1) := by decide +kernel
theorem dX8_joins_68 : decode cX8_joins 68 = .ok (.aload_n 0, 1) := by decide +kernel
theorem dX8_joins_69 : decode cX8_joins 69 = .ok (.getfield 128, 3) := by decide +kernel
theorem dX8_joins_72 : decode cX8_joins 72 = .ok (.if_icmp .ge 16, 3) := by decide +kernel
theorem dX8_joins_75 : decode cX8_joins 75 = .ok (.iinc 2 1, 3) := by decide +kernel
theorem dX8_joins_78 : decode cX8_joins 78 = .ok (.aload_n 0, 1) := by decide +kernel
theorem dX8_joins_79 : decode cX8_joins 79 = .ok (.getfield 69, 3) := by decide +kernel
theorem dX8_joins_82 : decode cX8_joins 82 = .ok (.iload_n 2, 1) := by decide +kernel
theorem dX8_joins_83 : decode cX8_joins 83 = .ok (.iconst (-1), 1) := by decide +kernel
theorem dX8_joins_84 : decode cX8_joins 84 = .ok (.iastore, 1) := by decide +kernel
theorem dX8_joins_85 : decode cX8_joins 85 = .ok (.goto (-64), 3) := by decide +kernel
theorem dX8_joins_88 : decode cX8_joins 88 = .ok (.iconst 0, 1) := by decide +kernel
theorem dX8_joins_89 : decode cX8_joins 89 = .ok (.istore_n 3, 1) := by decide +kernel
theorem dX8_joins_90 : decode cX8_joins 90 = .ok (.iconst 0, 1) := by decide +kernel
theorem dX8_joins_91 : decode cX8_joins 91 = .ok (.istore 4, 2) := by decide +kernel
theorem dX8_joins_93 : decode cX8_joins 93 = .ok (.iload 4, 2) := by decide +kernel
theorem dX8_joins_95 : decode cX8_joins 95 = .ok (.aload_n 0, 1) := by decide +kernel
theorem dX8_joins_96 : decode cX8_joins 96 = .ok (.getfield 128, 3) := by decide +kernel
theorem dX8_joins_99 : decode cX8_joins 99 = .ok (.if_icmp .ge 52, 3) := by decide +kernel
theorem dX8_joins_102 : decode cX8_joins 102 = .ok (.iload_n 3, 1) := by decide +kernel
theorem dX8_joins_103 : decode cX8_joins 103 = .ok (.aload_n 0, 1) := by decide +kernel
theorem dX8_joins_104 : decode cX8_joins 104 = .ok (.getfield 69, 3) := by decide +kernel
theorem dX8_joins_107 : decode cX8_joins 107 = .ok (.iload 4, 2) := by decide +kernel
theorem dX8_joins_109 : decode cX8_joins 109 = .ok (.iaload, 1) := by decide +kernel
theorem dX8_joins_110 : decode cX8_joins 110 = .ok (.aload_n 0, 1) := by decide +kernel
theorem dX8_joins_111 : decode cX8_joins 111 = .ok (.getfield 125, 3) := by decide +kernel
theorem dX8_joins_114 : decode cX8_joins 114 = .ok (.if_icmp .ne 7, 3) := by decide +kernel
theorem dX8_joins_117 : decode cX8_joins 117 = .ok (.iconst 3, 1) := by decide +kernel
theorem dX8_joins_118 : decode cX8_joins 118 = .ok (.goto 25, 3) := by decide +kernel
theorem dX8_joins_121 : decode cX8_joins 121 = .ok (.aload_n 0, 1) := by decide +kernel
theorem dX8_joins_122 : decode cX8_joins 122 = .ok (.getfield 31, 3) := by decide +kernel
theorem dX8_joins_125 : decode cX8_joins 125 = .ok (.iload 4, 2) := by decide +kernel
theorem dX8_joins_127 : decode cX8_joins 127 = .ok (.iaload, 1) := by decide +kernel
theorem dX8_joins_128 : decode cX8_joins 128 = .ok (.aload_n 0, 1) := by decide +kernel
theorem dX8_joins_129 : decode cX8_joins 129 = .ok (.getfield 25, 3) := by decide +kernel
theorem dX8_joins_132 : decode cX8_joins 132 = .ok (.aload_n 0, 1) := by decide +kernel
theorem dX8_joins_133 : decode cX8_joins 133 = .ok (.getfield 69, 3) := by decide +kernel
theorem dX8_joins_136 : decode cX8_joins 136 = .ok (.iload 4, 2) := by decide +kernel
theorem dX8_joins_138 : decode cX8_joins 138 = .ok (.iaload, 1) := by decide +kernel
theorem dX8_joins_139 : decode cX8_joins 139 = .ok (.iaload, 1) := by decide +kernel
theorem dX8_joins_140 : decode cX8_joins 140 = .ok (.invokestatic 134, 3) := by decide +kernel
theorem dX8_joins_143 : decode cX8_joins 143 = .ok (.iadd, 1) := by decide +kernel
theorem dX8_joins_144 : decode cX8_joins 144 = .ok (.istore_n 3, 1) := by decide +kernel
theorem dX8_joins_145 : decode cX8_joins 145 = .ok (.iinc 4 1, 3) := by decide +kernel
theorem dX8_joins_148 : decode cX8_joins 148 = .ok (.goto (-55), 3) := by decide +kernel
theorem dX8_joins_151 : decode cX8_joins 151 = .ok (.iload_n 3, 1) := by decide +kernel
theorem dX8_joins_152 : decode cX8_joins 152 = .ok (.iload_n 1, 1) := by decide +kernel
theorem dX8_joins_153 : decode cX8_joins 153 = .ok (.if_icmp .lt 6, 3) := by decide +kernel
theorem dX8_joins_156 : decode cX8_joins 156 = .ok (.goto (-135), 3) := by decide +kernel
theorem dX8_joins_159 : decode cX8_joins 159 = .ok (.iload_n 3, 1) := by decide +kernel
theorem dX8_joins_160 : decode cX8_joins 160 = .ok (.istore_n 1, 1) := by decide +kernel
theorem dX8_joins_161 : decode cX8_joins 161 = .ok (.iconst 0, 1) := by decide +kernel
theorem dX8_joins_162 : decode cX8_joins 162 = .ok (.istore 4, 2) := by decide +kernel
theorem dX8_joins_164 : decode cX8_joins 164 = .ok (.iload 4, 2) := by decide +kernel
theorem dX8_joins_166 : decode cX8_joins 166 = .ok (.aload_n 0, 1) := by decide +kernel
theorem dX8_joins_167 : decode cX8_joins 167 = .ok (.getfield 128, 3) := by decide +kernel
theorem dX8_joins_170 : decode cX8_joins 170 = .ok (.if_icmp .ge 23, 3) := by decide +kernel
theorem dX8_joins_173 : decode cX8_joins 173 = .ok (.aload_n 0, 1) := by decide +kernel
theorem dX8_joins_174 : decode cX8_joins 174 = .ok (.getfield 72, 3) := by decide +kernel
theorem dX8_joins_177 : decode cX8_joins 177 = .ok (.iload 4, 2) := by decide +kernel
theorem dX8_joins_179 : decode cX8_joins 179 = .ok (.aload_n 0, 1) := by decide +kernel
theorem dX8_joins_180 : decode cX8_joins 180 = .ok (.getfield 69, 3) := by decide +kernel
theorem dX8_joins_183 : decode cX8_joins 183 = .ok (.iload 4, 2) := by decide +kernel
theorem dX8_joins_185 : decode cX8_joins 185 = .ok (.iaload, 1) := by decide +kernel
theorem dX8_joins_186 : decode cX8_joins 186 = .ok (.iastore, 1) := by decide +kernel
theorem dX8_joins_187 : decode cX8_joins 187 = .ok (.iinc 4 1, 3) := by decide +kernel
theorem dX8_joins_190 : decode cX8_joins 190 = .ok (.goto (-26), 3) := by decide +kernel
theorem dX8_joins_193 : decode cX8_joins 193 = .ok (.goto (-172), 3) := by decide +kernel
theorem dX8_joins_196 : decode cX8_joins 196 = .ok (.iload_n 1, 1) := by decide +kernel
theorem dX8_joins_197 : decode cX8_joins 197 = .ok (.ireturn, 1) := by decide +kernel
theorem dX8_whose_0 : decode cX8_whose 0 = .ok (.iload_n 1, 1) := by decide +kernel
theorem dX8_whose_1 : decode cX8_whose 1 = .ok (.iconst 0, 1) := by decide +kernel
theorem dX8_whose_2 : decode cX8_whose 2 = .ok (.aload_n 0, 1) := by decide +kernel
theorem dX8_whose_3 : decode cX8_whose 3 = .ok (.getfield 128, 3) := by decide +kernel
theorem dX8_whose_6 : decode cX8_whose 6 = .ok (.iconst 1, 1) := by decide +kernel
theorem dX8_whose_7 : decode cX8_whose 7 = .ok (.isub, 1) := by decide +kernel
theorem dX8_whose_8 : decode cX8_whose 8 = .ok (.invokestatic 93, 3) := by decide +kernel
theorem dX8_whose_11 : decode cX8_whose 11 = .ok (.ifCond .ne 5, 3) := by decide +kernel
theorem dX8_whose_14 : decode cX8_whose 14 = .ok (.iconst (-1), 1) := by decide +kernel
theorem dX8_whose_15 : decode cX8_whose 15 = .ok (.ireturn, 1) := by decide +kernel
theorem dX8_whose_16 : decode cX8_whose 16 = .ok (.aload_n 0, 1) := by decide +kernel
theorem dX8_whose_17 : decode cX8_whose 17 = .ok (.invokevirtual 140, 3) := by decide +kernel
theorem dX8_whose_20 : decode cX8_whose 20 = .ok (.pop, 1) := by decide +kernel
theorem dX8_whose_21 : decode cX8_whose 21 = .ok (.aload_n 0, 1) := by decide +kernel
theorem dX8_whose_22 : decode cX8_whose 22 = .ok (.getfield 72, 3) := by decide +kernel
theorem dX8_whose_25 : decode cX8_whose 25 = .ok (.iload_n 1, 1) := by decide +kernel
theorem dX8_whose_26 : decode cX8_whose 26 = .ok (.iaload, 1) := by decide +kernel
theorem dX8_whose_27 : decode cX8_whose 27 = .ok (.aload_n 0, 1) := by decide +kernel
theorem dX8_whose_28 : decode cX8_whose 28 = .ok (.getfield 125, 3) := by decide +kernel
theorem dX8_whose_31 : decode cX8_whose 31 = .ok (.if_icmp .ne 7, 3) := by decide +kernel
theorem dX8_whose_34 : decode cX8_whose 34 = .ok (.iconst (-1), 1) := by decide +kernel
theorem dX8_whose_35 : decode cX8_whose 35 = .ok (.goto 9, 3) := by decide +kernel
theorem dX8_whose_38 : decode cX8_whose 38 = .ok (.aload_n 0, 1) := by decide +kernel
theorem dX8_whose_39 : decode cX8_whose 39 = .ok (.getfield 72, 3) := by decide +kernel
theorem dX8_whose_42 : decode cX8_whose 42 = .ok (.iload_n 1, 1) := by decide +kernel
theorem dX8_whose_43 : decode cX8_whose 43 = .ok (.iaload, 1) := by decide +kernel
theorem dX8_whose_44 : decode cX8_whose 44 = .ok (.ireturn, 1) := by decide +kernel
theorem dX8_cost_0 : decode cX8_cost 0 = .ok (.aload_n 0, 1) := by decide +kernel
theorem dX8_cost_1 : decode cX8_cost 1 = .ok (.invokevirtual 140, 3) := by decide +kernel
theorem dX8_cost_4 : decode cX8_cost 4 = .ok (.ireturn, 1) := by decide +kernel
theorem dX8_terms_0 : decode cX8_terms 0 = .ok (.iload_n 1, 1) := by decide +kernel
theorem dX8_terms_1 : decode cX8_terms 1 = .ok (.iconst 0, 1) := by decide +kernel
theorem dX8_terms_2 : decode cX8_terms 2 = .ok (.bipush 30, 2) := by decide +kernel
theorem dX8_terms_4 : decode cX8_terms 4 = .ok (.invokestatic 93, 3) := by decide +kernel
theorem dX8_terms_7 : decode cX8_terms 7 = .ok (.ifCond .eq 13, 3) := by decide +kernel
theorem dX8_terms_10 : decode cX8_terms 10 = .ok (.iload_n 2, 1) := by decide +kernel
theorem dX8_terms_11 : decode cX8_terms 11 = .ok (.iconst 0, 1) := by decide +kernel
theorem dX8_terms_12 : decode cX8_terms 12 = .ok (.bipush 100, 2) := by decide +kernel
theorem dX8_terms_14 : decode cX8_terms 14 = .ok (.invokestatic 93, 3) := by decide +kernel
theorem dX8_terms_17 : decode cX8_terms 17 = .ok (.ifCond .ne 5, 3) := by decide +kernel
theorem dX8_terms_20 : decode cX8_terms 20 = .ok (.iconst 0, 1) := by decide +kernel
theorem dX8_terms_21 : decode cX8_terms 21 = .ok (.ireturn, 1) := by decide +kernel
theorem dX8_terms_22 : decode cX8_terms 22 = .ok (.aload_n 0, 1) := by decide +kernel
theorem dX8_terms_23 : decode cX8_terms 23 = .ok (.iload_n 1, 1) := by decide +kernel
theorem dX8_terms_24 : decode cX8_terms 24 = .ok (.putfield 43, 3) := by decide +kernel
theorem dX8_terms_27 : decode cX8_terms 27 = .ok (.aload_n 0, 1) := by decide +kernel
theorem dX8_terms_28 : decode cX8_terms 28 = .ok (.iload_n 2, 1) := by decide +kernel
theorem dX8_terms_29 : decode cX8_terms 29 = .ok (.putfield 47, 3) := by decide +kernel
theorem dX8_terms_32 : decode cX8_terms 32 = .ok (.iconst 1, 1) := by decide +kernel
theorem dX8_terms_33 : decode cX8_terms 33 = .ok (.ireturn, 1) := by decide +kernel
theorem dX8_owes_0 : decode cX8_owes 0 = .ok (.iconst 0, 1) := by decide +kernel
theorem dX8_owes_1 : decode cX8_owes 1 = .ok (.istore_n 3, 1) := by decide +kernel
theorem dX8_owes_2 : decode cX8_owes 2 = .ok (.iconst (-1), 1) := by decide +kernel
theorem dX8_owes_3 : decode cX8_owes 3 = .ok (.istore 4, 2) := by decide +kernel
theorem dX8_owes_5 : decode cX8_owes 5 = .ok (.iconst 0, 1) := by decide +kernel
theorem dX8_owes_6 : decode cX8_owes 6 = .ok (.istore 5, 2) := by decide +kernel
theorem dX8_owes_8 : decode cX8_owes 8 = .ok (.iload 5, 2) := by decide +kernel
theorem dX8_owes_10 : decode cX8_owes 10 = .ok (.aload_n 0, 1) := by decide +kernel
theorem dX8_owes_11 : decode cX8_owes 11 = .ok (.getfield 128, 3) := by decide +kernel
theorem dX8_owes_14 : decode cX8_owes 14 = .ok (.if_icmp .ge 95, 3) := by decide +kernel
theorem dX8_owes_17 : decode cX8_owes 17 = .ok (.aload_n 0, 1) := by decide +kernel
theorem dX8_owes_18 : decode cX8_owes 18 = .ok (.getfield 72, 3) := by decide +kernel
theorem dX8_owes_21 : decode cX8_owes 21 = .ok (.iload 5, 2) := by decide +kernel
theorem dX8_owes_23 : decode cX8_owes 23 = .ok (.iaload, 1) := by decide +kernel
theorem dX8_owes_24 : decode cX8_owes 24 = .ok (.iload_n 1, 1) := by decide +kernel
theorem dX8_owes_25 : decode cX8_owes 25 = .ok (.if_icmp .eq 6, 3) := by decide +kernel
theorem dX8_owes_28 : decode cX8_owes 28 = .ok (.goto 75, 3) := by decide +kernel
theorem dX8_owes_31 : decode cX8_owes 31 = .ok (.iload 4, 2) := by decide +kernel
theorem dX8_owes_33 : decode cX8_owes 33 = .ok (.iconst (-1), 1) := by decide +kernel
theorem dX8_owes_34 : decode cX8_owes 34 = .ok (.if_icmp .ne 7, 3) := by decide +kernel
theorem dX8_owes_37 : decode cX8_owes 37 = .ok (.iconst 0, 1) := by decide +kernel
theorem dX8_owes_38 : decode cX8_owes 38 = .ok (.goto 18, 3) := by decide +kernel
theorem dX8_owes_41 : decode cX8_owes 41 = .ok (.aload_n 0, 1) := by decide +kernel
theorem dX8_owes_42 : decode cX8_owes 42 = .ok (.getfield 37, 3) := by decide +kernel
theorem dX8_owes_45 : decode cX8_owes 45 = .ok (.iload 5, 2) := by decide +kernel
theorem dX8_owes_47 : decode cX8_owes 47 = .ok (.iaload, 1) := by decide +kernel
theorem dX8_owes_48 : decode cX8_owes 48 = .ok (.aload_n 0, 1) := by decide +kernel
theorem dX8_owes_49 : decode cX8_owes 49 = .ok (.getfield 37, 3) := by decide +kernel
theorem dX8_owes_52 : decode cX8_owes 52 = .ok (.iload 4, 2) := by decide +kernel
theorem dX8_owes_54 : decode cX8_owes 54 = .ok (.iaload, 1) := by decide +kernel
theorem dX8_owes_55 : decode cX8_owes 55 = .ok (.isub, 1) := by decide +kernel
theorem dX8_owes_56 : decode cX8_owes 56 = .ok (.istore 6, 2) := by decide +kernel
theorem dX8_owes_58 : decode cX8_owes 58 = .ok (.iload 4, 2) := by decide +kernel
theorem dX8_owes_60 : decode cX8_owes 60 = .ok (.iconst (-1), 1) := by decide +kernel
theorem dX8_owes_61 : decode cX8_owes 61 = .ok (.if_icmp .eq 38, 3) := by decide +kernel
theorem dX8_owes_64 : decode cX8_owes 64 = .ok (.aload_n 0, 1) := by decide +kernel
theorem dX8_owes_65 : decode cX8_owes 65 = .ok (.getfield 40, 3) := by decide +kernel
theorem dX8_owes_68 : decode cX8_owes 68 = .ok (.iload 4, 2) := by decide +kernel
theorem dX8_owes_70 : decode cX8_owes 70 = .ok (.iaload, 1) := by decide +kernel
theorem dX8_owes_71 : decode cX8_owes 71 = .ok (.iload_n 2, 1) := by decide +kernel
theorem dX8_owes_72 : decode cX8_owes 72 = .ok (.if_icmp .ne 27, 3) := by decide +kernel
theorem dX8_owes_75 : decode cX8_owes 75 = .ok (.iload 6, 2) := by decide +kernel
theorem dX8_owes_77 : decode cX8_owes 77 = .ok (.aload_n 0, 1) := by decide +kernel
theorem dX8_owes_78 : decode cX8_owes 78 = .ok (.getfield 43, 3) := by decide +kernel
theorem dX8_owes_81 : decode cX8_owes 81 = .ok (.if_icmp .le 18, 3) := by decide +kernel
theorem dX8_owes_84 : decode cX8_owes 84 = .ok (.iload_n 3, 1) := by decide +kernel
theorem dX8_owes_85 : decode cX8_owes 85 = .ok (.iload 6, 2) := by decide +kernel
theorem dX8_owes_87 : decode cX8_owes 87 = .ok (.aload_n 0, 1) := by decide +kernel
theorem dX8_owes_88 : decode cX8_owes 88 = .ok (.getfield 43, 3) := by decide +kernel
theorem dX8_owes_91 : decode cX8_owes 91 = .ok (.isub, 1) := by decide +kernel
theorem dX8_owes_92 : decode cX8_owes 92 = .ok (.aload_n 0, 1) := by decide +kernel
theorem dX8_owes_93 : decode cX8_owes 93 = .ok (.getfield 47, 3) := by decide +kernel
theorem dX8_owes_96 : decode cX8_owes 96 = .ok (.imul, 1) := by decide +kernel
theorem dX8_owes_97 : decode cX8_owes 97 = .ok (.iadd, 1) := by decide +kernel
theorem dX8_owes_98 : decode cX8_owes 98 = .ok (.istore_n 3, 1) := by decide +kernel
theorem dX8_owes_99 : decode cX8_owes 99 = .ok (.iload 5, 2) := by decide +kernel
theorem dX8_owes_101 : decode cX8_owes 101 = .ok (.istore 4, 2) := by decide +kernel
theorem dX8_owes_103 : decode cX8_owes 103 = .ok (.iinc 5 1, 3) := by decide +kernel
theorem dX8_owes_106 : decode cX8_owes 106 = .ok (.goto (-98), 3) := by decide +kernel
theorem dX8_owes_109 : decode cX8_owes 109 = .ok (.iload_n 2, 1) := by decide +kernel
theorem dX8_owes_110 : decode cX8_owes 110 = .ok (.aload_n 0, 1) := by decide +kernel
theorem dX8_owes_111 : decode cX8_owes 111 = .ok (.getfield 28, 3) := by decide +kernel
theorem dX8_owes_114 : decode cX8_owes 114 = .ok (.iload_n 1, 1) := by decide +kernel
theorem dX8_owes_115 : decode cX8_owes 115 = .ok (.iaload, 1) := by decide +kernel
theorem dX8_owes_116 : decode cX8_owes 116 = .ok (.if_icmp .ne 7, 3) := by decide +kernel
theorem dX8_owes_119 : decode cX8_owes 119 = .ok (.iconst 0, 1) := by decide +kernel
theorem dX8_owes_120 : decode cX8_owes 120 = .ok (.goto 4, 3) := by decide +kernel
theorem dX8_owes_123 : decode cX8_owes 123 = .ok (.iload_n 3, 1) := by decide +kernel
theorem dX8_owes_124 : decode cX8_owes 124 = .ok (.ireturn, 1) := by decide +kernel
theorem dX8_charge_0 : decode cX8_charge 0 = .ok (.iload_n 1, 1) := by decide +kernel
theorem dX8_charge_1 : decode cX8_charge 1 = .ok (.iconst 0, 1) := by decide +kernel
theorem dX8_charge_2 : decode cX8_charge 2 = .ok (.aload_n 0, 1) := by decide +kernel
theorem dX8_charge_3 : decode cX8_charge 3 = .ok (.getfield 125, 3) := by decide +kernel
theorem dX8_charge_6 : decode cX8_charge 6 = .ok (.iconst 1, 1) := by decide +kernel
theorem dX8_charge_7 : decode cX8_charge 7 = .ok (.isub, 1) := by decide +kernel
theorem dX8_charge_8 : decode cX8_charge 8 = .ok (.invokestatic 93, 3) := by decide +kernel
theorem dX8_charge_11 : decode cX8_charge 11 = .ok (.ifCond .eq 10, 3) := by decide +kernel
theorem dX8_charge_14 : decode cX8_charge 14 = .ok (.iload_n 2, 1) := by decide +kernel
theorem dX8_charge_15 : decode cX8_charge 15 = .ok (.invokestatic 105, 3) := by decide +kernel
theorem dX8_charge_18 : decode cX8_charge 18 = .ok (.ifCond .ne 5, 3) := by decide +kernel
theorem dX8_charge_21 : decode cX8_charge 21 = .ok (.iconst 0, 1) := by decide +kernel
theorem dX8_charge_22 : decode cX8_charge 22 = .ok (.ireturn, 1) := by decide +kernel
theorem dX8_charge_23 : decode cX8_charge 23 = .ok (.aload_n 0, 1) := by decide +kernel
theorem dX8_charge_24 : decode cX8_charge 24 = .ok (.invokevirtual 140, 3) := by decide +kernel
theorem dX8_charge_27 : decode cX8_charge 27 = .ok (.pop, 1) := by decide +kernel
theorem dX8_charge_28 : decode cX8_charge 28 = .ok (.aload_n 0, 1) := by decide +kernel
theorem dX8_charge_29 : decode cX8_charge 29 = .ok (.iload_n 1, 1) := by decide +kernel
theorem dX8_charge_30 : decode cX8_charge 30 = .ok (.iload_n 2, 1) := by decide +kernel
theorem dX8_charge_31 : decode cX8_charge 31 = .ok (.invokevirtual 144, 3) := by decide +kernel
theorem dX8_charge_34 : decode cX8_charge 34 = .ok (.ireturn, 1) := by decide +kernel
theorem dX8_close_0 : decode cX8_close 0 = .ok (.aload_n 0, 1) := by decide +kernel
theorem dX8_close_1 : decode cX8_close 1 = .ok (.getfield 128, 3) := by decide +kernel
theorem dX8_close_4 : decode cX8_close 4 = .ok (.istore_n 1, 1) := by decide +kernel
theorem dX8_close_5 : decode cX8_close 5 = .ok (.iconst 0, 1) := by decide +kernel
theorem dX8_close_6 : decode cX8_close 6 = .ok (.istore_n 2, 1) := by decide +kernel
theorem dX8_close_7 : decode cX8_close 7 = .ok (.iload_n 2, 1) := by decide +kernel
theorem dX8_close_8 : decode cX8_close 8 = .ok (.bipush 8, 2) := by decide +kernel
theorem dX8_close_10 : decode cX8_close 10 = .ok (.if_icmp .ge 20, 3) := by decide +kernel
theorem dX8_close_13 : decode cX8_close 13 = .ok (.aload_n 0, 1) := by decide +kernel
theorem dX8_close_14 : decode cX8_close 14 = .ok (.getfield 75, 3) := by decide +kernel
theorem dX8_close_17 : decode cX8_close 17 = .ok (.iload_n 2, 1) := by decide +kernel
theorem dX8_close_18 : decode cX8_close 18 = .ok (.aload_n 0, 1) := by decide +kernel
theorem dX8_close_19 : decode cX8_close 19 = .ok (.iload_n 2, 1) := by decide +kernel
theorem dX8_close_20 : decode cX8_close 20 = .ok (.invokevirtual 147, 3) := by decide +kernel
theorem dX8_close_23 : decode cX8_close 23 = .ok (.iastore, 1) := by decide +kernel
theorem dX8_close_24 : decode cX8_close 24 = .ok (.iinc 2 1, 3) := by decide +kernel
theorem dX8_close_27 : decode cX8_close 27 = .ok (.goto (-20), 3) := by decide +kernel
theorem dX8_close_30 : decode cX8_close 30 = .ok (.iconst 0, 1) := by decide +kernel
theorem dX8_close_31 : decode cX8_close 31 = .ok (.istore_n 2, 1) := by decide +kernel
theorem dX8_close_32 : decode cX8_close 32 = .ok (.iload_n 2, 1) := by decide +kernel
theorem dX8_close_33 : decode cX8_close 33 = .ok (.bipush 8, 2) := by decide +kernel
theorem dX8_close_35 : decode cX8_close 35 = .ok (.if_icmp .ge 21, 3) := by decide +kernel
theorem dX8_close_38 : decode cX8_close 38 = .ok (.aload_n 0, 1) := by decide +kernel
theorem dX8_close_39 : decode cX8_close 39 = .ok (.getfield 50, 3) := by decide +kernel
theorem dX8_close_42 : decode cX8_close 42 = .ok (.iload_n 2, 1) := by decide +kernel
theorem dX8_close_43 : decode cX8_close 43 = .ok (.aload_n 0, 1) := by decide +kernel
theorem dX8_close_44 : decode cX8_close 44 = .ok (.getfield 75, 3) := by decide +kernel
theorem dX8_close_47 : decode cX8_close 47 = .ok (.iload_n 2, 1) := by decide +kernel
theorem dX8_close_48 : decode cX8_close 48 = .ok (.iaload, 1) := by decide +kernel
theorem dX8_close_49 : decode cX8_close 49 = .ok (.iastore, 1) := by decide +kernel
theorem dX8_close_50 : decode cX8_close 50 = .ok (.iinc 2 1, 3) := by decide +kernel
theorem dX8_close_53 : decode cX8_close 53 = .ok (.goto (-21), 3) := by decide +kernel
theorem dX8_close_56 : decode cX8_close 56 = .ok (.aload_n 0, 1) := by decide +kernel
theorem dX8_close_57 : decode cX8_close 57 = .ok (.iconst 0, 1) := by decide +kernel
theorem dX8_close_58 : decode cX8_close 58 = .ok (.putfield 128, 3) := by decide +kernel
theorem dX8_close_61 : decode cX8_close 61 = .ok (.iload_n 1, 1) := by decide +kernel
theorem dX8_close_62 : decode cX8_close 62 = .ok (.ireturn, 1) := by decide +kernel
theorem dX8_balance_0 : decode cX8_balance 0 = .ok (.iload_n 1, 1) := by decide +kernel
theorem dX8_balance_1 : decode cX8_balance 1 = .ok (.invokestatic 105, 3) := by decide +kernel
theorem dX8_balance_4 : decode cX8_balance 4 = .ok (.ifCond .ne 5, 3) := by decide +kernel
theorem dX8_balance_7 : decode cX8_balance 7 = .ok (.iconst 0, 1) := by decide +kernel
theorem dX8_balance_8 : decode cX8_balance 8 = .ok (.ireturn, 1) := by decide +kernel
theorem dX8_balance_9 : decode cX8_balance 9 = .ok (.aload_n 0, 1) := by decide +kernel
theorem dX8_balance_10 : decode cX8_balance 10 = .ok (.invokevirtual 140, 3) := by decide +kernel
theorem dX8_balance_13 : decode cX8_balance 13 = .ok (.pop, 1) := by decide +kernel
theorem dX8_balance_14 : decode cX8_balance 14 = .ok (.aload_n 0, 1) := by decide +kernel
theorem dX8_balance_15 : decode cX8_balance 15 = .ok (.getfield 50, 3) := by decide +kernel
theorem dX8_balance_18 : decode cX8_balance 18 = .ok (.iload_n 1, 1) := by decide +kernel
theorem dX8_balance_19 : decode cX8_balance 19 = .ok (.iaload, 1) := by decide +kernel
theorem dX8_balance_20 : decode cX8_balance 20 = .ok (.istore_n 2, 1) := by decide +kernel
theorem dX8_balance_21 : decode cX8_balance 21 = .ok (.iconst 0, 1) := by decide +kernel
theorem dX8_balance_22 : decode cX8_balance 22 = .ok (.istore_n 3, 1) := by decide +kernel
theorem dX8_balance_23 : decode cX8_balance 23 = .ok (.iload_n 3, 1) := by decide +kernel
theorem dX8_balance_24 : decode cX8_balance 24 = .ok (.aload_n 0, 1) := by decide +kernel
theorem dX8_balance_25 : decode cX8_balance 25 = .ok (.getfield 125, 3) := by decide +kernel
theorem dX8_balance_28 : decode cX8_balance 28 = .ok (.if_icmp .ge 61, 3) := by decide +kernel
theorem dX8_balance_31 : decode cX8_balance 31 = .ok (.aload_n 0, 1) := by decide +kernel
theorem dX8_balance_32 : decode cX8_balance 32 = .ok (.getfield 128, 3) := by decide +kernel
theorem dX8_balance_35 : decode cX8_balance 35 = .ok (.ifCond .le 54, 3) := by decide +kernel
theorem dX8_balance_38 : decode cX8_balance 38 = .ok (.iload_n 2, 1) := by decide +kernel
theorem dX8_balance_39 : decode cX8_balance 39 = .ok (.aload_n 0, 1) := by decide +kernel
theorem dX8_balance_40 : decode cX8_balance 40 = .ok (.iload_n 3, 1) := by decide +kernel
theorem dX8_balance_41 : decode cX8_balance 41 = .ok (.iload_n 1, 1) := by decide +kernel
theorem dX8_balance_42 : decode cX8_balance 42 = .ok (.invokevirtual 144, 3) := by decide +kernel
theorem dX8_balance_45 : decode cX8_balance 45 = .ok (.isub, 1) := by decide +kernel
theorem dX8_balance_46 : decode cX8_balance 46 = .ok (.istore_n 2, 1) := by decide +kernel
theorem dX8_balance_47 : decode cX8_balance 47 = .ok (.iconst 0, 1) := by decide +kernel
theorem dX8_balance_48 : decode cX8_balance 48 = .ok (.istore 4, 2) := by decide +kernel
theorem dX8_balance_50 : decode cX8_balance 50 = .ok (.iload 4, 2) := by decide +kernel
theorem dX8_balance_52 : decode cX8_balance 52 = .ok (.bipush 8, 2) := by decide +kernel
theorem dX8_balance_54 : decode cX8_balance 54 = .ok (.if_icmp .ge 29, 3) := by decide +kernel
theorem dX8_balance_57 : decode cX8_balance 57 = .ok (.aload_n 0, 1) := by decide +kernel
theorem dX8_balance_58 : decode cX8_balance 58 = .ok (.getfield 28, 3) := by decide +kernel
theorem dX8_balance_61 : decode cX8_balance 61 = .ok (.iload_n 3, 1) := by decide +kernel
theorem dX8_balance_62 : decode cX8_balance 62 = .ok (.iaload, 1) := by decide +kernel
theorem dX8_balance_63 : decode cX8_balance 63 = .ok (.iload_n 1, 1) := by decide +kernel
theorem dX8_balance_64 : decode cX8_balance 64 = .ok (.if_icmp .ne 13, 3) := by decide +kernel
theorem dX8_balance_67 : decode cX8_balance 67 = .ok (.iload_n 2, 1) := by decide +kernel
theorem dX8_balance_68 : decode cX8_balance 68 = .ok (.aload_n 0, 1) := by decide +kernel
theorem dX8_balance_69 : decode cX8_balance 69 = .ok (.iload_n 3, 1) := by decide +kernel
theorem dX8_balance_70 : decode cX8_balance 70 = .ok (.iload 4, 2) := by decide +kernel
theorem dX8_balance_72 : decode cX8_balance 72 = .ok (.invokevirtual 144, 3) := by decide +kernel
theorem dX8_balance_75 : decode cX8_balance 75 = .ok (.iadd, 1) := by decide +kernel
theorem dX8_balance_76 : decode cX8_balance 76 = .ok (.istore_n 2, 1) := by decide +kernel
theorem dX8_balance_77 : decode cX8_balance 77 = .ok (.iinc 4 1, 3) := by decide +kernel
theorem dX8_balance_80 : decode cX8_balance 80 = .ok (.goto (-30), 3) := by decide +kernel
theorem dX8_balance_83 : decode cX8_balance 83 = .ok (.iinc 3 1, 3) := by decide +kernel
theorem dX8_balance_86 : decode cX8_balance 86 = .ok (.goto (-63), 3) := by decide +kernel
theorem dX8_balance_89 : decode cX8_balance 89 = .ok (.iload_n 2, 1) := by decide +kernel
theorem dX8_balance_90 : decode cX8_balance 90 = .ok (.ireturn, 1) := by decide +kernel
theorem dX8_sumOf_0 : decode cX8_sumOf 0 = .ok (.lconst 0, 1) := by decide +kernel
theorem dX8_sumOf_1 : decode cX8_sumOf 1 = .ok (.lstore_n 2, 1) := by decide +kernel
theorem dX8_sumOf_2 : decode cX8_sumOf 2 = .ok (.iconst 0, 1) := by decide +kernel
theorem dX8_sumOf_3 : decode cX8_sumOf 3 = .ok (.istore 4, 2) := by decide +kernel
theorem dX8_sumOf_5 : decode cX8_sumOf 5 = .ok (.iload 4, 2) := by decide +kernel
theorem dX8_sumOf_7 : decode cX8_sumOf 7 = .ok (.bipush 8, 2) := by decide +kernel
theorem dX8_sumOf_9 : decode cX8_sumOf 9 = .ok (.if_icmp .ge 30, 3) := by decide +kernel
theorem dX8_sumOf_12 : decode cX8_sumOf 12 = .ok (.iload_n 1, 1) := by decide +kernel
theorem dX8_sumOf_13 : decode cX8_sumOf 13 = .ok (.iload 4, 2) := by decide +kernel
theorem dX8_sumOf_15 : decode cX8_sumOf 15 = .ok (.ishr, 1) := by decide +kernel
theorem dX8_sumOf_16 : decode cX8_sumOf 16 = .ok (.iconst 1, 1) := by decide +kernel
theorem dX8_sumOf_17 : decode cX8_sumOf 17 = .ok (.iand, 1) := by decide +kernel
theorem dX8_sumOf_18 : decode cX8_sumOf 18 = .ok (.iconst 1, 1) := by decide +kernel
theorem dX8_sumOf_19 : decode cX8_sumOf 19 = .ok (.if_icmp .ne 14, 3) := by decide +kernel
theorem dX8_sumOf_22 : decode cX8_sumOf 22 = .ok (.lload_n 2, 1) := by decide +kernel
theorem dX8_sumOf_23 : decode cX8_sumOf 23 = .ok (.aload_n 0, 1) := by decide +kernel
theorem dX8_sumOf_24 : decode cX8_sumOf 24 = .ok (.getfield 75, 3) := by decide +kernel
theorem dX8_sumOf_27 : decode cX8_sumOf 27 = .ok (.iload 4, 2) := by decide +kernel
theorem dX8_sumOf_29 : decode cX8_sumOf 29 = .ok (.iaload, 1) := by decide +kernel
theorem dX8_sumOf_30 : decode cX8_sumOf 30 = .ok (.i2l, 1) := by decide +kernel
theorem dX8_sumOf_31 : decode cX8_sumOf 31 = .ok (.ladd, 1) := by decide +kernel
theorem dX8_sumOf_32 : decode cX8_sumOf 32 = .ok (.lstore_n 2, 1) := by decide +kernel
theorem dX8_sumOf_33 : decode cX8_sumOf 33 = .ok (.iinc 4 1, 3) := by decide +kernel
theorem dX8_sumOf_36 : decode cX8_sumOf 36 = .ok (.goto (-31), 3) := by decide +kernel
theorem dX8_sumOf_39 : decode cX8_sumOf 39 = .ok (.lload_n 2, 1) := by decide +kernel
theorem dX8_sumOf_40 : decode cX8_sumOf 40 = .ok (.lreturn, 1) := by decide +kernel
theorem dX8_groups_0 : decode cX8_groups 0 = .ok (.iconst 0, 1) := by decide +kernel
theorem dX8_groups_1 : decode cX8_groups 1 = .ok (.istore_n 1, 1) := by decide +kernel
theorem dX8_groups_2 : decode cX8_groups 2 = .ok (.iconst 0, 1) := by decide +kernel
theorem dX8_groups_3 : decode cX8_groups 3 = .ok (.istore_n 2, 1) := by decide +kernel
theorem dX8_groups_4 : decode cX8_groups 4 = .ok (.iload_n 2, 1) := by decide +kernel
theorem dX8_groups_5 : decode cX8_groups 5 = .ok (.bipush 8, 2) := by decide +kernel
theorem dX8_groups_7 : decode cX8_groups 7 = .ok (.if_icmp .ge 39, 3) := by decide +kernel
theorem dX8_groups_10 : decode cX8_groups 10 = .ok (.aload_n 0, 1) := by decide +kernel
theorem dX8_groups_11 : decode cX8_groups 11 = .ok (.getfield 75, 3) := by decide +kernel
theorem dX8_groups_14 : decode cX8_groups 14 = .ok (.iload_n 2, 1) := by decide +kernel
theorem dX8_groups_15 : decode cX8_groups 15 = .ok (.aload_n 0, 1) := by decide +kernel
theorem dX8_groups_16 : decode cX8_groups 16 = .ok (.iload_n 2, 1) := by decide +kernel
theorem dX8_groups_17 : decode cX8_groups 17 = .ok (.invokevirtual 147, 3) := by decide +kernel
theorem dX8_groups_20 : decode cX8_groups 20 = .ok (.iastore, 1) := by decide +kernel
theorem dX8_groups_21 : decode cX8_groups 21 = .ok (.iload_n 1, 1) := by decide +kernel
theorem dX8_groups_22 : decode cX8_groups 22 = .ok (.aload_n 0, 1) := by decide +kernel
theorem dX8_groups_23 : decode cX8_groups 23 = .ok (.getfield 75, 3) := by decide +kernel
theorem dX8_groups_26 : decode cX8_groups 26 = .ok (.iload_n 2, 1) := by decide +kernel
theorem dX8_groups_27 : decode cX8_groups 27 = .ok (.iaload, 1) := by decide +kernel
theorem dX8_groups_28 : decode cX8_groups 28 = .ok (.ifCond .eq 9, 3) := by decide +kernel
theorem dX8_groups_31 : decode cX8_groups 31 = .ok (.iconst 1, 1) := by decide +kernel
theorem dX8_groups_32 : decode cX8_groups 32 = .ok (.iload_n 2, 1) := by decide +kernel
theorem dX8_groups_33 : decode cX8_groups 33 = .ok (.ishl, 1) := by decide +kernel
theorem dX8_groups_34 : decode cX8_groups 34 = .ok (.goto 4, 3) := by decide +kernel
theorem dX8_groups_37 : decode cX8_groups 37 = .ok (.iconst 0, 1) := by decide +kernel
theorem dX8_groups_38 : decode cX8_groups 38 = .ok (.ior, 1) := by decide +kernel
theorem dX8_groups_39 : decode cX8_groups 39 = .ok (.istore_n 1, 1) := by decide +kernel
theorem dX8_groups_40 : decode cX8_groups 40 = .ok (.iinc 2 1, 3) := by decide +kernel
theorem dX8_groups_43 : decode cX8_groups 43 = .ok (.goto (-39), 3) := by decide +kernel
theorem dX8_groups_46 : decode cX8_groups 46 = .ok (.iconst 0, 1) := by decide +kernel
theorem dX8_groups_47 : decode cX8_groups 47 = .ok (.istore_n 2, 1) := by decide +kernel
theorem dX8_groups_48 : decode cX8_groups 48 = .ok (.iload_n 2, 1) := by decide +kernel
theorem dX8_groups_49 : decode cX8_groups 49 = .ok (.sipush 256, 3) := by decide +kernel
theorem dX8_groups_52 : decode cX8_groups 52 = .ok (.if_icmp .ge 132, 3) := by decide +kernel
theorem dX8_groups_55 : decode cX8_groups 55 = .ok (.aload_n 0, 1) := by decide +kernel
theorem dX8_groups_56 : decode cX8_groups 56 = .ok (.getfield 78, 3) := by decide +kernel
theorem dX8_groups_59 : decode cX8_groups 59 = .ok (.iload_n 2, 1) := by decide +kernel
theorem dX8_groups_60 : decode cX8_groups 60 = .ok (.iload_n 2, 1) := by decide +kernel
theorem dX8_groups_61 : decode cX8_groups 61 = .ok (.ifCond .ne 7, 3) := by decide +kernel
theorem dX8_groups_64 : decode cX8_groups 64 = .ok (.iconst 0, 1) := by decide +kernel
theorem dX8_groups_65 : decode cX8_groups 65 = .ok (.goto 4, 3) := by decide +kernel
theorem dX8_groups_68 : decode cX8_groups 68 = .ok (.iconst (-1), 1) := by decide +kernel
theorem dX8_groups_69 : decode cX8_groups 69 = .ok (.iastore, 1) := by decide +kernel
theorem dX8_groups_70 : decode cX8_groups 70 = .ok (.iload_n 2, 1) := by decide +kernel
theorem dX8_groups_71 : decode cX8_groups 71 = .ok (.ifCond .eq 107, 3) := by decide +kernel
theorem dX8_groups_74 : decode cX8_groups 74 = .ok (.iload_n 2, 1) := by decide +kernel
theorem dX8_groups_75 : decode cX8_groups 75 = .ok (.iload_n 1, 1) := by decide +kernel
theorem dX8_groups_76 : decode cX8_groups 76 = .ok (.iconst (-1), 1) := by decide +kernel
theorem dX8_groups_77 : decode cX8_groups 77 = .ok (.ixor, 1) := by decide +kernel
theorem dX8_groups_78 : decode cX8_groups 78 = .ok (.iand, 1) := by decide +kernel
theorem dX8_groups_79 : decode cX8_groups 79 = .ok (.ifCond .ne 99, 3) := by decide +kernel
theorem dX8_groups_82 : decode cX8_groups 82 = .ok (.aload_n 0, 1) := by decide +kernel
theorem dX8_groups_83 : decode cX8_groups 83 = .ok (.iload_n 2, 1) := by decide +kernel
theorem dX8_groups_84 : decode cX8_groups 84 = .ok (.invokevirtual 151, 3) := by decide +kernel
theorem dX8_groups_87 : decode cX8_groups 87 = .ok (.lconst 0, 1) := by decide +kernel
theorem dX8_groups_88 : decode cX8_groups 88 = .ok (.lcmp, 1) := by decide +kernel
theorem dX8_groups_89 : decode cX8_groups 89 = .ok (.ifCond .eq 6, 3) := by decide +kernel
theorem dX8_groups_92 : decode cX8_groups 92 = .ok (.goto 86, 3) := by decide +kernel
theorem dX8_groups_95 : decode cX8_groups 95 = .ok (.iconst 1, 1) := by decide +kernel
theorem dX8_groups_96 : decode cX8_groups 96 = .ok (.istore_n 3, 1) := by decide +kernel
theorem dX8_groups_97 : decode cX8_groups 97 = .ok (.iload_n 3, 1) := by decide +kernel
theorem dX8_groups_98 : decode cX8_groups 98 = .ok (.iload_n 2, 1) := by decide +kernel
theorem dX8_groups_99 : decode cX8_groups 99 = .ok (.if_icmp .gt 79, 3) := by decide +kernel
theorem dX8_groups_102 : decode cX8_groups 102 = .ok (.iload_n 3, 1) := by decide +kernel
theorem dX8_groups_103 : decode cX8_groups 103 = .ok (.iload_n 2, 1) := by decide +kernel
theorem dX8_groups_104 : decode cX8_groups 104 = .ok (.iconst (-1), 1) := by decide +kernel
theorem dX8_groups_105 : decode cX8_groups 105 = .ok (.ixor, 1) := by decide +kernel
theorem dX8_groups_106 : decode cX8_groups 106 = .ok (.iand, 1) := by decide +kernel
theorem dX8_groups_107 : decode cX8_groups 107 = .ok (.ifCond .ne 65, 3) := by decide +kernel
theorem dX8_groups_110 : decode cX8_groups 110 = .ok (.aload_n 0, 1) := by decide +kernel
theorem dX8_groups_111 : decode cX8_groups 111 = .ok (.iload_n 3, 1) := by decide +kernel
theorem dX8_groups_112 : decode cX8_groups 112 = .ok (.invokevirtual 151, 3) := by decide +kernel
theorem dX8_groups_115 : decode cX8_groups 115 = .ok (.lconst 0, 1) := by decide +kernel
theorem dX8_groups_116 : decode cX8_groups 116 = .ok (.lcmp, 1) := by decide +kernel
theorem dX8_groups_117 : decode cX8_groups 117 = .ok (.ifCond .ne 55, 3) := by decide +kernel
theorem dX8_groups_120 : decode cX8_groups 120 = .ok (.aload_n 0, 1) := by decide +kernel
theorem dX8_groups_121 : decode cX8_groups 121 = .ok (.getfield 78, 3) := by decide +kernel
theorem dX8_groups_124 : decode cX8_groups 124 = .ok (.iload_n 2, 1) := by decide +kernel
theorem dX8_groups_125 : decode cX8_groups 125 = .ok (.iload_n 3, 1) := by decide +kernel
theorem dX8_groups_126 : decode cX8_groups 126 = .ok (.iconst (-1), 1) := by decide +kernel
theorem dX8_groups_127 : decode cX8_groups 127 = .ok (.ixor, 1) := by decide +kernel
theorem dX8_groups_128 : decode cX8_groups 128 = .ok (.iand, 1) := by decide +kernel
theorem dX8_groups_129 : decode cX8_groups 129 = .ok (.iaload, 1) := by decide +kernel
theorem dX8_groups_130 : decode cX8_groups 130 = .ok (.ifCond .lt 42, 3) := by decide +kernel
theorem dX8_groups_133 : decode cX8_groups 133 = .ok (.aload_n 0, 1) := by decide +kernel
theorem dX8_groups_134 : decode cX8_groups 134 = .ok (.getfield 78, 3) := by decide +kernel
theorem dX8_groups_137 : decode cX8_groups 137 = .ok (.iload_n 2, 1) := by decide +kernel
theorem dX8_groups_138 : decode cX8_groups 138 = .ok (.iload_n 3, 1) := by decide +kernel
theorem dX8_groups_139 : decode cX8_groups 139 = .ok (.iconst (-1), 1) := by decide +kernel
theorem dX8_groups_140 : decode cX8_groups 140 = .ok (.ixor, 1) := by decide +kernel
theorem dX8_groups_141 : decode cX8_groups 141 = .ok (.iand, 1) := by decide +kernel
theorem dX8_groups_142 : decode cX8_groups 142 = .ok (.iaload, 1) := by decide +kernel
theorem dX8_groups_143 : decode cX8_groups 143 = .ok (.iconst 1, 1) := by decide +kernel
theorem dX8_groups_144 : decode cX8_groups 144 = .ok (.iadd, 1) := by decide +kernel
theorem dX8_groups_145 : decode cX8_groups 145 = .ok (.aload_n 0, 1) := by decide +kernel
theorem dX8_groups_146 : decode cX8_groups 146 = .ok (.getfield 78, 3) := by decide +kernel
theorem dX8_groups_149 : decode cX8_groups 149 = .ok (.iload_n 2, 1) := by decide +kernel
theorem dX8_groups_150 : decode cX8_groups 150 = .ok (.iaload, 1) := by decide +kernel
theorem dX8_groups_151 : decode cX8_groups 151 = .ok (.if_icmp .le 21, 3) := by decide +kernel
theorem dX8_groups_154 : decode cX8_groups 154 = .ok (.aload_n 0, 1) := by decide +kernel
theorem dX8_groups_155 : decode cX8_groups 155 = .ok (.getfield 78, 3) := by decide +kernel
theorem dX8_groups_158 : decode cX8_groups 158 = .ok (.iload_n 2, 1) := by decide +kernel
theorem dX8_groups_159 : decode cX8_groups 159 = .ok (.aload_n 0, 1) := by decide +kernel
theorem dX8_groups_160 : decode cX8_groups 160 = .ok (.getfield 78, 3) := by decide +kernel
theorem dX8_groups_163 : decode cX8_groups 163 = .ok (.iload_n 2, 1) := by decide +kernel
theorem dX8_groups_164 : decode cX8_groups 164 = .ok (.iload_n 3, 1) := by decide +kernel
theorem dX8_groups_165 : decode cX8_groups 165 = .ok (.iconst (-1), 1) := by decide +kernel
theorem dX8_groups_166 : decode cX8_groups 166 = .ok (.ixor, 1) := by decide +kernel
theorem dX8_groups_167 : decode cX8_groups 167 = .ok (.iand, 1) := by decide +kernel
theorem dX8_groups_168 : decode cX8_groups 168 = .ok (.iaload, 1) := by decide +kernel
theorem dX8_groups_169 : decode cX8_groups 169 = .ok (.iconst 1, 1) := by decide +kernel
theorem dX8_groups_170 : decode cX8_groups 170 = .ok (.iadd, 1) := by decide +kernel
theorem dX8_groups_171 : decode cX8_groups 171 = .ok (.iastore, 1) := by decide +kernel
theorem dX8_groups_172 : decode cX8_groups 172 = .ok (.iinc 3 1, 3) := by decide +kernel
theorem dX8_groups_175 : decode cX8_groups 175 = .ok (.goto (-78), 3) := by decide +kernel
theorem dX8_groups_178 : decode cX8_groups 178 = .ok (.iinc 2 1, 3) := by decide +kernel
theorem dX8_groups_181 : decode cX8_groups 181 = .ok (.goto (-133), 3) := by decide +kernel
theorem dX8_groups_184 : decode cX8_groups 184 = .ok (.iload_n 1, 1) := by decide +kernel
theorem dX8_groups_185 : decode cX8_groups 185 = .ok (.ireturn, 1) := by decide +kernel
theorem dX8_fewest_0 : decode cX8_fewest 0 = .ok (.aload_n 0, 1) := by decide +kernel
theorem dX8_fewest_1 : decode cX8_fewest 1 = .ok (.invokevirtual 155, 3) := by decide +kernel
theorem dX8_fewest_4 : decode cX8_fewest 4 = .ok (.istore_n 1, 1) := by decide +kernel
theorem dX8_fewest_5 : decode cX8_fewest 5 = .ok (.iconst 0, 1) := by decide +kernel
theorem dX8_fewest_6 : decode cX8_fewest 6 = .ok (.istore_n 2, 1) := by decide +kernel
theorem dX8_fewest_7 : decode cX8_fewest 7 = .ok (.iconst 0, 1) := by decide +kernel
theorem dX8_fewest_8 : decode cX8_fewest 8 = .ok (.istore_n 3, 1) := by decide +kernel
theorem dX8_fewest_9 : decode cX8_fewest 9 = .ok (.iload_n 3, 1) := by decide +kernel
theorem dX8_fewest_10 : decode cX8_fewest 10 = .ok (.bipush 8, 2) := by decide +kernel
theorem dX8_fewest_12 : decode cX8_fewest 12 = .ok (.if_icmp .ge 17, 3) := by decide +kernel
theorem dX8_fewest_15 : decode cX8_fewest 15 = .ok (.iload_n 2, 1) := by decide +kernel
theorem dX8_fewest_16 : decode cX8_fewest 16 = .ok (.iload_n 1, 1) := by decide +kernel
theorem dX8_fewest_17 : decode cX8_fewest 17 = .ok (.iload_n 3, 1) := by decide +kernel
theorem dX8_fewest_18 : decode cX8_fewest 18 = .ok (.ishr, 1) := by decide +kernel
theorem dX8_fewest_19 : decode cX8_fewest 19 = .ok (.iconst 1, 1) := by decide +kernel
theorem dX8_fewest_20 : decode cX8_fewest 20 = .ok (.iand, 1) := by decide +kernel
theorem dX8_fewest_21 : decode cX8_fewest 21 = .ok (.iadd, 1) := by decide +kernel
theorem dX8_fewest_22 : decode cX8_fewest 22 = .ok (.istore_n 2, 1) := by decide +kernel
theorem dX8_fewest_23 : decode cX8_fewest 23 = .ok (.iinc 3 1, 3) := by decide +kernel
theorem dX8_fewest_26 : decode cX8_fewest 26 = .ok (.goto (-17), 3) := by decide +kernel
theorem dX8_fewest_29 : decode cX8_fewest 29 = .ok (.iload_n 2, 1) := by decide +kernel
theorem dX8_fewest_30 : decode cX8_fewest 30 = .ok (.aload_n 0, 1) := by decide +kernel
theorem dX8_fewest_31 : decode cX8_fewest 31 = .ok (.getfield 78, 3) := by decide +kernel
theorem dX8_fewest_34 : decode cX8_fewest 34 = .ok (.iload_n 1, 1) := by decide +kernel
theorem dX8_fewest_35 : decode cX8_fewest 35 = .ok (.iaload, 1) := by decide +kernel
theorem dX8_fewest_36 : decode cX8_fewest 36 = .ok (.isub, 1) := by decide +kernel
theorem dX8_fewest_37 : decode cX8_fewest 37 = .ok (.ireturn, 1) := by decide +kernel
theorem dX8_group_0 : decode cX8_group 0 = .ok (.iload_n 1, 1) := by decide +kernel
theorem dX8_group_1 : decode cX8_group 1 = .ok (.invokestatic 105, 3) := by decide +kernel
theorem dX8_group_4 : decode cX8_group 4 = .ok (.ifCond .ne 5, 3) := by decide +kernel
theorem dX8_group_7 : decode cX8_group 7 = .ok (.iconst 0, 1) := by decide +kernel
theorem dX8_group_8 : decode cX8_group 8 = .ok (.ireturn, 1) := by decide +kernel
theorem dX8_group_9 : decode cX8_group 9 = .ok (.aload_n 0, 1) := by decide +kernel
theorem dX8_group_10 : decode cX8_group 10 = .ok (.invokevirtual 155, 3) := by decide +kernel
theorem dX8_group_13 : decode cX8_group 13 = .ok (.istore_n 2, 1) := by decide +kernel
theorem dX8_group_14 : decode cX8_group 14 = .ok (.iload_n 2, 1) := by decide +kernel
theorem dX8_group_15 : decode cX8_group 15 = .ok (.ifCond .eq 102, 3) := by decide +kernel
theorem dX8_group_18 : decode cX8_group 18 = .ok (.iconst 0, 1) := by decide +kernel
theorem dX8_group_19 : decode cX8_group 19 = .ok (.istore_n 3, 1) := by decide +kernel
theorem dX8_group_20 : decode cX8_group 20 = .ok (.iload_n 2, 1) := by decide +kernel
theorem dX8_group_21 : decode cX8_group 21 = .ok (.iload_n 3, 1) := by decide +kernel
theorem dX8_group_22 : decode cX8_group 22 = .ok (.ishr, 1) := by decide +kernel
theorem dX8_group_23 : decode cX8_group 23 = .ok (.iconst 1, 1) := by decide +kernel
theorem dX8_group_24 : decode cX8_group 24 = .ok (.iand, 1) := by decide +kernel
theorem dX8_group_25 : decode cX8_group 25 = .ok (.ifCond .ne 9, 3) := by decide +kernel
theorem dX8_group_28 : decode cX8_group 28 = .ok (.iinc 3 1, 3) := by decide +kernel
theorem dX8_group_31 : decode cX8_group 31 = .ok (.goto (-11), 3) := by decide +kernel
theorem dX8_group_34 : decode cX8_group 34 = .ok (.iconst 1, 1) := by decide +kernel
theorem dX8_group_35 : decode cX8_group 35 = .ok (.istore 4, 2) := by decide +kernel
theorem dX8_group_37 : decode cX8_group 37 = .ok (.iload 4, 2) := by decide +kernel
theorem dX8_group_39 : decode cX8_group 39 = .ok (.iload_n 2, 1) := by decide +kernel
theorem dX8_group_40 : decode cX8_group 40 = .ok (.iconst (-1), 1) := by decide +kernel
theorem dX8_group_41 : decode cX8_group 41 = .ok (.ixor, 1) := by decide +kernel
theorem dX8_group_42 : decode cX8_group 42 = .ok (.iand, 1) := by decide +kernel
theorem dX8_group_43 : decode cX8_group 43 = .ok (.ifCond .ne 45, 3) := by decide +kernel
theorem dX8_group_46 : decode cX8_group 46 = .ok (.iload 4, 2) := by decide +kernel
theorem dX8_group_48 : decode cX8_group 48 = .ok (.iload_n 3, 1) := by decide +kernel
theorem dX8_group_49 : decode cX8_group 49 = .ok (.ishr, 1) := by decide +kernel
theorem dX8_group_50 : decode cX8_group 50 = .ok (.iconst 1, 1) := by decide +kernel
theorem dX8_group_51 : decode cX8_group 51 = .ok (.iand, 1) := by decide +kernel
theorem dX8_group_52 : decode cX8_group 52 = .ok (.ifCond .eq 36, 3) := by decide +kernel
theorem dX8_group_55 : decode cX8_group 55 = .ok (.aload_n 0, 1) := by decide +kernel
theorem dX8_group_56 : decode cX8_group 56 = .ok (.iload 4, 2) := by decide +kernel
theorem dX8_group_58 : decode cX8_group 58 = .ok (.invokevirtual 151, 3) := by decide +kernel
theorem dX8_group_61 : decode cX8_group 61 = .ok (.lconst 0, 1) := by decide +kernel
theorem dX8_group_62 : decode cX8_group 62 = .ok (.lcmp, 1) := by decide +kernel
theorem dX8_group_63 : decode cX8_group 63 = .ok (.ifCond .ne 25, 3) := by decide +kernel
theorem dX8_group_66 : decode cX8_group 66 = .ok (.aload_n 0, 1) := by decide +kernel
theorem dX8_group_67 : decode cX8_group 67 = .ok (.getfield 78, 3) := by decide +kernel
theorem dX8_group_70 : decode cX8_group 70 = .ok (.iload_n 2, 1) := by decide +kernel
theorem dX8_group_71 : decode cX8_group 71 = .ok (.iload 4, 2) := by decide +kernel
theorem dX8_group_73 : decode cX8_group 73 = .ok (.iconst (-1), 1) := by decide +kernel
theorem dX8_group_74 : decode cX8_group 74 = .ok (.ixor, 1) := by decide +kernel
theorem dX8_group_75 : decode cX8_group 75 = .ok (.iand, 1) := by decide +kernel
theorem dX8_group_76 : decode cX8_group 76 = .ok (.iaload, 1) := by decide +kernel
theorem dX8_group_77 : decode cX8_group 77 = .ok (.iconst 1, 1) := by decide +kernel
theorem dX8_group_78 : decode cX8_group 78 = .ok (.iadd, 1) := by decide +kernel
theorem dX8_group_79 : decode cX8_group 79 = .ok (.aload_n 0, 1) := by decide +kernel
theorem dX8_group_80 : decode cX8_group 80 = .ok (.getfield 78, 3) := by decide +kernel
theorem dX8_group_83 : decode cX8_group 83 = .ok (.iload_n 2, 1) := by decide +kernel
theorem dX8_group_84 : decode cX8_group 84 = .ok (.iaload, 1) := by decide +kernel
theorem dX8_group_85 : decode cX8_group 85 = .ok (.if_icmp .eq 9, 3) := by decide +kernel
theorem dX8_group_88 : decode cX8_group 88 = .ok (.iinc 4 1, 3) := by decide +kernel
theorem dX8_group_91 : decode cX8_group 91 = .ok (.goto (-54), 3) := by decide +kernel
theorem dX8_group_94 : decode cX8_group 94 = .ok (.iload 4, 2) := by decide +kernel
theorem dX8_group_96 : decode cX8_group 96 = .ok (.iload_n 1, 1) := by decide +kernel
theorem dX8_group_97 : decode cX8_group 97 = .ok (.ishr, 1) := by decide +kernel
theorem dX8_group_98 : decode cX8_group 98 = .ok (.iconst 1, 1) := by decide +kernel
theorem dX8_group_99 : decode cX8_group 99 = .ok (.iand, 1) := by decide +kernel
theorem dX8_group_100 : decode cX8_group 100 = .ok (.iconst 1, 1) := by decide +kernel
theorem dX8_group_101 : decode cX8_group 101 = .ok (.if_icmp .ne 6, 3) := by decide +kernel
theorem dX8_group_104 : decode cX8_group 104 = .ok (.iload 4, 2) := by decide +kernel
theorem dX8_group_106 : decode cX8_group 106 = .ok (.ireturn, 1) := by decide +kernel
theorem dX8_group_107 : decode cX8_group 107 = .ok (.iload_n 2, 1) := by decide +kernel
theorem dX8_group_108 : decode cX8_group 108 = .ok (.iload 4, 2) := by decide +kernel
theorem dX8_group_110 : decode cX8_group 110 = .ok (.iconst (-1), 1) := by decide +kernel
theorem dX8_group_111 : decode cX8_group 111 = .ok (.ixor, 1) := by decide +kernel
theorem dX8_group_112 : decode cX8_group 112 = .ok (.iand, 1) := by decide +kernel
theorem dX8_group_113 : decode cX8_group 113 = .ok (.istore_n 2, 1) := by decide +kernel
theorem dX8_group_114 : decode cX8_group 114 = .ok (.goto (-100), 3) := by decide +kernel
theorem dX8_group_117 : decode cX8_group 117 = .ok (.iconst 0, 1) := by decide +kernel
theorem dX8_group_118 : decode cX8_group 118 = .ok (.ireturn, 1) := by decide +kernel
theorem dX8_empties_0 : decode cX8_empties 0 = .ok (.iload_n 1, 1) := by decide +kernel
theorem dX8_empties_1 : decode cX8_empties 1 = .ok (.invokestatic 101, 3) := by decide +kernel
theorem dX8_empties_4 : decode cX8_empties 4 = .ok (.ifCond .eq 23, 3) := by decide +kernel
theorem dX8_empties_7 : decode cX8_empties 7 = .ok (.iload_n 2, 1) := by decide +kernel
theorem dX8_empties_8 : decode cX8_empties 8 = .ok (.iconst 0, 1) := by decide +kernel
theorem dX8_empties_9 : decode cX8_empties 9 = .ok (.bipush 9, 2) := by decide +kernel
theorem dX8_empties_11 : decode cX8_empties 11 = .ok (.invokestatic 93, 3) := by decide +kernel
theorem dX8_empties_14 : decode cX8_empties 14 = .ok (.ifCond .eq 13, 3) := by decide +kernel
theorem dX8_empties_17 : decode cX8_empties 17 = .ok (.iload_n 3, 1) := by decide +kernel
theorem dX8_empties_18 : decode cX8_empties 18 = .ok (.iconst 0, 1) := by decide +kernel
theorem dX8_empties_19 : decode cX8_empties 19 = .ok (.bipush 9, 2) := by decide +kernel
theorem dX8_empties_21 : decode cX8_empties 21 = .ok (.invokestatic 93, 3) := by decide +kernel
theorem dX8_empties_24 : decode cX8_empties 24 = .ok (.ifCond .ne 5, 3) := by decide +kernel
theorem dX8_empties_27 : decode cX8_empties 27 = .ok (.iconst 0, 1) := by decide +kernel
theorem dX8_empties_28 : decode cX8_empties 28 = .ok (.ireturn, 1) := by decide +kernel
theorem dX8_empties_29 : decode cX8_empties 29 = .ok (.aload_n 0, 1) := by decide +kernel
theorem dX8_empties_30 : decode cX8_empties 30 = .ok (.getfield 53, 3) := by decide +kernel
theorem dX8_empties_33 : decode cX8_empties 33 = .ok (.iload_n 1, 1) := by decide +kernel
theorem dX8_empties_34 : decode cX8_empties 34 = .ok (.iload_n 2, 1) := by decide +kernel
theorem dX8_empties_35 : decode cX8_empties 35 = .ok (.iastore, 1) := by decide +kernel
theorem dX8_empties_36 : decode cX8_empties 36 = .ok (.aload_n 0, 1) := by decide +kernel
theorem dX8_empties_37 : decode cX8_empties 37 = .ok (.getfield 56, 3) := by decide +kernel
theorem dX8_empties_40 : decode cX8_empties 40 = .ok (.iload_n 1, 1) := by decide +kernel
theorem dX8_empties_41 : decode cX8_empties 41 = .ok (.iload_n 3, 1) := by decide +kernel
theorem dX8_empties_42 : decode cX8_empties 42 = .ok (.iastore, 1) := by decide +kernel
theorem dX8_empties_43 : decode cX8_empties 43 = .ok (.iconst 1, 1) := by decide +kernel
theorem dX8_empties_44 : decode cX8_empties 44 = .ok (.ireturn, 1) := by decide +kernel
theorem dX8_leads_0 : decode cX8_leads 0 = .ok (.iconst 0, 1) := by decide +kernel
theorem dX8_leads_1 : decode cX8_leads 1 = .ok (.istore_n 1, 1) := by decide +kernel
theorem dX8_leads_2 : decode cX8_leads 2 = .ok (.iload_n 1, 1) := by decide +kernel
theorem dX8_leads_3 : decode cX8_leads 3 = .ok (.sipush 144, 3) := by decide +kernel
theorem dX8_leads_6 : decode cX8_leads 6 = .ok (.if_icmp .ge 16, 3) := by decide +kernel
theorem dX8_leads_9 : decode cX8_leads 9 = .ok (.aload_n 0, 1) := by decide +kernel
theorem dX8_leads_10 : decode cX8_leads 10 = .ok (.getfield 81, 3) := by decide +kernel
theorem dX8_leads_13 : decode cX8_leads 13 = .ok (.iload_n 1, 1) := by decide +kernel
theorem dX8_leads_14 : decode cX8_leads 14 = .ok (.iconst 0, 1) := by decide +kernel
theorem dX8_leads_15 : decode cX8_leads 15 = .ok (.iastore, 1) := by decide +kernel
theorem dX8_leads_16 : decode cX8_leads 16 = .ok (.iinc 1 1, 3) := by decide +kernel
theorem dX8_leads_19 : decode cX8_leads 19 = .ok (.goto (-17), 3) := by decide +kernel
theorem dX8_leads_22 : decode cX8_leads 22 = .ok (.aload_n 0, 1) := by decide +kernel
theorem dX8_leads_23 : decode cX8_leads 23 = .ok (.iconst 0, 1) := by decide +kernel
theorem dX8_leads_24 : decode cX8_leads 24 = .ok (.putfield 158, 3) := by decide +kernel
theorem dX8_leads_27 : decode cX8_leads 27 = .ok (.iconst 0, 1) := by decide +kernel
theorem dX8_leads_28 : decode cX8_leads 28 = .ok (.istore_n 1, 1) := by decide +kernel
theorem dX8_leads_29 : decode cX8_leads 29 = .ok (.aload_n 0, 1) := by decide +kernel
theorem dX8_leads_30 : decode cX8_leads 30 = .ok (.invokevirtual 161, 3) := by decide +kernel
theorem dX8_leads_33 : decode cX8_leads 33 = .ok (.istore_n 2, 1) := by decide +kernel
theorem dX8_leads_34 : decode cX8_leads 34 = .ok (.iload_n 2, 1) := by decide +kernel
theorem dX8_leads_35 : decode cX8_leads 35 = .ok (.iconst (-1), 1) := by decide +kernel
theorem dX8_leads_36 : decode cX8_leads 36 = .ok (.if_icmp .eq 103, 3) := by decide +kernel
theorem dX8_leads_39 : decode cX8_leads 39 = .ok (.aload_n 0, 1) := by decide +kernel
theorem dX8_leads_40 : decode cX8_leads 40 = .ok (.dup, 1) := by decide +kernel
theorem dX8_leads_41 : decode cX8_leads 41 = .ok (.getfield 158, 3) := by decide +kernel
theorem dX8_leads_44 : decode cX8_leads 44 = .ok (.aload_n 0, 1) := by decide +kernel
theorem dX8_leads_45 : decode cX8_leads 45 = .ok (.getfield 84, 3) := by decide +kernel
theorem dX8_leads_48 : decode cX8_leads 48 = .ok (.iload_n 2, 1) := by decide +kernel
theorem dX8_leads_49 : decode cX8_leads 49 = .ok (.iaload, 1) := by decide +kernel
theorem dX8_leads_50 : decode cX8_leads 50 = .ok (.iadd, 1) := by decide +kernel
theorem dX8_leads_51 : decode cX8_leads 51 = .ok (.putfield 158, 3) := by decide +kernel
theorem dX8_leads_54 : decode cX8_leads 54 = .ok (.iinc 1 1, 3) := by decide +kernel
theorem dX8_leads_57 : decode cX8_leads 57 = .ok (.iload_n 2, 1) := by decide +kernel
theorem dX8_leads_58 : decode cX8_leads 58 = .ok (.istore_n 3, 1) := by decide +kernel
theorem dX8_leads_59 : decode cX8_leads 59 = .ok (.iload_n 3, 1) := by decide +kernel
theorem dX8_leads_60 : decode cX8_leads 60 = .ok (.iconst (-1), 1) := by decide +kernel
theorem dX8_leads_61 : decode cX8_leads 61 = .ok (.if_icmp .eq 70, 3) := by decide +kernel
theorem dX8_leads_64 : decode cX8_leads 64 = .ok (.aload_n 0, 1) := by decide +kernel
theorem dX8_leads_65 : decode cX8_leads 65 = .ok (.getfield 87, 3) := by decide +kernel
theorem dX8_leads_68 : decode cX8_leads 68 = .ok (.iload_n 3, 1) := by decide +kernel
theorem dX8_leads_69 : decode cX8_leads 69 = .ok (.iaload, 1) := by decide +kernel
theorem dX8_leads_70 : decode cX8_leads 70 = .ok (.istore 4, 2) := by decide +kernel
theorem dX8_leads_72 : decode cX8_leads 72 = .ok (.iload 4, 2) := by decide +kernel
theorem dX8_leads_74 : decode cX8_leads 74 = .ok (.iconst (-1), 1) := by decide +kernel
theorem dX8_leads_75 : decode cX8_leads 75 = .ok (.if_icmp .eq 50, 3) := by decide +kernel
theorem dX8_leads_78 : decode cX8_leads 78 = .ok (.iload_n 3, 1) := by decide +kernel
theorem dX8_leads_79 : decode cX8_leads 79 = .ok (.bipush 12, 2) := by decide +kernel
theorem dX8_leads_81 : decode cX8_leads 81 = .ok (.if_icmp .lt 25, 3) := by decide +kernel
theorem dX8_leads_84 : decode cX8_leads 84 = .ok (.aload_n 0, 1) := by decide +kernel
theorem dX8_leads_85 : decode cX8_leads 85 = .ok (.getfield 81, 3) := by decide +kernel
theorem dX8_leads_88 : decode cX8_leads 88 = .ok (.bipush 12, 2) := by decide +kernel
theorem dX8_leads_90 : decode cX8_leads 90 = .ok (.iload 4, 2) := by decide +kernel
theorem dX8_leads_92 : decode cX8_leads 92 = .ok (.imul, 1) := by decide +kernel
theorem dX8_leads_93 : decode cX8_leads 93 = .ok (.iload_n 3, 1) := by decide +kernel
theorem dX8_leads_94 : decode cX8_leads 94 = .ok (.iadd, 1) := by decide +kernel
theorem dX8_leads_95 : decode cX8_leads 95 = .ok (.bipush 12, 2) := by decide +kernel
theorem dX8_leads_97 : decode cX8_leads 97 = .ok (.isub, 1) := by decide +kernel
theorem dX8_leads_98 : decode cX8_leads 98 = .ok (.dup2, 1) := by decide +kernel
theorem dX8_leads_99 : decode cX8_leads 99 = .ok (.iaload, 1) := by decide +kernel
theorem dX8_leads_100 : decode cX8_leads 100 = .ok (.iconst 1, 1) := by decide +kernel
theorem dX8_leads_101 : decode cX8_leads 101 = .ok (.iadd, 1) := by decide +kernel
theorem dX8_leads_102 : decode cX8_leads 102 = .ok (.iastore, 1) := by decide +kernel
theorem dX8_leads_103 : decode cX8_leads 103 = .ok (.goto 22, 3) := by decide +kernel
theorem dX8_leads_106 : decode cX8_leads 106 = .ok (.aload_n 0, 1) := by decide +kernel
theorem dX8_leads_107 : decode cX8_leads 107 = .ok (.getfield 81, 3) := by decide +kernel
theorem dX8_leads_110 : decode cX8_leads 110 = .ok (.bipush 12, 2) := by decide +kernel
theorem dX8_leads_112 : decode cX8_leads 112 = .ok (.iload_n 3, 1) := by decide +kernel
theorem dX8_leads_113 : decode cX8_leads 113 = .ok (.imul, 1) := by decide +kernel
theorem dX8_leads_114 : decode cX8_leads 114 = .ok (.iload 4, 2) := by decide +kernel
theorem dX8_leads_116 : decode cX8_leads 116 = .ok (.iadd, 1) := by decide +kernel
theorem dX8_leads_117 : decode cX8_leads 117 = .ok (.bipush 12, 2) := by decide +kernel
theorem dX8_leads_119 : decode cX8_leads 119 = .ok (.isub, 1) := by decide +kernel
theorem dX8_leads_120 : decode cX8_leads 120 = .ok (.dup2, 1) := by decide +kernel
theorem dX8_leads_121 : decode cX8_leads 121 = .ok (.iaload, 1) := by decide +kernel
theorem dX8_leads_122 : decode cX8_leads 122 = .ok (.iconst 1, 1) := by decide +kernel
theorem dX8_leads_123 : decode cX8_leads 123 = .ok (.isub, 1) := by decide +kernel
theorem dX8_leads_124 : decode cX8_leads 124 = .ok (.iastore, 1) := by decide +kernel
theorem dX8_leads_125 : decode cX8_leads 125 = .ok (.iload 4, 2) := by decide +kernel
theorem dX8_leads_127 : decode cX8_leads 127 = .ok (.istore_n 3, 1) := by decide +kernel
theorem dX8_leads_128 : decode cX8_leads 128 = .ok (.goto (-69), 3) := by decide +kernel
theorem dX8_leads_131 : decode cX8_leads 131 = .ok (.aload_n 0, 1) := by decide +kernel
theorem dX8_leads_132 : decode cX8_leads 132 = .ok (.invokevirtual 161, 3) := by decide +kernel
theorem dX8_leads_135 : decode cX8_leads 135 = .ok (.istore_n 2, 1) := by decide +kernel
theorem dX8_leads_136 : decode cX8_leads 136 = .ok (.goto (-102), 3) := by decide +kernel
theorem dX8_leads_139 : decode cX8_leads 139 = .ok (.iload_n 1, 1) := by decide +kernel
theorem dX8_leads_140 : decode cX8_leads 140 = .ok (.ireturn, 1) := by decide +kernel
theorem dX8_left_0 : decode cX8_left 0 = .ok (.aload_n 0, 1) := by decide +kernel
theorem dX8_left_1 : decode cX8_left 1 = .ok (.getfield 53, 3) := by decide +kernel
theorem dX8_left_4 : decode cX8_left 4 = .ok (.iload_n 1, 1) := by decide +kernel
theorem dX8_left_5 : decode cX8_left 5 = .ok (.iaload, 1) := by decide +kernel
theorem dX8_left_6 : decode cX8_left 6 = .ok (.istore_n 2, 1) := by decide +kernel
theorem dX8_left_7 : decode cX8_left 7 = .ok (.iconst 0, 1) := by decide +kernel
theorem dX8_left_8 : decode cX8_left 8 = .ok (.istore_n 3, 1) := by decide +kernel
theorem dX8_left_9 : decode cX8_left 9 = .ok (.iload_n 3, 1) := by decide +kernel
theorem dX8_left_10 : decode cX8_left 10 = .ok (.bipush 12, 2) := by decide +kernel
theorem dX8_left_12 : decode cX8_left 12 = .ok (.if_icmp .ge 23, 3) := by decide +kernel
theorem dX8_left_15 : decode cX8_left 15 = .ok (.iload_n 2, 1) := by decide +kernel
theorem dX8_left_16 : decode cX8_left 16 = .ok (.aload_n 0, 1) := by decide +kernel
theorem dX8_left_17 : decode cX8_left 17 = .ok (.getfield 81, 3) := by decide +kernel
theorem dX8_left_20 : decode cX8_left 20 = .ok (.bipush 12, 2) := by decide +kernel
theorem dX8_left_22 : decode cX8_left 22 = .ok (.iload_n 1, 1) := by decide +kernel
theorem dX8_left_23 : decode cX8_left 23 = .ok (.imul, 1) := by decide +kernel
theorem dX8_left_24 : decode cX8_left 24 = .ok (.iload_n 3, 1) := by decide +kernel
theorem dX8_left_25 : decode cX8_left 25 = .ok (.iadd, 1) := by decide +kernel
theorem dX8_left_26 : decode cX8_left 26 = .ok (.iaload, 1) := by decide +kernel
theorem dX8_left_27 : decode cX8_left 27 = .ok (.isub, 1) := by decide +kernel
theorem dX8_left_28 : decode cX8_left 28 = .ok (.istore_n 2, 1) := by decide +kernel
theorem dX8_left_29 : decode cX8_left 29 = .ok (.iinc 3 1, 3) := by decide +kernel
theorem dX8_left_32 : decode cX8_left 32 = .ok (.goto (-23), 3) := by decide +kernel
theorem dX8_left_35 : decode cX8_left 35 = .ok (.iload_n 2, 1) := by decide +kernel
theorem dX8_left_36 : decode cX8_left 36 = .ok (.ireturn, 1) := by decide +kernel
theorem dX8_lacks_0 : decode cX8_lacks 0 = .ok (.aload_n 0, 1) := by decide +kernel
theorem dX8_lacks_1 : decode cX8_lacks 1 = .ok (.getfield 56, 3) := by decide +kernel
theorem dX8_lacks_4 : decode cX8_lacks 4 = .ok (.iload_n 1, 1) := by decide +kernel
theorem dX8_lacks_5 : decode cX8_lacks 5 = .ok (.iaload, 1) := by decide +kernel
theorem dX8_lacks_6 : decode cX8_lacks 6 = .ok (.istore_n 2, 1) := by decide +kernel
theorem dX8_lacks_7 : decode cX8_lacks 7 = .ok (.iconst 0, 1) := by decide +kernel
theorem dX8_lacks_8 : decode cX8_lacks 8 = .ok (.istore_n 3, 1) := by decide +kernel
theorem dX8_lacks_9 : decode cX8_lacks 9 = .ok (.iload_n 3, 1) := by decide +kernel
theorem dX8_lacks_10 : decode cX8_lacks 10 = .ok (.bipush 12, 2) := by decide +kernel
theorem dX8_lacks_12 : decode cX8_lacks 12 = .ok (.if_icmp .ge 23, 3) := by decide +kernel
theorem dX8_lacks_15 : decode cX8_lacks 15 = .ok (.iload_n 2, 1) := by decide +kernel
theorem dX8_lacks_16 : decode cX8_lacks 16 = .ok (.aload_n 0, 1) := by decide +kernel
theorem dX8_lacks_17 : decode cX8_lacks 17 = .ok (.getfield 81, 3) := by decide +kernel
theorem dX8_lacks_20 : decode cX8_lacks 20 = .ok (.bipush 12, 2) := by decide +kernel
theorem dX8_lacks_22 : decode cX8_lacks 22 = .ok (.iload_n 3, 1) := by decide +kernel
theorem dX8_lacks_23 : decode cX8_lacks 23 = .ok (.imul, 1) := by decide +kernel
theorem dX8_lacks_24 : decode cX8_lacks 24 = .ok (.iload_n 1, 1) := by decide +kernel
theorem dX8_lacks_25 : decode cX8_lacks 25 = .ok (.iadd, 1) := by decide +kernel
theorem dX8_lacks_26 : decode cX8_lacks 26 = .ok (.iaload, 1) := by decide +kernel
theorem dX8_lacks_27 : decode cX8_lacks 27 = .ok (.isub, 1) := by decide +kernel
theorem dX8_lacks_28 : decode cX8_lacks 28 = .ok (.istore_n 2, 1) := by decide +kernel
theorem dX8_lacks_29 : decode cX8_lacks 29 = .ok (.iinc 3 1, 3) := by decide +kernel
theorem dX8_lacks_32 : decode cX8_lacks 32 = .ok (.goto (-23), 3) := by decide +kernel
theorem dX8_lacks_35 : decode cX8_lacks 35 = .ok (.iload_n 2, 1) := by decide +kernel
theorem dX8_lacks_36 : decode cX8_lacks 36 = .ok (.ireturn, 1) := by decide +kernel
theorem dX8_seeks_0 : decode cX8_seeks 0 = .ok (.iconst 0, 1) := by decide +kernel
theorem dX8_seeks_1 : decode cX8_seeks 1 = .ok (.istore_n 1, 1) := by decide +kernel
theorem dX8_seeks_2 : decode cX8_seeks 2 = .ok (.iload_n 1, 1) := by decide +kernel
theorem dX8_seeks_3 : decode cX8_seeks 3 = .ok (.bipush 24, 2) := by decide +kernel
theorem dX8_seeks_5 : decode cX8_seeks 5 = .ok (.if_icmp .ge 42, 3) := by decide +kernel
theorem dX8_seeks_8 : decode cX8_seeks 8 = .ok (.aload_n 0, 1) := by decide +kernel
theorem dX8_seeks_9 : decode cX8_seeks 9 = .ok (.getfield 84, 3) := by decide +kernel
theorem dX8_seeks_12 : decode cX8_seeks 12 = .ok (.iload_n 1, 1) := by decide +kernel
theorem dX8_seeks_13 : decode cX8_seeks 13 = .ok (.iload_n 1, 1) := by decide +kernel
theorem dX8_seeks_14 : decode cX8_seeks 14 = .ok (.bipush 12, 2) := by decide +kernel
theorem dX8_seeks_16 : decode cX8_seeks 16 = .ok (.if_icmp .ge 15, 3) := by decide +kernel
theorem dX8_seeks_19 : decode cX8_seeks 19 = .ok (.aload_n 0, 1) := by decide +kernel
theorem dX8_seeks_20 : decode cX8_seeks 20 = .ok (.iload_n 1, 1) := by decide +kernel
theorem dX8_seeks_21 : decode cX8_seeks 21 = .ok (.invokevirtual 164, 3) := by decide +kernel
theorem dX8_seeks_24 : decode cX8_seeks 24 = .ok (.ifCond .le 7, 3) := by decide +kernel
theorem dX8_seeks_27 : decode cX8_seeks 27 = .ok (.iconst 0, 1) := by decide +kernel
theorem dX8_seeks_28 : decode cX8_seeks 28 = .ok (.goto 5, 3) := by decide +kernel
theorem dX8_seeks_31 : decode cX8_seeks 31 = .ok (.ldc 97, 2) := by decide +kernel
theorem dX8_seeks_33 : decode cX8_seeks 33 = .ok (.iastore, 1) := by decide +kernel
theorem dX8_seeks_34 : decode cX8_seeks 34 = .ok (.aload_n 0, 1) := by decide +kernel
theorem dX8_seeks_35 : decode cX8_seeks 35 = .ok (.getfield 87, 3) := by decide +kernel
theorem dX8_seeks_38 : decode cX8_seeks 38 = .ok (.iload_n 1, 1) := by decide +kernel
theorem dX8_seeks_39 : decode cX8_seeks 39 = .ok (.iconst (-1), 1) := by decide +kernel
theorem dX8_seeks_40 : decode cX8_seeks 40 = .ok (.iastore, 1) := by decide +kernel
theorem dX8_seeks_41 : decode cX8_seeks 41 = .ok (.iinc 1 1, 3) := by decide +kernel
theorem dX8_seeks_44 : decode cX8_seeks 44 = .ok (.goto (-42), 3) := by decide +kernel
theorem dX8_seeks_47 : decode cX8_seeks 47 = .ok (.iconst 1, 1) := by decide +kernel
theorem dX8_seeks_48 : decode cX8_seeks 48 = .ok (.istore_n 1, 1) := by decide +kernel
theorem dX8_seeks_49 : decode cX8_seeks 49 = .ok (.iload_n 1, 1) := by decide +kernel
theorem dX8_seeks_50 : decode cX8_seeks 50 = .ok (.ifCond .eq 181, 3) := by decide +kernel
theorem dX8_seeks_53 : decode cX8_seeks 53 = .ok (.iconst 0, 1) := by decide +kernel
theorem dX8_seeks_54 : decode cX8_seeks 54 = .ok (.istore_n 1, 1) := by decide +kernel
theorem dX8_seeks_55 : decode cX8_seeks 55 = .ok (.iconst 0, 1) := by decide +kernel
theorem dX8_seeks_56 : decode cX8_seeks 56 = .ok (.istore_n 2, 1) := by decide +kernel
theorem dX8_seeks_57 : decode cX8_seeks 57 = .ok (.iload_n 2, 1) := by decide +kernel
theorem dX8_seeks_58 : decode cX8_seeks 58 = .ok (.bipush 12, 2) := by decide +kernel
theorem dX8_seeks_60 : decode cX8_seeks 60 = .ok (.if_icmp .ge 168, 3) := by decide +kernel
theorem dX8_seeks_63 : decode cX8_seeks 63 = .ok (.iconst 0, 1) := by decide +kernel
theorem dX8_seeks_64 : decode cX8_seeks 64 = .ok (.istore_n 3, 1) := by decide +kernel
theorem dX8_seeks_65 : decode cX8_seeks 65 = .ok (.iload_n 3, 1) := by decide +kernel
theorem dX8_seeks_66 : decode cX8_seeks 66 = .ok (.bipush 12, 2) := by decide +kernel
theorem dX8_seeks_68 : decode cX8_seeks 68 = .ok (.if_icmp .ge 154, 3) := by decide +kernel
theorem dX8_seeks_71 : decode cX8_seeks 71 = .ok (.aload_n 0, 1) := by decide +kernel
theorem dX8_seeks_72 : decode cX8_seeks 72 = .ok (.getfield 22, 3) := by decide +kernel
theorem dX8_seeks_75 : decode cX8_seeks 75 = .ok (.bipush 12, 2) := by decide +kernel
theorem dX8_seeks_77 : decode cX8_seeks 77 = .ok (.iload_n 2, 1) := by decide +kernel
theorem dX8_seeks_78 : decode cX8_seeks 78 = .ok (.imul, 1) := by decide +kernel
theorem dX8_seeks_79 : decode cX8_seeks 79 = .ok (.iload_n 3, 1) := by decide +kernel
theorem dX8_seeks_80 : decode cX8_seeks 80 = .ok (.iadd, 1) := by decide +kernel
theorem dX8_seeks_81 : decode cX8_seeks 81 = .ok (.iaload, 1) := by decide +kernel
theorem dX8_seeks_82 : decode cX8_seeks 82 = .ok (.istore 4, 2) := by decide +kernel
theorem dX8_seeks_84 : decode cX8_seeks 84 = .ok (.bipush 12, 2) := by decide +kernel
theorem dX8_seeks_86 : decode cX8_seeks 86 = .ok (.iload_n 3, 1) := by decide +kernel
theorem dX8_seeks_87 : decode cX8_seeks 87 = .ok (.iadd, 1) := by decide +kernel
theorem dX8_seeks_88 : decode cX8_seeks 88 = .ok (.istore 5, 2) := by decide +kernel
theorem dX8_seeks_90 : decode cX8_seeks 90 = .ok (.iload 4, 2) := by decide +kernel
theorem dX8_seeks_92 : decode cX8_seeks 92 = .ok (.ldc 97, 2) := by decide +kernel
theorem dX8_seeks_94 : decode cX8_seeks 94 = .ok (.if_icmp .lt 6, 3) := by decide +kernel
theorem dX8_seeks_97 : decode cX8_seeks 97 = .ok (.goto 119, 3) := by decide +kernel
theorem dX8_seeks_100 : decode cX8_seeks 100 = .ok (.aload_n 0, 1) := by decide +kernel
theorem dX8_seeks_101 : decode cX8_seeks 101 = .ok (.getfield 84, 3) := by decide +kernel
theorem dX8_seeks_104 : decode cX8_seeks 104 = .ok (.iload_n 2, 1) := by decide +kernel
theorem dX8_seeks_105 : decode cX8_seeks 105 = .ok (.iaload, 1) := by decide +kernel
theorem dX8_seeks_106 : decode cX8_seeks 106 = .ok (.iload 4, 2) := by decide +kernel
theorem dX8_seeks_108 : decode cX8_seeks 108 = .ok (.iadd, 1) := by decide +kernel
theorem dX8_seeks_109 : decode cX8_seeks 109 = .ok (.aload_n 0, 1) := by decide +kernel
theorem dX8_seeks_110 : decode cX8_seeks 110 = .ok (.getfield 84, 3) := by decide +kernel
theorem dX8_seeks_113 : decode cX8_seeks 113 = .ok (.iload 5, 2) := by decide +kernel
theorem dX8_seeks_115 : decode cX8_seeks 115 = .ok (.iaload, 1) := by decide +kernel
theorem dX8_seeks_116 : decode cX8_seeks 116 = .ok (.if_icmp .ge 29, 3) := by decide +kernel
theorem dX8_seeks_119 : decode cX8_seeks 119 = .ok (.aload_n 0, 1) := by decide +kernel
theorem dX8_seeks_120 : decode cX8_seeks 120 = .ok (.getfield 84, 3) := by decide +kernel
theorem dX8_seeks_123 : decode cX8_seeks 123 = .ok (.iload 5, 2) := by decide +kernel
theorem dX8_seeks_125 : decode cX8_seeks 125 = .ok (.aload_n 0, 1) := by decide +kernel
theorem dX8_seeks_126 : decode cX8_seeks 126 = .ok (.getfield 84, 3) := by decide +kernel
theorem dX8_seeks_129 : decode cX8_seeks 129 = .ok (.iload_n 2, 1) := by decide +kernel
theorem dX8_seeks_130 : decode cX8_seeks 130 = .ok (.iaload, 1) := by decide +kernel
theorem dX8_seeks_131 : decode cX8_seeks 131 = .ok (.iload 4, 2) := by decide +kernel
theorem dX8_seeks_133 : decode cX8_seeks 133 = .ok (.iadd, 1) := by decide +kernel
theorem dX8_seeks_134 : decode cX8_seeks 134 = .ok (.iastore, 1) := by decide +kernel
theorem dX8_seeks_135 : decode cX8_seeks 135 = .ok (.aload_n 0, 1) := by decide +kernel
theorem dX8_seeks_136 : decode cX8_seeks 136 = .ok (.getfield 87, 3) := by decide +kernel
theorem dX8_seeks_139 : decode cX8_seeks 139 = .ok (.iload 5, 2) := by decide +kernel
theorem dX8_seeks_141 : decode cX8_seeks 141 = .ok (.iload_n 2, 1) := by decide +kernel
theorem dX8_seeks_142 : decode cX8_seeks 142 = .ok (.iastore, 1) := by decide +kernel
theorem dX8_seeks_143 : decode cX8_seeks 143 = .ok (.iconst 1, 1) := by decide +kernel
theorem dX8_seeks_144 : decode cX8_seeks 144 = .ok (.istore_n 1, 1) := by decide +kernel
theorem dX8_seeks_145 : decode cX8_seeks 145 = .ok (.aload_n 0, 1) := by decide +kernel
theorem dX8_seeks_146 : decode cX8_seeks 146 = .ok (.getfield 81, 3) := by decide +kernel
theorem dX8_seeks_149 : decode cX8_seeks 149 = .ok (.bipush 12, 2) := by decide +kernel
theorem dX8_seeks_151 : decode cX8_seeks 151 = .ok (.iload_n 2, 1) := by decide +kernel
theorem dX8_seeks_152 : decode cX8_seeks 152 = .ok (.imul, 1) := by decide +kernel
theorem dX8_seeks_153 : decode cX8_seeks 153 = .ok (.iload_n 3, 1) := by decide +kernel
theorem dX8_seeks_154 : decode cX8_seeks 154 = .ok (.iadd, 1) := by decide +kernel
theorem dX8_seeks_155 : decode cX8_seeks 155 = .ok (.iaload, 1) := by decide +kernel
theorem dX8_seeks_156 : decode cX8_seeks 156 = .ok (.ifCond .le 60, 3) := by decide +kernel
theorem dX8_seeks_159 : decode cX8_seeks 159 = .ok (.aload_n 0, 1) := by decide +kernel
theorem dX8_seeks_160 : decode cX8_seeks 160 = .ok (.getfield 84, 3) := by decide +kernel
theorem dX8_seeks_163 : decode cX8_seeks 163 = .ok (.iload 5, 2) := by decide +kernel
theorem dX8_seeks_165 : decode cX8_seeks 165 = .ok (.iaload, 1) := by decide +kernel
theorem dX8_seeks_166 : decode cX8_seeks 166 = .ok (.ldc 167, 2) := by decide +kernel
theorem dX8_seeks_168 : decode cX8_seeks 168 = .ok (.if_icmp .ge 48, 3) := by decide +kernel
theorem dX8_seeks_171 : decode cX8_seeks 171 = .ok (.aload_n 0, 1) := by decide +kernel
theorem dX8_seeks_172 : decode cX8_seeks 172 = .ok (.getfield 84, 3) := by decide +kernel
theorem dX8_seeks_175 : decode cX8_seeks 175 = .ok (.iload 5, 2) := by decide +kernel
theorem dX8_seeks_177 : decode cX8_seeks 177 = .ok (.iaload, 1) := by decide +kernel
theorem dX8_seeks_178 : decode cX8_seeks 178 = .ok (.iload 4, 2) := by decide +kernel
theorem dX8_seeks_180 : decode cX8_seeks 180 = .ok (.isub, 1) := by decide +kernel
theorem dX8_seeks_181 : decode cX8_seeks 181 = .ok (.aload_n 0, 1) := by decide +kernel
theorem dX8_seeks_182 : decode cX8_seeks 182 = .ok (.getfield 84, 3) := by decide +kernel
theorem dX8_seeks_185 : decode cX8_seeks 185 = .ok (.iload_n 2, 1) := by decide +kernel
theorem dX8_seeks_186 : decode cX8_seeks 186 = .ok (.iaload, 1) := by decide +kernel
theorem dX8_seeks_187 : decode cX8_seeks 187 = .ok (.if_icmp .ge 29, 3) := by decide +kernel
theorem dX8_seeks_190 : decode cX8_seeks 190 = .ok (.aload_n 0, 1) := by decide +kernel
theorem dX8_seeks_191 : decode cX8_seeks 191 = .ok (.getfield 84, 3) := by decide +kernel
theorem dX8_seeks_194 : decode cX8_seeks 194 = .ok (.iload_n 2, 1) := by decide +kernel
theorem dX8_seeks_195 : decode cX8_seeks 195 = .ok (.aload_n 0, 1) := by decide +kernel
theorem dX8_seeks_196 : decode cX8_seeks 196 = .ok (.getfield 84, 3) := by decide +kernel
theorem dX8_seeks_199 : decode cX8_seeks 199 = .ok (.iload 5, 2) := by decide +kernel
theorem dX8_seeks_201 : decode cX8_seeks 201 = .ok (.iaload, 1) := by decide +kernel
theorem dX8_seeks_202 : decode cX8_seeks 202 = .ok (.iload 4, 2) := by decide +kernel
theorem dX8_seeks_204 : decode cX8_seeks 204 = .ok (.isub, 1) := by decide +kernel
theorem dX8_seeks_205 : decode cX8_seeks 205 = .ok (.iastore, 1) := by decide +kernel
theorem dX8_seeks_206 : decode cX8_seeks 206 = .ok (.aload_n 0, 1) := by decide +kernel
theorem dX8_seeks_207 : decode cX8_seeks 207 = .ok (.getfield 87, 3) := by decide +kernel
theorem dX8_seeks_210 : decode cX8_seeks 210 = .ok (.iload_n 2, 1) := by decide +kernel
theorem dX8_seeks_211 : decode cX8_seeks 211 = .ok (.iload 5, 2) := by decide +kernel
theorem dX8_seeks_213 : decode cX8_seeks 213 = .ok (.iastore, 1) := by decide +kernel
theorem dX8_seeks_214 : decode cX8_seeks 214 = .ok (.iconst 1, 1) := by decide +kernel
theorem dX8_seeks_215 : decode cX8_seeks 215 = .ok (.istore_n 1, 1) := by decide +kernel
theorem dX8_seeks_216 : decode cX8_seeks 216 = .ok (.iinc 3 1, 3) := by decide +kernel
theorem dX8_seeks_219 : decode cX8_seeks 219 = .ok (.goto (-154), 3) := by decide +kernel
theorem dX8_seeks_222 : decode cX8_seeks 222 = .ok (.iinc 2 1, 3) := by decide +kernel
theorem dX8_seeks_225 : decode cX8_seeks 225 = .ok (.goto (-168), 3) := by decide +kernel
theorem dX8_seeks_228 : decode cX8_seeks 228 = .ok (.goto (-179), 3) := by decide +kernel
theorem dX8_seeks_231 : decode cX8_seeks 231 = .ok (.iconst (-1), 1) := by decide +kernel
theorem dX8_seeks_232 : decode cX8_seeks 232 = .ok (.istore_n 2, 1) := by decide +kernel
theorem dX8_seeks_233 : decode cX8_seeks 233 = .ok (.iconst 0, 1) := by decide +kernel
theorem dX8_seeks_234 : decode cX8_seeks 234 = .ok (.istore_n 3, 1) := by decide +kernel
theorem dX8_seeks_235 : decode cX8_seeks 235 = .ok (.iload_n 3, 1) := by decide +kernel
theorem dX8_seeks_236 : decode cX8_seeks 236 = .ok (.bipush 12, 2) := by decide +kernel
theorem dX8_seeks_238 : decode cX8_seeks 238 = .ok (.if_icmp .ge 59, 3) := by decide +kernel
theorem dX8_seeks_241 : decode cX8_seeks 241 = .ok (.aload_n 0, 1) := by decide +kernel
theorem dX8_seeks_242 : decode cX8_seeks 242 = .ok (.getfield 84, 3) := by decide +kernel
theorem dX8_seeks_245 : decode cX8_seeks 245 = .ok (.bipush 12, 2) := by decide +kernel
theorem dX8_seeks_247 : decode cX8_seeks 247 = .ok (.iload_n 3, 1) := by decide +kernel
theorem dX8_seeks_248 : decode cX8_seeks 248 = .ok (.iadd, 1) := by decide +kernel
theorem dX8_seeks_249 : decode cX8_seeks 249 = .ok (.iaload, 1) := by decide +kernel
theorem dX8_seeks_250 : decode cX8_seeks 250 = .ok (.ldc 167, 2) := by decide +kernel
theorem dX8_seeks_252 : decode cX8_seeks 252 = .ok (.if_icmp .ge 39, 3) := by decide +kernel
theorem dX8_seeks_255 : decode cX8_seeks 255 = .ok (.aload_n 0, 1) := by decide +kernel
theorem dX8_seeks_256 : decode cX8_seeks 256 = .ok (.iload_n 3, 1) := by decide +kernel
theorem dX8_seeks_257 : decode cX8_seeks 257 = .ok (.invokevirtual 168, 3) := by decide +kernel
theorem dX8_seeks_260 : decode cX8_seeks 260 = .ok (.ifCond .le 31, 3) := by decide +kernel
theorem dX8_seeks_263 : decode cX8_seeks 263 = .ok (.iload_n 2, 1) := by decide +kernel
theorem dX8_seeks_264 : decode cX8_seeks 264 = .ok (.iconst (-1), 1) := by decide +kernel
theorem dX8_seeks_265 : decode cX8_seeks 265 = .ok (.if_icmp .eq 21, 3) := by decide +kernel
theorem dX8_seeks_268 : decode cX8_seeks 268 = .ok (.aload_n 0, 1) := by decide +kernel
theorem dX8_seeks_269 : decode cX8_seeks 269 = .ok (.getfield 84, 3) := by decide +kernel
theorem dX8_seeks_272 : decode cX8_seeks 272 = .ok (.bipush 12, 2) := by decide +kernel
theorem dX8_seeks_274 : decode cX8_seeks 274 = .ok (.iload_n 3, 1) := by decide +kernel
theorem dX8_seeks_275 : decode cX8_seeks 275 = .ok (.iadd, 1) := by decide +kernel
theorem dX8_seeks_276 : decode cX8_seeks 276 = .ok (.iaload, 1) := by decide +kernel
theorem dX8_seeks_277 : decode cX8_seeks 277 = .ok (.aload_n 0, 1) := by decide +kernel
theorem dX8_seeks_278 : decode cX8_seeks 278 = .ok (.getfield 84, 3) := by decide +kernel
theorem dX8_seeks_281 : decode cX8_seeks 281 = .ok (.iload_n 2, 1) := by decide +kernel
theorem dX8_seeks_282 : decode cX8_seeks 282 = .ok (.iaload, 1) := by decide +kernel
theorem dX8_seeks_283 : decode cX8_seeks 283 = .ok (.if_icmp .ge 8, 3) := by decide +kernel
theorem dX8_seeks_286 : decode cX8_seeks 286 = .ok (.bipush 12, 2) := by decide +kernel
theorem dX8_seeks_288 : decode cX8_seeks 288 = .ok (.iload_n 3, 1) := by decide +kernel
theorem dX8_seeks_289 : decode cX8_seeks 289 = .ok (.iadd, 1) := by decide +kernel
theorem dX8_seeks_290 : decode cX8_seeks 290 = .ok (.istore_n 2, 1) := by decide +kernel
theorem dX8_seeks_291 : decode cX8_seeks 291 = .ok (.iinc 3 1, 3) := by decide +kernel
theorem dX8_seeks_294 : decode cX8_seeks 294 = .ok (.goto (-59), 3) := by decide +kernel
theorem dX8_seeks_297 : decode cX8_seeks 297 = .ok (.iload_n 2, 1) := by decide +kernel
theorem dX8_seeks_298 : decode cX8_seeks 298 = .ok (.ireturn, 1) := by decide +kernel
theorem dX8_met_0 : decode cX8_met 0 = .ok (.aload_n 0, 1) := by decide +kernel
theorem dX8_met_1 : decode cX8_met 1 = .ok (.invokevirtual 171, 3) := by decide +kernel
theorem dX8_met_4 : decode cX8_met 4 = .ok (.ireturn, 1) := by decide +kernel
theorem dX8_led_0 : decode cX8_led 0 = .ok (.aload_n 0, 1) := by decide +kernel
theorem dX8_led_1 : decode cX8_led 1 = .ok (.invokevirtual 171, 3) := by decide +kernel
theorem dX8_led_4 : decode cX8_led 4 = .ok (.pop, 1) := by decide +kernel
theorem dX8_led_5 : decode cX8_led 5 = .ok (.aload_n 0, 1) := by decide +kernel
theorem dX8_led_6 : decode cX8_led 6 = .ok (.getfield 158, 3) := by decide +kernel
theorem dX8_led_9 : decode cX8_led 9 = .ok (.ireturn, 1) := by decide +kernel
theorem dX8_count_0 : decode cX8_count 0 = .ok (.iconst 0, 1) := by decide +kernel
theorem dX8_count_1 : decode cX8_count 1 = .ok (.istore_n 2, 1) := by decide +kernel
theorem dX8_count_2 : decode cX8_count 2 = .ok (.iload_n 1, 1) := by decide +kernel
theorem dX8_count_3 : decode cX8_count 3 = .ok (.tableswitch 107 0 5 #[37, 42, 47, 52, 57, 82], 37) := by decide +kernel
theorem dX8_count_40 : decode cX8_count 40 = .ok (.aload_n 0, 1) := by decide +kernel
theorem dX8_count_41 : decode cX8_count 41 = .ok (.getfield 98, 3) := by decide +kernel
theorem dX8_count_44 : decode cX8_count 44 = .ok (.ireturn, 1) := by decide +kernel
theorem dX8_count_45 : decode cX8_count 45 = .ok (.aload_n 0, 1) := by decide +kernel
theorem dX8_count_46 : decode cX8_count 46 = .ok (.getfield 125, 3) := by decide +kernel
theorem dX8_count_49 : decode cX8_count 49 = .ok (.ireturn, 1) := by decide +kernel
theorem dX8_count_50 : decode cX8_count 50 = .ok (.aload_n 0, 1) := by decide +kernel
theorem dX8_count_51 : decode cX8_count 51 = .ok (.getfield 128, 3) := by decide +kernel
theorem dX8_count_54 : decode cX8_count 54 = .ok (.ireturn, 1) := by decide +kernel
theorem dX8_count_55 : decode cX8_count 55 = .ok (.aload_n 0, 1) := by decide +kernel
theorem dX8_count_56 : decode cX8_count 56 = .ok (.getfield 121, 3) := by decide +kernel
theorem dX8_count_59 : decode cX8_count 59 = .ok (.ireturn, 1) := by decide +kernel
theorem dX8_count_60 : decode cX8_count 60 = .ok (.iconst 0, 1) := by decide +kernel
theorem dX8_count_61 : decode cX8_count 61 = .ok (.istore_n 3, 1) := by decide +kernel
theorem dX8_count_62 : decode cX8_count 62 = .ok (.iload_n 3, 1) := by decide +kernel
theorem dX8_count_63 : decode cX8_count 63 = .ok (.bipush 12, 2) := by decide +kernel
theorem dX8_count_65 : decode cX8_count 65 = .ok (.if_icmp .ge 18, 3) := by decide +kernel
theorem dX8_count_68 : decode cX8_count 68 = .ok (.iload_n 2, 1) := by decide +kernel
theorem dX8_count_69 : decode cX8_count 69 = .ok (.aload_n 0, 1) := by decide +kernel
theorem dX8_count_70 : decode cX8_count 70 = .ok (.getfield 53, 3) := by decide +kernel
theorem dX8_count_73 : decode cX8_count 73 = .ok (.iload_n 3, 1) := by decide +kernel
theorem dX8_count_74 : decode cX8_count 74 = .ok (.iaload, 1) := by decide +kernel
theorem dX8_count_75 : decode cX8_count 75 = .ok (.iadd, 1) := by decide +kernel
theorem dX8_count_76 : decode cX8_count 76 = .ok (.istore_n 2, 1) := by decide +kernel
theorem dX8_count_77 : decode cX8_count 77 = .ok (.iinc 3 1, 3) := by decide +kernel
theorem dX8_count_80 : decode cX8_count 80 = .ok (.goto (-18), 3) := by decide +kernel
theorem dX8_count_83 : decode cX8_count 83 = .ok (.iload_n 2, 1) := by decide +kernel
theorem dX8_count_84 : decode cX8_count 84 = .ok (.ireturn, 1) := by decide +kernel
theorem dX8_count_85 : decode cX8_count 85 = .ok (.iconst 0, 1) := by decide +kernel
theorem dX8_count_86 : decode cX8_count 86 = .ok (.istore_n 3, 1) := by decide +kernel
theorem dX8_count_87 : decode cX8_count 87 = .ok (.iload_n 3, 1) := by decide +kernel
theorem dX8_count_88 : decode cX8_count 88 = .ok (.bipush 12, 2) := by decide +kernel
theorem dX8_count_90 : decode cX8_count 90 = .ok (.if_icmp .ge 18, 3) := by decide +kernel
theorem dX8_count_93 : decode cX8_count 93 = .ok (.iload_n 2, 1) := by decide +kernel
theorem dX8_count_94 : decode cX8_count 94 = .ok (.aload_n 0, 1) := by decide +kernel
theorem dX8_count_95 : decode cX8_count 95 = .ok (.getfield 56, 3) := by decide +kernel
theorem dX8_count_98 : decode cX8_count 98 = .ok (.iload_n 3, 1) := by decide +kernel
theorem dX8_count_99 : decode cX8_count 99 = .ok (.iaload, 1) := by decide +kernel
theorem dX8_count_100 : decode cX8_count 100 = .ok (.iadd, 1) := by decide +kernel
theorem dX8_count_101 : decode cX8_count 101 = .ok (.istore_n 2, 1) := by decide +kernel
theorem dX8_count_102 : decode cX8_count 102 = .ok (.iinc 3 1, 3) := by decide +kernel
theorem dX8_count_105 : decode cX8_count 105 = .ok (.goto (-18), 3) := by decide +kernel
theorem dX8_count_108 : decode cX8_count 108 = .ok (.iload_n 2, 1) := by decide +kernel
theorem dX8_count_109 : decode cX8_count 109 = .ok (.ireturn, 1) := by decide +kernel
theorem dX8_count_110 : decode cX8_count 110 = .ok (.iconst (-1), 1) := by decide +kernel
theorem dX8_count_111 : decode cX8_count 111 = .ok (.ireturn, 1) := by decide +kernel
theorem dJ6_bitCount_0f7a4_0 : decode cJ6_bitCount_0f7a4 0 = .ok (.iload_n 0, 1) := by decide +kernel
theorem dJ6_bitCount_0f7a4_1 : decode cJ6_bitCount_0f7a4 1 = .ok (.iload_n 0, 1) := by decide +kernel
theorem dJ6_bitCount_0f7a4_2 : decode cJ6_bitCount_0f7a4 2 = .ok (.iconst 1, 1) := by decide +kernel
theorem dJ6_bitCount_0f7a4_3 : decode cJ6_bitCount_0f7a4 3 = .ok (.iushr, 1) := by decide +kernel
theorem dJ6_bitCount_0f7a4_4 : decode cJ6_bitCount_0f7a4 4 = .ok (.ldc_w 265, 3) := by decide +kernel
theorem dJ6_bitCount_0f7a4_7 : decode cJ6_bitCount_0f7a4 7 = .ok (.iand, 1) := by decide +kernel
theorem dJ6_bitCount_0f7a4_8 : decode cJ6_bitCount_0f7a4 8 = .ok (.isub, 1) := by decide +kernel
theorem dJ6_bitCount_0f7a4_9 : decode cJ6_bitCount_0f7a4 9 = .ok (.istore_n 0, 1) := by decide +kernel
theorem dJ6_bitCount_0f7a4_10 : decode cJ6_bitCount_0f7a4 10 = .ok (.iload_n 0, 1) := by decide +kernel
theorem dJ6_bitCount_0f7a4_11 : decode cJ6_bitCount_0f7a4 11 = .ok (.ldc_w 266, 3) := by decide +kernel
theorem dJ6_bitCount_0f7a4_14 : decode cJ6_bitCount_0f7a4 14 = .ok (.iand, 1) := by decide +kernel
theorem dJ6_bitCount_0f7a4_15 : decode cJ6_bitCount_0f7a4 15 = .ok (.iload_n 0, 1) := by decide +kernel
theorem dJ6_bitCount_0f7a4_16 : decode cJ6_bitCount_0f7a4 16 = .ok (.iconst 2, 1) := by decide +kernel
theorem dJ6_bitCount_0f7a4_17 : decode cJ6_bitCount_0f7a4 17 = .ok (.iushr, 1) := by decide +kernel
theorem dJ6_bitCount_0f7a4_18 : decode cJ6_bitCount_0f7a4 18 = .ok (.ldc_w 266, 3) := by decide +kernel
theorem dJ6_bitCount_0f7a4_21 : decode cJ6_bitCount_0f7a4 21 = .ok (.iand, 1) := by decide +kernel
theorem dJ6_bitCount_0f7a4_22 : decode cJ6_bitCount_0f7a4 22 = .ok (.iadd, 1) := by decide +kernel
theorem dJ6_bitCount_0f7a4_23 : decode cJ6_bitCount_0f7a4 23 = .ok (.istore_n 0, 1) := by decide +kernel
theorem dJ6_bitCount_0f7a4_24 : decode cJ6_bitCount_0f7a4 24 = .ok (.iload_n 0, 1) := by decide +kernel
theorem dJ6_bitCount_0f7a4_25 : decode cJ6_bitCount_0f7a4 25 = .ok (.iload_n 0, 1) := by decide +kernel
theorem dJ6_bitCount_0f7a4_26 : decode cJ6_bitCount_0f7a4 26 = .ok (.iconst 4, 1) := by decide +kernel
theorem dJ6_bitCount_0f7a4_27 : decode cJ6_bitCount_0f7a4 27 = .ok (.iushr, 1) := by decide +kernel
theorem dJ6_bitCount_0f7a4_28 : decode cJ6_bitCount_0f7a4 28 = .ok (.iadd, 1) := by decide +kernel
theorem dJ6_bitCount_0f7a4_29 : decode cJ6_bitCount_0f7a4 29 = .ok (.ldc_w 267, 3) := by decide +kernel
theorem dJ6_bitCount_0f7a4_32 : decode cJ6_bitCount_0f7a4 32 = .ok (.iand, 1) := by decide +kernel
theorem dJ6_bitCount_0f7a4_33 : decode cJ6_bitCount_0f7a4 33 = .ok (.istore_n 0, 1) := by decide +kernel
theorem dJ6_bitCount_0f7a4_34 : decode cJ6_bitCount_0f7a4 34 = .ok (.iload_n 0, 1) := by decide +kernel
theorem dJ6_bitCount_0f7a4_35 : decode cJ6_bitCount_0f7a4 35 = .ok (.iload_n 0, 1) := by decide +kernel
theorem dJ6_bitCount_0f7a4_36 : decode cJ6_bitCount_0f7a4 36 = .ok (.bipush 8, 2) := by decide +kernel
theorem dJ6_bitCount_0f7a4_38 : decode cJ6_bitCount_0f7a4 38 = .ok (.iushr, 1) := by decide +kernel
theorem dJ6_bitCount_0f7a4_39 : decode cJ6_bitCount_0f7a4 39 = .ok (.iadd, 1) := by decide +kernel
theorem dJ6_bitCount_0f7a4_40 : decode cJ6_bitCount_0f7a4 40 = .ok (.istore_n 0, 1) := by decide +kernel
theorem dJ6_bitCount_0f7a4_41 : decode cJ6_bitCount_0f7a4 41 = .ok (.iload_n 0, 1) := by decide +kernel
theorem dJ6_bitCount_0f7a4_42 : decode cJ6_bitCount_0f7a4 42 = .ok (.iload_n 0, 1) := by decide +kernel
theorem dJ6_bitCount_0f7a4_43 : decode cJ6_bitCount_0f7a4 43 = .ok (.bipush 16, 2) := by decide +kernel
theorem dJ6_bitCount_0f7a4_45 : decode cJ6_bitCount_0f7a4 45 = .ok (.iushr, 1) := by decide +kernel
theorem dJ6_bitCount_0f7a4_46 : decode cJ6_bitCount_0f7a4 46 = .ok (.iadd, 1) := by decide +kernel
theorem dJ6_bitCount_0f7a4_47 : decode cJ6_bitCount_0f7a4 47 = .ok (.istore_n 0, 1) := by decide +kernel
theorem dJ6_bitCount_0f7a4_48 : decode cJ6_bitCount_0f7a4 48 = .ok (.iload_n 0, 1) := by decide +kernel
theorem dJ6_bitCount_0f7a4_49 : decode cJ6_bitCount_0f7a4 49 = .ok (.bipush 63, 2) := by decide +kernel
theorem dJ6_bitCount_0f7a4_51 : decode cJ6_bitCount_0f7a4 51 = .ok (.iand, 1) := by decide +kernel
theorem dJ6_bitCount_0f7a4_52 : decode cJ6_bitCount_0f7a4 52 = .ok (.ireturn, 1) := by decide +kernel
theorem dJ9_max_7cf53_0 : decode cJ9_max_7cf53 0 = .ok (.iload_n 0, 1) := by decide +kernel
theorem dJ9_max_7cf53_1 : decode cJ9_max_7cf53 1 = .ok (.iload_n 1, 1) := by decide +kernel
theorem dJ9_max_7cf53_2 : decode cJ9_max_7cf53 2 = .ok (.if_icmp .lt 7, 3) := by decide +kernel
theorem dJ9_max_7cf53_5 : decode cJ9_max_7cf53 5 = .ok (.iload_n 0, 1) := by decide +kernel
theorem dJ9_max_7cf53_6 : decode cJ9_max_7cf53 6 = .ok (.goto 4, 3) := by decide +kernel
theorem dJ9_max_7cf53_9 : decode cJ9_max_7cf53 9 = .ok (.iload_n 1, 1) := by decide +kernel
theorem dJ9_max_7cf53_10 : decode cJ9_max_7cf53 10 = .ok (.ireturn, 1) := by decide +kernel
theorem dJ9_min_7cf53_0 : decode cJ9_min_7cf53 0 = .ok (.iload_n 0, 1) := by decide +kernel
theorem dJ9_min_7cf53_1 : decode cJ9_min_7cf53 1 = .ok (.iload_n 1, 1) := by decide +kernel
theorem dJ9_min_7cf53_2 : decode cJ9_min_7cf53 2 = .ok (.if_icmp .gt 7, 3) := by decide +kernel
theorem dJ9_min_7cf53_5 : decode cJ9_min_7cf53 5 = .ok (.iload_n 0, 1) := by decide +kernel
theorem dJ9_min_7cf53_6 : decode cJ9_min_7cf53 6 = .ok (.goto 4, 3) := by decide +kernel
theorem dJ9_min_7cf53_9 : decode cJ9_min_7cf53 9 = .ok (.iload_n 1, 1) := by decide +kernel
theorem dJ9_min_7cf53_10 : decode cJ9_min_7cf53 10 = .ok (.ireturn, 1) := by decide +kernel
theorem dJ7_fill_53178_0 : decode cJ7_fill_53178 0 = .ok (.iconst 0, 1) := by decide +kernel
theorem dJ7_fill_53178_1 : decode cJ7_fill_53178 1 = .ok (.istore_n 2, 1) := by decide +kernel
theorem dJ7_fill_53178_2 : decode cJ7_fill_53178 2 = .ok (.aload_n 0, 1) := by decide +kernel
theorem dJ7_fill_53178_3 : decode cJ7_fill_53178 3 = .ok (.arraylength, 1) := by decide +kernel
theorem dJ7_fill_53178_4 : decode cJ7_fill_53178 4 = .ok (.istore_n 3, 1) := by decide +kernel
theorem dJ7_fill_53178_5 : decode cJ7_fill_53178 5 = .ok (.iload_n 2, 1) := by decide +kernel
theorem dJ7_fill_53178_6 : decode cJ7_fill_53178 6 = .ok (.iload_n 3, 1) := by decide +kernel
theorem dJ7_fill_53178_7 : decode cJ7_fill_53178 7 = .ok (.if_icmp .ge 13, 3) := by decide +kernel
theorem dJ7_fill_53178_10 : decode cJ7_fill_53178 10 = .ok (.aload_n 0, 1) := by decide +kernel
theorem dJ7_fill_53178_11 : decode cJ7_fill_53178 11 = .ok (.iload_n 2, 1) := by decide +kernel
theorem dJ7_fill_53178_12 : decode cJ7_fill_53178 12 = .ok (.iload_n 1, 1) := by decide +kernel
theorem dJ7_fill_53178_13 : decode cJ7_fill_53178 13 = .ok (.iastore, 1) := by decide +kernel
theorem dJ7_fill_53178_14 : decode cJ7_fill_53178 14 = .ok (.iinc 2 1, 3) := by decide +kernel
theorem dJ7_fill_53178_17 : decode cJ7_fill_53178 17 = .ok (.goto (-12), 3) := by decide +kernel
theorem dJ7_fill_53178_20 : decode cJ7_fill_53178 20 = .ok (.return_, 1) := by decide +kernel
theorem dL_law_0 : decode cL_law 0 = .ok (.new 7, 3) := by decide +kernel
theorem dL_law_3 : decode cL_law 3 = .ok (.dup, 1) := by decide +kernel
theorem dL_law_4 : decode cL_law 4 = .ok (.invokespecial 9, 3) := by decide +kernel
theorem dL_law_7 : decode cL_law 7 = .ok (.astore_n 1, 1) := by decide +kernel
theorem dL_law_8 : decode cL_law 8 = .ok (.new 10, 3) := by decide +kernel
theorem dL_law_11 : decode cL_law 11 = .ok (.dup, 1) := by decide +kernel
theorem dL_law_12 : decode cL_law 12 = .ok (.invokespecial 12, 3) := by decide +kernel
theorem dL_law_15 : decode cL_law 15 = .ok (.astore_n 2, 1) := by decide +kernel
theorem dL_law_16 : decode cL_law 16 = .ok (.iconst 0, 1) := by decide +kernel
theorem dL_law_17 : decode cL_law 17 = .ok (.istore_n 3, 1) := by decide +kernel
theorem dL_law_18 : decode cL_law 18 = .ok (.iload_n 3, 1) := by decide +kernel
theorem dL_law_19 : decode cL_law 19 = .ok (.aload_n 0, 1) := by decide +kernel
theorem dL_law_20 : decode cL_law 20 = .ok (.arraylength, 1) := by decide +kernel
theorem dL_law_21 : decode cL_law 21 = .ok (.iconst 5, 1) := by decide +kernel
theorem dL_law_22 : decode cL_law 22 = .ok (.isub, 1) := by decide +kernel
theorem dL_law_23 : decode cL_law 23 = .ok (.if_icmp .gt 721, 3) := by decide +kernel
theorem dL_law_26 : decode cL_law 26 = .ok (.aload_n 0, 1) := by decide +kernel
theorem dL_law_27 : decode cL_law 27 = .ok (.iload_n 3, 1) := by decide +kernel
theorem dL_law_28 : decode cL_law 28 = .ok (.iaload, 1) := by decide +kernel
theorem dL_law_29 : decode cL_law 29 = .ok (.bipush 31, 2) := by decide +kernel
theorem dL_law_31 : decode cL_law 31 = .ok (.iand, 1) := by decide +kernel
theorem dL_law_32 : decode cL_law 32 = .ok (.tableswitch 706 0 19 #[96, 149, 182, 215, 268, 321, 354, 407, 420, 453, 476, 489, 522, 555, 578, 591, 614, 657, 670, 683], 96) := by decide +kernel
theorem dL_law_128 : decode cL_law 128 = .ok (.aload_n 1, 1) := by decide +kernel
theorem dL_law_129 : decode cL_law 129 = .ok (.aload_n 0, 1) := by decide +kernel
theorem dL_law_130 : decode cL_law 130 = .ok (.iload_n 3, 1) := by decide +kernel
theorem dL_law_131 : decode cL_law 131 = .ok (.iconst 1, 1) := by decide +kernel
theorem dL_law_132 : decode cL_law 132 = .ok (.iadd, 1) := by decide +kernel
theorem dL_law_133 : decode cL_law 133 = .ok (.iaload, 1) := by decide +kernel
theorem dL_law_134 : decode cL_law 134 = .ok (.aload_n 0, 1) := by decide +kernel
theorem dL_law_135 : decode cL_law 135 = .ok (.iload_n 3, 1) := by decide +kernel
theorem dL_law_136 : decode cL_law 136 = .ok (.iconst 2, 1) := by decide +kernel
theorem dL_law_137 : decode cL_law 137 = .ok (.iadd, 1) := by decide +kernel
theorem dL_law_138 : decode cL_law 138 = .ok (.iaload, 1) := by decide +kernel
theorem dL_law_139 : decode cL_law 139 = .ok (.aload_n 0, 1) := by decide +kernel
theorem dL_law_140 : decode cL_law 140 = .ok (.iload_n 3, 1) := by decide +kernel
theorem dL_law_141 : decode cL_law 141 = .ok (.iconst 3, 1) := by decide +kernel
theorem dL_law_142 : decode cL_law 142 = .ok (.iadd, 1) := by decide +kernel
theorem dL_law_143 : decode cL_law 143 = .ok (.iaload, 1) := by decide +kernel
theorem dL_law_144 : decode cL_law 144 = .ok (.aload_n 0, 1) := by decide +kernel
theorem dL_law_145 : decode cL_law 145 = .ok (.iload_n 3, 1) := by decide +kernel
theorem dL_law_146 : decode cL_law 146 = .ok (.iconst 4, 1) := by decide +kernel
theorem dL_law_147 : decode cL_law 147 = .ok (.iadd, 1) := by decide +kernel
theorem dL_law_148 : decode cL_law 148 = .ok (.iaload, 1) := by decide +kernel
theorem dL_law_149 : decode cL_law 149 = .ok (.invokevirtual 13, 3) := by decide +kernel
theorem dL_law_152 : decode cL_law 152 = .ok (.aload_n 2, 1) := by decide +kernel
theorem dL_law_153 : decode cL_law 153 = .ok (.aload_n 0, 1) := by decide +kernel
theorem dL_law_154 : decode cL_law 154 = .ok (.iload_n 3, 1) := by decide +kernel
theorem dL_law_155 : decode cL_law 155 = .ok (.iconst 1, 1) := by decide +kernel
theorem dL_law_156 : decode cL_law 156 = .ok (.iadd, 1) := by decide +kernel
theorem dL_law_157 : decode cL_law 157 = .ok (.iaload, 1) := by decide +kernel
theorem dL_law_158 : decode cL_law 158 = .ok (.aload_n 0, 1) := by decide +kernel
theorem dL_law_159 : decode cL_law 159 = .ok (.iload_n 3, 1) := by decide +kernel
theorem dL_law_160 : decode cL_law 160 = .ok (.iconst 2, 1) := by decide +kernel
theorem dL_law_161 : decode cL_law 161 = .ok (.iadd, 1) := by decide +kernel
theorem dL_law_162 : decode cL_law 162 = .ok (.iaload, 1) := by decide +kernel
theorem dL_law_163 : decode cL_law 163 = .ok (.aload_n 0, 1) := by decide +kernel
theorem dL_law_164 : decode cL_law 164 = .ok (.iload_n 3, 1) := by decide +kernel
theorem dL_law_165 : decode cL_law 165 = .ok (.iconst 3, 1) := by decide +kernel
theorem dL_law_166 : decode cL_law 166 = .ok (.iadd, 1) := by decide +kernel
theorem dL_law_167 : decode cL_law 167 = .ok (.iaload, 1) := by decide +kernel
theorem dL_law_168 : decode cL_law 168 = .ok (.aload_n 0, 1) := by decide +kernel
theorem dL_law_169 : decode cL_law 169 = .ok (.iload_n 3, 1) := by decide +kernel
theorem dL_law_170 : decode cL_law 170 = .ok (.iconst 4, 1) := by decide +kernel
theorem dL_law_171 : decode cL_law 171 = .ok (.iadd, 1) := by decide +kernel
theorem dL_law_172 : decode cL_law 172 = .ok (.iaload, 1) := by decide +kernel
theorem dL_law_173 : decode cL_law 173 = .ok (.invokevirtual 17, 3) := by decide +kernel
theorem dL_law_176 : decode cL_law 176 = .ok (.if_icmp .eq 562, 3) := by decide +kernel
theorem dL_law_179 : decode cL_law 179 = .ok (.iconst 0, 1) := by decide +kernel
theorem dL_law_180 : decode cL_law 180 = .ok (.ireturn, 1) := by decide +kernel
theorem dL_law_181 : decode cL_law 181 = .ok (.aload_n 1, 1) := by decide +kernel
theorem dL_law_182 : decode cL_law 182 = .ok (.aload_n 0, 1) := by decide +kernel
theorem dL_law_183 : decode cL_law 183 = .ok (.iload_n 3, 1) := by decide +kernel
theorem dL_law_184 : decode cL_law 184 = .ok (.iconst 1, 1) := by decide +kernel
theorem dL_law_185 : decode cL_law 185 = .ok (.iadd, 1) := by decide +kernel
theorem dL_law_186 : decode cL_law 186 = .ok (.iaload, 1) := by decide +kernel
theorem dL_law_187 : decode cL_law 187 = .ok (.aload_n 0, 1) := by decide +kernel
theorem dL_law_188 : decode cL_law 188 = .ok (.iload_n 3, 1) := by decide +kernel
theorem dL_law_189 : decode cL_law 189 = .ok (.iconst 2, 1) := by decide +kernel
theorem dL_law_190 : decode cL_law 190 = .ok (.iadd, 1) := by decide +kernel
theorem dL_law_191 : decode cL_law 191 = .ok (.iaload, 1) := by decide +kernel
theorem dL_law_192 : decode cL_law 192 = .ok (.invokevirtual 18, 3) := by decide +kernel
theorem dL_law_195 : decode cL_law 195 = .ok (.aload_n 2, 1) := by decide +kernel
theorem dL_law_196 : decode cL_law 196 = .ok (.aload_n 0, 1) := by decide +kernel
theorem dL_law_197 : decode cL_law 197 = .ok (.iload_n 3, 1) := by decide +kernel
theorem dL_law_198 : decode cL_law 198 = .ok (.iconst 1, 1) := by decide +kernel
theorem dL_law_199 : decode cL_law 199 = .ok (.iadd, 1) := by decide +kernel
theorem dL_law_200 : decode cL_law 200 = .ok (.iaload, 1) := by decide +kernel
theorem dL_law_201 : decode cL_law 201 = .ok (.aload_n 0, 1) := by decide +kernel
theorem dL_law_202 : decode cL_law 202 = .ok (.iload_n 3, 1) := by decide +kernel
theorem dL_law_203 : decode cL_law 203 = .ok (.iconst 2, 1) := by decide +kernel
theorem dL_law_204 : decode cL_law 204 = .ok (.iadd, 1) := by decide +kernel
theorem dL_law_205 : decode cL_law 205 = .ok (.iaload, 1) := by decide +kernel
theorem dL_law_206 : decode cL_law 206 = .ok (.invokevirtual 22, 3) := by decide +kernel
theorem dL_law_209 : decode cL_law 209 = .ok (.if_icmp .eq 529, 3) := by decide +kernel
theorem dL_law_212 : decode cL_law 212 = .ok (.iconst 0, 1) := by decide +kernel
theorem dL_law_213 : decode cL_law 213 = .ok (.ireturn, 1) := by decide +kernel
theorem dL_law_214 : decode cL_law 214 = .ok (.aload_n 1, 1) := by decide +kernel
theorem dL_law_215 : decode cL_law 215 = .ok (.aload_n 0, 1) := by decide +kernel
theorem dL_law_216 : decode cL_law 216 = .ok (.iload_n 3, 1) := by decide +kernel
theorem dL_law_217 : decode cL_law 217 = .ok (.iconst 1, 1) := by decide +kernel
theorem dL_law_218 : decode cL_law 218 = .ok (.iadd, 1) := by decide +kernel
theorem dL_law_219 : decode cL_law 219 = .ok (.iaload, 1) := by decide +kernel
theorem dL_law_220 : decode cL_law 220 = .ok (.aload_n 0, 1) := by decide +kernel
theorem dL_law_221 : decode cL_law 221 = .ok (.iload_n 3, 1) := by decide +kernel
theorem dL_law_222 : decode cL_law 222 = .ok (.iconst 2, 1) := by decide +kernel
theorem dL_law_223 : decode cL_law 223 = .ok (.iadd, 1) := by decide +kernel
theorem dL_law_224 : decode cL_law 224 = .ok (.iaload, 1) := by decide +kernel
theorem dL_law_225 : decode cL_law 225 = .ok (.invokevirtual 23, 3) := by decide +kernel
theorem dL_law_228 : decode cL_law 228 = .ok (.aload_n 2, 1) := by decide +kernel
theorem dL_law_229 : decode cL_law 229 = .ok (.aload_n 0, 1) := by decide +kernel
theorem dL_law_230 : decode cL_law 230 = .ok (.iload_n 3, 1) := by decide +kernel
theorem dL_law_231 : decode cL_law 231 = .ok (.iconst 1, 1) := by decide +kernel
theorem dL_law_232 : decode cL_law 232 = .ok (.iadd, 1) := by decide +kernel
theorem dL_law_233 : decode cL_law 233 = .ok (.iaload, 1) := by decide +kernel
theorem dL_law_234 : decode cL_law 234 = .ok (.aload_n 0, 1) := by decide +kernel
theorem dL_law_235 : decode cL_law 235 = .ok (.iload_n 3, 1) := by decide +kernel
theorem dL_law_236 : decode cL_law 236 = .ok (.iconst 2, 1) := by decide +kernel
theorem dL_law_237 : decode cL_law 237 = .ok (.iadd, 1) := by decide +kernel
theorem dL_law_238 : decode cL_law 238 = .ok (.iaload, 1) := by decide +kernel
theorem dL_law_239 : decode cL_law 239 = .ok (.invokevirtual 26, 3) := by decide +kernel
theorem dL_law_242 : decode cL_law 242 = .ok (.if_icmp .eq 496, 3) := by decide +kernel
theorem dL_law_245 : decode cL_law 245 = .ok (.iconst 0, 1) := by decide +kernel
theorem dL_law_246 : decode cL_law 246 = .ok (.ireturn, 1) := by decide +kernel
theorem dL_law_247 : decode cL_law 247 = .ok (.aload_n 1, 1) := by decide +kernel
theorem dL_law_248 : decode cL_law 248 = .ok (.aload_n 0, 1) := by decide +kernel
theorem dL_law_249 : decode cL_law 249 = .ok (.iload_n 3, 1) := by decide +kernel
theorem dL_law_250 : decode cL_law 250 = .ok (.iconst 1, 1) := by decide +kernel
theorem dL_law_251 : decode cL_law 251 = .ok (.iadd, 1) := by decide +kernel
theorem dL_law_252 : decode cL_law 252 = .ok (.iaload, 1) := by decide +kernel
theorem dL_law_253 : decode cL_law 253 = .ok (.aload_n 0, 1) := by decide +kernel
theorem dL_law_254 : decode cL_law 254 = .ok (.iload_n 3, 1) := by decide +kernel
theorem dL_law_255 : decode cL_law 255 = .ok (.iconst 2, 1) := by decide +kernel
theorem dL_law_256 : decode cL_law 256 = .ok (.iadd, 1) := by decide +kernel
theorem dL_law_257 : decode cL_law 257 = .ok (.iaload, 1) := by decide +kernel
theorem dL_law_258 : decode cL_law 258 = .ok (.aload_n 0, 1) := by decide +kernel
theorem dL_law_259 : decode cL_law 259 = .ok (.iload_n 3, 1) := by decide +kernel
theorem dL_law_260 : decode cL_law 260 = .ok (.iconst 3, 1) := by decide +kernel
theorem dL_law_261 : decode cL_law 261 = .ok (.iadd, 1) := by decide +kernel
theorem dL_law_262 : decode cL_law 262 = .ok (.iaload, 1) := by decide +kernel
theorem dL_law_263 : decode cL_law 263 = .ok (.aload_n 0, 1) := by decide +kernel
theorem dL_law_264 : decode cL_law 264 = .ok (.iload_n 3, 1) := by decide +kernel
theorem dL_law_265 : decode cL_law 265 = .ok (.iconst 4, 1) := by decide +kernel
theorem dL_law_266 : decode cL_law 266 = .ok (.iadd, 1) := by decide +kernel
theorem dL_law_267 : decode cL_law 267 = .ok (.iaload, 1) := by decide +kernel
theorem dL_law_268 : decode cL_law 268 = .ok (.invokevirtual 27, 3) := by decide +kernel
theorem dL_law_271 : decode cL_law 271 = .ok (.aload_n 2, 1) := by decide +kernel
theorem dL_law_272 : decode cL_law 272 = .ok (.aload_n 0, 1) := by decide +kernel
theorem dL_law_273 : decode cL_law 273 = .ok (.iload_n 3, 1) := by decide +kernel
theorem dL_law_274 : decode cL_law 274 = .ok (.iconst 1, 1) := by decide +kernel
theorem dL_law_275 : decode cL_law 275 = .ok (.iadd, 1) := by decide +kernel
theorem dL_law_276 : decode cL_law 276 = .ok (.iaload, 1) := by decide +kernel
theorem dL_law_277 : decode cL_law 277 = .ok (.aload_n 0, 1) := by decide +kernel
theorem dL_law_278 : decode cL_law 278 = .ok (.iload_n 3, 1) := by decide +kernel
theorem dL_law_279 : decode cL_law 279 = .ok (.iconst 2, 1) := by decide +kernel
theorem dL_law_280 : decode cL_law 280 = .ok (.iadd, 1) := by decide +kernel
theorem dL_law_281 : decode cL_law 281 = .ok (.iaload, 1) := by decide +kernel
theorem dL_law_282 : decode cL_law 282 = .ok (.aload_n 0, 1) := by decide +kernel
theorem dL_law_283 : decode cL_law 283 = .ok (.iload_n 3, 1) := by decide +kernel
theorem dL_law_284 : decode cL_law 284 = .ok (.iconst 3, 1) := by decide +kernel
theorem dL_law_285 : decode cL_law 285 = .ok (.iadd, 1) := by decide +kernel
theorem dL_law_286 : decode cL_law 286 = .ok (.iaload, 1) := by decide +kernel
theorem dL_law_287 : decode cL_law 287 = .ok (.aload_n 0, 1) := by decide +kernel
theorem dL_law_288 : decode cL_law 288 = .ok (.iload_n 3, 1) := by decide +kernel
theorem dL_law_289 : decode cL_law 289 = .ok (.iconst 4, 1) := by decide +kernel
theorem dL_law_290 : decode cL_law 290 = .ok (.iadd, 1) := by decide +kernel
theorem dL_law_291 : decode cL_law 291 = .ok (.iaload, 1) := by decide +kernel
theorem dL_law_292 : decode cL_law 292 = .ok (.invokevirtual 30, 3) := by decide +kernel
theorem dL_law_295 : decode cL_law 295 = .ok (.if_icmp .eq 443, 3) := by decide +kernel
theorem dL_law_298 : decode cL_law 298 = .ok (.iconst 0, 1) := by decide +kernel
theorem dL_law_299 : decode cL_law 299 = .ok (.ireturn, 1) := by decide +kernel
theorem dL_law_300 : decode cL_law 300 = .ok (.aload_n 1, 1) := by decide +kernel
theorem dL_law_301 : decode cL_law 301 = .ok (.aload_n 0, 1) := by decide +kernel
theorem dL_law_302 : decode cL_law 302 = .ok (.iload_n 3, 1) := by decide +kernel
theorem dL_law_303 : decode cL_law 303 = .ok (.iconst 1, 1) := by decide +kernel
theorem dL_law_304 : decode cL_law 304 = .ok (.iadd, 1) := by decide +kernel
theorem dL_law_305 : decode cL_law 305 = .ok (.iaload, 1) := by decide +kernel
theorem dL_law_306 : decode cL_law 306 = .ok (.aload_n 0, 1) := by decide +kernel
theorem dL_law_307 : decode cL_law 307 = .ok (.iload_n 3, 1) := by decide +kernel
theorem dL_law_308 : decode cL_law 308 = .ok (.iconst 2, 1) := by decide +kernel
theorem dL_law_309 : decode cL_law 309 = .ok (.iadd, 1) := by decide +kernel
theorem dL_law_310 : decode cL_law 310 = .ok (.iaload, 1) := by decide +kernel
theorem dL_law_311 : decode cL_law 311 = .ok (.aload_n 0, 1) := by decide +kernel
theorem dL_law_312 : decode cL_law 312 = .ok (.iload_n 3, 1) := by decide +kernel
theorem dL_law_313 : decode cL_law 313 = .ok (.iconst 3, 1) := by decide +kernel
theorem dL_law_314 : decode cL_law 314 = .ok (.iadd, 1) := by decide +kernel
theorem dL_law_315 : decode cL_law 315 = .ok (.iaload, 1) := by decide +kernel
theorem dL_law_316 : decode cL_law 316 = .ok (.aload_n 0, 1) := by decide +kernel
theorem dL_law_317 : decode cL_law 317 = .ok (.iload_n 3, 1) := by decide +kernel
theorem dL_law_318 : decode cL_law 318 = .ok (.iconst 4, 1) := by decide +kernel
theorem dL_law_319 : decode cL_law 319 = .ok (.iadd, 1) := by decide +kernel
theorem dL_law_320 : decode cL_law 320 = .ok (.iaload, 1) := by decide +kernel
theorem dL_law_321 : decode cL_law 321 = .ok (.invokevirtual 31, 3) := by decide +kernel
theorem dL_law_324 : decode cL_law 324 = .ok (.aload_n 2, 1) := by decide +kernel
theorem dL_law_325 : decode cL_law 325 = .ok (.aload_n 0, 1) := by decide +kernel
theorem dL_law_326 : decode cL_law 326 = .ok (.iload_n 3, 1) := by decide +kernel
theorem dL_law_327 : decode cL_law 327 = .ok (.iconst 1, 1) := by decide +kernel
theorem dL_law_328 : decode cL_law 328 = .ok (.iadd, 1) := by decide +kernel
theorem dL_law_329 : decode cL_law 329 = .ok (.iaload, 1) := by decide +kernel
theorem dL_law_330 : decode cL_law 330 = .ok (.aload_n 0, 1) := by decide +kernel
theorem dL_law_331 : decode cL_law 331 = .ok (.iload_n 3, 1) := by decide +kernel
theorem dL_law_332 : decode cL_law 332 = .ok (.iconst 2, 1) := by decide +kernel
theorem dL_law_333 : decode cL_law 333 = .ok (.iadd, 1) := by decide +kernel
theorem dL_law_334 : decode cL_law 334 = .ok (.iaload, 1) := by decide +kernel
theorem dL_law_335 : decode cL_law 335 = .ok (.aload_n 0, 1) := by decide +kernel
theorem dL_law_336 : decode cL_law 336 = .ok (.iload_n 3, 1) := by decide +kernel
theorem dL_law_337 : decode cL_law 337 = .ok (.iconst 3, 1) := by decide +kernel
theorem dL_law_338 : decode cL_law 338 = .ok (.iadd, 1) := by decide +kernel
theorem dL_law_339 : decode cL_law 339 = .ok (.iaload, 1) := by decide +kernel
theorem dL_law_340 : decode cL_law 340 = .ok (.aload_n 0, 1) := by decide +kernel
theorem dL_law_341 : decode cL_law 341 = .ok (.iload_n 3, 1) := by decide +kernel
theorem dL_law_342 : decode cL_law 342 = .ok (.iconst 4, 1) := by decide +kernel
theorem dL_law_343 : decode cL_law 343 = .ok (.iadd, 1) := by decide +kernel
theorem dL_law_344 : decode cL_law 344 = .ok (.iaload, 1) := by decide +kernel
theorem dL_law_345 : decode cL_law 345 = .ok (.invokevirtual 35, 3) := by decide +kernel
theorem dL_law_348 : decode cL_law 348 = .ok (.if_icmp .eq 390, 3) := by decide +kernel
theorem dL_law_351 : decode cL_law 351 = .ok (.iconst 0, 1) := by decide +kernel
theorem dL_law_352 : decode cL_law 352 = .ok (.ireturn, 1) := by decide +kernel
theorem dL_law_353 : decode cL_law 353 = .ok (.aload_n 1, 1) := by decide +kernel
theorem dL_law_354 : decode cL_law 354 = .ok (.aload_n 0, 1) := by decide +kernel
theorem dL_law_355 : decode cL_law 355 = .ok (.iload_n 3, 1) := by decide +kernel
theorem dL_law_356 : decode cL_law 356 = .ok (.iconst 1, 1) := by decide +kernel
theorem dL_law_357 : decode cL_law 357 = .ok (.iadd, 1) := by decide +kernel
theorem dL_law_358 : decode cL_law 358 = .ok (.iaload, 1) := by decide +kernel
theorem dL_law_359 : decode cL_law 359 = .ok (.aload_n 0, 1) := by decide +kernel
theorem dL_law_360 : decode cL_law 360 = .ok (.iload_n 3, 1) := by decide +kernel
theorem dL_law_361 : decode cL_law 361 = .ok (.iconst 2, 1) := by decide +kernel
theorem dL_law_362 : decode cL_law 362 = .ok (.iadd, 1) := by decide +kernel
theorem dL_law_363 : decode cL_law 363 = .ok (.iaload, 1) := by decide +kernel
theorem dL_law_364 : decode cL_law 364 = .ok (.invokevirtual 36, 3) := by decide +kernel
theorem dL_law_367 : decode cL_law 367 = .ok (.aload_n 2, 1) := by decide +kernel
theorem dL_law_368 : decode cL_law 368 = .ok (.aload_n 0, 1) := by decide +kernel
theorem dL_law_369 : decode cL_law 369 = .ok (.iload_n 3, 1) := by decide +kernel
theorem dL_law_370 : decode cL_law 370 = .ok (.iconst 1, 1) := by decide +kernel
theorem dL_law_371 : decode cL_law 371 = .ok (.iadd, 1) := by decide +kernel
theorem dL_law_372 : decode cL_law 372 = .ok (.iaload, 1) := by decide +kernel
theorem dL_law_373 : decode cL_law 373 = .ok (.aload_n 0, 1) := by decide +kernel
theorem dL_law_374 : decode cL_law 374 = .ok (.iload_n 3, 1) := by decide +kernel
theorem dL_law_375 : decode cL_law 375 = .ok (.iconst 2, 1) := by decide +kernel
theorem dL_law_376 : decode cL_law 376 = .ok (.iadd, 1) := by decide +kernel
theorem dL_law_377 : decode cL_law 377 = .ok (.iaload, 1) := by decide +kernel
theorem dL_law_378 : decode cL_law 378 = .ok (.invokevirtual 39, 3) := by decide +kernel
theorem dL_law_381 : decode cL_law 381 = .ok (.if_icmp .eq 357, 3) := by decide +kernel
theorem dL_law_384 : decode cL_law 384 = .ok (.iconst 0, 1) := by decide +kernel
theorem dL_law_385 : decode cL_law 385 = .ok (.ireturn, 1) := by decide +kernel
theorem dL_law_386 : decode cL_law 386 = .ok (.aload_n 1, 1) := by decide +kernel
theorem dL_law_387 : decode cL_law 387 = .ok (.aload_n 0, 1) := by decide +kernel
theorem dL_law_388 : decode cL_law 388 = .ok (.iload_n 3, 1) := by decide +kernel
theorem dL_law_389 : decode cL_law 389 = .ok (.iconst 1, 1) := by decide +kernel
theorem dL_law_390 : decode cL_law 390 = .ok (.iadd, 1) := by decide +kernel
theorem dL_law_391 : decode cL_law 391 = .ok (.iaload, 1) := by decide +kernel
theorem dL_law_392 : decode cL_law 392 = .ok (.aload_n 0, 1) := by decide +kernel
theorem dL_law_393 : decode cL_law 393 = .ok (.iload_n 3, 1) := by decide +kernel
theorem dL_law_394 : decode cL_law 394 = .ok (.iconst 2, 1) := by decide +kernel
theorem dL_law_395 : decode cL_law 395 = .ok (.iadd, 1) := by decide +kernel
theorem dL_law_396 : decode cL_law 396 = .ok (.iaload, 1) := by decide +kernel
theorem dL_law_397 : decode cL_law 397 = .ok (.aload_n 0, 1) := by decide +kernel
theorem dL_law_398 : decode cL_law 398 = .ok (.iload_n 3, 1) := by decide +kernel
theorem dL_law_399 : decode cL_law 399 = .ok (.iconst 3, 1) := by decide +kernel
theorem dL_law_400 : decode cL_law 400 = .ok (.iadd, 1) := by decide +kernel
theorem dL_law_401 : decode cL_law 401 = .ok (.iaload, 1) := by decide +kernel
theorem dL_law_402 : decode cL_law 402 = .ok (.aload_n 0, 1) := by decide +kernel
theorem dL_law_403 : decode cL_law 403 = .ok (.iload_n 3, 1) := by decide +kernel
theorem dL_law_404 : decode cL_law 404 = .ok (.iconst 4, 1) := by decide +kernel
theorem dL_law_405 : decode cL_law 405 = .ok (.iadd, 1) := by decide +kernel
theorem dL_law_406 : decode cL_law 406 = .ok (.iaload, 1) := by decide +kernel
theorem dL_law_407 : decode cL_law 407 = .ok (.invokevirtual 40, 3) := by decide +kernel
theorem dL_law_410 : decode cL_law 410 = .ok (.aload_n 2, 1) := by decide +kernel
theorem dL_law_411 : decode cL_law 411 = .ok (.aload_n 0, 1) := by decide +kernel
theorem dL_law_412 : decode cL_law 412 = .ok (.iload_n 3, 1) := by decide +kernel
theorem dL_law_413 : decode cL_law 413 = .ok (.iconst 1, 1) := by decide +kernel
theorem dL_law_414 : decode cL_law 414 = .ok (.iadd, 1) := by decide +kernel
theorem dL_law_415 : decode cL_law 415 = .ok (.iaload, 1) := by decide +kernel
theorem dL_law_416 : decode cL_law 416 = .ok (.aload_n 0, 1) := by decide +kernel
theorem dL_law_417 : decode cL_law 417 = .ok (.iload_n 3, 1) := by decide +kernel
theorem dL_law_418 : decode cL_law 418 = .ok (.iconst 2, 1) := by decide +kernel
theorem dL_law_419 : decode cL_law 419 = .ok (.iadd, 1) := by decide +kernel
theorem dL_law_420 : decode cL_law 420 = .ok (.iaload, 1) := by decide +kernel
theorem dL_law_421 : decode cL_law 421 = .ok (.aload_n 0, 1) := by decide +kernel
theorem dL_law_422 : decode cL_law 422 = .ok (.iload_n 3, 1) := by decide +kernel
theorem dL_law_423 : decode cL_law 423 = .ok (.iconst 3, 1) := by decide +kernel
theorem dL_law_424 : decode cL_law 424 = .ok (.iadd, 1) := by decide +kernel
theorem dL_law_425 : decode cL_law 425 = .ok (.iaload, 1) := by decide +kernel
theorem dL_law_426 : decode cL_law 426 = .ok (.aload_n 0, 1) := by decide +kernel
theorem dL_law_427 : decode cL_law 427 = .ok (.iload_n 3, 1) := by decide +kernel
theorem dL_law_428 : decode cL_law 428 = .ok (.iconst 4, 1) := by decide +kernel
theorem dL_law_429 : decode cL_law 429 = .ok (.iadd, 1) := by decide +kernel
theorem dL_law_430 : decode cL_law 430 = .ok (.iaload, 1) := by decide +kernel
theorem dL_law_431 : decode cL_law 431 = .ok (.invokevirtual 43, 3) := by decide +kernel
theorem dL_law_434 : decode cL_law 434 = .ok (.if_icmp .eq 304, 3) := by decide +kernel
theorem dL_law_437 : decode cL_law 437 = .ok (.iconst 0, 1) := by decide +kernel
theorem dL_law_438 : decode cL_law 438 = .ok (.ireturn, 1) := by decide +kernel
theorem dL_law_439 : decode cL_law 439 = .ok (.aload_n 1, 1) := by decide +kernel
theorem dL_law_440 : decode cL_law 440 = .ok (.invokevirtual 44, 3) := by decide +kernel
theorem dL_law_443 : decode cL_law 443 = .ok (.aload_n 2, 1) := by decide +kernel
theorem dL_law_444 : decode cL_law 444 = .ok (.invokevirtual 48, 3) := by decide +kernel
theorem dL_law_447 : decode cL_law 447 = .ok (.if_icmp .eq 291, 3) := by decide +kernel
theorem dL_law_450 : decode cL_law 450 = .ok (.iconst 0, 1) := by decide +kernel
theorem dL_law_451 : decode cL_law 451 = .ok (.ireturn, 1) := by decide +kernel
theorem dL_law_452 : decode cL_law 452 = .ok (.aload_n 1, 1) := by decide +kernel
theorem dL_law_453 : decode cL_law 453 = .ok (.aload_n 0, 1) := by decide +kernel
theorem dL_law_454 : decode cL_law 454 = .ok (.iload_n 3, 1) := by decide +kernel
theorem dL_law_455 : decode cL_law 455 = .ok (.iconst 1, 1) := by decide +kernel
theorem dL_law_456 : decode cL_law 456 = .ok (.iadd, 1) := by decide +kernel
theorem dL_law_457 : decode cL_law 457 = .ok (.iaload, 1) := by decide +kernel
theorem dL_law_458 : decode cL_law 458 = .ok (.aload_n 0, 1) := by decide +kernel
theorem dL_law_459 : decode cL_law 459 = .ok (.iload_n 3, 1) := by decide +kernel
theorem dL_law_460 : decode cL_law 460 = .ok (.iconst 2, 1) := by decide +kernel
theorem dL_law_461 : decode cL_law 461 = .ok (.iadd, 1) := by decide +kernel
theorem dL_law_462 : decode cL_law 462 = .ok (.iaload, 1) := by decide +kernel
theorem dL_law_463 : decode cL_law 463 = .ok (.invokevirtual 49, 3) := by decide +kernel
theorem dL_law_466 : decode cL_law 466 = .ok (.aload_n 2, 1) := by decide +kernel
theorem dL_law_467 : decode cL_law 467 = .ok (.aload_n 0, 1) := by decide +kernel
theorem dL_law_468 : decode cL_law 468 = .ok (.iload_n 3, 1) := by decide +kernel
theorem dL_law_469 : decode cL_law 469 = .ok (.iconst 1, 1) := by decide +kernel
theorem dL_law_470 : decode cL_law 470 = .ok (.iadd, 1) := by decide +kernel
theorem dL_law_471 : decode cL_law 471 = .ok (.iaload, 1) := by decide +kernel
theorem dL_law_472 : decode cL_law 472 = .ok (.aload_n 0, 1) := by decide +kernel
theorem dL_law_473 : decode cL_law 473 = .ok (.iload_n 3, 1) := by decide +kernel
theorem dL_law_474 : decode cL_law 474 = .ok (.iconst 2, 1) := by decide +kernel
theorem dL_law_475 : decode cL_law 475 = .ok (.iadd, 1) := by decide +kernel
theorem dL_law_476 : decode cL_law 476 = .ok (.iaload, 1) := by decide +kernel
theorem dL_law_477 : decode cL_law 477 = .ok (.invokevirtual 52, 3) := by decide +kernel
theorem dL_law_480 : decode cL_law 480 = .ok (.if_icmp .eq 258, 3) := by decide +kernel
theorem dL_law_483 : decode cL_law 483 = .ok (.iconst 0, 1) := by decide +kernel
theorem dL_law_484 : decode cL_law 484 = .ok (.ireturn, 1) := by decide +kernel
theorem dL_law_485 : decode cL_law 485 = .ok (.aload_n 1, 1) := by decide +kernel
theorem dL_law_486 : decode cL_law 486 = .ok (.aload_n 0, 1) := by decide +kernel
theorem dL_law_487 : decode cL_law 487 = .ok (.iload_n 3, 1) := by decide +kernel
theorem dL_law_488 : decode cL_law 488 = .ok (.iconst 1, 1) := by decide +kernel
theorem dL_law_489 : decode cL_law 489 = .ok (.iadd, 1) := by decide +kernel
theorem dL_law_490 : decode cL_law 490 = .ok (.iaload, 1) := by decide +kernel
theorem dL_law_491 : decode cL_law 491 = .ok (.invokevirtual 53, 3) := by decide +kernel
theorem dL_law_494 : decode cL_law 494 = .ok (.aload_n 2, 1) := by decide +kernel
theorem dL_law_495 : decode cL_law 495 = .ok (.aload_n 0, 1) := by decide +kernel
theorem dL_law_496 : decode cL_law 496 = .ok (.iload_n 3, 1) := by decide +kernel
theorem dL_law_497 : decode cL_law 497 = .ok (.iconst 1, 1) := by decide +kernel
theorem dL_law_498 : decode cL_law 498 = .ok (.iadd, 1) := by decide +kernel
theorem dL_law_499 : decode cL_law 499 = .ok (.iaload, 1) := by decide +kernel
theorem dL_law_500 : decode cL_law 500 = .ok (.invokevirtual 57, 3) := by decide +kernel
theorem dL_law_503 : decode cL_law 503 = .ok (.if_icmp .eq 235, 3) := by decide +kernel
theorem dL_law_506 : decode cL_law 506 = .ok (.iconst 0, 1) := by decide +kernel
theorem dL_law_507 : decode cL_law 507 = .ok (.ireturn, 1) := by decide +kernel
theorem dL_law_508 : decode cL_law 508 = .ok (.aload_n 1, 1) := by decide +kernel
theorem dL_law_509 : decode cL_law 509 = .ok (.invokevirtual 58, 3) := by decide +kernel
theorem dL_law_512 : decode cL_law 512 = .ok (.aload_n 2, 1) := by decide +kernel
theorem dL_law_513 : decode cL_law 513 = .ok (.invokevirtual 61, 3) := by decide +kernel
theorem dL_law_516 : decode cL_law 516 = .ok (.if_icmp .eq 222, 3) := by decide +kernel
theorem dL_law_519 : decode cL_law 519 = .ok (.iconst 0, 1) := by decide +kernel
theorem dL_law_520 : decode cL_law 520 = .ok (.ireturn, 1) := by decide +kernel
theorem dL_law_521 : decode cL_law 521 = .ok (.aload_n 1, 1) := by decide +kernel
theorem dL_law_522 : decode cL_law 522 = .ok (.aload_n 0, 1) := by decide +kernel
theorem dL_law_523 : decode cL_law 523 = .ok (.iload_n 3, 1) := by decide +kernel
theorem dL_law_524 : decode cL_law 524 = .ok (.iconst 1, 1) := by decide +kernel
theorem dL_law_525 : decode cL_law 525 = .ok (.iadd, 1) := by decide +kernel
theorem dL_law_526 : decode cL_law 526 = .ok (.iaload, 1) := by decide +kernel
theorem dL_law_527 : decode cL_law 527 = .ok (.aload_n 0, 1) := by decide +kernel
theorem dL_law_528 : decode cL_law 528 = .ok (.iload_n 3, 1) := by decide +kernel
theorem dL_law_529 : decode cL_law 529 = .ok (.iconst 2, 1) := by decide +kernel
theorem dL_law_530 : decode cL_law 530 = .ok (.iadd, 1) := by decide +kernel
theorem dL_law_531 : decode cL_law 531 = .ok (.iaload, 1) := by decide +kernel
theorem dL_law_532 : decode cL_law 532 = .ok (.invokevirtual 62, 3) := by decide +kernel
theorem dL_law_535 : decode cL_law 535 = .ok (.aload_n 2, 1) := by decide +kernel
theorem dL_law_536 : decode cL_law 536 = .ok (.aload_n 0, 1) := by decide +kernel
theorem dL_law_537 : decode cL_law 537 = .ok (.iload_n 3, 1) := by decide +kernel
theorem dL_law_538 : decode cL_law 538 = .ok (.iconst 1, 1) := by decide +kernel
theorem dL_law_539 : decode cL_law 539 = .ok (.iadd, 1) := by decide +kernel
theorem dL_law_540 : decode cL_law 540 = .ok (.iaload, 1) := by decide +kernel
theorem dL_law_541 : decode cL_law 541 = .ok (.aload_n 0, 1) := by decide +kernel
theorem dL_law_542 : decode cL_law 542 = .ok (.iload_n 3, 1) := by decide +kernel
theorem dL_law_543 : decode cL_law 543 = .ok (.iconst 2, 1) := by decide +kernel
theorem dL_law_544 : decode cL_law 544 = .ok (.iadd, 1) := by decide +kernel
theorem dL_law_545 : decode cL_law 545 = .ok (.iaload, 1) := by decide +kernel
theorem dL_law_546 : decode cL_law 546 = .ok (.invokevirtual 66, 3) := by decide +kernel
theorem dL_law_549 : decode cL_law 549 = .ok (.if_icmp .eq 189, 3) := by decide +kernel
theorem dL_law_552 : decode cL_law 552 = .ok (.iconst 0, 1) := by decide +kernel
theorem dL_law_553 : decode cL_law 553 = .ok (.ireturn, 1) := by decide +kernel
theorem dL_law_554 : decode cL_law 554 = .ok (.aload_n 1, 1) := by decide +kernel
theorem dL_law_555 : decode cL_law 555 = .ok (.aload_n 0, 1) := by decide +kernel
theorem dL_law_556 : decode cL_law 556 = .ok (.iload_n 3, 1) := by decide +kernel
theorem dL_law_557 : decode cL_law 557 = .ok (.iconst 1, 1) := by decide +kernel
theorem dL_law_558 : decode cL_law 558 = .ok (.iadd, 1) := by decide +kernel
theorem dL_law_559 : decode cL_law 559 = .ok (.iaload, 1) := by decide +kernel
theorem dL_law_560 : decode cL_law 560 = .ok (.aload_n 0, 1) := by decide +kernel
theorem dL_law_561 : decode cL_law 561 = .ok (.iload_n 3, 1) := by decide +kernel
theorem dL_law_562 : decode cL_law 562 = .ok (.iconst 2, 1) := by decide +kernel
theorem dL_law_563 : decode cL_law 563 = .ok (.iadd, 1) := by decide +kernel
theorem dL_law_564 : decode cL_law 564 = .ok (.iaload, 1) := by decide +kernel
theorem dL_law_565 : decode cL_law 565 = .ok (.invokevirtual 67, 3) := by decide +kernel
theorem dL_law_568 : decode cL_law 568 = .ok (.aload_n 2, 1) := by decide +kernel
theorem dL_law_569 : decode cL_law 569 = .ok (.aload_n 0, 1) := by decide +kernel
theorem dL_law_570 : decode cL_law 570 = .ok (.iload_n 3, 1) := by decide +kernel
theorem dL_law_571 : decode cL_law 571 = .ok (.iconst 1, 1) := by decide +kernel
theorem dL_law_572 : decode cL_law 572 = .ok (.iadd, 1) := by decide +kernel
theorem dL_law_573 : decode cL_law 573 = .ok (.iaload, 1) := by decide +kernel
theorem dL_law_574 : decode cL_law 574 = .ok (.aload_n 0, 1) := by decide +kernel
theorem dL_law_575 : decode cL_law 575 = .ok (.iload_n 3, 1) := by decide +kernel
theorem dL_law_576 : decode cL_law 576 = .ok (.iconst 2, 1) := by decide +kernel
theorem dL_law_577 : decode cL_law 577 = .ok (.iadd, 1) := by decide +kernel
theorem dL_law_578 : decode cL_law 578 = .ok (.iaload, 1) := by decide +kernel
theorem dL_law_579 : decode cL_law 579 = .ok (.invokevirtual 70, 3) := by decide +kernel
theorem dL_law_582 : decode cL_law 582 = .ok (.if_icmp .eq 156, 3) := by decide +kernel
theorem dL_law_585 : decode cL_law 585 = .ok (.iconst 0, 1) := by decide +kernel
theorem dL_law_586 : decode cL_law 586 = .ok (.ireturn, 1) := by decide +kernel
theorem dL_law_587 : decode cL_law 587 = .ok (.aload_n 1, 1) := by decide +kernel
theorem dL_law_588 : decode cL_law 588 = .ok (.aload_n 0, 1) := by decide +kernel
theorem dL_law_589 : decode cL_law 589 = .ok (.iload_n 3, 1) := by decide +kernel
theorem dL_law_590 : decode cL_law 590 = .ok (.iconst 1, 1) := by decide +kernel
theorem dL_law_591 : decode cL_law 591 = .ok (.iadd, 1) := by decide +kernel
theorem dL_law_592 : decode cL_law 592 = .ok (.iaload, 1) := by decide +kernel
theorem dL_law_593 : decode cL_law 593 = .ok (.invokevirtual 71, 3) := by decide +kernel
theorem dL_law_596 : decode cL_law 596 = .ok (.aload_n 2, 1) := by decide +kernel
theorem dL_law_597 : decode cL_law 597 = .ok (.aload_n 0, 1) := by decide +kernel
theorem dL_law_598 : decode cL_law 598 = .ok (.iload_n 3, 1) := by decide +kernel
theorem dL_law_599 : decode cL_law 599 = .ok (.iconst 1, 1) := by decide +kernel
theorem dL_law_600 : decode cL_law 600 = .ok (.iadd, 1) := by decide +kernel
theorem dL_law_601 : decode cL_law 601 = .ok (.iaload, 1) := by decide +kernel
theorem dL_law_602 : decode cL_law 602 = .ok (.invokevirtual 74, 3) := by decide +kernel
theorem dL_law_605 : decode cL_law 605 = .ok (.if_icmp .eq 133, 3) := by decide +kernel
theorem dL_law_608 : decode cL_law 608 = .ok (.iconst 0, 1) := by decide +kernel
theorem dL_law_609 : decode cL_law 609 = .ok (.ireturn, 1) := by decide +kernel
theorem dL_law_610 : decode cL_law 610 = .ok (.aload_n 1, 1) := by decide +kernel
theorem dL_law_611 : decode cL_law 611 = .ok (.invokevirtual 75, 3) := by decide +kernel
theorem dL_law_614 : decode cL_law 614 = .ok (.aload_n 2, 1) := by decide +kernel
theorem dL_law_615 : decode cL_law 615 = .ok (.invokevirtual 78, 3) := by decide +kernel
theorem dL_law_618 : decode cL_law 618 = .ok (.if_icmp .eq 120, 3) := by decide +kernel
theorem dL_law_621 : decode cL_law 621 = .ok (.iconst 0, 1) := by decide +kernel
theorem dL_law_622 : decode cL_law 622 = .ok (.ireturn, 1) := by decide +kernel
theorem dL_law_623 : decode cL_law 623 = .ok (.aload_n 1, 1) := by decide +kernel
theorem dL_law_624 : decode cL_law 624 = .ok (.aload_n 0, 1) := by decide +kernel
theorem dL_law_625 : decode cL_law 625 = .ok (.iload_n 3, 1) := by decide +kernel
theorem dL_law_626 : decode cL_law 626 = .ok (.iconst 1, 1) := by decide +kernel
theorem dL_law_627 : decode cL_law 627 = .ok (.iadd, 1) := by decide +kernel
theorem dL_law_628 : decode cL_law 628 = .ok (.iaload, 1) := by decide +kernel
theorem dL_law_629 : decode cL_law 629 = .ok (.invokevirtual 79, 3) := by decide +kernel
theorem dL_law_632 : decode cL_law 632 = .ok (.aload_n 2, 1) := by decide +kernel
theorem dL_law_633 : decode cL_law 633 = .ok (.aload_n 0, 1) := by decide +kernel
theorem dL_law_634 : decode cL_law 634 = .ok (.iload_n 3, 1) := by decide +kernel
theorem dL_law_635 : decode cL_law 635 = .ok (.iconst 1, 1) := by decide +kernel
theorem dL_law_636 : decode cL_law 636 = .ok (.iadd, 1) := by decide +kernel
theorem dL_law_637 : decode cL_law 637 = .ok (.iaload, 1) := by decide +kernel
theorem dL_law_638 : decode cL_law 638 = .ok (.invokevirtual 82, 3) := by decide +kernel
theorem dL_law_641 : decode cL_law 641 = .ok (.if_icmp .eq 97, 3) := by decide +kernel
theorem dL_law_644 : decode cL_law 644 = .ok (.iconst 0, 1) := by decide +kernel
theorem dL_law_645 : decode cL_law 645 = .ok (.ireturn, 1) := by decide +kernel
theorem dL_law_646 : decode cL_law 646 = .ok (.aload_n 1, 1) := by decide +kernel
theorem dL_law_647 : decode cL_law 647 = .ok (.aload_n 0, 1) := by decide +kernel
theorem dL_law_648 : decode cL_law 648 = .ok (.iload_n 3, 1) := by decide +kernel
theorem dL_law_649 : decode cL_law 649 = .ok (.iconst 1, 1) := by decide +kernel
theorem dL_law_650 : decode cL_law 650 = .ok (.iadd, 1) := by decide +kernel
theorem dL_law_651 : decode cL_law 651 = .ok (.iaload, 1) := by decide +kernel
theorem dL_law_652 : decode cL_law 652 = .ok (.aload_n 0, 1) := by decide +kernel
theorem dL_law_653 : decode cL_law 653 = .ok (.iload_n 3, 1) := by decide +kernel
theorem dL_law_654 : decode cL_law 654 = .ok (.iconst 2, 1) := by decide +kernel
theorem dL_law_655 : decode cL_law 655 = .ok (.iadd, 1) := by decide +kernel
theorem dL_law_656 : decode cL_law 656 = .ok (.iaload, 1) := by decide +kernel
theorem dL_law_657 : decode cL_law 657 = .ok (.aload_n 0, 1) := by decide +kernel
theorem dL_law_658 : decode cL_law 658 = .ok (.iload_n 3, 1) := by decide +kernel
theorem dL_law_659 : decode cL_law 659 = .ok (.iconst 3, 1) := by decide +kernel
theorem dL_law_660 : decode cL_law 660 = .ok (.iadd, 1) := by decide +kernel
theorem dL_law_661 : decode cL_law 661 = .ok (.iaload, 1) := by decide +kernel
theorem dL_law_662 : decode cL_law 662 = .ok (.invokevirtual 83, 3) := by decide +kernel
theorem dL_law_665 : decode cL_law 665 = .ok (.aload_n 2, 1) := by decide +kernel
theorem dL_law_666 : decode cL_law 666 = .ok (.aload_n 0, 1) := by decide +kernel
theorem dL_law_667 : decode cL_law 667 = .ok (.iload_n 3, 1) := by decide +kernel
theorem dL_law_668 : decode cL_law 668 = .ok (.iconst 1, 1) := by decide +kernel
theorem dL_law_669 : decode cL_law 669 = .ok (.iadd, 1) := by decide +kernel
theorem dL_law_670 : decode cL_law 670 = .ok (.iaload, 1) := by decide +kernel
theorem dL_law_671 : decode cL_law 671 = .ok (.aload_n 0, 1) := by decide +kernel
theorem dL_law_672 : decode cL_law 672 = .ok (.iload_n 3, 1) := by decide +kernel
theorem dL_law_673 : decode cL_law 673 = .ok (.iconst 2, 1) := by decide +kernel
theorem dL_law_674 : decode cL_law 674 = .ok (.iadd, 1) := by decide +kernel
theorem dL_law_675 : decode cL_law 675 = .ok (.iaload, 1) := by decide +kernel
theorem dL_law_676 : decode cL_law 676 = .ok (.aload_n 0, 1) := by decide +kernel
theorem dL_law_677 : decode cL_law 677 = .ok (.iload_n 3, 1) := by decide +kernel
theorem dL_law_678 : decode cL_law 678 = .ok (.iconst 3, 1) := by decide +kernel
theorem dL_law_679 : decode cL_law 679 = .ok (.iadd, 1) := by decide +kernel
theorem dL_law_680 : decode cL_law 680 = .ok (.iaload, 1) := by decide +kernel
theorem dL_law_681 : decode cL_law 681 = .ok (.invokevirtual 87, 3) := by decide +kernel
theorem dL_law_684 : decode cL_law 684 = .ok (.if_icmp .eq 54, 3) := by decide +kernel
theorem dL_law_687 : decode cL_law 687 = .ok (.iconst 0, 1) := by decide +kernel
theorem dL_law_688 : decode cL_law 688 = .ok (.ireturn, 1) := by decide +kernel
theorem dL_law_689 : decode cL_law 689 = .ok (.aload_n 1, 1) := by decide +kernel
theorem dL_law_690 : decode cL_law 690 = .ok (.invokevirtual 88, 3) := by decide +kernel
theorem dL_law_693 : decode cL_law 693 = .ok (.aload_n 2, 1) := by decide +kernel
theorem dL_law_694 : decode cL_law 694 = .ok (.invokevirtual 91, 3) := by decide +kernel
theorem dL_law_697 : decode cL_law 697 = .ok (.if_icmp .eq 41, 3) := by decide +kernel
theorem dL_law_700 : decode cL_law 700 = .ok (.iconst 0, 1) := by decide +kernel
theorem dL_law_701 : decode cL_law 701 = .ok (.ireturn, 1) := by decide +kernel
theorem dL_law_702 : decode cL_law 702 = .ok (.aload_n 1, 1) := by decide +kernel
theorem dL_law_703 : decode cL_law 703 = .ok (.invokevirtual 92, 3) := by decide +kernel
theorem dL_law_706 : decode cL_law 706 = .ok (.aload_n 2, 1) := by decide +kernel
theorem dL_law_707 : decode cL_law 707 = .ok (.invokevirtual 95, 3) := by decide +kernel
theorem dL_law_710 : decode cL_law 710 = .ok (.if_icmp .eq 28, 3) := by decide +kernel
theorem dL_law_713 : decode cL_law 713 = .ok (.iconst 0, 1) := by decide +kernel
theorem dL_law_714 : decode cL_law 714 = .ok (.ireturn, 1) := by decide +kernel
theorem dL_law_715 : decode cL_law 715 = .ok (.aload_n 1, 1) := by decide +kernel
theorem dL_law_716 : decode cL_law 716 = .ok (.aload_n 0, 1) := by decide +kernel
theorem dL_law_717 : decode cL_law 717 = .ok (.iload_n 3, 1) := by decide +kernel
theorem dL_law_718 : decode cL_law 718 = .ok (.iconst 1, 1) := by decide +kernel
theorem dL_law_719 : decode cL_law 719 = .ok (.iadd, 1) := by decide +kernel
theorem dL_law_720 : decode cL_law 720 = .ok (.iaload, 1) := by decide +kernel
theorem dL_law_721 : decode cL_law 721 = .ok (.invokevirtual 96, 3) := by decide +kernel
theorem dL_law_724 : decode cL_law 724 = .ok (.aload_n 2, 1) := by decide +kernel
theorem dL_law_725 : decode cL_law 725 = .ok (.aload_n 0, 1) := by decide +kernel
theorem dL_law_726 : decode cL_law 726 = .ok (.iload_n 3, 1) := by decide +kernel
theorem dL_law_727 : decode cL_law 727 = .ok (.iconst 1, 1) := by decide +kernel
theorem dL_law_728 : decode cL_law 728 = .ok (.iadd, 1) := by decide +kernel
theorem dL_law_729 : decode cL_law 729 = .ok (.iaload, 1) := by decide +kernel
theorem dL_law_730 : decode cL_law 730 = .ok (.invokevirtual 99, 3) := by decide +kernel
theorem dL_law_733 : decode cL_law 733 = .ok (.if_icmp .eq 5, 3) := by decide +kernel
theorem dL_law_736 : decode cL_law 736 = .ok (.iconst 0, 1) := by decide +kernel
theorem dL_law_737 : decode cL_law 737 = .ok (.ireturn, 1) := by decide +kernel
theorem dL_law_738 : decode cL_law 738 = .ok (.iinc 3 5, 3) := by decide +kernel
theorem dL_law_741 : decode cL_law 741 = .ok (.goto (-723), 3) := by decide +kernel
theorem dL_law_744 : decode cL_law 744 = .ok (.iconst 1, 1) := by decide +kernel
theorem dL_law_745 : decode cL_law 745 = .ok (.ireturn, 1) := by decide +kernel
