theorem dX12_readProduct_20 : decode cX12_readProduct 20 = .ok (.bipush 47, 2) := by decide +kernel
theorem dX12_readProduct_22 : decode cX12_readProduct 22 = .ok (.invokevirtual 237, 3) := by decide +kernel
theorem dX12_readProduct_25 : decode cX12_readProduct 25 = .ok (.ifCond .eq 76, 3) := by decide +kernel
theorem dX12_readProduct_28 : decode cX12_readProduct 28 = .ok (.aload_n 0, 1) := by decide +kernel
theorem dX12_readProduct_29 : decode cX12_readProduct 29 = .ok (.bipush 42, 2) := by decide +kernel
theorem dX12_readProduct_31 : decode cX12_readProduct 31 = .ok (.invokevirtual 237, 3) := by decide +kernel
theorem dX12_readProduct_34 : decode cX12_readProduct 34 = .ok (.istore_n 1, 1) := by decide +kernel
theorem dX12_readProduct_35 : decode cX12_readProduct 35 = .ok (.aload_n 0, 1) := by decide +kernel
theorem dX12_readProduct_36 : decode cX12_readProduct 36 = .ok (.invokevirtual 230, 3) := by decide +kernel
theorem dX12_readProduct_39 : decode cX12_readProduct 39 = .ok (.iload_n 1, 1) := by decide +kernel
theorem dX12_readProduct_40 : decode cX12_readProduct 40 = .ok (.ifCond .ne 17, 3) := by decide +kernel
theorem dX12_readProduct_43 : decode cX12_readProduct 43 = .ok (.aload_n 0, 1) := by decide +kernel
theorem dX12_readProduct_44 : decode cX12_readProduct 44 = .ok (.getfield 191, 3) := by decide +kernel
theorem dX12_readProduct_47 : decode cX12_readProduct 47 = .ok (.iconst 3, 1) := by decide +kernel
theorem dX12_readProduct_48 : decode cX12_readProduct 48 = .ok (.if_icmp .eq 9, 3) := by decide +kernel
theorem dX12_readProduct_51 : decode cX12_readProduct 51 = .ok (.aload_n 0, 1) := by decide +kernel
theorem dX12_readProduct_52 : decode cX12_readProduct 52 = .ok (.iconst 1, 1) := by decide +kernel
theorem dX12_readProduct_53 : decode cX12_readProduct 53 = .ok (.invokevirtual 223, 3) := by decide +kernel
theorem dX12_readProduct_56 : decode cX12_readProduct 56 = .ok (.ireturn, 1) := by decide +kernel
theorem dX12_readProduct_57 : decode cX12_readProduct 57 = .ok (.iload_n 1, 1) := by decide +kernel
theorem dX12_readProduct_58 : decode cX12_readProduct 58 = .ok (.ifCond .ne 16, 3) := by decide +kernel
theorem dX12_readProduct_61 : decode cX12_readProduct 61 = .ok (.aload_n 0, 1) := by decide +kernel
theorem dX12_readProduct_62 : decode cX12_readProduct 62 = .ok (.getfield 194, 3) := by decide +kernel
theorem dX12_readProduct_65 : decode cX12_readProduct 65 = .ok (.ifCond .ne 9, 3) := by decide +kernel
theorem dX12_readProduct_68 : decode cX12_readProduct 68 = .ok (.aload_n 0, 1) := by decide +kernel
theorem dX12_readProduct_69 : decode cX12_readProduct 69 = .ok (.iconst 2, 1) := by decide +kernel
theorem dX12_readProduct_70 : decode cX12_readProduct 70 = .ok (.invokevirtual 223, 3) := by decide +kernel
theorem dX12_readProduct_73 : decode cX12_readProduct 73 = .ok (.ireturn, 1) := by decide +kernel
theorem dX12_readProduct_74 : decode cX12_readProduct 74 = .ok (.aload_n 0, 1) := by decide +kernel
theorem dX12_readProduct_75 : decode cX12_readProduct 75 = .ok (.invokevirtual 233, 3) := by decide +kernel
theorem dX12_readProduct_78 : decode cX12_readProduct 78 = .ok (.iconst (-1), 1) := by decide +kernel
theorem dX12_readProduct_79 : decode cX12_readProduct 79 = .ok (.if_icmp .ne 5, 3) := by decide +kernel
theorem dX12_readProduct_82 : decode cX12_readProduct 82 = .ok (.iconst (-1), 1) := by decide +kernel
theorem dX12_readProduct_83 : decode cX12_readProduct 83 = .ok (.ireturn, 1) := by decide +kernel
theorem dX12_readProduct_84 : decode cX12_readProduct 84 = .ok (.aload_n 0, 1) := by decide +kernel
theorem dX12_readProduct_85 : decode cX12_readProduct 85 = .ok (.iload_n 1, 1) := by decide +kernel
theorem dX12_readProduct_86 : decode cX12_readProduct 86 = .ok (.ifCond .eq 7, 3) := by decide +kernel
theorem dX12_readProduct_89 : decode cX12_readProduct 89 = .ok (.iconst 4, 1) := by decide +kernel
theorem dX12_readProduct_90 : decode cX12_readProduct 90 = .ok (.goto 4, 3) := by decide +kernel
theorem dX12_readProduct_93 : decode cX12_readProduct 93 = .ok (.iconst 5, 1) := by decide +kernel
theorem dX12_readProduct_94 : decode cX12_readProduct 94 = .ok (.iconst 0, 1) := by decide +kernel
theorem dX12_readProduct_95 : decode cX12_readProduct 95 = .ok (.invokevirtual 226, 3) := by decide +kernel
theorem dX12_readProduct_98 : decode cX12_readProduct 98 = .ok (.goto (-88), 3) := by decide +kernel
theorem dX12_readProduct_101 : decode cX12_readProduct 101 = .ok (.iconst 0, 1) := by decide +kernel
theorem dX12_readProduct_102 : decode cX12_readProduct 102 = .ok (.ireturn, 1) := by decide +kernel
theorem dX12_readSum_0 : decode cX12_readSum 0 = .ok (.aload_n 0, 1) := by decide +kernel
theorem dX12_readSum_1 : decode cX12_readSum 1 = .ok (.invokevirtual 240, 3) := by decide +kernel
theorem dX12_readSum_4 : decode cX12_readSum 4 = .ok (.iconst (-1), 1) := by decide +kernel
theorem dX12_readSum_5 : decode cX12_readSum 5 = .ok (.if_icmp .ne 5, 3) := by decide +kernel
theorem dX12_readSum_8 : decode cX12_readSum 8 = .ok (.iconst (-1), 1) := by decide +kernel
theorem dX12_readSum_9 : decode cX12_readSum 9 = .ok (.ireturn, 1) := by decide +kernel
theorem dX12_readSum_10 : decode cX12_readSum 10 = .ok (.aload_n 0, 1) := by decide +kernel
theorem dX12_readSum_11 : decode cX12_readSum 11 = .ok (.bipush 43, 2) := by decide +kernel
theorem dX12_readSum_13 : decode cX12_readSum 13 = .ok (.invokevirtual 237, 3) := by decide +kernel
theorem dX12_readSum_16 : decode cX12_readSum 16 = .ok (.ifCond .ne 12, 3) := by decide +kernel
theorem dX12_readSum_19 : decode cX12_readSum 19 = .ok (.aload_n 0, 1) := by decide +kernel
theorem dX12_readSum_20 : decode cX12_readSum 20 = .ok (.bipush 45, 2) := by decide +kernel
theorem dX12_readSum_22 : decode cX12_readSum 22 = .ok (.invokevirtual 237, 3) := by decide +kernel
theorem dX12_readSum_25 : decode cX12_readSum 25 = .ok (.ifCond .eq 41, 3) := by decide +kernel
theorem dX12_readSum_28 : decode cX12_readSum 28 = .ok (.aload_n 0, 1) := by decide +kernel
theorem dX12_readSum_29 : decode cX12_readSum 29 = .ok (.getfield 194, 3) := by decide +kernel
theorem dX12_readSum_32 : decode cX12_readSum 32 = .ok (.bipush 43, 2) := by decide +kernel
theorem dX12_readSum_34 : decode cX12_readSum 34 = .ok (.if_icmp .ne 7, 3) := by decide +kernel
theorem dX12_readSum_37 : decode cX12_readSum 37 = .ok (.iconst 2, 1) := by decide +kernel
theorem dX12_readSum_38 : decode cX12_readSum 38 = .ok (.goto 4, 3) := by decide +kernel
theorem dX12_readSum_41 : decode cX12_readSum 41 = .ok (.iconst 3, 1) := by decide +kernel
theorem dX12_readSum_42 : decode cX12_readSum 42 = .ok (.istore_n 1, 1) := by decide +kernel
theorem dX12_readSum_43 : decode cX12_readSum 43 = .ok (.aload_n 0, 1) := by decide +kernel
theorem dX12_readSum_44 : decode cX12_readSum 44 = .ok (.invokevirtual 230, 3) := by decide +kernel
theorem dX12_readSum_47 : decode cX12_readSum 47 = .ok (.aload_n 0, 1) := by decide +kernel
theorem dX12_readSum_48 : decode cX12_readSum 48 = .ok (.invokevirtual 240, 3) := by decide +kernel
theorem dX12_readSum_51 : decode cX12_readSum 51 = .ok (.iconst (-1), 1) := by decide +kernel
theorem dX12_readSum_52 : decode cX12_readSum 52 = .ok (.if_icmp .ne 5, 3) := by decide +kernel
theorem dX12_readSum_55 : decode cX12_readSum 55 = .ok (.iconst (-1), 1) := by decide +kernel
theorem dX12_readSum_56 : decode cX12_readSum 56 = .ok (.ireturn, 1) := by decide +kernel
theorem dX12_readSum_57 : decode cX12_readSum 57 = .ok (.aload_n 0, 1) := by decide +kernel
theorem dX12_readSum_58 : decode cX12_readSum 58 = .ok (.iload_n 1, 1) := by decide +kernel
theorem dX12_readSum_59 : decode cX12_readSum 59 = .ok (.iconst 0, 1) := by decide +kernel
theorem dX12_readSum_60 : decode cX12_readSum 60 = .ok (.invokevirtual 226, 3) := by decide +kernel
theorem dX12_readSum_63 : decode cX12_readSum 63 = .ok (.goto (-53), 3) := by decide +kernel
theorem dX12_readSum_66 : decode cX12_readSum 66 = .ok (.iconst 0, 1) := by decide +kernel
theorem dX12_readSum_67 : decode cX12_readSum 67 = .ok (.ireturn, 1) := by decide +kernel
theorem dX12_readCompared_0 : decode cX12_readCompared 0 = .ok (.aload_n 0, 1) := by decide +kernel
theorem dX12_readCompared_1 : decode cX12_readCompared 1 = .ok (.invokevirtual 243, 3) := by decide +kernel
theorem dX12_readCompared_4 : decode cX12_readCompared 4 = .ok (.iconst (-1), 1) := by decide +kernel
theorem dX12_readCompared_5 : decode cX12_readCompared 5 = .ok (.if_icmp .ne 5, 3) := by decide +kernel
theorem dX12_readCompared_8 : decode cX12_readCompared 8 = .ok (.iconst (-1), 1) := by decide +kernel
theorem dX12_readCompared_9 : decode cX12_readCompared 9 = .ok (.ireturn, 1) := by decide +kernel
theorem dX12_readCompared_10 : decode cX12_readCompared 10 = .ok (.aload_n 0, 1) := by decide +kernel
theorem dX12_readCompared_11 : decode cX12_readCompared 11 = .ok (.bipush 60, 2) := by decide +kernel
theorem dX12_readCompared_13 : decode cX12_readCompared 13 = .ok (.invokevirtual 237, 3) := by decide +kernel
theorem dX12_readCompared_16 : decode cX12_readCompared 16 = .ok (.ifCond .ne 27, 3) := by decide +kernel
theorem dX12_readCompared_19 : decode cX12_readCompared 19 = .ok (.aload_n 0, 1) := by decide +kernel
theorem dX12_readCompared_20 : decode cX12_readCompared 20 = .ok (.bipush 61, 2) := by decide +kernel
theorem dX12_readCompared_22 : decode cX12_readCompared 22 = .ok (.invokevirtual 237, 3) := by decide +kernel
theorem dX12_readCompared_25 : decode cX12_readCompared 25 = .ok (.ifCond .ne 18, 3) := by decide +kernel
theorem dX12_readCompared_28 : decode cX12_readCompared 28 = .ok (.aload_n 0, 1) := by decide +kernel
theorem dX12_readCompared_29 : decode cX12_readCompared 29 = .ok (.bipush 62, 2) := by decide +kernel
theorem dX12_readCompared_31 : decode cX12_readCompared 31 = .ok (.invokevirtual 237, 3) := by decide +kernel
theorem dX12_readCompared_34 : decode cX12_readCompared 34 = .ok (.ifCond .ne 9, 3) := by decide +kernel
theorem dX12_readCompared_37 : decode cX12_readCompared 37 = .ok (.aload_n 0, 1) := by decide +kernel
theorem dX12_readCompared_38 : decode cX12_readCompared 38 = .ok (.iconst 1, 1) := by decide +kernel
theorem dX12_readCompared_39 : decode cX12_readCompared 39 = .ok (.invokevirtual 223, 3) := by decide +kernel
theorem dX12_readCompared_42 : decode cX12_readCompared 42 = .ok (.ireturn, 1) := by decide +kernel
theorem dX12_readCompared_43 : decode cX12_readCompared 43 = .ok (.aload_n 0, 1) := by decide +kernel
theorem dX12_readCompared_44 : decode cX12_readCompared 44 = .ok (.getfield 194, 3) := by decide +kernel
theorem dX12_readCompared_47 : decode cX12_readCompared 47 = .ok (.bipush 60, 2) := by decide +kernel
theorem dX12_readCompared_49 : decode cX12_readCompared 49 = .ok (.if_icmp .ne 8, 3) := by decide +kernel
theorem dX12_readCompared_52 : decode cX12_readCompared 52 = .ok (.bipush 6, 2) := by decide +kernel
theorem dX12_readCompared_54 : decode cX12_readCompared 54 = .ok (.goto 19, 3) := by decide +kernel
theorem dX12_readCompared_57 : decode cX12_readCompared 57 = .ok (.aload_n 0, 1) := by decide +kernel
theorem dX12_readCompared_58 : decode cX12_readCompared 58 = .ok (.getfield 194, 3) := by decide +kernel
theorem dX12_readCompared_61 : decode cX12_readCompared 61 = .ok (.bipush 61, 2) := by decide +kernel
theorem dX12_readCompared_63 : decode cX12_readCompared 63 = .ok (.if_icmp .ne 8, 3) := by decide +kernel
theorem dX12_readCompared_66 : decode cX12_readCompared 66 = .ok (.bipush 7, 2) := by decide +kernel
theorem dX12_readCompared_68 : decode cX12_readCompared 68 = .ok (.goto 5, 3) := by decide +kernel
theorem dX12_readCompared_71 : decode cX12_readCompared 71 = .ok (.bipush 8, 2) := by decide +kernel
theorem dX12_readCompared_73 : decode cX12_readCompared 73 = .ok (.istore_n 1, 1) := by decide +kernel
theorem dX12_readCompared_74 : decode cX12_readCompared 74 = .ok (.aload_n 0, 1) := by decide +kernel
theorem dX12_readCompared_75 : decode cX12_readCompared 75 = .ok (.invokevirtual 230, 3) := by decide +kernel
theorem dX12_readCompared_78 : decode cX12_readCompared 78 = .ok (.aload_n 0, 1) := by decide +kernel
theorem dX12_readCompared_79 : decode cX12_readCompared 79 = .ok (.invokevirtual 243, 3) := by decide +kernel
theorem dX12_readCompared_82 : decode cX12_readCompared 82 = .ok (.iconst (-1), 1) := by decide +kernel
theorem dX12_readCompared_83 : decode cX12_readCompared 83 = .ok (.if_icmp .ne 5, 3) := by decide +kernel
theorem dX12_readCompared_86 : decode cX12_readCompared 86 = .ok (.iconst (-1), 1) := by decide +kernel
theorem dX12_readCompared_87 : decode cX12_readCompared 87 = .ok (.ireturn, 1) := by decide +kernel
theorem dX12_readCompared_88 : decode cX12_readCompared 88 = .ok (.aload_n 0, 1) := by decide +kernel
theorem dX12_readCompared_89 : decode cX12_readCompared 89 = .ok (.iload_n 1, 1) := by decide +kernel
theorem dX12_readCompared_90 : decode cX12_readCompared 90 = .ok (.iconst 0, 1) := by decide +kernel
theorem dX12_readCompared_91 : decode cX12_readCompared 91 = .ok (.invokevirtual 226, 3) := by decide +kernel
theorem dX12_readCompared_94 : decode cX12_readCompared 94 = .ok (.iconst 0, 1) := by decide +kernel
theorem dX12_readCompared_95 : decode cX12_readCompared 95 = .ok (.ireturn, 1) := by decide +kernel
theorem dX12_waits_0 : decode cX12_waits 0 = .ok (.aload_n 0, 1) := by decide +kernel
theorem dX12_waits_1 : decode cX12_waits 1 = .ok (.getfield 76, 3) := by decide +kernel
theorem dX12_waits_4 : decode cX12_waits 4 = .ok (.aload_n 0, 1) := by decide +kernel
theorem dX12_waits_5 : decode cX12_waits 5 = .ok (.getfield 246, 3) := by decide +kernel
theorem dX12_waits_8 : decode cX12_waits 8 = .ok (.iload_n 1, 1) := by decide +kernel
theorem dX12_waits_9 : decode cX12_waits 9 = .ok (.iastore, 1) := by decide +kernel
theorem dX12_waits_10 : decode cX12_waits 10 = .ok (.aload_n 0, 1) := by decide +kernel
theorem dX12_waits_11 : decode cX12_waits 11 = .ok (.aload_n 0, 1) := by decide +kernel
theorem dX12_waits_12 : decode cX12_waits 12 = .ok (.getfield 246, 3) := by decide +kernel
theorem dX12_waits_15 : decode cX12_waits 15 = .ok (.iconst 1, 1) := by decide +kernel
theorem dX12_waits_16 : decode cX12_waits 16 = .ok (.iadd, 1) := by decide +kernel
theorem dX12_waits_17 : decode cX12_waits 17 = .ok (.putfield 246, 3) := by decide +kernel
theorem dX12_waits_20 : decode cX12_waits 20 = .ok (.return_, 1) := by decide +kernel
theorem dX12_settles_0 : decode cX12_settles 0 = .ok (.aload_n 0, 1) := by decide +kernel
theorem dX12_settles_1 : decode cX12_settles 1 = .ok (.getfield 246, 3) := by decide +kernel
theorem dX12_settles_4 : decode cX12_settles 4 = .ok (.ifCond .le 53, 3) := by decide +kernel
theorem dX12_settles_7 : decode cX12_settles 7 = .ok (.aload_n 0, 1) := by decide +kernel
theorem dX12_settles_8 : decode cX12_settles 8 = .ok (.getfield 76, 3) := by decide +kernel
theorem dX12_settles_11 : decode cX12_settles 11 = .ok (.aload_n 0, 1) := by decide +kernel
theorem dX12_settles_12 : decode cX12_settles 12 = .ok (.getfield 246, 3) := by decide +kernel
theorem dX12_settles_15 : decode cX12_settles 15 = .ok (.iconst 1, 1) := by decide +kernel
theorem dX12_settles_16 : decode cX12_settles 16 = .ok (.isub, 1) := by decide +kernel
theorem dX12_settles_17 : decode cX12_settles 17 = .ok (.iaload, 1) := by decide +kernel
theorem dX12_settles_18 : decode cX12_settles 18 = .ok (.iload_n 1, 1) := by decide +kernel
theorem dX12_settles_19 : decode cX12_settles 19 = .ok (.if_icmp .ne 38, 3) := by decide +kernel
theorem dX12_settles_22 : decode cX12_settles 22 = .ok (.aload_n 0, 1) := by decide +kernel
theorem dX12_settles_23 : decode cX12_settles 23 = .ok (.aload_n 0, 1) := by decide +kernel
theorem dX12_settles_24 : decode cX12_settles 24 = .ok (.getfield 246, 3) := by decide +kernel
theorem dX12_settles_27 : decode cX12_settles 27 = .ok (.iconst 1, 1) := by decide +kernel
theorem dX12_settles_28 : decode cX12_settles 28 = .ok (.isub, 1) := by decide +kernel
theorem dX12_settles_29 : decode cX12_settles 29 = .ok (.putfield 246, 3) := by decide +kernel
theorem dX12_settles_32 : decode cX12_settles 32 = .ok (.aload_n 0, 1) := by decide +kernel
theorem dX12_settles_33 : decode cX12_settles 33 = .ok (.iload_n 1, 1) := by decide +kernel
theorem dX12_settles_34 : decode cX12_settles 34 = .ok (.iconst 0, 1) := by decide +kernel
theorem dX12_settles_35 : decode cX12_settles 35 = .ok (.invokevirtual 226, 3) := by decide +kernel
theorem dX12_settles_38 : decode cX12_settles 38 = .ok (.iload_n 1, 1) := by decide +kernel
theorem dX12_settles_39 : decode cX12_settles 39 = .ok (.bipush 9, 2) := by decide +kernel
theorem dX12_settles_41 : decode cX12_settles 41 = .ok (.if_icmp .ne (-41), 3) := by decide +kernel
theorem dX12_settles_44 : decode cX12_settles 44 = .ok (.aload_n 0, 1) := by decide +kernel
theorem dX12_settles_45 : decode cX12_settles 45 = .ok (.aload_n 0, 1) := by decide +kernel
theorem dX12_settles_46 : decode cX12_settles 46 = .ok (.getfield 249, 3) := by decide +kernel
theorem dX12_settles_49 : decode cX12_settles 49 = .ok (.iconst 1, 1) := by decide +kernel
theorem dX12_settles_50 : decode cX12_settles 50 = .ok (.isub, 1) := by decide +kernel
theorem dX12_settles_51 : decode cX12_settles 51 = .ok (.putfield 249, 3) := by decide +kernel
theorem dX12_settles_54 : decode cX12_settles 54 = .ok (.goto (-54), 3) := by decide +kernel
theorem dX12_settles_57 : decode cX12_settles 57 = .ok (.return_, 1) := by decide +kernel
theorem dX12_readAny_0 : decode cX12_readAny 0 = .ok (.iconst 0, 1) := by decide +kernel
theorem dX12_readAny_1 : decode cX12_readAny 1 = .ok (.istore_n 1, 1) := by decide +kernel
theorem dX12_readAny_2 : decode cX12_readAny 2 = .ok (.aload_n 0, 1) := by decide +kernel
theorem dX12_readAny_3 : decode cX12_readAny 3 = .ok (.iconst 0, 1) := by decide +kernel
theorem dX12_readAny_4 : decode cX12_readAny 4 = .ok (.putfield 246, 3) := by decide +kernel
theorem dX12_readAny_7 : decode cX12_readAny 7 = .ok (.iconst 1, 1) := by decide +kernel
theorem dX12_readAny_8 : decode cX12_readAny 8 = .ok (.istore_n 2, 1) := by decide +kernel
theorem dX12_readAny_9 : decode cX12_readAny 9 = .ok (.iload_n 2, 1) := by decide +kernel
theorem dX12_readAny_10 : decode cX12_readAny 10 = .ok (.ifCond .eq 99, 3) := by decide +kernel
theorem dX12_readAny_13 : decode cX12_readAny 13 = .ok (.aload_n 0, 1) := by decide +kernel
theorem dX12_readAny_14 : decode cX12_readAny 14 = .ok (.bipush 8, 2) := by decide +kernel
theorem dX12_readAny_16 : decode cX12_readAny 16 = .ok (.invokevirtual 252, 3) := by decide +kernel
theorem dX12_readAny_19 : decode cX12_readAny 19 = .ok (.istore_n 3, 1) := by decide +kernel
theorem dX12_readAny_20 : decode cX12_readAny 20 = .ok (.iload_n 3, 1) := by decide +kernel
theorem dX12_readAny_21 : decode cX12_readAny 21 = .ok (.ifCond .ne 12, 3) := by decide +kernel
theorem dX12_readAny_24 : decode cX12_readAny 24 = .ok (.aload_n 0, 1) := by decide +kernel
theorem dX12_readAny_25 : decode cX12_readAny 25 = .ok (.bipush 40, 2) := by decide +kernel
theorem dX12_readAny_27 : decode cX12_readAny 27 = .ok (.invokevirtual 237, 3) := by decide +kernel
theorem dX12_readAny_30 : decode cX12_readAny 30 = .ok (.ifCond .eq 58, 3) := by decide +kernel
theorem dX12_readAny_33 : decode cX12_readAny 33 = .ok (.aload_n 0, 1) := by decide +kernel
theorem dX12_readAny_34 : decode cX12_readAny 34 = .ok (.getfield 249, 3) := by decide +kernel
theorem dX12_readAny_37 : decode cX12_readAny 37 = .ok (.bipush 8, 2) := by decide +kernel
theorem dX12_readAny_39 : decode cX12_readAny 39 = .ok (.if_icmp .ne 9, 3) := by decide +kernel
theorem dX12_readAny_42 : decode cX12_readAny 42 = .ok (.aload_n 0, 1) := by decide +kernel
theorem dX12_readAny_43 : decode cX12_readAny 43 = .ok (.iconst 3, 1) := by decide +kernel
theorem dX12_readAny_44 : decode cX12_readAny 44 = .ok (.invokevirtual 223, 3) := by decide +kernel
theorem dX12_readAny_47 : decode cX12_readAny 47 = .ok (.ireturn, 1) := by decide +kernel
theorem dX12_readAny_48 : decode cX12_readAny 48 = .ok (.aload_n 0, 1) := by decide +kernel
theorem dX12_readAny_49 : decode cX12_readAny 49 = .ok (.aload_n 0, 1) := by decide +kernel
theorem dX12_readAny_50 : decode cX12_readAny 50 = .ok (.getfield 249, 3) := by decide +kernel
theorem dX12_readAny_53 : decode cX12_readAny 53 = .ok (.iconst 1, 1) := by decide +kernel
theorem dX12_readAny_54 : decode cX12_readAny 54 = .ok (.iadd, 1) := by decide +kernel
theorem dX12_readAny_55 : decode cX12_readAny 55 = .ok (.putfield 249, 3) := by decide +kernel
theorem dX12_readAny_58 : decode cX12_readAny 58 = .ok (.iload_n 3, 1) := by decide +kernel
theorem dX12_readAny_59 : decode cX12_readAny 59 = .ok (.ifCond .ne 7, 3) := by decide +kernel
theorem dX12_readAny_62 : decode cX12_readAny 62 = .ok (.iload_n 1, 1) := by decide +kernel
theorem dX12_readAny_63 : decode cX12_readAny 63 = .ok (.iconst 1, 1) := by decide +kernel
theorem dX12_readAny_64 : decode cX12_readAny 64 = .ok (.iadd, 1) := by decide +kernel
theorem dX12_readAny_65 : decode cX12_readAny 65 = .ok (.istore_n 1, 1) := by decide +kernel
theorem dX12_readAny_66 : decode cX12_readAny 66 = .ok (.aload_n 0, 1) := by decide +kernel
theorem dX12_readAny_67 : decode cX12_readAny 67 = .ok (.iload_n 3, 1) := by decide +kernel
theorem dX12_readAny_68 : decode cX12_readAny 68 = .ok (.ifCond .eq 8, 3) := by decide +kernel
theorem dX12_readAny_71 : decode cX12_readAny 71 = .ok (.bipush 9, 2) := by decide +kernel
theorem dX12_readAny_73 : decode cX12_readAny 73 = .ok (.goto 5, 3) := by decide +kernel
theorem dX12_readAny_76 : decode cX12_readAny 76 = .ok (.bipush 12, 2) := by decide +kernel
theorem dX12_readAny_78 : decode cX12_readAny 78 = .ok (.invokevirtual 255, 3) := by decide +kernel
theorem dX12_readAny_81 : decode cX12_readAny 81 = .ok (.aload_n 0, 1) := by decide +kernel
theorem dX12_readAny_82 : decode cX12_readAny 82 = .ok (.invokevirtual 230, 3) := by decide +kernel
theorem dX12_readAny_85 : decode cX12_readAny 85 = .ok (.goto (-76), 3) := by decide +kernel
theorem dX12_readAny_88 : decode cX12_readAny 88 = .ok (.aload_n 0, 1) := by decide +kernel
theorem dX12_readAny_89 : decode cX12_readAny 89 = .ok (.invokevirtual 258, 3) := by decide +kernel
theorem dX12_readAny_92 : decode cX12_readAny 92 = .ok (.iconst (-1), 1) := by decide +kernel
theorem dX12_readAny_93 : decode cX12_readAny 93 = .ok (.if_icmp .ne 5, 3) := by decide +kernel
theorem dX12_readAny_96 : decode cX12_readAny 96 = .ok (.iconst (-1), 1) := by decide +kernel
theorem dX12_readAny_97 : decode cX12_readAny 97 = .ok (.ireturn, 1) := by decide +kernel
theorem dX12_readAny_98 : decode cX12_readAny 98 = .ok (.aload_n 0, 1) := by decide +kernel
theorem dX12_readAny_99 : decode cX12_readAny 99 = .ok (.bipush 9, 2) := by decide +kernel
theorem dX12_readAny_101 : decode cX12_readAny 101 = .ok (.invokevirtual 261, 3) := by decide +kernel
theorem dX12_readAny_104 : decode cX12_readAny 104 = .ok (.iconst 0, 1) := by decide +kernel
theorem dX12_readAny_105 : decode cX12_readAny 105 = .ok (.istore_n 2, 1) := by decide +kernel
theorem dX12_readAny_106 : decode cX12_readAny 106 = .ok (.goto (-97), 3) := by decide +kernel
theorem dX12_readAny_109 : decode cX12_readAny 109 = .ok (.aload_n 0, 1) := by decide +kernel
theorem dX12_readAny_110 : decode cX12_readAny 110 = .ok (.bipush 7, 2) := by decide +kernel
theorem dX12_readAny_112 : decode cX12_readAny 112 = .ok (.invokevirtual 252, 3) := by decide +kernel
theorem dX12_readAny_115 : decode cX12_readAny 115 = .ok (.ifCond .eq 24, 3) := by decide +kernel
theorem dX12_readAny_118 : decode cX12_readAny 118 = .ok (.aload_n 0, 1) := by decide +kernel
theorem dX12_readAny_119 : decode cX12_readAny 119 = .ok (.bipush 10, 2) := by decide +kernel
theorem dX12_readAny_121 : decode cX12_readAny 121 = .ok (.invokevirtual 261, 3) := by decide +kernel
theorem dX12_readAny_124 : decode cX12_readAny 124 = .ok (.aload_n 0, 1) := by decide +kernel
theorem dX12_readAny_125 : decode cX12_readAny 125 = .ok (.bipush 10, 2) := by decide +kernel
theorem dX12_readAny_127 : decode cX12_readAny 127 = .ok (.invokevirtual 255, 3) := by decide +kernel
theorem dX12_readAny_130 : decode cX12_readAny 130 = .ok (.aload_n 0, 1) := by decide +kernel
theorem dX12_readAny_131 : decode cX12_readAny 131 = .ok (.invokevirtual 230, 3) := by decide +kernel
theorem dX12_readAny_134 : decode cX12_readAny 134 = .ok (.iconst 1, 1) := by decide +kernel
theorem dX12_readAny_135 : decode cX12_readAny 135 = .ok (.istore_n 2, 1) := by decide +kernel
theorem dX12_readAny_136 : decode cX12_readAny 136 = .ok (.goto (-127), 3) := by decide +kernel
theorem dX12_readAny_139 : decode cX12_readAny 139 = .ok (.aload_n 0, 1) := by decide +kernel
theorem dX12_readAny_140 : decode cX12_readAny 140 = .ok (.bipush 6, 2) := by decide +kernel
theorem dX12_readAny_142 : decode cX12_readAny 142 = .ok (.invokevirtual 252, 3) := by decide +kernel
theorem dX12_readAny_145 : decode cX12_readAny 145 = .ok (.ifCond .eq 30, 3) := by decide +kernel
theorem dX12_readAny_148 : decode cX12_readAny 148 = .ok (.aload_n 0, 1) := by decide +kernel
theorem dX12_readAny_149 : decode cX12_readAny 149 = .ok (.bipush 10, 2) := by decide +kernel
theorem dX12_readAny_151 : decode cX12_readAny 151 = .ok (.invokevirtual 261, 3) := by decide +kernel
theorem dX12_readAny_154 : decode cX12_readAny 154 = .ok (.aload_n 0, 1) := by decide +kernel
theorem dX12_readAny_155 : decode cX12_readAny 155 = .ok (.bipush 11, 2) := by decide +kernel
theorem dX12_readAny_157 : decode cX12_readAny 157 = .ok (.invokevirtual 261, 3) := by decide +kernel
theorem dX12_readAny_160 : decode cX12_readAny 160 = .ok (.aload_n 0, 1) := by decide +kernel
theorem dX12_readAny_161 : decode cX12_readAny 161 = .ok (.bipush 11, 2) := by decide +kernel
theorem dX12_readAny_163 : decode cX12_readAny 163 = .ok (.invokevirtual 255, 3) := by decide +kernel
theorem dX12_readAny_166 : decode cX12_readAny 166 = .ok (.aload_n 0, 1) := by decide +kernel
theorem dX12_readAny_167 : decode cX12_readAny 167 = .ok (.invokevirtual 230, 3) := by decide +kernel
theorem dX12_readAny_170 : decode cX12_readAny 170 = .ok (.iconst 1, 1) := by decide +kernel
theorem dX12_readAny_171 : decode cX12_readAny 171 = .ok (.istore_n 2, 1) := by decide +kernel
theorem dX12_readAny_172 : decode cX12_readAny 172 = .ok (.goto (-163), 3) := by decide +kernel
theorem dX12_readAny_175 : decode cX12_readAny 175 = .ok (.aload_n 0, 1) := by decide +kernel
theorem dX12_readAny_176 : decode cX12_readAny 176 = .ok (.bipush 10, 2) := by decide +kernel
theorem dX12_readAny_178 : decode cX12_readAny 178 = .ok (.invokevirtual 261, 3) := by decide +kernel
theorem dX12_readAny_181 : decode cX12_readAny 181 = .ok (.aload_n 0, 1) := by decide +kernel
theorem dX12_readAny_182 : decode cX12_readAny 182 = .ok (.bipush 11, 2) := by decide +kernel
theorem dX12_readAny_184 : decode cX12_readAny 184 = .ok (.invokevirtual 261, 3) := by decide +kernel
theorem dX12_readAny_187 : decode cX12_readAny 187 = .ok (.iload_n 1, 1) := by decide +kernel
theorem dX12_readAny_188 : decode cX12_readAny 188 = .ok (.ifCond .ne 5, 3) := by decide +kernel
theorem dX12_readAny_191 : decode cX12_readAny 191 = .ok (.iconst 0, 1) := by decide +kernel
theorem dX12_readAny_192 : decode cX12_readAny 192 = .ok (.ireturn, 1) := by decide +kernel
theorem dX12_readAny_193 : decode cX12_readAny 193 = .ok (.aload_n 0, 1) := by decide +kernel
theorem dX12_readAny_194 : decode cX12_readAny 194 = .ok (.bipush 41, 2) := by decide +kernel
theorem dX12_readAny_196 : decode cX12_readAny 196 = .ok (.invokevirtual 237, 3) := by decide +kernel
theorem dX12_readAny_199 : decode cX12_readAny 199 = .ok (.ifCond .ne 9, 3) := by decide +kernel
theorem dX12_readAny_202 : decode cX12_readAny 202 = .ok (.aload_n 0, 1) := by decide +kernel
theorem dX12_readAny_203 : decode cX12_readAny 203 = .ok (.iconst 1, 1) := by decide +kernel
theorem dX12_readAny_204 : decode cX12_readAny 204 = .ok (.invokevirtual 223, 3) := by decide +kernel
theorem dX12_readAny_207 : decode cX12_readAny 207 = .ok (.ireturn, 1) := by decide +kernel
theorem dX12_readAny_208 : decode cX12_readAny 208 = .ok (.aload_n 0, 1) := by decide +kernel
theorem dX12_readAny_209 : decode cX12_readAny 209 = .ok (.aload_n 0, 1) := by decide +kernel
theorem dX12_readAny_210 : decode cX12_readAny 210 = .ok (.getfield 246, 3) := by decide +kernel
theorem dX12_readAny_213 : decode cX12_readAny 213 = .ok (.iconst 1, 1) := by decide +kernel
theorem dX12_readAny_214 : decode cX12_readAny 214 = .ok (.isub, 1) := by decide +kernel
theorem dX12_readAny_215 : decode cX12_readAny 215 = .ok (.putfield 246, 3) := by decide +kernel
theorem dX12_readAny_218 : decode cX12_readAny 218 = .ok (.iload_n 1, 1) := by decide +kernel
theorem dX12_readAny_219 : decode cX12_readAny 219 = .ok (.iconst 1, 1) := by decide +kernel
theorem dX12_readAny_220 : decode cX12_readAny 220 = .ok (.isub, 1) := by decide +kernel
theorem dX12_readAny_221 : decode cX12_readAny 221 = .ok (.istore_n 1, 1) := by decide +kernel
theorem dX12_readAny_222 : decode cX12_readAny 222 = .ok (.aload_n 0, 1) := by decide +kernel
theorem dX12_readAny_223 : decode cX12_readAny 223 = .ok (.aload_n 0, 1) := by decide +kernel
theorem dX12_readAny_224 : decode cX12_readAny 224 = .ok (.getfield 249, 3) := by decide +kernel
theorem dX12_readAny_227 : decode cX12_readAny 227 = .ok (.iconst 1, 1) := by decide +kernel
theorem dX12_readAny_228 : decode cX12_readAny 228 = .ok (.isub, 1) := by decide +kernel
theorem dX12_readAny_229 : decode cX12_readAny 229 = .ok (.putfield 249, 3) := by decide +kernel
theorem dX12_readAny_232 : decode cX12_readAny 232 = .ok (.aload_n 0, 1) := by decide +kernel
theorem dX12_readAny_233 : decode cX12_readAny 233 = .ok (.bipush 9, 2) := by decide +kernel
theorem dX12_readAny_235 : decode cX12_readAny 235 = .ok (.invokevirtual 261, 3) := by decide +kernel
theorem dX12_readAny_238 : decode cX12_readAny 238 = .ok (.aload_n 0, 1) := by decide +kernel
theorem dX12_readAny_239 : decode cX12_readAny 239 = .ok (.invokevirtual 230, 3) := by decide +kernel
theorem dX12_readAny_242 : decode cX12_readAny 242 = .ok (.goto (-233), 3) := by decide +kernel
theorem dX12_readLine_0 : decode cX12_readLine 0 = .ok (.aload_n 0, 1) := by decide +kernel
theorem dX12_readLine_1 : decode cX12_readLine 1 = .ok (.getfield 58, 3) := by decide +kernel
theorem dX12_readLine_4 : decode cX12_readLine 4 = .ok (.iload_n 1, 1) := by decide +kernel
theorem dX12_readLine_5 : decode cX12_readLine 5 = .ok (.aload_n 0, 1) := by decide +kernel
theorem dX12_readLine_6 : decode cX12_readLine 6 = .ok (.getfield 194, 3) := by decide +kernel
theorem dX12_readLine_9 : decode cX12_readLine 9 = .ok (.iastore, 1) := by decide +kernel
theorem dX12_readLine_10 : decode cX12_readLine 10 = .ok (.aload_n 0, 1) := by decide +kernel
theorem dX12_readLine_11 : decode cX12_readLine 11 = .ok (.getfield 61, 3) := by decide +kernel
theorem dX12_readLine_14 : decode cX12_readLine 14 = .ok (.iload_n 1, 1) := by decide +kernel
theorem dX12_readLine_15 : decode cX12_readLine 15 = .ok (.aload_n 0, 1) := by decide +kernel
theorem dX12_readLine_16 : decode cX12_readLine 16 = .ok (.getfield 216, 3) := by decide +kernel
theorem dX12_readLine_19 : decode cX12_readLine 19 = .ok (.iastore, 1) := by decide +kernel
theorem dX12_readLine_20 : decode cX12_readLine 20 = .ok (.aload_n 0, 1) := by decide +kernel
theorem dX12_readLine_21 : decode cX12_readLine 21 = .ok (.invokevirtual 230, 3) := by decide +kernel
theorem dX12_readLine_24 : decode cX12_readLine 24 = .ok (.aload_n 0, 1) := by decide +kernel
theorem dX12_readLine_25 : decode cX12_readLine 25 = .ok (.getfield 219, 3) := by decide +kernel
theorem dX12_readLine_28 : decode cX12_readLine 28 = .ok (.ifCond .eq 13, 3) := by decide +kernel
theorem dX12_readLine_31 : decode cX12_readLine 31 = .ok (.aload_n 0, 1) := by decide +kernel
theorem dX12_readLine_32 : decode cX12_readLine 32 = .ok (.invokevirtual 243, 3) := by decide +kernel
theorem dX12_readLine_35 : decode cX12_readLine 35 = .ok (.iconst (-1), 1) := by decide +kernel
theorem dX12_readLine_36 : decode cX12_readLine 36 = .ok (.if_icmp .ne 5, 3) := by decide +kernel
theorem dX12_readLine_39 : decode cX12_readLine 39 = .ok (.iconst (-1), 1) := by decide +kernel
theorem dX12_readLine_40 : decode cX12_readLine 40 = .ok (.ireturn, 1) := by decide +kernel
theorem dX12_readLine_41 : decode cX12_readLine 41 = .ok (.aload_n 0, 1) := by decide +kernel
theorem dX12_readLine_42 : decode cX12_readLine 42 = .ok (.getfield 64, 3) := by decide +kernel
theorem dX12_readLine_45 : decode cX12_readLine 45 = .ok (.iload_n 1, 1) := by decide +kernel
theorem dX12_readLine_46 : decode cX12_readLine 46 = .ok (.aload_n 0, 1) := by decide +kernel
theorem dX12_readLine_47 : decode cX12_readLine 47 = .ok (.getfield 216, 3) := by decide +kernel
theorem dX12_readLine_50 : decode cX12_readLine 50 = .ok (.iastore, 1) := by decide +kernel
theorem dX12_readLine_51 : decode cX12_readLine 51 = .ok (.aload_n 0, 1) := by decide +kernel
theorem dX12_readLine_52 : decode cX12_readLine 52 = .ok (.getfield 219, 3) := by decide +kernel
theorem dX12_readLine_55 : decode cX12_readLine 55 = .ok (.ifCond .ne 7, 3) := by decide +kernel
theorem dX12_readLine_58 : decode cX12_readLine 58 = .ok (.iconst 1, 1) := by decide +kernel
theorem dX12_readLine_59 : decode cX12_readLine 59 = .ok (.goto 4, 3) := by decide +kernel
theorem dX12_readLine_62 : decode cX12_readLine 62 = .ok (.iconst 0, 1) := by decide +kernel
theorem dX12_readLine_63 : decode cX12_readLine 63 = .ok (.istore_n 2, 1) := by decide +kernel
theorem dX12_readLine_64 : decode cX12_readLine 64 = .ok (.aload_n 0, 1) := by decide +kernel
theorem dX12_readLine_65 : decode cX12_readLine 65 = .ok (.getfield 219, 3) := by decide +kernel
theorem dX12_readLine_68 : decode cX12_readLine 68 = .ok (.ifCond .eq 17, 3) := by decide +kernel
theorem dX12_readLine_71 : decode cX12_readLine 71 = .ok (.aload_n 0, 1) := by decide +kernel
theorem dX12_readLine_72 : decode cX12_readLine 72 = .ok (.iconst 5, 1) := by decide +kernel
theorem dX12_readLine_73 : decode cX12_readLine 73 = .ok (.invokevirtual 252, 3) := by decide +kernel
theorem dX12_readLine_76 : decode cX12_readLine 76 = .ok (.ifCond .eq 9, 3) := by decide +kernel
theorem dX12_readLine_79 : decode cX12_readLine 79 = .ok (.aload_n 0, 1) := by decide +kernel
theorem dX12_readLine_80 : decode cX12_readLine 80 = .ok (.invokevirtual 230, 3) := by decide +kernel
theorem dX12_readLine_83 : decode cX12_readLine 83 = .ok (.iconst 1, 1) := by decide +kernel
theorem dX12_readLine_84 : decode cX12_readLine 84 = .ok (.istore_n 2, 1) := by decide +kernel
theorem dX12_readLine_85 : decode cX12_readLine 85 = .ok (.iload_n 2, 1) := by decide +kernel
theorem dX12_readLine_86 : decode cX12_readLine 86 = .ok (.ifCond .eq 13, 3) := by decide +kernel
theorem dX12_readLine_89 : decode cX12_readLine 89 = .ok (.aload_n 0, 1) := by decide +kernel
theorem dX12_readLine_90 : decode cX12_readLine 90 = .ok (.invokevirtual 264, 3) := by decide +kernel
theorem dX12_readLine_93 : decode cX12_readLine 93 = .ok (.iconst (-1), 1) := by decide +kernel
theorem dX12_readLine_94 : decode cX12_readLine 94 = .ok (.if_icmp .ne 5, 3) := by decide +kernel
theorem dX12_readLine_97 : decode cX12_readLine 97 = .ok (.iconst (-1), 1) := by decide +kernel
theorem dX12_readLine_98 : decode cX12_readLine 98 = .ok (.ireturn, 1) := by decide +kernel
theorem dX12_readLine_99 : decode cX12_readLine 99 = .ok (.aload_n 0, 1) := by decide +kernel
theorem dX12_readLine_100 : decode cX12_readLine 100 = .ok (.getfield 67, 3) := by decide +kernel
theorem dX12_readLine_103 : decode cX12_readLine 103 = .ok (.iload_n 1, 1) := by decide +kernel
theorem dX12_readLine_104 : decode cX12_readLine 104 = .ok (.aload_n 0, 1) := by decide +kernel
theorem dX12_readLine_105 : decode cX12_readLine 105 = .ok (.getfield 216, 3) := by decide +kernel
theorem dX12_readLine_108 : decode cX12_readLine 108 = .ok (.iastore, 1) := by decide +kernel
theorem dX12_readLine_109 : decode cX12_readLine 109 = .ok (.aload_n 0, 1) := by decide +kernel
theorem dX12_readLine_110 : decode cX12_readLine 110 = .ok (.bipush 59, 2) := by decide +kernel
theorem dX12_readLine_112 : decode cX12_readLine 112 = .ok (.invokevirtual 237, 3) := by decide +kernel
theorem dX12_readLine_115 : decode cX12_readLine 115 = .ok (.ifCond .ne 9, 3) := by decide +kernel
theorem dX12_readLine_118 : decode cX12_readLine 118 = .ok (.aload_n 0, 1) := by decide +kernel
theorem dX12_readLine_119 : decode cX12_readLine 119 = .ok (.iconst 1, 1) := by decide +kernel
theorem dX12_readLine_120 : decode cX12_readLine 120 = .ok (.invokevirtual 223, 3) := by decide +kernel
theorem dX12_readLine_123 : decode cX12_readLine 123 = .ok (.ireturn, 1) := by decide +kernel
theorem dX12_readLine_124 : decode cX12_readLine 124 = .ok (.aload_n 0, 1) := by decide +kernel
theorem dX12_readLine_125 : decode cX12_readLine 125 = .ok (.invokevirtual 230, 3) := by decide +kernel
theorem dX12_readLine_128 : decode cX12_readLine 128 = .ok (.iconst 0, 1) := by decide +kernel
theorem dX12_readLine_129 : decode cX12_readLine 129 = .ok (.ireturn, 1) := by decide +kernel
theorem dX12_isBegin_0 : decode cX12_isBegin 0 = .ok (.aload_n 0, 1) := by decide +kernel
theorem dX12_isBegin_1 : decode cX12_isBegin 1 = .ok (.getfield 191, 3) := by decide +kernel
theorem dX12_isBegin_4 : decode cX12_isBegin 4 = .ok (.iconst 2, 1) := by decide +kernel
theorem dX12_isBegin_5 : decode cX12_isBegin 5 = .ok (.if_icmp .ne 41, 3) := by decide +kernel
theorem dX12_isBegin_8 : decode cX12_isBegin 8 = .ok (.aload_n 0, 1) := by decide +kernel
theorem dX12_isBegin_9 : decode cX12_isBegin 9 = .ok (.getfield 219, 3) := by decide +kernel
theorem dX12_isBegin_12 : decode cX12_isBegin 12 = .ok (.ifCond .eq 14, 3) := by decide +kernel
theorem dX12_isBegin_15 : decode cX12_isBegin 15 = .ok (.aload_n 0, 1) := by decide +kernel
theorem dX12_isBegin_16 : decode cX12_isBegin 16 = .ok (.getfield 194, 3) := by decide +kernel
theorem dX12_isBegin_19 : decode cX12_isBegin 19 = .ok (.iconst 2, 1) := by decide +kernel
theorem dX12_isBegin_20 : decode cX12_isBegin 20 = .ok (.if_icmp .gt 26, 3) := by decide +kernel
theorem dX12_isBegin_23 : decode cX12_isBegin 23 = .ok (.goto 19, 3) := by decide +kernel
theorem dX12_isBegin_26 : decode cX12_isBegin 26 = .ok (.aload_n 0, 1) := by decide +kernel
theorem dX12_isBegin_27 : decode cX12_isBegin 27 = .ok (.getfield 194, 3) := by decide +kernel
theorem dX12_isBegin_30 : decode cX12_isBegin 30 = .ok (.iconst 3, 1) := by decide +kernel
theorem dX12_isBegin_31 : decode cX12_isBegin 31 = .ok (.if_icmp .eq 11, 3) := by decide +kernel
theorem dX12_isBegin_34 : decode cX12_isBegin 34 = .ok (.aload_n 0, 1) := by decide +kernel
theorem dX12_isBegin_35 : decode cX12_isBegin 35 = .ok (.getfield 194, 3) := by decide +kernel
theorem dX12_isBegin_38 : decode cX12_isBegin 38 = .ok (.iconst 4, 1) := by decide +kernel
theorem dX12_isBegin_39 : decode cX12_isBegin 39 = .ok (.if_icmp .ne 7, 3) := by decide +kernel
theorem dX12_isBegin_42 : decode cX12_isBegin 42 = .ok (.iconst 1, 1) := by decide +kernel
theorem dX12_isBegin_43 : decode cX12_isBegin 43 = .ok (.goto 4, 3) := by decide +kernel
theorem dX12_isBegin_46 : decode cX12_isBegin 46 = .ok (.iconst 0, 1) := by decide +kernel
theorem dX12_isBegin_47 : decode cX12_isBegin 47 = .ok (.ireturn, 1) := by decide +kernel
theorem dX12_readText_0 : decode cX12_readText 0 = .ok (.iconst 0, 1) := by decide +kernel
theorem dX12_readText_1 : decode cX12_readText 1 = .ok (.istore_n 1, 1) := by decide +kernel
theorem dX12_readText_2 : decode cX12_readText 2 = .ok (.aload_n 0, 1) := by decide +kernel
theorem dX12_readText_3 : decode cX12_readText 3 = .ok (.iconst 0, 1) := by decide +kernel
theorem dX12_readText_4 : decode cX12_readText 4 = .ok (.putfield 182, 3) := by decide +kernel
theorem dX12_readText_7 : decode cX12_readText 7 = .ok (.aload_n 0, 1) := by decide +kernel
theorem dX12_readText_8 : decode cX12_readText 8 = .ok (.iconst 0, 1) := by decide +kernel
theorem dX12_readText_9 : decode cX12_readText 9 = .ok (.putfield 216, 3) := by decide +kernel
theorem dX12_readText_12 : decode cX12_readText 12 = .ok (.aload_n 0, 1) := by decide +kernel
theorem dX12_readText_13 : decode cX12_readText 13 = .ok (.iconst 0, 1) := by decide +kernel
theorem dX12_readText_14 : decode cX12_readText 14 = .ok (.putfield 249, 3) := by decide +kernel
theorem dX12_readText_17 : decode cX12_readText 17 = .ok (.aload_n 0, 1) := by decide +kernel
theorem dX12_readText_18 : decode cX12_readText 18 = .ok (.invokevirtual 230, 3) := by decide +kernel
theorem dX12_readText_21 : decode cX12_readText 21 = .ok (.aload_n 0, 1) := by decide +kernel
theorem dX12_readText_22 : decode cX12_readText 22 = .ok (.invokevirtual 267, 3) := by decide +kernel
theorem dX12_readText_25 : decode cX12_readText 25 = .ok (.ifCond .eq 36, 3) := by decide +kernel
theorem dX12_readText_28 : decode cX12_readText 28 = .ok (.iload_n 1, 1) := by decide +kernel
theorem dX12_readText_29 : decode cX12_readText 29 = .ok (.bipush 16, 2) := by decide +kernel
theorem dX12_readText_31 : decode cX12_readText 31 = .ok (.if_icmp .ne 9, 3) := by decide +kernel
theorem dX12_readText_34 : decode cX12_readText 34 = .ok (.aload_n 0, 1) := by decide +kernel
theorem dX12_readText_35 : decode cX12_readText 35 = .ok (.iconst 3, 1) := by decide +kernel
theorem dX12_readText_36 : decode cX12_readText 36 = .ok (.invokevirtual 223, 3) := by decide +kernel
theorem dX12_readText_39 : decode cX12_readText 39 = .ok (.ireturn, 1) := by decide +kernel
theorem dX12_readText_40 : decode cX12_readText 40 = .ok (.aload_n 0, 1) := by decide +kernel
theorem dX12_readText_41 : decode cX12_readText 41 = .ok (.bipush 112, 2) := by decide +kernel
theorem dX12_readText_43 : decode cX12_readText 43 = .ok (.iload_n 1, 1) := by decide +kernel
theorem dX12_readText_44 : decode cX12_readText 44 = .ok (.iadd, 1) := by decide +kernel
theorem dX12_readText_45 : decode cX12_readText 45 = .ok (.invokevirtual 271, 3) := by decide +kernel
theorem dX12_readText_48 : decode cX12_readText 48 = .ok (.iconst (-1), 1) := by decide +kernel
theorem dX12_readText_49 : decode cX12_readText 49 = .ok (.if_icmp .ne 5, 3) := by decide +kernel
theorem dX12_readText_52 : decode cX12_readText 52 = .ok (.iconst (-1), 1) := by decide +kernel
theorem dX12_readText_53 : decode cX12_readText 53 = .ok (.ireturn, 1) := by decide +kernel
theorem dX12_readText_54 : decode cX12_readText 54 = .ok (.iload_n 1, 1) := by decide +kernel
theorem dX12_readText_55 : decode cX12_readText 55 = .ok (.iconst 1, 1) := by decide +kernel
theorem dX12_readText_56 : decode cX12_readText 56 = .ok (.iadd, 1) := by decide +kernel
theorem dX12_readText_57 : decode cX12_readText 57 = .ok (.istore_n 1, 1) := by decide +kernel
theorem dX12_readText_58 : decode cX12_readText 58 = .ok (.goto (-37), 3) := by decide +kernel
theorem dX12_readText_61 : decode cX12_readText 61 = .ok (.aload_n 0, 1) := by decide +kernel
theorem dX12_readText_62 : decode cX12_readText 62 = .ok (.getfield 191, 3) := by decide +kernel
theorem dX12_readText_65 : decode cX12_readText 65 = .ok (.ifCond .ne 7, 3) := by decide +kernel
theorem dX12_readText_68 : decode cX12_readText 68 = .ok (.iload_n 1, 1) := by decide +kernel
theorem dX12_readText_69 : decode cX12_readText 69 = .ok (.goto 8, 3) := by decide +kernel
theorem dX12_readText_72 : decode cX12_readText 72 = .ok (.aload_n 0, 1) := by decide +kernel
theorem dX12_readText_73 : decode cX12_readText 73 = .ok (.iconst 1, 1) := by decide +kernel
theorem dX12_readText_74 : decode cX12_readText 74 = .ok (.invokevirtual 223, 3) := by decide +kernel
theorem dX12_readText_77 : decode cX12_readText 77 = .ok (.ireturn, 1) := by decide +kernel
theorem dX12_takesText_0 : decode cX12_takesText 0 = .ok (.aload_n 0, 1) := by decide +kernel
theorem dX12_takesText_1 : decode cX12_takesText 1 = .ok (.iconst 0, 1) := by decide +kernel
theorem dX12_takesText_2 : decode cX12_takesText 2 = .ok (.putfield 274, 3) := by decide +kernel
theorem dX12_takesText_5 : decode cX12_takesText 5 = .ok (.aload_n 0, 1) := by decide +kernel
theorem dX12_takesText_6 : decode cX12_takesText 6 = .ok (.iconst (-1), 1) := by decide +kernel
theorem dX12_takesText_7 : decode cX12_takesText 7 = .ok (.putfield 79, 3) := by decide +kernel
theorem dX12_takesText_10 : decode cX12_takesText 10 = .ok (.aload_n 0, 1) := by decide +kernel
theorem dX12_takesText_11 : decode cX12_takesText 11 = .ok (.iload_n 1, 1) := by decide +kernel
theorem dX12_takesText_12 : decode cX12_takesText 12 = .ok (.ifCond .ne 7, 3) := by decide +kernel
theorem dX12_takesText_15 : decode cX12_takesText 15 = .ok (.iconst 1, 1) := by decide +kernel
theorem dX12_takesText_16 : decode cX12_takesText 16 = .ok (.goto 4, 3) := by decide +kernel
theorem dX12_takesText_19 : decode cX12_takesText 19 = .ok (.iconst 0, 1) := by decide +kernel
theorem dX12_takesText_20 : decode cX12_takesText 20 = .ok (.putfield 219, 3) := by decide +kernel
theorem dX12_takesText_23 : decode cX12_takesText 23 = .ok (.iload_n 1, 1) := by decide +kernel
theorem dX12_takesText_24 : decode cX12_takesText 24 = .ok (.iconst (-1), 1) := by decide +kernel
theorem dX12_takesText_25 : decode cX12_takesText 25 = .ok (.if_icmp .ne 7, 3) := by decide +kernel
theorem dX12_takesText_28 : decode cX12_takesText 28 = .ok (.iconst (-1), 1) := by decide +kernel
theorem dX12_takesText_29 : decode cX12_takesText 29 = .ok (.goto 7, 3) := by decide +kernel
theorem dX12_takesText_32 : decode cX12_takesText 32 = .ok (.aload_n 0, 1) := by decide +kernel
theorem dX12_takesText_33 : decode cX12_takesText 33 = .ok (.invokevirtual 277, 3) := by decide +kernel
theorem dX12_takesText_36 : decode cX12_takesText 36 = .ok (.istore_n 2, 1) := by decide +kernel
theorem dX12_takesText_37 : decode cX12_takesText 37 = .ok (.aload_n 0, 1) := by decide +kernel
theorem dX12_takesText_38 : decode cX12_takesText 38 = .ok (.iconst 0, 1) := by decide +kernel
theorem dX12_takesText_39 : decode cX12_takesText 39 = .ok (.putfield 175, 3) := by decide +kernel
theorem dX12_takesText_42 : decode cX12_takesText 42 = .ok (.iload_n 1, 1) := by decide +kernel
theorem dX12_takesText_43 : decode cX12_takesText 43 = .ok (.iconst (-1), 1) := by decide +kernel
theorem dX12_takesText_44 : decode cX12_takesText 44 = .ok (.if_icmp .eq 24, 3) := by decide +kernel
theorem dX12_takesText_47 : decode cX12_takesText 47 = .ok (.iload_n 2, 1) := by decide +kernel
theorem dX12_takesText_48 : decode cX12_takesText 48 = .ok (.iconst (-1), 1) := by decide +kernel
theorem dX12_takesText_49 : decode cX12_takesText 49 = .ok (.if_icmp .ne 19, 3) := by decide +kernel
theorem dX12_takesText_52 : decode cX12_takesText 52 = .ok (.aload_n 0, 1) := by decide +kernel
theorem dX12_takesText_53 : decode cX12_takesText 53 = .ok (.aload_n 0, 1) := by decide +kernel
theorem dX12_takesText_54 : decode cX12_takesText 54 = .ok (.getfield 210, 3) := by decide +kernel
theorem dX12_takesText_57 : decode cX12_takesText 57 = .ok (.putfield 274, 3) := by decide +kernel
theorem dX12_takesText_60 : decode cX12_takesText 60 = .ok (.aload_n 0, 1) := by decide +kernel
theorem dX12_takesText_61 : decode cX12_takesText 61 = .ok (.aload_n 0, 1) := by decide +kernel
theorem dX12_takesText_62 : decode cX12_takesText 62 = .ok (.getfield 213, 3) := by decide +kernel
theorem dX12_takesText_65 : decode cX12_takesText 65 = .ok (.putfield 79, 3) := by decide +kernel
theorem dX12_takesText_68 : decode cX12_takesText 68 = .ok (.iload_n 2, 1) := by decide +kernel
theorem dX12_takesText_69 : decode cX12_takesText 69 = .ok (.iconst (-1), 1) := by decide +kernel
theorem dX12_takesText_70 : decode cX12_takesText 70 = .ok (.if_icmp .ne 5, 3) := by decide +kernel
theorem dX12_takesText_73 : decode cX12_takesText 73 = .ok (.iconst (-1), 1) := by decide +kernel
theorem dX12_takesText_74 : decode cX12_takesText 74 = .ok (.ireturn, 1) := by decide +kernel
theorem dX12_takesText_75 : decode cX12_takesText 75 = .ok (.iconst 0, 1) := by decide +kernel
theorem dX12_takesText_76 : decode cX12_takesText 76 = .ok (.istore_n 3, 1) := by decide +kernel
theorem dX12_takesText_77 : decode cX12_takesText 77 = .ok (.iload_n 3, 1) := by decide +kernel
theorem dX12_takesText_78 : decode cX12_takesText 78 = .ok (.iload_n 2, 1) := by decide +kernel
theorem dX12_takesText_79 : decode cX12_takesText 79 = .ok (.if_icmp .ge 89, 3) := by decide +kernel
theorem dX12_takesText_82 : decode cX12_takesText 82 = .ok (.aload_n 0, 1) := by decide +kernel
theorem dX12_takesText_83 : decode cX12_takesText 83 = .ok (.getfield 58, 3) := by decide +kernel
theorem dX12_takesText_86 : decode cX12_takesText 86 = .ok (.bipush 16, 2) := by decide +kernel
theorem dX12_takesText_88 : decode cX12_takesText 88 = .ok (.iload_n 1, 1) := by decide +kernel
theorem dX12_takesText_89 : decode cX12_takesText 89 = .ok (.imul, 1) := by decide +kernel
theorem dX12_takesText_90 : decode cX12_takesText 90 = .ok (.iload_n 3, 1) := by decide +kernel
theorem dX12_takesText_91 : decode cX12_takesText 91 = .ok (.iadd, 1) := by decide +kernel
theorem dX12_takesText_92 : decode cX12_takesText 92 = .ok (.aload_n 0, 1) := by decide +kernel
theorem dX12_takesText_93 : decode cX12_takesText 93 = .ok (.getfield 58, 3) := by decide +kernel
theorem dX12_takesText_96 : decode cX12_takesText 96 = .ok (.bipush 112, 2) := by decide +kernel
theorem dX12_takesText_98 : decode cX12_takesText 98 = .ok (.iload_n 3, 1) := by decide +kernel
theorem dX12_takesText_99 : decode cX12_takesText 99 = .ok (.iadd, 1) := by decide +kernel
theorem dX12_takesText_100 : decode cX12_takesText 100 = .ok (.iaload, 1) := by decide +kernel
theorem dX12_takesText_101 : decode cX12_takesText 101 = .ok (.iastore, 1) := by decide +kernel
theorem dX12_takesText_102 : decode cX12_takesText 102 = .ok (.aload_n 0, 1) := by decide +kernel
theorem dX12_takesText_103 : decode cX12_takesText 103 = .ok (.getfield 61, 3) := by decide +kernel
theorem dX12_takesText_106 : decode cX12_takesText 106 = .ok (.bipush 16, 2) := by decide +kernel
theorem dX12_takesText_108 : decode cX12_takesText 108 = .ok (.iload_n 1, 1) := by decide +kernel
theorem dX12_takesText_109 : decode cX12_takesText 109 = .ok (.imul, 1) := by decide +kernel
theorem dX12_takesText_110 : decode cX12_takesText 110 = .ok (.iload_n 3, 1) := by decide +kernel
theorem dX12_takesText_111 : decode cX12_takesText 111 = .ok (.iadd, 1) := by decide +kernel
theorem dX12_takesText_112 : decode cX12_takesText 112 = .ok (.aload_n 0, 1) := by decide +kernel
theorem dX12_takesText_113 : decode cX12_takesText 113 = .ok (.getfield 61, 3) := by decide +kernel
theorem dX12_takesText_116 : decode cX12_takesText 116 = .ok (.bipush 112, 2) := by decide +kernel
theorem dX12_takesText_118 : decode cX12_takesText 118 = .ok (.iload_n 3, 1) := by decide +kernel
theorem dX12_takesText_119 : decode cX12_takesText 119 = .ok (.iadd, 1) := by decide +kernel
theorem dX12_takesText_120 : decode cX12_takesText 120 = .ok (.iaload, 1) := by decide +kernel
theorem dX12_takesText_121 : decode cX12_takesText 121 = .ok (.iastore, 1) := by decide +kernel
theorem dX12_takesText_122 : decode cX12_takesText 122 = .ok (.aload_n 0, 1) := by decide +kernel
theorem dX12_takesText_123 : decode cX12_takesText 123 = .ok (.getfield 64, 3) := by decide +kernel
theorem dX12_takesText_126 : decode cX12_takesText 126 = .ok (.bipush 16, 2) := by decide +kernel
theorem dX12_takesText_128 : decode cX12_takesText 128 = .ok (.iload_n 1, 1) := by decide +kernel
theorem dX12_takesText_129 : decode cX12_takesText 129 = .ok (.imul, 1) := by decide +kernel
theorem dX12_takesText_130 : decode cX12_takesText 130 = .ok (.iload_n 3, 1) := by decide +kernel
theorem dX12_takesText_131 : decode cX12_takesText 131 = .ok (.iadd, 1) := by decide +kernel
theorem dX12_takesText_132 : decode cX12_takesText 132 = .ok (.aload_n 0, 1) := by decide +kernel
theorem dX12_takesText_133 : decode cX12_takesText 133 = .ok (.getfield 64, 3) := by decide +kernel
theorem dX12_takesText_136 : decode cX12_takesText 136 = .ok (.bipush 112, 2) := by decide +kernel
theorem dX12_takesText_138 : decode cX12_takesText 138 = .ok (.iload_n 3, 1) := by decide +kernel
theorem dX12_takesText_139 : decode cX12_takesText 139 = .ok (.iadd, 1) := by decide +kernel
theorem dX12_takesText_140 : decode cX12_takesText 140 = .ok (.iaload, 1) := by decide +kernel
theorem dX12_takesText_141 : decode cX12_takesText 141 = .ok (.iastore, 1) := by decide +kernel
theorem dX12_takesText_142 : decode cX12_takesText 142 = .ok (.aload_n 0, 1) := by decide +kernel
theorem dX12_takesText_143 : decode cX12_takesText 143 = .ok (.getfield 67, 3) := by decide +kernel
theorem dX12_takesText_146 : decode cX12_takesText 146 = .ok (.bipush 16, 2) := by decide +kernel
theorem dX12_takesText_148 : decode cX12_takesText 148 = .ok (.iload_n 1, 1) := by decide +kernel
theorem dX12_takesText_149 : decode cX12_takesText 149 = .ok (.imul, 1) := by decide +kernel
theorem dX12_takesText_150 : decode cX12_takesText 150 = .ok (.iload_n 3, 1) := by decide +kernel
theorem dX12_takesText_151 : decode cX12_takesText 151 = .ok (.iadd, 1) := by decide +kernel
theorem dX12_takesText_152 : decode cX12_takesText 152 = .ok (.aload_n 0, 1) := by decide +kernel
theorem dX12_takesText_153 : decode cX12_takesText 153 = .ok (.getfield 67, 3) := by decide +kernel
theorem dX12_takesText_156 : decode cX12_takesText 156 = .ok (.bipush 112, 2) := by decide +kernel
theorem dX12_takesText_158 : decode cX12_takesText 158 = .ok (.iload_n 3, 1) := by decide +kernel
theorem dX12_takesText_159 : decode cX12_takesText 159 = .ok (.iadd, 1) := by decide +kernel
theorem dX12_takesText_160 : decode cX12_takesText 160 = .ok (.iaload, 1) := by decide +kernel
theorem dX12_takesText_161 : decode cX12_takesText 161 = .ok (.iastore, 1) := by decide +kernel
theorem dX12_takesText_162 : decode cX12_takesText 162 = .ok (.iinc 3 1, 3) := by decide +kernel
theorem dX12_takesText_165 : decode cX12_takesText 165 = .ok (.goto (-88), 3) := by decide +kernel
theorem dX12_takesText_168 : decode cX12_takesText 168 = .ok (.iconst 0, 1) := by decide +kernel
theorem dX12_takesText_169 : decode cX12_takesText 169 = .ok (.istore_n 3, 1) := by decide +kernel
theorem dX12_takesText_170 : decode cX12_takesText 170 = .ok (.iload_n 3, 1) := by decide +kernel
theorem dX12_takesText_171 : decode cX12_takesText 171 = .ok (.aload_n 0, 1) := by decide +kernel
theorem dX12_takesText_172 : decode cX12_takesText 172 = .ok (.getfield 216, 3) := by decide +kernel
theorem dX12_takesText_175 : decode cX12_takesText 175 = .ok (.if_icmp .ge 53, 3) := by decide +kernel
theorem dX12_takesText_178 : decode cX12_takesText 178 = .ok (.aload_n 0, 1) := by decide +kernel
theorem dX12_takesText_179 : decode cX12_takesText 179 = .ok (.getfield 70, 3) := by decide +kernel
theorem dX12_takesText_182 : decode cX12_takesText 182 = .ok (.sipush 600, 3) := by decide +kernel
theorem dX12_takesText_185 : decode cX12_takesText 185 = .ok (.iload_n 1, 1) := by decide +kernel
theorem dX12_takesText_186 : decode cX12_takesText 186 = .ok (.imul, 1) := by decide +kernel
theorem dX12_takesText_187 : decode cX12_takesText 187 = .ok (.iload_n 3, 1) := by decide +kernel
theorem dX12_takesText_188 : decode cX12_takesText 188 = .ok (.iadd, 1) := by decide +kernel
theorem dX12_takesText_189 : decode cX12_takesText 189 = .ok (.aload_n 0, 1) := by decide +kernel
theorem dX12_takesText_190 : decode cX12_takesText 190 = .ok (.getfield 70, 3) := by decide +kernel
theorem dX12_takesText_193 : decode cX12_takesText 193 = .ok (.sipush 4200, 3) := by decide +kernel
theorem dX12_takesText_196 : decode cX12_takesText 196 = .ok (.iload_n 3, 1) := by decide +kernel
theorem dX12_takesText_197 : decode cX12_takesText 197 = .ok (.iadd, 1) := by decide +kernel
theorem dX12_takesText_198 : decode cX12_takesText 198 = .ok (.iaload, 1) := by decide +kernel
theorem dX12_takesText_199 : decode cX12_takesText 199 = .ok (.iastore, 1) := by decide +kernel
theorem dX12_takesText_200 : decode cX12_takesText 200 = .ok (.aload_n 0, 1) := by decide +kernel
theorem dX12_takesText_201 : decode cX12_takesText 201 = .ok (.getfield 73, 3) := by decide +kernel
theorem dX12_takesText_204 : decode cX12_takesText 204 = .ok (.sipush 600, 3) := by decide +kernel
theorem dX12_takesText_207 : decode cX12_takesText 207 = .ok (.iload_n 1, 1) := by decide +kernel
theorem dX12_takesText_208 : decode cX12_takesText 208 = .ok (.imul, 1) := by decide +kernel
theorem dX12_takesText_209 : decode cX12_takesText 209 = .ok (.iload_n 3, 1) := by decide +kernel
theorem dX12_takesText_210 : decode cX12_takesText 210 = .ok (.iadd, 1) := by decide +kernel
theorem dX12_takesText_211 : decode cX12_takesText 211 = .ok (.aload_n 0, 1) := by decide +kernel
theorem dX12_takesText_212 : decode cX12_takesText 212 = .ok (.getfield 73, 3) := by decide +kernel
theorem dX12_takesText_215 : decode cX12_takesText 215 = .ok (.sipush 4200, 3) := by decide +kernel
theorem dX12_takesText_218 : decode cX12_takesText 218 = .ok (.iload_n 3, 1) := by decide +kernel
theorem dX12_takesText_219 : decode cX12_takesText 219 = .ok (.iadd, 1) := by decide +kernel
theorem dX12_takesText_220 : decode cX12_takesText 220 = .ok (.iaload, 1) := by decide +kernel
theorem dX12_takesText_221 : decode cX12_takesText 221 = .ok (.iastore, 1) := by decide +kernel
theorem dX12_takesText_222 : decode cX12_takesText 222 = .ok (.iinc 3 1, 3) := by decide +kernel
theorem dX12_takesText_225 : decode cX12_takesText 225 = .ok (.goto (-55), 3) := by decide +kernel
theorem dX12_takesText_228 : decode cX12_takesText 228 = .ok (.aload_n 0, 1) := by decide +kernel
theorem dX12_takesText_229 : decode cX12_takesText 229 = .ok (.getfield 55, 3) := by decide +kernel
theorem dX12_takesText_232 : decode cX12_takesText 232 = .ok (.iload_n 1, 1) := by decide +kernel
theorem dX12_takesText_233 : decode cX12_takesText 233 = .ok (.iload_n 2, 1) := by decide +kernel
theorem dX12_takesText_234 : decode cX12_takesText 234 = .ok (.iastore, 1) := by decide +kernel
theorem dX12_takesText_235 : decode cX12_takesText 235 = .ok (.aload_n 0, 1) := by decide +kernel
theorem dX12_takesText_236 : decode cX12_takesText 236 = .ok (.aload_n 0, 1) := by decide +kernel
theorem dX12_takesText_237 : decode cX12_takesText 237 = .ok (.getfield 165, 3) := by decide +kernel
theorem dX12_takesText_240 : decode cX12_takesText 240 = .ok (.iconst 1, 1) := by decide +kernel
theorem dX12_takesText_241 : decode cX12_takesText 241 = .ok (.iadd, 1) := by decide +kernel
theorem dX12_takesText_242 : decode cX12_takesText 242 = .ok (.putfield 165, 3) := by decide +kernel
theorem dX12_takesText_245 : decode cX12_takesText 245 = .ok (.iload_n 2, 1) := by decide +kernel
theorem dX12_takesText_246 : decode cX12_takesText 246 = .ok (.ireturn, 1) := by decide +kernel
theorem dX12_laws_0 : decode cX12_laws 0 = .ok (.aload_n 0, 1) := by decide +kernel
theorem dX12_laws_1 : decode cX12_laws 1 = .ok (.iconst 0, 1) := by decide +kernel
theorem dX12_laws_2 : decode cX12_laws 2 = .ok (.putfield 132, 3) := by decide +kernel
theorem dX12_laws_5 : decode cX12_laws 5 = .ok (.aload_n 0, 1) := by decide +kernel
theorem dX12_laws_6 : decode cX12_laws 6 = .ok (.iconst 0, 1) := by decide +kernel
theorem dX12_laws_7 : decode cX12_laws 7 = .ok (.invokevirtual 280, 3) := by decide +kernel
theorem dX12_laws_10 : decode cX12_laws 10 = .ok (.ireturn, 1) := by decide +kernel
theorem dX12_judgement_0 : decode cX12_judgement 0 = .ok (.aload_n 0, 1) := by decide +kernel
theorem dX12_judgement_1 : decode cX12_judgement 1 = .ok (.iconst 0, 1) := by decide +kernel
theorem dX12_judgement_2 : decode cX12_judgement 2 = .ok (.putfield 132, 3) := by decide +kernel
theorem dX12_judgement_5 : decode cX12_judgement 5 = .ok (.aload_n 0, 1) := by decide +kernel
theorem dX12_judgement_6 : decode cX12_judgement 6 = .ok (.aload_n 0, 1) := by decide +kernel
theorem dX12_judgement_7 : decode cX12_judgement 7 = .ok (.iload_n 1, 1) := by decide +kernel
theorem dX12_judgement_8 : decode cX12_judgement 8 = .ok (.iconst 0, 1) := by decide +kernel
theorem dX12_judgement_9 : decode cX12_judgement 9 = .ok (.aload_n 0, 1) := by decide +kernel
theorem dX12_judgement_10 : decode cX12_judgement 10 = .ok (.getfield 283, 3) := by decide +kernel
theorem dX12_judgement_13 : decode cX12_judgement 13 = .ok (.iconst 1, 1) := by decide +kernel
theorem dX12_judgement_14 : decode cX12_judgement 14 = .ok (.isub, 1) := by decide +kernel
theorem dX12_judgement_15 : decode cX12_judgement 15 = .ok (.invokevirtual 144, 3) := by decide +kernel
theorem dX12_judgement_18 : decode cX12_judgement 18 = .ok (.ifCond .eq 9, 3) := by decide +kernel
theorem dX12_judgement_21 : decode cX12_judgement 21 = .ok (.iconst 1, 1) := by decide +kernel
theorem dX12_judgement_22 : decode cX12_judgement 22 = .ok (.iload_n 1, 1) := by decide +kernel
theorem dX12_judgement_23 : decode cX12_judgement 23 = .ok (.iadd, 1) := by decide +kernel
theorem dX12_judgement_24 : decode cX12_judgement 24 = .ok (.goto 4, 3) := by decide +kernel
theorem dX12_judgement_27 : decode cX12_judgement 27 = .ok (.iconst (-1), 1) := by decide +kernel
theorem dX12_judgement_28 : decode cX12_judgement 28 = .ok (.invokevirtual 280, 3) := by decide +kernel
theorem dX12_judgement_31 : decode cX12_judgement 31 = .ok (.ireturn, 1) := by decide +kernel
theorem dX12_fault_0 : decode cX12_fault 0 = .ok (.aload_n 0, 1) := by decide +kernel
theorem dX12_fault_1 : decode cX12_fault 1 = .ok (.iconst 0, 1) := by decide +kernel
theorem dX12_fault_2 : decode cX12_fault 2 = .ok (.putfield 132, 3) := by decide +kernel
theorem dX12_fault_5 : decode cX12_fault 5 = .ok (.iload_n 1, 1) := by decide +kernel
theorem dX12_fault_6 : decode cX12_fault 6 = .ok (.ifCond .ne 10, 3) := by decide +kernel
theorem dX12_fault_9 : decode cX12_fault 9 = .ok (.aload_n 0, 1) := by decide +kernel
theorem dX12_fault_10 : decode cX12_fault 10 = .ok (.getfield 274, 3) := by decide +kernel
theorem dX12_fault_13 : decode cX12_fault 13 = .ok (.goto 16, 3) := by decide +kernel
theorem dX12_fault_16 : decode cX12_fault 16 = .ok (.iload_n 1, 1) := by decide +kernel
theorem dX12_fault_17 : decode cX12_fault 17 = .ok (.iconst 1, 1) := by decide +kernel
theorem dX12_fault_18 : decode cX12_fault 18 = .ok (.if_icmp .ne 10, 3) := by decide +kernel
theorem dX12_fault_21 : decode cX12_fault 21 = .ok (.aload_n 0, 1) := by decide +kernel
theorem dX12_fault_22 : decode cX12_fault 22 = .ok (.getfield 79, 3) := by decide +kernel
theorem dX12_fault_25 : decode cX12_fault 25 = .ok (.goto 4, 3) := by decide +kernel
theorem dX12_fault_28 : decode cX12_fault 28 = .ok (.iconst (-1), 1) := by decide +kernel
theorem dX12_fault_29 : decode cX12_fault 29 = .ok (.ireturn, 1) := by decide +kernel
theorem dX12_twoOf_0 : decode cX12_twoOf 0 = .ok (.iload_n 1, 1) := by decide +kernel
theorem dX12_twoOf_1 : decode cX12_twoOf 1 = .ok (.iconst 2, 1) := by decide +kernel
theorem dX12_twoOf_2 : decode cX12_twoOf 2 = .ok (.if_icmp .ne 7, 3) := by decide +kernel
theorem dX12_twoOf_5 : decode cX12_twoOf 5 = .ok (.iload_n 2, 1) := by decide +kernel
theorem dX12_twoOf_6 : decode cX12_twoOf 6 = .ok (.iload_n 3, 1) := by decide +kernel
theorem dX12_twoOf_7 : decode cX12_twoOf 7 = .ok (.iadd, 1) := by decide +kernel
theorem dX12_twoOf_8 : decode cX12_twoOf 8 = .ok (.ireturn, 1) := by decide +kernel
theorem dX12_twoOf_9 : decode cX12_twoOf 9 = .ok (.iload_n 1, 1) := by decide +kernel
theorem dX12_twoOf_10 : decode cX12_twoOf 10 = .ok (.iconst 3, 1) := by decide +kernel
theorem dX12_twoOf_11 : decode cX12_twoOf 11 = .ok (.if_icmp .ne 7, 3) := by decide +kernel
theorem dX12_twoOf_14 : decode cX12_twoOf 14 = .ok (.iload_n 2, 1) := by decide +kernel
theorem dX12_twoOf_15 : decode cX12_twoOf 15 = .ok (.iload_n 3, 1) := by decide +kernel
theorem dX12_twoOf_16 : decode cX12_twoOf 16 = .ok (.isub, 1) := by decide +kernel
theorem dX12_twoOf_17 : decode cX12_twoOf 17 = .ok (.ireturn, 1) := by decide +kernel
theorem dX12_twoOf_18 : decode cX12_twoOf 18 = .ok (.iload_n 1, 1) := by decide +kernel
theorem dX12_twoOf_19 : decode cX12_twoOf 19 = .ok (.iconst 4, 1) := by decide +kernel
theorem dX12_twoOf_20 : decode cX12_twoOf 20 = .ok (.if_icmp .ne 7, 3) := by decide +kernel
theorem dX12_twoOf_23 : decode cX12_twoOf 23 = .ok (.iload_n 2, 1) := by decide +kernel
theorem dX12_twoOf_24 : decode cX12_twoOf 24 = .ok (.iload_n 3, 1) := by decide +kernel
theorem dX12_twoOf_25 : decode cX12_twoOf 25 = .ok (.imul, 1) := by decide +kernel
theorem dX12_twoOf_26 : decode cX12_twoOf 26 = .ok (.ireturn, 1) := by decide +kernel
theorem dX12_twoOf_27 : decode cX12_twoOf 27 = .ok (.iload_n 1, 1) := by decide +kernel
theorem dX12_twoOf_28 : decode cX12_twoOf 28 = .ok (.iconst 5, 1) := by decide +kernel
theorem dX12_twoOf_29 : decode cX12_twoOf 29 = .ok (.if_icmp .ne 7, 3) := by decide +kernel
theorem dX12_twoOf_32 : decode cX12_twoOf 32 = .ok (.iload_n 2, 1) := by decide +kernel
theorem dX12_twoOf_33 : decode cX12_twoOf 33 = .ok (.iload_n 3, 1) := by decide +kernel
theorem dX12_twoOf_34 : decode cX12_twoOf 34 = .ok (.idiv, 1) := by decide +kernel
theorem dX12_twoOf_35 : decode cX12_twoOf 35 = .ok (.ireturn, 1) := by decide +kernel
theorem dX12_twoOf_36 : decode cX12_twoOf 36 = .ok (.iload_n 1, 1) := by decide +kernel
theorem dX12_twoOf_37 : decode cX12_twoOf 37 = .ok (.bipush 6, 2) := by decide +kernel
theorem dX12_twoOf_39 : decode cX12_twoOf 39 = .ok (.if_icmp .ne 14, 3) := by decide +kernel
theorem dX12_twoOf_42 : decode cX12_twoOf 42 = .ok (.iload_n 2, 1) := by decide +kernel
theorem dX12_twoOf_43 : decode cX12_twoOf 43 = .ok (.iload_n 3, 1) := by decide +kernel
theorem dX12_twoOf_44 : decode cX12_twoOf 44 = .ok (.if_icmp .ge 7, 3) := by decide +kernel
theorem dX12_twoOf_47 : decode cX12_twoOf 47 = .ok (.iconst 1, 1) := by decide +kernel
theorem dX12_twoOf_48 : decode cX12_twoOf 48 = .ok (.goto 4, 3) := by decide +kernel
theorem dX12_twoOf_51 : decode cX12_twoOf 51 = .ok (.iconst 0, 1) := by decide +kernel
theorem dX12_twoOf_52 : decode cX12_twoOf 52 = .ok (.ireturn, 1) := by decide +kernel
theorem dX12_twoOf_53 : decode cX12_twoOf 53 = .ok (.iload_n 1, 1) := by decide +kernel
theorem dX12_twoOf_54 : decode cX12_twoOf 54 = .ok (.bipush 7, 2) := by decide +kernel
theorem dX12_twoOf_56 : decode cX12_twoOf 56 = .ok (.if_icmp .ne 14, 3) := by decide +kernel
theorem dX12_twoOf_59 : decode cX12_twoOf 59 = .ok (.iload_n 2, 1) := by decide +kernel
theorem dX12_twoOf_60 : decode cX12_twoOf 60 = .ok (.iload_n 3, 1) := by decide +kernel
theorem dX12_twoOf_61 : decode cX12_twoOf 61 = .ok (.if_icmp .ne 7, 3) := by decide +kernel
theorem dX12_twoOf_64 : decode cX12_twoOf 64 = .ok (.iconst 1, 1) := by decide +kernel
theorem dX12_twoOf_65 : decode cX12_twoOf 65 = .ok (.goto 4, 3) := by decide +kernel
theorem dX12_twoOf_68 : decode cX12_twoOf 68 = .ok (.iconst 0, 1) := by decide +kernel
theorem dX12_twoOf_69 : decode cX12_twoOf 69 = .ok (.ireturn, 1) := by decide +kernel
theorem dX12_twoOf_70 : decode cX12_twoOf 70 = .ok (.iload_n 1, 1) := by decide +kernel
theorem dX12_twoOf_71 : decode cX12_twoOf 71 = .ok (.bipush 8, 2) := by decide +kernel
theorem dX12_twoOf_73 : decode cX12_twoOf 73 = .ok (.if_icmp .ne 14, 3) := by decide +kernel
theorem dX12_twoOf_76 : decode cX12_twoOf 76 = .ok (.iload_n 2, 1) := by decide +kernel
theorem dX12_twoOf_77 : decode cX12_twoOf 77 = .ok (.iload_n 3, 1) := by decide +kernel
theorem dX12_twoOf_78 : decode cX12_twoOf 78 = .ok (.if_icmp .le 7, 3) := by decide +kernel
theorem dX12_twoOf_81 : decode cX12_twoOf 81 = .ok (.iconst 1, 1) := by decide +kernel
theorem dX12_twoOf_82 : decode cX12_twoOf 82 = .ok (.goto 4, 3) := by decide +kernel
theorem dX12_twoOf_85 : decode cX12_twoOf 85 = .ok (.iconst 0, 1) := by decide +kernel
theorem dX12_twoOf_86 : decode cX12_twoOf 86 = .ok (.ireturn, 1) := by decide +kernel
theorem dX12_twoOf_87 : decode cX12_twoOf 87 = .ok (.iload_n 1, 1) := by decide +kernel
theorem dX12_twoOf_88 : decode cX12_twoOf 88 = .ok (.bipush 10, 2) := by decide +kernel
theorem dX12_twoOf_90 : decode cX12_twoOf 90 = .ok (.if_icmp .ne 9, 3) := by decide +kernel
theorem dX12_twoOf_93 : decode cX12_twoOf 93 = .ok (.iload_n 2, 1) := by decide +kernel
theorem dX12_twoOf_94 : decode cX12_twoOf 94 = .ok (.iload_n 3, 1) := by decide +kernel
theorem dX12_twoOf_95 : decode cX12_twoOf 95 = .ok (.imul, 1) := by decide +kernel
theorem dX12_twoOf_96 : decode cX12_twoOf 96 = .ok (.goto 14, 3) := by decide +kernel
theorem dX12_twoOf_99 : decode cX12_twoOf 99 = .ok (.iload_n 2, 1) := by decide +kernel
theorem dX12_twoOf_100 : decode cX12_twoOf 100 = .ok (.iload_n 3, 1) := by decide +kernel
theorem dX12_twoOf_101 : decode cX12_twoOf 101 = .ok (.iadd, 1) := by decide +kernel
theorem dX12_twoOf_102 : decode cX12_twoOf 102 = .ok (.ifCond .le 7, 3) := by decide +kernel
theorem dX12_twoOf_105 : decode cX12_twoOf 105 = .ok (.iconst 1, 1) := by decide +kernel
theorem dX12_twoOf_106 : decode cX12_twoOf 106 = .ok (.goto 4, 3) := by decide +kernel
theorem dX12_twoOf_109 : decode cX12_twoOf 109 = .ok (.iconst 0, 1) := by decide +kernel
theorem dX12_twoOf_110 : decode cX12_twoOf 110 = .ok (.ireturn, 1) := by decide +kernel
theorem dX12_worth_0 : decode cX12_worth 0 = .ok (.iconst 0, 1) := by decide +kernel
theorem dX12_worth_1 : decode cX12_worth 1 = .ok (.istore 4, 2) := by decide +kernel
theorem dX12_worth_3 : decode cX12_worth 3 = .ok (.sipush 600, 3) := by decide +kernel
theorem dX12_worth_6 : decode cX12_worth 6 = .ok (.iload_n 1, 1) := by decide +kernel
theorem dX12_worth_7 : decode cX12_worth 7 = .ok (.imul, 1) := by decide +kernel
theorem dX12_worth_8 : decode cX12_worth 8 = .ok (.iload_n 2, 1) := by decide +kernel
theorem dX12_worth_9 : decode cX12_worth 9 = .ok (.iadd, 1) := by decide +kernel
theorem dX12_worth_10 : decode cX12_worth 10 = .ok (.istore 5, 2) := by decide +kernel
theorem dX12_worth_12 : decode cX12_worth 12 = .ok (.iload 5, 2) := by decide +kernel
theorem dX12_worth_14 : decode cX12_worth 14 = .ok (.sipush 600, 3) := by decide +kernel
theorem dX12_worth_17 : decode cX12_worth 17 = .ok (.iload_n 1, 1) := by decide +kernel
theorem dX12_worth_18 : decode cX12_worth 18 = .ok (.imul, 1) := by decide +kernel
theorem dX12_worth_19 : decode cX12_worth 19 = .ok (.iload_n 3, 1) := by decide +kernel
theorem dX12_worth_20 : decode cX12_worth 20 = .ok (.iadd, 1) := by decide +kernel
theorem dX12_worth_21 : decode cX12_worth 21 = .ok (.if_icmp .ge 155, 3) := by decide +kernel
theorem dX12_worth_24 : decode cX12_worth 24 = .ok (.aload_n 0, 1) := by decide +kernel
theorem dX12_worth_25 : decode cX12_worth 25 = .ok (.getfield 70, 3) := by decide +kernel
theorem dX12_worth_28 : decode cX12_worth 28 = .ok (.iload 5, 2) := by decide +kernel
theorem dX12_worth_30 : decode cX12_worth 30 = .ok (.iaload, 1) := by decide +kernel
theorem dX12_worth_31 : decode cX12_worth 31 = .ok (.ifCond .eq 14, 3) := by decide +kernel
theorem dX12_worth_34 : decode cX12_worth 34 = .ok (.aload_n 0, 1) := by decide +kernel
theorem dX12_worth_35 : decode cX12_worth 35 = .ok (.getfield 70, 3) := by decide +kernel
theorem dX12_worth_38 : decode cX12_worth 38 = .ok (.iload 5, 2) := by decide +kernel
theorem dX12_worth_40 : decode cX12_worth 40 = .ok (.iaload, 1) := by decide +kernel
theorem dX12_worth_41 : decode cX12_worth 41 = .ok (.iconst 1, 1) := by decide +kernel
theorem dX12_worth_42 : decode cX12_worth 42 = .ok (.if_icmp .ne 51, 3) := by decide +kernel
theorem dX12_worth_45 : decode cX12_worth 45 = .ok (.aload_n 0, 1) := by decide +kernel
theorem dX12_worth_46 : decode cX12_worth 46 = .ok (.getfield 86, 3) := by decide +kernel
theorem dX12_worth_49 : decode cX12_worth 49 = .ok (.iload 4, 2) := by decide +kernel
theorem dX12_worth_51 : decode cX12_worth 51 = .ok (.aload_n 0, 1) := by decide +kernel
theorem dX12_worth_52 : decode cX12_worth 52 = .ok (.getfield 70, 3) := by decide +kernel
theorem dX12_worth_55 : decode cX12_worth 55 = .ok (.iload 5, 2) := by decide +kernel
theorem dX12_worth_57 : decode cX12_worth 57 = .ok (.iaload, 1) := by decide +kernel
theorem dX12_worth_58 : decode cX12_worth 58 = .ok (.ifCond .ne 13, 3) := by decide +kernel
theorem dX12_worth_61 : decode cX12_worth 61 = .ok (.aload_n 0, 1) := by decide +kernel
theorem dX12_worth_62 : decode cX12_worth 62 = .ok (.getfield 73, 3) := by decide +kernel
theorem dX12_worth_65 : decode cX12_worth 65 = .ok (.iload 5, 2) := by decide +kernel
theorem dX12_worth_67 : decode cX12_worth 67 = .ok (.iaload, 1) := by decide +kernel
theorem dX12_worth_68 : decode cX12_worth 68 = .ok (.goto 15, 3) := by decide +kernel
theorem dX12_worth_71 : decode cX12_worth 71 = .ok (.aload_n 0, 1) := by decide +kernel
theorem dX12_worth_72 : decode cX12_worth 72 = .ok (.getfield 83, 3) := by decide +kernel
theorem dX12_worth_75 : decode cX12_worth 75 = .ok (.aload_n 0, 1) := by decide +kernel
theorem dX12_worth_76 : decode cX12_worth 76 = .ok (.getfield 73, 3) := by decide +kernel
theorem dX12_worth_79 : decode cX12_worth 79 = .ok (.iload 5, 2) := by decide +kernel
theorem dX12_worth_81 : decode cX12_worth 81 = .ok (.iaload, 1) := by decide +kernel
theorem dX12_worth_82 : decode cX12_worth 82 = .ok (.iaload, 1) := by decide +kernel
theorem dX12_worth_83 : decode cX12_worth 83 = .ok (.iastore, 1) := by decide +kernel
theorem dX12_worth_84 : decode cX12_worth 84 = .ok (.iload 4, 2) := by decide +kernel
theorem dX12_worth_86 : decode cX12_worth 86 = .ok (.iconst 1, 1) := by decide +kernel
theorem dX12_worth_87 : decode cX12_worth 87 = .ok (.iadd, 1) := by decide +kernel
theorem dX12_worth_88 : decode cX12_worth 88 = .ok (.istore 4, 2) := by decide +kernel
theorem dX12_worth_90 : decode cX12_worth 90 = .ok (.goto 80, 3) := by decide +kernel
theorem dX12_worth_93 : decode cX12_worth 93 = .ok (.aload_n 0, 1) := by decide +kernel
theorem dX12_worth_94 : decode cX12_worth 94 = .ok (.getfield 70, 3) := by decide +kernel
theorem dX12_worth_97 : decode cX12_worth 97 = .ok (.iload 5, 2) := by decide +kernel
theorem dX12_worth_99 : decode cX12_worth 99 = .ok (.iaload, 1) := by decide +kernel
theorem dX12_worth_100 : decode cX12_worth 100 = .ok (.bipush 9, 2) := by decide +kernel
theorem dX12_worth_102 : decode cX12_worth 102 = .ok (.if_icmp .ne 26, 3) := by decide +kernel
theorem dX12_worth_105 : decode cX12_worth 105 = .ok (.aload_n 0, 1) := by decide +kernel
theorem dX12_worth_106 : decode cX12_worth 106 = .ok (.getfield 86, 3) := by decide +kernel
theorem dX12_worth_109 : decode cX12_worth 109 = .ok (.iload 4, 2) := by decide +kernel
theorem dX12_worth_111 : decode cX12_worth 111 = .ok (.iconst 1, 1) := by decide +kernel
theorem dX12_worth_112 : decode cX12_worth 112 = .ok (.isub, 1) := by decide +kernel
theorem dX12_worth_113 : decode cX12_worth 113 = .ok (.iconst 1, 1) := by decide +kernel
theorem dX12_worth_114 : decode cX12_worth 114 = .ok (.aload_n 0, 1) := by decide +kernel
theorem dX12_worth_115 : decode cX12_worth 115 = .ok (.getfield 86, 3) := by decide +kernel
theorem dX12_worth_118 : decode cX12_worth 118 = .ok (.iload 4, 2) := by decide +kernel
theorem dX12_worth_120 : decode cX12_worth 120 = .ok (.iconst 1, 1) := by decide +kernel
theorem dX12_worth_121 : decode cX12_worth 121 = .ok (.isub, 1) := by decide +kernel
theorem dX12_worth_122 : decode cX12_worth 122 = .ok (.iaload, 1) := by decide +kernel
theorem dX12_worth_123 : decode cX12_worth 123 = .ok (.isub, 1) := by decide +kernel
theorem dX12_worth_124 : decode cX12_worth 124 = .ok (.iastore, 1) := by decide +kernel
theorem dX12_worth_125 : decode cX12_worth 125 = .ok (.goto 45, 3) := by decide +kernel
theorem dX12_worth_128 : decode cX12_worth 128 = .ok (.iload 4, 2) := by decide +kernel
theorem dX12_worth_130 : decode cX12_worth 130 = .ok (.iconst 1, 1) := by decide +kernel
theorem dX12_worth_131 : decode cX12_worth 131 = .ok (.isub, 1) := by decide +kernel
theorem dX12_worth_132 : decode cX12_worth 132 = .ok (.istore 4, 2) := by decide +kernel
theorem dX12_worth_134 : decode cX12_worth 134 = .ok (.aload_n 0, 1) := by decide +kernel
theorem dX12_worth_135 : decode cX12_worth 135 = .ok (.getfield 86, 3) := by decide +kernel
theorem dX12_worth_138 : decode cX12_worth 138 = .ok (.iload 4, 2) := by decide +kernel
theorem dX12_worth_140 : decode cX12_worth 140 = .ok (.iconst 1, 1) := by decide +kernel
theorem dX12_worth_141 : decode cX12_worth 141 = .ok (.isub, 1) := by decide +kernel
theorem dX12_worth_142 : decode cX12_worth 142 = .ok (.aload_n 0, 1) := by decide +kernel
theorem dX12_worth_143 : decode cX12_worth 143 = .ok (.aload_n 0, 1) := by decide +kernel
theorem dX12_worth_144 : decode cX12_worth 144 = .ok (.getfield 70, 3) := by decide +kernel
theorem dX12_worth_147 : decode cX12_worth 147 = .ok (.iload 5, 2) := by decide +kernel
theorem dX12_worth_149 : decode cX12_worth 149 = .ok (.iaload, 1) := by decide +kernel
theorem dX12_worth_150 : decode cX12_worth 150 = .ok (.aload_n 0, 1) := by decide +kernel
theorem dX12_worth_151 : decode cX12_worth 151 = .ok (.getfield 86, 3) := by decide +kernel
theorem dX12_worth_154 : decode cX12_worth 154 = .ok (.iload 4, 2) := by decide +kernel
theorem dX12_worth_156 : decode cX12_worth 156 = .ok (.iconst 1, 1) := by decide +kernel
theorem dX12_worth_157 : decode cX12_worth 157 = .ok (.isub, 1) := by decide +kernel
theorem dX12_worth_158 : decode cX12_worth 158 = .ok (.iaload, 1) := by decide +kernel
theorem dX12_worth_159 : decode cX12_worth 159 = .ok (.aload_n 0, 1) := by decide +kernel
theorem dX12_worth_160 : decode cX12_worth 160 = .ok (.getfield 86, 3) := by decide +kernel
theorem dX12_worth_163 : decode cX12_worth 163 = .ok (.iload 4, 2) := by decide +kernel
theorem dX12_worth_165 : decode cX12_worth 165 = .ok (.iaload, 1) := by decide +kernel
theorem dX12_worth_166 : decode cX12_worth 166 = .ok (.invokevirtual 286, 3) := by decide +kernel
theorem dX12_worth_169 : decode cX12_worth 169 = .ok (.iastore, 1) := by decide +kernel
theorem dX12_worth_170 : decode cX12_worth 170 = .ok (.iinc 5 1, 3) := by decide +kernel
theorem dX12_worth_173 : decode cX12_worth 173 = .ok (.goto (-161), 3) := by decide +kernel
theorem dX12_worth_176 : decode cX12_worth 176 = .ok (.aload_n 0, 1) := by decide +kernel
theorem dX12_worth_177 : decode cX12_worth 177 = .ok (.getfield 86, 3) := by decide +kernel
theorem dX12_worth_180 : decode cX12_worth 180 = .ok (.iconst 0, 1) := by decide +kernel
theorem dX12_worth_181 : decode cX12_worth 181 = .ok (.iaload, 1) := by decide +kernel
theorem dX12_worth_182 : decode cX12_worth 182 = .ok (.ireturn, 1) := by decide +kernel
theorem dX12_heightBy_0 : decode cX12_heightBy 0 = .ok (.iconst 0, 1) := by decide +kernel
theorem dX12_heightBy_1 : decode cX12_heightBy 1 = .ok (.istore_n 2, 1) := by decide +kernel
theorem dX12_heightBy_2 : decode cX12_heightBy 2 = .ok (.iload_n 2, 1) := by decide +kernel
theorem dX12_heightBy_3 : decode cX12_heightBy 3 = .ok (.aload_n 0, 1) := by decide +kernel
theorem dX12_heightBy_4 : decode cX12_heightBy 4 = .ok (.getfield 55, 3) := by decide +kernel
theorem dX12_heightBy_7 : decode cX12_heightBy 7 = .ok (.iconst 0, 1) := by decide +kernel
theorem dX12_heightBy_8 : decode cX12_heightBy 8 = .ok (.iaload, 1) := by decide +kernel
theorem dX12_heightBy_9 : decode cX12_heightBy 9 = .ok (.if_icmp .ge 96, 3) := by decide +kernel
theorem dX12_heightBy_12 : decode cX12_heightBy 12 = .ok (.aload_n 0, 1) := by decide +kernel
theorem dX12_heightBy_13 : decode cX12_heightBy 13 = .ok (.getfield 58, 3) := by decide +kernel
theorem dX12_heightBy_16 : decode cX12_heightBy 16 = .ok (.iload_n 2, 1) := by decide +kernel
theorem dX12_heightBy_17 : decode cX12_heightBy 17 = .ok (.iaload, 1) := by decide +kernel
theorem dX12_heightBy_18 : decode cX12_heightBy 18 = .ok (.iload_n 1, 1) := by decide +kernel
theorem dX12_heightBy_19 : decode cX12_heightBy 19 = .ok (.if_icmp .ne 80, 3) := by decide +kernel
theorem dX12_heightBy_22 : decode cX12_heightBy 22 = .ok (.aload_n 0, 1) := by decide +kernel
theorem dX12_heightBy_23 : decode cX12_heightBy 23 = .ok (.getfield 67, 3) := by decide +kernel
theorem dX12_heightBy_26 : decode cX12_heightBy 26 = .ok (.iload_n 2, 1) := by decide +kernel
theorem dX12_heightBy_27 : decode cX12_heightBy 27 = .ok (.iaload, 1) := by decide +kernel
theorem dX12_heightBy_28 : decode cX12_heightBy 28 = .ok (.aload_n 0, 1) := by decide +kernel
theorem dX12_heightBy_29 : decode cX12_heightBy 29 = .ok (.getfield 64, 3) := by decide +kernel
theorem dX12_heightBy_32 : decode cX12_heightBy 32 = .ok (.iload_n 2, 1) := by decide +kernel
theorem dX12_heightBy_33 : decode cX12_heightBy 33 = .ok (.iaload, 1) := by decide +kernel
theorem dX12_heightBy_34 : decode cX12_heightBy 34 = .ok (.if_icmp .le 26, 3) := by decide +kernel
theorem dX12_heightBy_37 : decode cX12_heightBy 37 = .ok (.aload_n 0, 1) := by decide +kernel
theorem dX12_heightBy_38 : decode cX12_heightBy 38 = .ok (.iconst 0, 1) := by decide +kernel
theorem dX12_heightBy_39 : decode cX12_heightBy 39 = .ok (.aload_n 0, 1) := by decide +kernel
theorem dX12_heightBy_40 : decode cX12_heightBy 40 = .ok (.getfield 64, 3) := by decide +kernel
theorem dX12_heightBy_43 : decode cX12_heightBy 43 = .ok (.iload_n 2, 1) := by decide +kernel
theorem dX12_heightBy_44 : decode cX12_heightBy 44 = .ok (.iaload, 1) := by decide +kernel
theorem dX12_heightBy_45 : decode cX12_heightBy 45 = .ok (.aload_n 0, 1) := by decide +kernel
theorem dX12_heightBy_46 : decode cX12_heightBy 46 = .ok (.getfield 67, 3) := by decide +kernel
theorem dX12_heightBy_49 : decode cX12_heightBy 49 = .ok (.iload_n 2, 1) := by decide +kernel
theorem dX12_heightBy_50 : decode cX12_heightBy 50 = .ok (.iaload, 1) := by decide +kernel
theorem dX12_heightBy_51 : decode cX12_heightBy 51 = .ok (.invokevirtual 290, 3) := by decide +kernel
theorem dX12_heightBy_54 : decode cX12_heightBy 54 = .ok (.ifCond .ne 6, 3) := by decide +kernel
theorem dX12_heightBy_57 : decode cX12_heightBy 57 = .ok (.goto 42, 3) := by decide +kernel
theorem dX12_heightBy_60 : decode cX12_heightBy 60 = .ok (.aload_n 0, 1) := by decide +kernel
theorem dX12_heightBy_61 : decode cX12_heightBy 61 = .ok (.iconst 0, 1) := by decide +kernel
theorem dX12_heightBy_62 : decode cX12_heightBy 62 = .ok (.aload_n 0, 1) := by decide +kernel
theorem dX12_heightBy_63 : decode cX12_heightBy 63 = .ok (.getfield 61, 3) := by decide +kernel
theorem dX12_heightBy_66 : decode cX12_heightBy 66 = .ok (.iload_n 2, 1) := by decide +kernel
theorem dX12_heightBy_67 : decode cX12_heightBy 67 = .ok (.iaload, 1) := by decide +kernel
theorem dX12_heightBy_68 : decode cX12_heightBy 68 = .ok (.aload_n 0, 1) := by decide +kernel
theorem dX12_heightBy_69 : decode cX12_heightBy 69 = .ok (.getfield 64, 3) := by decide +kernel
theorem dX12_heightBy_72 : decode cX12_heightBy 72 = .ok (.iload_n 2, 1) := by decide +kernel
theorem dX12_heightBy_73 : decode cX12_heightBy 73 = .ok (.iaload, 1) := by decide +kernel
theorem dX12_heightBy_74 : decode cX12_heightBy 74 = .ok (.invokevirtual 290, 3) := by decide +kernel
theorem dX12_heightBy_77 : decode cX12_heightBy 77 = .ok (.istore_n 3, 1) := by decide +kernel
theorem dX12_heightBy_78 : decode cX12_heightBy 78 = .ok (.iload_n 3, 1) := by decide +kernel
theorem dX12_heightBy_79 : decode cX12_heightBy 79 = .ok (.ifCond .ge 7, 3) := by decide +kernel
theorem dX12_heightBy_82 : decode cX12_heightBy 82 = .ok (.iconst 0, 1) := by decide +kernel
theorem dX12_heightBy_83 : decode cX12_heightBy 83 = .ok (.goto 15, 3) := by decide +kernel
theorem dX12_heightBy_86 : decode cX12_heightBy 86 = .ok (.iload_n 3, 1) := by decide +kernel
theorem dX12_heightBy_87 : decode cX12_heightBy 87 = .ok (.bipush 63, 2) := by decide +kernel
theorem dX12_heightBy_89 : decode cX12_heightBy 89 = .ok (.if_icmp .le 8, 3) := by decide +kernel
theorem dX12_heightBy_92 : decode cX12_heightBy 92 = .ok (.bipush 63, 2) := by decide +kernel
theorem dX12_heightBy_94 : decode cX12_heightBy 94 = .ok (.goto 4, 3) := by decide +kernel
theorem dX12_heightBy_97 : decode cX12_heightBy 97 = .ok (.iload_n 3, 1) := by decide +kernel
theorem dX12_heightBy_98 : decode cX12_heightBy 98 = .ok (.ireturn, 1) := by decide +kernel
theorem dX12_heightBy_99 : decode cX12_heightBy 99 = .ok (.iinc 2 1, 3) := by decide +kernel
theorem dX12_heightBy_102 : decode cX12_heightBy 102 = .ok (.goto (-100), 3) := by decide +kernel
theorem dX12_heightBy_105 : decode cX12_heightBy 105 = .ok (.aload_n 0, 1) := by decide +kernel
theorem dX12_heightBy_106 : decode cX12_heightBy 106 = .ok (.getfield 83, 3) := by decide +kernel
theorem dX12_heightBy_109 : decode cX12_heightBy 109 = .ok (.iconst 1, 1) := by decide +kernel
theorem dX12_heightBy_110 : decode cX12_heightBy 110 = .ok (.iaload, 1) := by decide +kernel
theorem dX12_heightBy_111 : decode cX12_heightBy 111 = .ok (.ireturn, 1) := by decide +kernel
theorem dX12_changes_0 : decode cX12_changes 0 = .ok (.iconst 0, 1) := by decide +kernel
theorem dX12_changes_1 : decode cX12_changes 1 = .ok (.istore 4, 2) := by decide +kernel
