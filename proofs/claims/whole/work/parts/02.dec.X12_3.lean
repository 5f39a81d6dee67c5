theorem dX12_changes_3 : decode cX12_changes 3 = .ok (.iload 4, 2) := by decide +kernel
theorem dX12_changes_5 : decode cX12_changes 5 = .ok (.bipush 32, 2) := by decide +kernel
theorem dX12_changes_7 : decode cX12_changes 7 = .ok (.if_icmp .ge 105, 3) := by decide +kernel
theorem dX12_changes_10 : decode cX12_changes 10 = .ok (.aload_n 0, 1) := by decide +kernel
theorem dX12_changes_11 : decode cX12_changes 11 = .ok (.ldc_w 293, 3) := by decide +kernel
theorem dX12_changes_14 : decode cX12_changes 14 = .ok (.aload_n 0, 1) := by decide +kernel
theorem dX12_changes_15 : decode cX12_changes 15 = .ok (.getfield 155, 3) := by decide +kernel
theorem dX12_changes_18 : decode cX12_changes 18 = .ok (.imul, 1) := by decide +kernel
theorem dX12_changes_19 : decode cX12_changes 19 = .ok (.ldc_w 294, 3) := by decide +kernel
theorem dX12_changes_22 : decode cX12_changes 22 = .ok (.iadd, 1) := by decide +kernel
theorem dX12_changes_23 : decode cX12_changes 23 = .ok (.putfield 155, 3) := by decide +kernel
theorem dX12_changes_26 : decode cX12_changes 26 = .ok (.aload_n 0, 1) := by decide +kernel
theorem dX12_changes_27 : decode cX12_changes 27 = .ok (.getfield 83, 3) := by decide +kernel
theorem dX12_changes_30 : decode cX12_changes 30 = .ok (.iconst 0, 1) := by decide +kernel
theorem dX12_changes_31 : decode cX12_changes 31 = .ok (.iload 4, 2) := by decide +kernel
theorem dX12_changes_33 : decode cX12_changes 33 = .ok (.iastore, 1) := by decide +kernel
theorem dX12_changes_34 : decode cX12_changes 34 = .ok (.aload_n 0, 1) := by decide +kernel
theorem dX12_changes_35 : decode cX12_changes 35 = .ok (.getfield 83, 3) := by decide +kernel
theorem dX12_changes_38 : decode cX12_changes 38 = .ok (.iconst 1, 1) := by decide +kernel
theorem dX12_changes_39 : decode cX12_changes 39 = .ok (.aload_n 1, 1) := by decide +kernel
theorem dX12_changes_40 : decode cX12_changes 40 = .ok (.iload_n 2, 1) := by decide +kernel
theorem dX12_changes_41 : decode cX12_changes 41 = .ok (.iload 4, 2) := by decide +kernel
theorem dX12_changes_43 : decode cX12_changes 43 = .ok (.iadd, 1) := by decide +kernel
theorem dX12_changes_44 : decode cX12_changes 44 = .ok (.iaload, 1) := by decide +kernel
theorem dX12_changes_45 : decode cX12_changes 45 = .ok (.iastore, 1) := by decide +kernel
theorem dX12_changes_46 : decode cX12_changes 46 = .ok (.aload_n 0, 1) := by decide +kernel
theorem dX12_changes_47 : decode cX12_changes 47 = .ok (.getfield 83, 3) := by decide +kernel
theorem dX12_changes_50 : decode cX12_changes 50 = .ok (.iconst 2, 1) := by decide +kernel
theorem dX12_changes_51 : decode cX12_changes 51 = .ok (.aload_n 1, 1) := by decide +kernel
theorem dX12_changes_52 : decode cX12_changes 52 = .ok (.iload_n 2, 1) := by decide +kernel
theorem dX12_changes_53 : decode cX12_changes 53 = .ok (.iload 4, 2) := by decide +kernel
theorem dX12_changes_55 : decode cX12_changes 55 = .ok (.bipush 31, 2) := by decide +kernel
theorem dX12_changes_57 : decode cX12_changes 57 = .ok (.iadd, 1) := by decide +kernel
theorem dX12_changes_58 : decode cX12_changes 58 = .ok (.bipush 32, 2) := by decide +kernel
theorem dX12_changes_60 : decode cX12_changes 60 = .ok (.irem, 1) := by decide +kernel
theorem dX12_changes_61 : decode cX12_changes 61 = .ok (.iadd, 1) := by decide +kernel
theorem dX12_changes_62 : decode cX12_changes 62 = .ok (.iaload, 1) := by decide +kernel
theorem dX12_changes_63 : decode cX12_changes 63 = .ok (.iastore, 1) := by decide +kernel
theorem dX12_changes_64 : decode cX12_changes 64 = .ok (.aload_n 0, 1) := by decide +kernel
theorem dX12_changes_65 : decode cX12_changes 65 = .ok (.getfield 83, 3) := by decide +kernel
theorem dX12_changes_68 : decode cX12_changes 68 = .ok (.iconst 3, 1) := by decide +kernel
theorem dX12_changes_69 : decode cX12_changes 69 = .ok (.aload_n 1, 1) := by decide +kernel
theorem dX12_changes_70 : decode cX12_changes 70 = .ok (.iload_n 2, 1) := by decide +kernel
theorem dX12_changes_71 : decode cX12_changes 71 = .ok (.iload 4, 2) := by decide +kernel
theorem dX12_changes_73 : decode cX12_changes 73 = .ok (.iconst 1, 1) := by decide +kernel
theorem dX12_changes_74 : decode cX12_changes 74 = .ok (.iadd, 1) := by decide +kernel
theorem dX12_changes_75 : decode cX12_changes 75 = .ok (.bipush 32, 2) := by decide +kernel
theorem dX12_changes_77 : decode cX12_changes 77 = .ok (.irem, 1) := by decide +kernel
theorem dX12_changes_78 : decode cX12_changes 78 = .ok (.iadd, 1) := by decide +kernel
theorem dX12_changes_79 : decode cX12_changes 79 = .ok (.iaload, 1) := by decide +kernel
theorem dX12_changes_80 : decode cX12_changes 80 = .ok (.iastore, 1) := by decide +kernel
theorem dX12_changes_81 : decode cX12_changes 81 = .ok (.aload_n 0, 1) := by decide +kernel
theorem dX12_changes_82 : decode cX12_changes 82 = .ok (.getfield 83, 3) := by decide +kernel
theorem dX12_changes_85 : decode cX12_changes 85 = .ok (.iconst 4, 1) := by decide +kernel
theorem dX12_changes_86 : decode cX12_changes 86 = .ok (.aload_n 0, 1) := by decide +kernel
theorem dX12_changes_87 : decode cX12_changes 87 = .ok (.getfield 155, 3) := by decide +kernel
theorem dX12_changes_90 : decode cX12_changes 90 = .ok (.bipush 28, 2) := by decide +kernel
theorem dX12_changes_92 : decode cX12_changes 92 = .ok (.iushr, 1) := by decide +kernel
theorem dX12_changes_93 : decode cX12_changes 93 = .ok (.iastore, 1) := by decide +kernel
theorem dX12_changes_94 : decode cX12_changes 94 = .ok (.aload_n 0, 1) := by decide +kernel
theorem dX12_changes_95 : decode cX12_changes 95 = .ok (.getfield 89, 3) := by decide +kernel
theorem dX12_changes_98 : decode cX12_changes 98 = .ok (.iload 4, 2) := by decide +kernel
theorem dX12_changes_100 : decode cX12_changes 100 = .ok (.aload_n 0, 1) := by decide +kernel
theorem dX12_changes_101 : decode cX12_changes 101 = .ok (.iload_n 3, 1) := by decide +kernel
theorem dX12_changes_102 : decode cX12_changes 102 = .ok (.invokevirtual 295, 3) := by decide +kernel
theorem dX12_changes_105 : decode cX12_changes 105 = .ok (.iastore, 1) := by decide +kernel
theorem dX12_changes_106 : decode cX12_changes 106 = .ok (.iinc 4 1, 3) := by decide +kernel
theorem dX12_changes_109 : decode cX12_changes 109 = .ok (.goto (-106), 3) := by decide +kernel
theorem dX12_changes_112 : decode cX12_changes 112 = .ok (.return_, 1) := by decide +kernel
theorem dX12_isLooker_0 : decode cX12_isLooker 0 = .ok (.iload_n 1, 1) := by decide +kernel
theorem dX12_isLooker_1 : decode cX12_isLooker 1 = .ok (.ifCond .lt 15, 3) := by decide +kernel
theorem dX12_isLooker_4 : decode cX12_isLooker 4 = .ok (.iload_n 1, 1) := by decide +kernel
theorem dX12_isLooker_5 : decode cX12_isLooker 5 = .ok (.aload_n 0, 1) := by decide +kernel
theorem dX12_isLooker_6 : decode cX12_isLooker 6 = .ok (.getfield 283, 3) := by decide +kernel
theorem dX12_isLooker_9 : decode cX12_isLooker 9 = .ok (.if_icmp .ge 7, 3) := by decide +kernel
theorem dX12_isLooker_12 : decode cX12_isLooker 12 = .ok (.iconst 1, 1) := by decide +kernel
theorem dX12_isLooker_13 : decode cX12_isLooker 13 = .ok (.goto 4, 3) := by decide +kernel
theorem dX12_isLooker_16 : decode cX12_isLooker 16 = .ok (.iconst 0, 1) := by decide +kernel
theorem dX12_isLooker_17 : decode cX12_isLooker 17 = .ok (.ireturn, 1) := by decide +kernel
theorem dX12_looker_0 : decode cX12_looker 0 = .ok (.aload_n 0, 1) := by decide +kernel
theorem dX12_looker_1 : decode cX12_looker 1 = .ok (.iconst 0, 1) := by decide +kernel
theorem dX12_looker_2 : decode cX12_looker 2 = .ok (.putfield 132, 3) := by decide +kernel
theorem dX12_looker_5 : decode cX12_looker 5 = .ok (.aload_n 0, 1) := by decide +kernel
theorem dX12_looker_6 : decode cX12_looker 6 = .ok (.iload_n 1, 1) := by decide +kernel
theorem dX12_looker_7 : decode cX12_looker 7 = .ok (.iconst 0, 1) := by decide +kernel
theorem dX12_looker_8 : decode cX12_looker 8 = .ok (.bipush 15, 2) := by decide +kernel
theorem dX12_looker_10 : decode cX12_looker 10 = .ok (.invokevirtual 144, 3) := by decide +kernel
theorem dX12_looker_13 : decode cX12_looker 13 = .ok (.ifCond .eq 12, 3) := by decide +kernel
theorem dX12_looker_16 : decode cX12_looker 16 = .ok (.aload_n 0, 1) := by decide +kernel
theorem dX12_looker_17 : decode cX12_looker 17 = .ok (.getfield 283, 3) := by decide +kernel
theorem dX12_looker_20 : decode cX12_looker 20 = .ok (.bipush 6, 2) := by decide +kernel
theorem dX12_looker_22 : decode cX12_looker 22 = .ok (.if_icmp .ne 5, 3) := by decide +kernel
theorem dX12_looker_25 : decode cX12_looker 25 = .ok (.iconst (-1), 1) := by decide +kernel
theorem dX12_looker_26 : decode cX12_looker 26 = .ok (.ireturn, 1) := by decide +kernel
theorem dX12_looker_27 : decode cX12_looker 27 = .ok (.aload_n 0, 1) := by decide +kernel
theorem dX12_looker_28 : decode cX12_looker 28 = .ok (.getfield 92, 3) := by decide +kernel
theorem dX12_looker_31 : decode cX12_looker 31 = .ok (.aload_n 0, 1) := by decide +kernel
theorem dX12_looker_32 : decode cX12_looker 32 = .ok (.getfield 283, 3) := by decide +kernel
theorem dX12_looker_35 : decode cX12_looker 35 = .ok (.iload_n 1, 1) := by decide +kernel
theorem dX12_looker_36 : decode cX12_looker 36 = .ok (.iastore, 1) := by decide +kernel
theorem dX12_looker_37 : decode cX12_looker 37 = .ok (.aload_n 0, 1) := by decide +kernel
theorem dX12_looker_38 : decode cX12_looker 38 = .ok (.aload_n 0, 1) := by decide +kernel
theorem dX12_looker_39 : decode cX12_looker 39 = .ok (.getfield 283, 3) := by decide +kernel
theorem dX12_looker_42 : decode cX12_looker 42 = .ok (.iconst 1, 1) := by decide +kernel
theorem dX12_looker_43 : decode cX12_looker 43 = .ok (.iadd, 1) := by decide +kernel
theorem dX12_looker_44 : decode cX12_looker 44 = .ok (.putfield 283, 3) := by decide +kernel
theorem dX12_looker_47 : decode cX12_looker 47 = .ok (.aload_n 0, 1) := by decide +kernel
theorem dX12_looker_48 : decode cX12_looker 48 = .ok (.getfield 283, 3) := by decide +kernel
theorem dX12_looker_51 : decode cX12_looker 51 = .ok (.iconst 1, 1) := by decide +kernel
theorem dX12_looker_52 : decode cX12_looker 52 = .ok (.isub, 1) := by decide +kernel
theorem dX12_looker_53 : decode cX12_looker 53 = .ok (.ireturn, 1) := by decide +kernel
theorem dX12_runs_0 : decode cX12_runs 0 = .ok (.aload_n 0, 1) := by decide +kernel
theorem dX12_runs_1 : decode cX12_runs 1 = .ok (.getfield 37, 3) := by decide +kernel
theorem dX12_runs_4 : decode cX12_runs 4 = .ok (.bipush 32, 2) := by decide +kernel
theorem dX12_runs_6 : decode cX12_runs 6 = .ok (.iload_n 2, 1) := by decide +kernel
theorem dX12_runs_7 : decode cX12_runs 7 = .ok (.imul, 1) := by decide +kernel
theorem dX12_runs_8 : decode cX12_runs 8 = .ok (.iload 4, 2) := by decide +kernel
theorem dX12_runs_10 : decode cX12_runs 10 = .ok (.iadd, 1) := by decide +kernel
theorem dX12_runs_11 : decode cX12_runs 11 = .ok (.iaload, 1) := by decide +kernel
theorem dX12_runs_12 : decode cX12_runs 12 = .ok (.istore 6, 2) := by decide +kernel
theorem dX12_runs_14 : decode cX12_runs 14 = .ok (.aload_n 0, 1) := by decide +kernel
theorem dX12_runs_15 : decode cX12_runs 15 = .ok (.getfield 37, 3) := by decide +kernel
theorem dX12_runs_18 : decode cX12_runs 18 = .ok (.bipush 32, 2) := by decide +kernel
theorem dX12_runs_20 : decode cX12_runs 20 = .ok (.iload_n 3, 1) := by decide +kernel
theorem dX12_runs_21 : decode cX12_runs 21 = .ok (.imul, 1) := by decide +kernel
theorem dX12_runs_22 : decode cX12_runs 22 = .ok (.iload 4, 2) := by decide +kernel
theorem dX12_runs_24 : decode cX12_runs 24 = .ok (.iload 5, 2) := by decide +kernel
theorem dX12_runs_26 : decode cX12_runs 26 = .ok (.iadd, 1) := by decide +kernel
theorem dX12_runs_27 : decode cX12_runs 27 = .ok (.bipush 32, 2) := by decide +kernel
theorem dX12_runs_29 : decode cX12_runs 29 = .ok (.irem, 1) := by decide +kernel
theorem dX12_runs_30 : decode cX12_runs 30 = .ok (.iadd, 1) := by decide +kernel
theorem dX12_runs_31 : decode cX12_runs 31 = .ok (.iaload, 1) := by decide +kernel
theorem dX12_runs_32 : decode cX12_runs 32 = .ok (.istore 7, 2) := by decide +kernel
theorem dX12_runs_34 : decode cX12_runs 34 = .ok (.iload 6, 2) := by decide +kernel
theorem dX12_runs_36 : decode cX12_runs 36 = .ok (.iload 7, 2) := by decide +kernel
theorem dX12_runs_38 : decode cX12_runs 38 = .ok (.isub, 1) := by decide +kernel
theorem dX12_runs_39 : decode cX12_runs 39 = .ok (.istore 8, 2) := by decide +kernel
theorem dX12_runs_41 : decode cX12_runs 41 = .ok (.iload 6, 2) := by decide +kernel
theorem dX12_runs_43 : decode cX12_runs 43 = .ok (.iconst (-1), 1) := by decide +kernel
theorem dX12_runs_44 : decode cX12_runs 44 = .ok (.if_icmp .eq 35, 3) := by decide +kernel
theorem dX12_runs_47 : decode cX12_runs 47 = .ok (.iload 7, 2) := by decide +kernel
theorem dX12_runs_49 : decode cX12_runs 49 = .ok (.iconst (-1), 1) := by decide +kernel
theorem dX12_runs_50 : decode cX12_runs 50 = .ok (.if_icmp .eq 29, 3) := by decide +kernel
theorem dX12_runs_53 : decode cX12_runs 53 = .ok (.iload 8, 2) := by decide +kernel
theorem dX12_runs_55 : decode cX12_runs 55 = .ok (.ifCond .ge 9, 3) := by decide +kernel
theorem dX12_runs_58 : decode cX12_runs 58 = .ok (.iload 8, 2) := by decide +kernel
theorem dX12_runs_60 : decode cX12_runs 60 = .ok (.ineg, 1) := by decide +kernel
theorem dX12_runs_61 : decode cX12_runs 61 = .ok (.goto 5, 3) := by decide +kernel
theorem dX12_runs_64 : decode cX12_runs 64 = .ok (.iload 8, 2) := by decide +kernel
theorem dX12_runs_66 : decode cX12_runs 66 = .ok (.aload_n 0, 1) := by decide +kernel
theorem dX12_runs_67 : decode cX12_runs 67 = .ok (.getfield 92, 3) := by decide +kernel
theorem dX12_runs_70 : decode cX12_runs 70 = .ok (.iload_n 1, 1) := by decide +kernel
theorem dX12_runs_71 : decode cX12_runs 71 = .ok (.iaload, 1) := by decide +kernel
theorem dX12_runs_72 : decode cX12_runs 72 = .ok (.if_icmp .gt 7, 3) := by decide +kernel
theorem dX12_runs_75 : decode cX12_runs 75 = .ok (.iconst 1, 1) := by decide +kernel
theorem dX12_runs_76 : decode cX12_runs 76 = .ok (.goto 4, 3) := by decide +kernel
theorem dX12_runs_79 : decode cX12_runs 79 = .ok (.iconst 0, 1) := by decide +kernel
theorem dX12_runs_80 : decode cX12_runs 80 = .ok (.ireturn, 1) := by decide +kernel
theorem dX12_manyOf_0 : decode cX12_manyOf 0 = .ok (.iconst 0, 1) := by decide +kernel
theorem dX12_manyOf_1 : decode cX12_manyOf 1 = .ok (.istore 5, 2) := by decide +kernel
theorem dX12_manyOf_3 : decode cX12_manyOf 3 = .ok (.iconst 0, 1) := by decide +kernel
theorem dX12_manyOf_4 : decode cX12_manyOf 4 = .ok (.istore 6, 2) := by decide +kernel
theorem dX12_manyOf_6 : decode cX12_manyOf 6 = .ok (.iload 6, 2) := by decide +kernel
theorem dX12_manyOf_8 : decode cX12_manyOf 8 = .ok (.bipush 32, 2) := by decide +kernel
theorem dX12_manyOf_10 : decode cX12_manyOf 10 = .ok (.if_icmp .ge 29, 3) := by decide +kernel
theorem dX12_manyOf_13 : decode cX12_manyOf 13 = .ok (.aload_n 0, 1) := by decide +kernel
theorem dX12_manyOf_14 : decode cX12_manyOf 14 = .ok (.iload_n 1, 1) := by decide +kernel
theorem dX12_manyOf_15 : decode cX12_manyOf 15 = .ok (.iload_n 2, 1) := by decide +kernel
theorem dX12_manyOf_16 : decode cX12_manyOf 16 = .ok (.iload_n 3, 1) := by decide +kernel
theorem dX12_manyOf_17 : decode cX12_manyOf 17 = .ok (.iload 6, 2) := by decide +kernel
theorem dX12_manyOf_19 : decode cX12_manyOf 19 = .ok (.iload 4, 2) := by decide +kernel
theorem dX12_manyOf_21 : decode cX12_manyOf 21 = .ok (.invokevirtual 298, 3) := by decide +kernel
theorem dX12_manyOf_24 : decode cX12_manyOf 24 = .ok (.ifCond .eq 9, 3) := by decide +kernel
theorem dX12_manyOf_27 : decode cX12_manyOf 27 = .ok (.iload 5, 2) := by decide +kernel
theorem dX12_manyOf_29 : decode cX12_manyOf 29 = .ok (.iconst 1, 1) := by decide +kernel
theorem dX12_manyOf_30 : decode cX12_manyOf 30 = .ok (.iadd, 1) := by decide +kernel
theorem dX12_manyOf_31 : decode cX12_manyOf 31 = .ok (.istore 5, 2) := by decide +kernel
theorem dX12_manyOf_33 : decode cX12_manyOf 33 = .ok (.iinc 6 1, 3) := by decide +kernel
theorem dX12_manyOf_36 : decode cX12_manyOf 36 = .ok (.goto (-30), 3) := by decide +kernel
theorem dX12_manyOf_39 : decode cX12_manyOf 39 = .ok (.iload 5, 2) := by decide +kernel
theorem dX12_manyOf_41 : decode cX12_manyOf 41 = .ok (.ireturn, 1) := by decide +kernel
theorem dX12_bestSlide_0 : decode cX12_bestSlide 0 = .ok (.iconst 0, 1) := by decide +kernel
theorem dX12_bestSlide_1 : decode cX12_bestSlide 1 = .ok (.istore 4, 2) := by decide +kernel
theorem dX12_bestSlide_3 : decode cX12_bestSlide 3 = .ok (.iconst (-1), 1) := by decide +kernel
theorem dX12_bestSlide_4 : decode cX12_bestSlide 4 = .ok (.istore 5, 2) := by decide +kernel
theorem dX12_bestSlide_6 : decode cX12_bestSlide 6 = .ok (.iconst 0, 1) := by decide +kernel
theorem dX12_bestSlide_7 : decode cX12_bestSlide 7 = .ok (.istore 6, 2) := by decide +kernel
theorem dX12_bestSlide_9 : decode cX12_bestSlide 9 = .ok (.iload 6, 2) := by decide +kernel
theorem dX12_bestSlide_11 : decode cX12_bestSlide 11 = .ok (.bipush 32, 2) := by decide +kernel
theorem dX12_bestSlide_13 : decode cX12_bestSlide 13 = .ok (.if_icmp .ge 38, 3) := by decide +kernel
theorem dX12_bestSlide_16 : decode cX12_bestSlide 16 = .ok (.aload_n 0, 1) := by decide +kernel
theorem dX12_bestSlide_17 : decode cX12_bestSlide 17 = .ok (.iload_n 1, 1) := by decide +kernel
theorem dX12_bestSlide_18 : decode cX12_bestSlide 18 = .ok (.iload_n 2, 1) := by decide +kernel
theorem dX12_bestSlide_19 : decode cX12_bestSlide 19 = .ok (.iload_n 3, 1) := by decide +kernel
theorem dX12_bestSlide_20 : decode cX12_bestSlide 20 = .ok (.iload 6, 2) := by decide +kernel
theorem dX12_bestSlide_22 : decode cX12_bestSlide 22 = .ok (.invokevirtual 302, 3) := by decide +kernel
theorem dX12_bestSlide_25 : decode cX12_bestSlide 25 = .ok (.istore 7, 2) := by decide +kernel
theorem dX12_bestSlide_27 : decode cX12_bestSlide 27 = .ok (.iload 7, 2) := by decide +kernel
theorem dX12_bestSlide_29 : decode cX12_bestSlide 29 = .ok (.iload 5, 2) := by decide +kernel
theorem dX12_bestSlide_31 : decode cX12_bestSlide 31 = .ok (.if_icmp .gt 6, 3) := by decide +kernel
theorem dX12_bestSlide_34 : decode cX12_bestSlide 34 = .ok (.goto 11, 3) := by decide +kernel
theorem dX12_bestSlide_37 : decode cX12_bestSlide 37 = .ok (.iload 6, 2) := by decide +kernel
theorem dX12_bestSlide_39 : decode cX12_bestSlide 39 = .ok (.istore 4, 2) := by decide +kernel
theorem dX12_bestSlide_41 : decode cX12_bestSlide 41 = .ok (.iload 7, 2) := by decide +kernel
theorem dX12_bestSlide_43 : decode cX12_bestSlide 43 = .ok (.istore 5, 2) := by decide +kernel
theorem dX12_bestSlide_45 : decode cX12_bestSlide 45 = .ok (.iinc 6 1, 3) := by decide +kernel
theorem dX12_bestSlide_48 : decode cX12_bestSlide 48 = .ok (.goto (-39), 3) := by decide +kernel
theorem dX12_bestSlide_51 : decode cX12_bestSlide 51 = .ok (.iload 4, 2) := by decide +kernel
theorem dX12_bestSlide_53 : decode cX12_bestSlide 53 = .ok (.ireturn, 1) := by decide +kernel
theorem dX12_longestBy_0 : decode cX12_longestBy 0 = .ok (.iconst 0, 1) := by decide +kernel
theorem dX12_longestBy_1 : decode cX12_longestBy 1 = .ok (.istore 5, 2) := by decide +kernel
theorem dX12_longestBy_3 : decode cX12_longestBy 3 = .ok (.iconst 0, 1) := by decide +kernel
theorem dX12_longestBy_4 : decode cX12_longestBy 4 = .ok (.istore 6, 2) := by decide +kernel
theorem dX12_longestBy_6 : decode cX12_longestBy 6 = .ok (.iconst 0, 1) := by decide +kernel
theorem dX12_longestBy_7 : decode cX12_longestBy 7 = .ok (.istore 7, 2) := by decide +kernel
theorem dX12_longestBy_9 : decode cX12_longestBy 9 = .ok (.iload 7, 2) := by decide +kernel
theorem dX12_longestBy_11 : decode cX12_longestBy 11 = .ok (.bipush 64, 2) := by decide +kernel
theorem dX12_longestBy_13 : decode cX12_longestBy 13 = .ok (.if_icmp .ge 47, 3) := by decide +kernel
theorem dX12_longestBy_16 : decode cX12_longestBy 16 = .ok (.aload_n 0, 1) := by decide +kernel
theorem dX12_longestBy_17 : decode cX12_longestBy 17 = .ok (.iload_n 1, 1) := by decide +kernel
theorem dX12_longestBy_18 : decode cX12_longestBy 18 = .ok (.iload_n 2, 1) := by decide +kernel
theorem dX12_longestBy_19 : decode cX12_longestBy 19 = .ok (.iload_n 3, 1) := by decide +kernel
theorem dX12_longestBy_20 : decode cX12_longestBy 20 = .ok (.iload 7, 2) := by decide +kernel
theorem dX12_longestBy_22 : decode cX12_longestBy 22 = .ok (.bipush 32, 2) := by decide +kernel
theorem dX12_longestBy_24 : decode cX12_longestBy 24 = .ok (.irem, 1) := by decide +kernel
theorem dX12_longestBy_25 : decode cX12_longestBy 25 = .ok (.iload 4, 2) := by decide +kernel
theorem dX12_longestBy_27 : decode cX12_longestBy 27 = .ok (.invokevirtual 298, 3) := by decide +kernel
theorem dX12_longestBy_30 : decode cX12_longestBy 30 = .ok (.ifCond .eq 10, 3) := by decide +kernel
theorem dX12_longestBy_33 : decode cX12_longestBy 33 = .ok (.iload 6, 2) := by decide +kernel
theorem dX12_longestBy_35 : decode cX12_longestBy 35 = .ok (.iconst 1, 1) := by decide +kernel
theorem dX12_longestBy_36 : decode cX12_longestBy 36 = .ok (.iadd, 1) := by decide +kernel
theorem dX12_longestBy_37 : decode cX12_longestBy 37 = .ok (.goto 4, 3) := by decide +kernel
theorem dX12_longestBy_40 : decode cX12_longestBy 40 = .ok (.iconst 0, 1) := by decide +kernel
theorem dX12_longestBy_41 : decode cX12_longestBy 41 = .ok (.istore 6, 2) := by decide +kernel
theorem dX12_longestBy_43 : decode cX12_longestBy 43 = .ok (.iload 6, 2) := by decide +kernel
theorem dX12_longestBy_45 : decode cX12_longestBy 45 = .ok (.iload 5, 2) := by decide +kernel
theorem dX12_longestBy_47 : decode cX12_longestBy 47 = .ok (.if_icmp .le 7, 3) := by decide +kernel
theorem dX12_longestBy_50 : decode cX12_longestBy 50 = .ok (.iload 6, 2) := by decide +kernel
theorem dX12_longestBy_52 : decode cX12_longestBy 52 = .ok (.istore 5, 2) := by decide +kernel
theorem dX12_longestBy_54 : decode cX12_longestBy 54 = .ok (.iinc 7 1, 3) := by decide +kernel
theorem dX12_longestBy_57 : decode cX12_longestBy 57 = .ok (.goto (-48), 3) := by decide +kernel
theorem dX12_longestBy_60 : decode cX12_longestBy 60 = .ok (.iload 5, 2) := by decide +kernel
theorem dX12_longestBy_62 : decode cX12_longestBy 62 = .ok (.bipush 32, 2) := by decide +kernel
theorem dX12_longestBy_64 : decode cX12_longestBy 64 = .ok (.if_icmp .le 8, 3) := by decide +kernel
theorem dX12_longestBy_67 : decode cX12_longestBy 67 = .ok (.bipush 32, 2) := by decide +kernel
theorem dX12_longestBy_69 : decode cX12_longestBy 69 = .ok (.goto 5, 3) := by decide +kernel
theorem dX12_longestBy_72 : decode cX12_longestBy 72 = .ok (.iload 5, 2) := by decide +kernel
theorem dX12_longestBy_74 : decode cX12_longestBy 74 = .ok (.ireturn, 1) := by decide +kernel
theorem dX12_greater_0 : decode cX12_greater 0 = .ok (.iload_n 1, 1) := by decide +kernel
theorem dX12_greater_1 : decode cX12_greater 1 = .ok (.iload_n 2, 1) := by decide +kernel
theorem dX12_greater_2 : decode cX12_greater 2 = .ok (.if_icmp .le 7, 3) := by decide +kernel
theorem dX12_greater_5 : decode cX12_greater 5 = .ok (.iload_n 1, 1) := by decide +kernel
theorem dX12_greater_6 : decode cX12_greater 6 = .ok (.goto 4, 3) := by decide +kernel
theorem dX12_greater_9 : decode cX12_greater 9 = .ok (.iload_n 2, 1) := by decide +kernel
theorem dX12_greater_10 : decode cX12_greater 10 = .ok (.ireturn, 1) := by decide +kernel
theorem dX12_piecesOf_0 : decode cX12_piecesOf 0 = .ok (.iconst 0, 1) := by decide +kernel
theorem dX12_piecesOf_1 : decode cX12_piecesOf 1 = .ok (.istore 4, 2) := by decide +kernel
theorem dX12_piecesOf_3 : decode cX12_piecesOf 3 = .ok (.iload 4, 2) := by decide +kernel
theorem dX12_piecesOf_5 : decode cX12_piecesOf 5 = .ok (.sipush 128, 3) := by decide +kernel
theorem dX12_piecesOf_8 : decode cX12_piecesOf 8 = .ok (.if_icmp .ge 30, 3) := by decide +kernel
theorem dX12_piecesOf_11 : decode cX12_piecesOf 11 = .ok (.aload_n 0, 1) := by decide +kernel
theorem dX12_piecesOf_12 : decode cX12_piecesOf 12 = .ok (.getfield 95, 3) := by decide +kernel
theorem dX12_piecesOf_15 : decode cX12_piecesOf 15 = .ok (.iload 4, 2) := by decide +kernel
theorem dX12_piecesOf_17 : decode cX12_piecesOf 17 = .ok (.iload 4, 2) := by decide +kernel
theorem dX12_piecesOf_19 : decode cX12_piecesOf 19 = .ok (.bipush 32, 2) := by decide +kernel
theorem dX12_piecesOf_21 : decode cX12_piecesOf 21 = .ok (.if_icmp .ge 7, 3) := by decide +kernel
theorem dX12_piecesOf_24 : decode cX12_piecesOf 24 = .ok (.iconst 0, 1) := by decide +kernel
theorem dX12_piecesOf_25 : decode cX12_piecesOf 25 = .ok (.goto 6, 3) := by decide +kernel
theorem dX12_piecesOf_28 : decode cX12_piecesOf 28 = .ok (.sipush (-1000), 3) := by decide +kernel
theorem dX12_piecesOf_31 : decode cX12_piecesOf 31 = .ok (.iastore, 1) := by decide +kernel
theorem dX12_piecesOf_32 : decode cX12_piecesOf 32 = .ok (.iinc 4 1, 3) := by decide +kernel
theorem dX12_piecesOf_35 : decode cX12_piecesOf 35 = .ok (.goto (-32), 3) := by decide +kernel
theorem dX12_piecesOf_38 : decode cX12_piecesOf 38 = .ok (.iconst 0, 1) := by decide +kernel
theorem dX12_piecesOf_39 : decode cX12_piecesOf 39 = .ok (.istore 4, 2) := by decide +kernel
theorem dX12_piecesOf_41 : decode cX12_piecesOf 41 = .ok (.iload 4, 2) := by decide +kernel
theorem dX12_piecesOf_43 : decode cX12_piecesOf 43 = .ok (.bipush 32, 2) := by decide +kernel
theorem dX12_piecesOf_45 : decode cX12_piecesOf 45 = .ok (.if_icmp .ge 169, 3) := by decide +kernel
theorem dX12_piecesOf_48 : decode cX12_piecesOf 48 = .ok (.iconst 0, 1) := by decide +kernel
theorem dX12_piecesOf_49 : decode cX12_piecesOf 49 = .ok (.istore 5, 2) := by decide +kernel
theorem dX12_piecesOf_51 : decode cX12_piecesOf 51 = .ok (.iload 5, 2) := by decide +kernel
theorem dX12_piecesOf_53 : decode cX12_piecesOf 53 = .ok (.sipush 128, 3) := by decide +kernel
theorem dX12_piecesOf_56 : decode cX12_piecesOf 56 = .ok (.if_icmp .ge 121, 3) := by decide +kernel
theorem dX12_piecesOf_59 : decode cX12_piecesOf 59 = .ok (.iload 5, 2) := by decide +kernel
theorem dX12_piecesOf_61 : decode cX12_piecesOf 61 = .ok (.bipush 32, 2) := by decide +kernel
theorem dX12_piecesOf_63 : decode cX12_piecesOf 63 = .ok (.irem, 1) := by decide +kernel
theorem dX12_piecesOf_64 : decode cX12_piecesOf 64 = .ok (.istore 6, 2) := by decide +kernel
theorem dX12_piecesOf_66 : decode cX12_piecesOf 66 = .ok (.aload_n 0, 1) := by decide +kernel
theorem dX12_piecesOf_67 : decode cX12_piecesOf 67 = .ok (.getfield 95, 3) := by decide +kernel
theorem dX12_piecesOf_70 : decode cX12_piecesOf 70 = .ok (.iload 5, 2) := by decide +kernel
theorem dX12_piecesOf_72 : decode cX12_piecesOf 72 = .ok (.iaload, 1) := by decide +kernel
theorem dX12_piecesOf_73 : decode cX12_piecesOf 73 = .ok (.istore 7, 2) := by decide +kernel
theorem dX12_piecesOf_75 : decode cX12_piecesOf 75 = .ok (.iload 5, 2) := by decide +kernel
theorem dX12_piecesOf_77 : decode cX12_piecesOf 77 = .ok (.bipush 32, 2) := by decide +kernel
theorem dX12_piecesOf_79 : decode cX12_piecesOf 79 = .ok (.if_icmp .lt 63, 3) := by decide +kernel
theorem dX12_piecesOf_82 : decode cX12_piecesOf 82 = .ok (.iload 4, 2) := by decide +kernel
theorem dX12_piecesOf_84 : decode cX12_piecesOf 84 = .ok (.ifCond .le 58, 3) := by decide +kernel
theorem dX12_piecesOf_87 : decode cX12_piecesOf 87 = .ok (.aload_n 0, 1) := by decide +kernel
theorem dX12_piecesOf_88 : decode cX12_piecesOf 88 = .ok (.iload 7, 2) := by decide +kernel
theorem dX12_piecesOf_90 : decode cX12_piecesOf 90 = .ok (.aload_n 0, 1) := by decide +kernel
theorem dX12_piecesOf_91 : decode cX12_piecesOf 91 = .ok (.aload_n 0, 1) := by decide +kernel
theorem dX12_piecesOf_92 : decode cX12_piecesOf 92 = .ok (.getfield 95, 3) := by decide +kernel
theorem dX12_piecesOf_95 : decode cX12_piecesOf 95 = .ok (.iload 5, 2) := by decide +kernel
theorem dX12_piecesOf_97 : decode cX12_piecesOf 97 = .ok (.bipush 32, 2) := by decide +kernel
theorem dX12_piecesOf_99 : decode cX12_piecesOf 99 = .ok (.isub, 1) := by decide +kernel
theorem dX12_piecesOf_100 : decode cX12_piecesOf 100 = .ok (.iload 6, 2) := by decide +kernel
theorem dX12_piecesOf_102 : decode cX12_piecesOf 102 = .ok (.isub, 1) := by decide +kernel
theorem dX12_piecesOf_103 : decode cX12_piecesOf 103 = .ok (.iload 6, 2) := by decide +kernel
theorem dX12_piecesOf_105 : decode cX12_piecesOf 105 = .ok (.iconst 1, 1) := by decide +kernel
theorem dX12_piecesOf_106 : decode cX12_piecesOf 106 = .ok (.iadd, 1) := by decide +kernel
theorem dX12_piecesOf_107 : decode cX12_piecesOf 107 = .ok (.bipush 32, 2) := by decide +kernel
theorem dX12_piecesOf_109 : decode cX12_piecesOf 109 = .ok (.irem, 1) := by decide +kernel
theorem dX12_piecesOf_110 : decode cX12_piecesOf 110 = .ok (.iadd, 1) := by decide +kernel
theorem dX12_piecesOf_111 : decode cX12_piecesOf 111 = .ok (.iaload, 1) := by decide +kernel
theorem dX12_piecesOf_112 : decode cX12_piecesOf 112 = .ok (.aload_n 0, 1) := by decide +kernel
theorem dX12_piecesOf_113 : decode cX12_piecesOf 113 = .ok (.getfield 95, 3) := by decide +kernel
theorem dX12_piecesOf_116 : decode cX12_piecesOf 116 = .ok (.iload 5, 2) := by decide +kernel
theorem dX12_piecesOf_118 : decode cX12_piecesOf 118 = .ok (.bipush 32, 2) := by decide +kernel
theorem dX12_piecesOf_120 : decode cX12_piecesOf 120 = .ok (.isub, 1) := by decide +kernel
theorem dX12_piecesOf_121 : decode cX12_piecesOf 121 = .ok (.iload 6, 2) := by decide +kernel
theorem dX12_piecesOf_123 : decode cX12_piecesOf 123 = .ok (.isub, 1) := by decide +kernel
theorem dX12_piecesOf_124 : decode cX12_piecesOf 124 = .ok (.iload 6, 2) := by decide +kernel
theorem dX12_piecesOf_126 : decode cX12_piecesOf 126 = .ok (.bipush 31, 2) := by decide +kernel
theorem dX12_piecesOf_128 : decode cX12_piecesOf 128 = .ok (.iadd, 1) := by decide +kernel
theorem dX12_piecesOf_129 : decode cX12_piecesOf 129 = .ok (.bipush 32, 2) := by decide +kernel
theorem dX12_piecesOf_131 : decode cX12_piecesOf 131 = .ok (.irem, 1) := by decide +kernel
theorem dX12_piecesOf_132 : decode cX12_piecesOf 132 = .ok (.iadd, 1) := by decide +kernel
theorem dX12_piecesOf_133 : decode cX12_piecesOf 133 = .ok (.iaload, 1) := by decide +kernel
theorem dX12_piecesOf_134 : decode cX12_piecesOf 134 = .ok (.invokevirtual 306, 3) := by decide +kernel
theorem dX12_piecesOf_137 : decode cX12_piecesOf 137 = .ok (.invokevirtual 306, 3) := by decide +kernel
theorem dX12_piecesOf_140 : decode cX12_piecesOf 140 = .ok (.istore 7, 2) := by decide +kernel
theorem dX12_piecesOf_142 : decode cX12_piecesOf 142 = .ok (.aload_n 0, 1) := by decide +kernel
theorem dX12_piecesOf_143 : decode cX12_piecesOf 143 = .ok (.getfield 98, 3) := by decide +kernel
theorem dX12_piecesOf_146 : decode cX12_piecesOf 146 = .ok (.iload 5, 2) := by decide +kernel
theorem dX12_piecesOf_148 : decode cX12_piecesOf 148 = .ok (.iload 7, 2) := by decide +kernel
theorem dX12_piecesOf_150 : decode cX12_piecesOf 150 = .ok (.aload_n 0, 1) := by decide +kernel
theorem dX12_piecesOf_151 : decode cX12_piecesOf 151 = .ok (.iload_n 1, 1) := by decide +kernel
theorem dX12_piecesOf_152 : decode cX12_piecesOf 152 = .ok (.iload_n 2, 1) := by decide +kernel
theorem dX12_piecesOf_153 : decode cX12_piecesOf 153 = .ok (.iload_n 3, 1) := by decide +kernel
theorem dX12_piecesOf_154 : decode cX12_piecesOf 154 = .ok (.iload 4, 2) := by decide +kernel
theorem dX12_piecesOf_156 : decode cX12_piecesOf 156 = .ok (.iload 6, 2) := by decide +kernel
theorem dX12_piecesOf_158 : decode cX12_piecesOf 158 = .ok (.invokevirtual 298, 3) := by decide +kernel
theorem dX12_piecesOf_161 : decode cX12_piecesOf 161 = .ok (.ifCond .eq 7, 3) := by decide +kernel
theorem dX12_piecesOf_164 : decode cX12_piecesOf 164 = .ok (.iconst 1, 1) := by decide +kernel
theorem dX12_piecesOf_165 : decode cX12_piecesOf 165 = .ok (.goto 4, 3) := by decide +kernel
theorem dX12_piecesOf_168 : decode cX12_piecesOf 168 = .ok (.iconst 0, 1) := by decide +kernel
theorem dX12_piecesOf_169 : decode cX12_piecesOf 169 = .ok (.iadd, 1) := by decide +kernel
theorem dX12_piecesOf_170 : decode cX12_piecesOf 170 = .ok (.iastore, 1) := by decide +kernel
theorem dX12_piecesOf_171 : decode cX12_piecesOf 171 = .ok (.iinc 5 1, 3) := by decide +kernel
theorem dX12_piecesOf_174 : decode cX12_piecesOf 174 = .ok (.goto (-123), 3) := by decide +kernel
theorem dX12_piecesOf_177 : decode cX12_piecesOf 177 = .ok (.iconst 0, 1) := by decide +kernel
theorem dX12_piecesOf_178 : decode cX12_piecesOf 178 = .ok (.istore 5, 2) := by decide +kernel
theorem dX12_piecesOf_180 : decode cX12_piecesOf 180 = .ok (.iload 5, 2) := by decide +kernel
theorem dX12_piecesOf_182 : decode cX12_piecesOf 182 = .ok (.sipush 128, 3) := by decide +kernel
theorem dX12_piecesOf_185 : decode cX12_piecesOf 185 = .ok (.if_icmp .ge 23, 3) := by decide +kernel
theorem dX12_piecesOf_188 : decode cX12_piecesOf 188 = .ok (.aload_n 0, 1) := by decide +kernel
theorem dX12_piecesOf_189 : decode cX12_piecesOf 189 = .ok (.getfield 95, 3) := by decide +kernel
theorem dX12_piecesOf_192 : decode cX12_piecesOf 192 = .ok (.iload 5, 2) := by decide +kernel
theorem dX12_piecesOf_194 : decode cX12_piecesOf 194 = .ok (.aload_n 0, 1) := by decide +kernel
theorem dX12_piecesOf_195 : decode cX12_piecesOf 195 = .ok (.getfield 98, 3) := by decide +kernel
theorem dX12_piecesOf_198 : decode cX12_piecesOf 198 = .ok (.iload 5, 2) := by decide +kernel
theorem dX12_piecesOf_200 : decode cX12_piecesOf 200 = .ok (.iaload, 1) := by decide +kernel
theorem dX12_piecesOf_201 : decode cX12_piecesOf 201 = .ok (.iastore, 1) := by decide +kernel
theorem dX12_piecesOf_202 : decode cX12_piecesOf 202 = .ok (.iinc 5 1, 3) := by decide +kernel
theorem dX12_piecesOf_205 : decode cX12_piecesOf 205 = .ok (.goto (-25), 3) := by decide +kernel
theorem dX12_piecesOf_208 : decode cX12_piecesOf 208 = .ok (.iinc 4 1, 3) := by decide +kernel
theorem dX12_piecesOf_211 : decode cX12_piecesOf 211 = .ok (.goto (-170), 3) := by decide +kernel
theorem dX12_piecesOf_214 : decode cX12_piecesOf 214 = .ok (.iconst 0, 1) := by decide +kernel
theorem dX12_piecesOf_215 : decode cX12_piecesOf 215 = .ok (.istore 4, 2) := by decide +kernel
theorem dX12_piecesOf_217 : decode cX12_piecesOf 217 = .ok (.iconst 0, 1) := by decide +kernel
theorem dX12_piecesOf_218 : decode cX12_piecesOf 218 = .ok (.istore 5, 2) := by decide +kernel
theorem dX12_piecesOf_220 : decode cX12_piecesOf 220 = .ok (.iload 5, 2) := by decide +kernel
theorem dX12_piecesOf_222 : decode cX12_piecesOf 222 = .ok (.sipush 128, 3) := by decide +kernel
theorem dX12_piecesOf_225 : decode cX12_piecesOf 225 = .ok (.if_icmp .ge 24, 3) := by decide +kernel
theorem dX12_piecesOf_228 : decode cX12_piecesOf 228 = .ok (.aload_n 0, 1) := by decide +kernel
theorem dX12_piecesOf_229 : decode cX12_piecesOf 229 = .ok (.iload 4, 2) := by decide +kernel
theorem dX12_piecesOf_231 : decode cX12_piecesOf 231 = .ok (.aload_n 0, 1) := by decide +kernel
theorem dX12_piecesOf_232 : decode cX12_piecesOf 232 = .ok (.getfield 95, 3) := by decide +kernel
theorem dX12_piecesOf_235 : decode cX12_piecesOf 235 = .ok (.iload 5, 2) := by decide +kernel
theorem dX12_piecesOf_237 : decode cX12_piecesOf 237 = .ok (.iaload, 1) := by decide +kernel
theorem dX12_piecesOf_238 : decode cX12_piecesOf 238 = .ok (.invokevirtual 306, 3) := by decide +kernel
theorem dX12_piecesOf_241 : decode cX12_piecesOf 241 = .ok (.istore 4, 2) := by decide +kernel
theorem dX12_piecesOf_243 : decode cX12_piecesOf 243 = .ok (.iinc 5 1, 3) := by decide +kernel
theorem dX12_piecesOf_246 : decode cX12_piecesOf 246 = .ok (.goto (-26), 3) := by decide +kernel
theorem dX12_piecesOf_249 : decode cX12_piecesOf 249 = .ok (.iload 4, 2) := by decide +kernel
theorem dX12_piecesOf_251 : decode cX12_piecesOf 251 = .ok (.ireturn, 1) := by decide +kernel
theorem dX12_lackOf_0 : decode cX12_lackOf 0 = .ok (.aload_n 0, 1) := by decide +kernel
theorem dX12_lackOf_1 : decode cX12_lackOf 1 = .ok (.iload_n 1, 1) := by decide +kernel
theorem dX12_lackOf_2 : decode cX12_lackOf 2 = .ok (.invokevirtual 171, 3) := by decide +kernel
theorem dX12_lackOf_5 : decode cX12_lackOf 5 = .ok (.aload_n 0, 1) := by decide +kernel
theorem dX12_lackOf_6 : decode cX12_lackOf 6 = .ok (.iload_n 2, 1) := by decide +kernel
theorem dX12_lackOf_7 : decode cX12_lackOf 7 = .ok (.invokevirtual 171, 3) := by decide +kernel
theorem dX12_lackOf_10 : decode cX12_lackOf 10 = .ok (.iadd, 1) := by decide +kernel
theorem dX12_lackOf_11 : decode cX12_lackOf 11 = .ok (.ireturn, 1) := by decide +kernel
theorem dX12_slid_0 : decode cX12_slid 0 = .ok (.aload_n 0, 1) := by decide +kernel
theorem dX12_slid_1 : decode cX12_slid 1 = .ok (.iconst 0, 1) := by decide +kernel
theorem dX12_slid_2 : decode cX12_slid 2 = .ok (.putfield 132, 3) := by decide +kernel
theorem dX12_slid_5 : decode cX12_slid 5 = .ok (.aload_n 0, 1) := by decide +kernel
theorem dX12_slid_6 : decode cX12_slid 6 = .ok (.iload_n 1, 1) := by decide +kernel
theorem dX12_slid_7 : decode cX12_slid 7 = .ok (.invokevirtual 309, 3) := by decide +kernel
theorem dX12_slid_10 : decode cX12_slid 10 = .ok (.ifCond .eq 19, 3) := by decide +kernel
theorem dX12_slid_13 : decode cX12_slid 13 = .ok (.aload_n 0, 1) := by decide +kernel
theorem dX12_slid_14 : decode cX12_slid 14 = .ok (.iload_n 2, 1) := by decide +kernel
theorem dX12_slid_15 : decode cX12_slid 15 = .ok (.invokevirtual 168, 3) := by decide +kernel
theorem dX12_slid_18 : decode cX12_slid 18 = .ok (.ifCond .eq 11, 3) := by decide +kernel
theorem dX12_slid_21 : decode cX12_slid 21 = .ok (.aload_n 0, 1) := by decide +kernel
theorem dX12_slid_22 : decode cX12_slid 22 = .ok (.iload_n 3, 1) := by decide +kernel
theorem dX12_slid_23 : decode cX12_slid 23 = .ok (.invokevirtual 168, 3) := by decide +kernel
theorem dX12_slid_26 : decode cX12_slid 26 = .ok (.ifCond .ne 5, 3) := by decide +kernel
theorem dX12_slid_29 : decode cX12_slid 29 = .ok (.iconst (-1), 1) := by decide +kernel
theorem dX12_slid_30 : decode cX12_slid 30 = .ok (.ireturn, 1) := by decide +kernel
theorem dX12_slid_31 : decode cX12_slid 31 = .ok (.aload_n 0, 1) := by decide +kernel
theorem dX12_slid_32 : decode cX12_slid 32 = .ok (.iload 4, 2) := by decide +kernel
theorem dX12_slid_34 : decode cX12_slid 34 = .ok (.bipush 32, 2) := by decide +kernel
theorem dX12_slid_36 : decode cX12_slid 36 = .ok (.bipush 63, 2) := by decide +kernel
theorem dX12_slid_38 : decode cX12_slid 38 = .ok (.invokevirtual 144, 3) := by decide +kernel
theorem dX12_slid_41 : decode cX12_slid 41 = .ok (.ifCond .eq 16, 3) := by decide +kernel
theorem dX12_slid_44 : decode cX12_slid 44 = .ok (.aload_n 0, 1) := by decide +kernel
theorem dX12_slid_45 : decode cX12_slid 45 = .ok (.iload_n 1, 1) := by decide +kernel
theorem dX12_slid_46 : decode cX12_slid 46 = .ok (.iload_n 2, 1) := by decide +kernel
theorem dX12_slid_47 : decode cX12_slid 47 = .ok (.iload_n 3, 1) := by decide +kernel
theorem dX12_slid_48 : decode cX12_slid 48 = .ok (.iload 4, 2) := by decide +kernel
theorem dX12_slid_50 : decode cX12_slid 50 = .ok (.bipush 32, 2) := by decide +kernel
theorem dX12_slid_52 : decode cX12_slid 52 = .ok (.isub, 1) := by decide +kernel
theorem dX12_slid_53 : decode cX12_slid 53 = .ok (.invokevirtual 302, 3) := by decide +kernel
theorem dX12_slid_56 : decode cX12_slid 56 = .ok (.ireturn, 1) := by decide +kernel
theorem dX12_slid_57 : decode cX12_slid 57 = .ok (.aload_n 0, 1) := by decide +kernel
theorem dX12_slid_58 : decode cX12_slid 58 = .ok (.iload 4, 2) := by decide +kernel
theorem dX12_slid_60 : decode cX12_slid 60 = .ok (.iconst 0, 1) := by decide +kernel
theorem dX12_slid_61 : decode cX12_slid 61 = .ok (.iconst 4, 1) := by decide +kernel
theorem dX12_slid_62 : decode cX12_slid 62 = .ok (.invokevirtual 144, 3) := by decide +kernel
theorem dX12_slid_65 : decode cX12_slid 65 = .ok (.ifCond .ne 5, 3) := by decide +kernel
theorem dX12_slid_68 : decode cX12_slid 68 = .ok (.iconst (-1), 1) := by decide +kernel
theorem dX12_slid_69 : decode cX12_slid 69 = .ok (.ireturn, 1) := by decide +kernel
theorem dX12_slid_70 : decode cX12_slid 70 = .ok (.iload 4, 2) := by decide +kernel
theorem dX12_slid_72 : decode cX12_slid 72 = .ok (.iconst 3, 1) := by decide +kernel
theorem dX12_slid_73 : decode cX12_slid 73 = .ok (.if_icmp .ne 11, 3) := by decide +kernel
theorem dX12_slid_76 : decode cX12_slid 76 = .ok (.aload_n 0, 1) := by decide +kernel
theorem dX12_slid_77 : decode cX12_slid 77 = .ok (.iload_n 1, 1) := by decide +kernel
theorem dX12_slid_78 : decode cX12_slid 78 = .ok (.iload_n 2, 1) := by decide +kernel
theorem dX12_slid_79 : decode cX12_slid 79 = .ok (.iload_n 3, 1) := by decide +kernel
theorem dX12_slid_80 : decode cX12_slid 80 = .ok (.invokevirtual 312, 3) := by decide +kernel
theorem dX12_slid_83 : decode cX12_slid 83 = .ok (.ireturn, 1) := by decide +kernel
theorem dX12_slid_84 : decode cX12_slid 84 = .ok (.iload 4, 2) := by decide +kernel
theorem dX12_slid_86 : decode cX12_slid 86 = .ok (.iconst 4, 1) := by decide +kernel
theorem dX12_slid_87 : decode cX12_slid 87 = .ok (.if_icmp .ne 10, 3) := by decide +kernel
theorem dX12_slid_90 : decode cX12_slid 90 = .ok (.aload_n 0, 1) := by decide +kernel
theorem dX12_slid_91 : decode cX12_slid 91 = .ok (.iload_n 2, 1) := by decide +kernel
theorem dX12_slid_92 : decode cX12_slid 92 = .ok (.iload_n 3, 1) := by decide +kernel
theorem dX12_slid_93 : decode cX12_slid 93 = .ok (.invokevirtual 315, 3) := by decide +kernel
theorem dX12_slid_96 : decode cX12_slid 96 = .ok (.ireturn, 1) := by decide +kernel
theorem dX12_slid_97 : decode cX12_slid 97 = .ok (.aload_n 0, 1) := by decide +kernel
theorem dX12_slid_98 : decode cX12_slid 98 = .ok (.iload_n 1, 1) := by decide +kernel
theorem dX12_slid_99 : decode cX12_slid 99 = .ok (.iload_n 2, 1) := by decide +kernel
theorem dX12_slid_100 : decode cX12_slid 100 = .ok (.iload_n 3, 1) := by decide +kernel
theorem dX12_slid_101 : decode cX12_slid 101 = .ok (.invokevirtual 318, 3) := by decide +kernel
theorem dX12_slid_104 : decode cX12_slid 104 = .ok (.istore 5, 2) := by decide +kernel
theorem dX12_slid_106 : decode cX12_slid 106 = .ok (.iload 4, 2) := by decide +kernel
theorem dX12_slid_108 : decode cX12_slid 108 = .ok (.ifCond .ne 15, 3) := by decide +kernel
theorem dX12_slid_111 : decode cX12_slid 111 = .ok (.aload_n 0, 1) := by decide +kernel
theorem dX12_slid_112 : decode cX12_slid 112 = .ok (.iload_n 1, 1) := by decide +kernel
theorem dX12_slid_113 : decode cX12_slid 113 = .ok (.iload_n 2, 1) := by decide +kernel
theorem dX12_slid_114 : decode cX12_slid 114 = .ok (.iload_n 3, 1) := by decide +kernel
theorem dX12_slid_115 : decode cX12_slid 115 = .ok (.iload 5, 2) := by decide +kernel
theorem dX12_slid_117 : decode cX12_slid 117 = .ok (.invokevirtual 302, 3) := by decide +kernel
theorem dX12_slid_120 : decode cX12_slid 120 = .ok (.goto 23, 3) := by decide +kernel
theorem dX12_slid_123 : decode cX12_slid 123 = .ok (.iload 4, 2) := by decide +kernel
theorem dX12_slid_125 : decode cX12_slid 125 = .ok (.iconst 1, 1) := by decide +kernel
theorem dX12_slid_126 : decode cX12_slid 126 = .ok (.if_icmp .ne 8, 3) := by decide +kernel
theorem dX12_slid_129 : decode cX12_slid 129 = .ok (.iload 5, 2) := by decide +kernel
theorem dX12_slid_131 : decode cX12_slid 131 = .ok (.goto 12, 3) := by decide +kernel
theorem dX12_slid_134 : decode cX12_slid 134 = .ok (.aload_n 0, 1) := by decide +kernel
theorem dX12_slid_135 : decode cX12_slid 135 = .ok (.iload_n 1, 1) := by decide +kernel
theorem dX12_slid_136 : decode cX12_slid 136 = .ok (.iload_n 2, 1) := by decide +kernel
theorem dX12_slid_137 : decode cX12_slid 137 = .ok (.iload_n 3, 1) := by decide +kernel
theorem dX12_slid_138 : decode cX12_slid 138 = .ok (.iload 5, 2) := by decide +kernel
theorem dX12_slid_140 : decode cX12_slid 140 = .ok (.invokevirtual 321, 3) := by decide +kernel
theorem dX12_slid_143 : decode cX12_slid 143 = .ok (.ireturn, 1) := by decide +kernel
theorem dX12_forgets_0 : decode cX12_forgets 0 = .ok (.aload_n 0, 1) := by decide +kernel
theorem dX12_forgets_1 : decode cX12_forgets 1 = .ok (.getfield 101, 3) := by decide +kernel
theorem dX12_forgets_4 : decode cX12_forgets 4 = .ok (.aload_n 0, 1) := by decide +kernel
theorem dX12_forgets_5 : decode cX12_forgets 5 = .ok (.getfield 165, 3) := by decide +kernel
theorem dX12_forgets_8 : decode cX12_forgets 8 = .ok (.if_icmp .ne 4, 3) := by decide +kernel
theorem dX12_forgets_11 : decode cX12_forgets 11 = .ok (.return_, 1) := by decide +kernel
theorem dX12_forgets_12 : decode cX12_forgets 12 = .ok (.aload_n 0, 1) := by decide +kernel
theorem dX12_forgets_13 : decode cX12_forgets 13 = .ok (.aload_n 0, 1) := by decide +kernel
theorem dX12_forgets_14 : decode cX12_forgets 14 = .ok (.getfield 165, 3) := by decide +kernel
theorem dX12_forgets_17 : decode cX12_forgets 17 = .ok (.putfield 101, 3) := by decide +kernel
theorem dX12_forgets_20 : decode cX12_forgets 20 = .ok (.iconst 0, 1) := by decide +kernel
theorem dX12_forgets_21 : decode cX12_forgets 21 = .ok (.istore_n 1, 1) := by decide +kernel
theorem dX12_forgets_22 : decode cX12_forgets 22 = .ok (.iload_n 1, 1) := by decide +kernel
theorem dX12_forgets_23 : decode cX12_forgets 23 = .ok (.sipush 19200, 3) := by decide +kernel
theorem dX12_forgets_26 : decode cX12_forgets 26 = .ok (.if_icmp .ge 16, 3) := by decide +kernel
theorem dX12_forgets_29 : decode cX12_forgets 29 = .ok (.aload_n 0, 1) := by decide +kernel
theorem dX12_forgets_30 : decode cX12_forgets 30 = .ok (.getfield 104, 3) := by decide +kernel
theorem dX12_forgets_33 : decode cX12_forgets 33 = .ok (.iload_n 1, 1) := by decide +kernel
theorem dX12_forgets_34 : decode cX12_forgets 34 = .ok (.iconst 0, 1) := by decide +kernel
theorem dX12_forgets_35 : decode cX12_forgets 35 = .ok (.iastore, 1) := by decide +kernel
theorem dX12_forgets_36 : decode cX12_forgets 36 = .ok (.iinc 1 1, 3) := by decide +kernel
theorem dX12_forgets_39 : decode cX12_forgets 39 = .ok (.goto (-17), 3) := by decide +kernel
theorem dX12_forgets_42 : decode cX12_forgets 42 = .ok (.iconst 0, 1) := by decide +kernel
theorem dX12_forgets_43 : decode cX12_forgets 43 = .ok (.istore_n 1, 1) := by decide +kernel
theorem dX12_forgets_44 : decode cX12_forgets 44 = .ok (.iload_n 1, 1) := by decide +kernel
theorem dX12_forgets_45 : decode cX12_forgets 45 = .ok (.sipush 9600, 3) := by decide +kernel
theorem dX12_forgets_48 : decode cX12_forgets 48 = .ok (.if_icmp .ge 16, 3) := by decide +kernel
theorem dX12_forgets_51 : decode cX12_forgets 51 = .ok (.aload_n 0, 1) := by decide +kernel
theorem dX12_forgets_52 : decode cX12_forgets 52 = .ok (.getfield 107, 3) := by decide +kernel
theorem dX12_forgets_55 : decode cX12_forgets 55 = .ok (.iload_n 1, 1) := by decide +kernel
theorem dX12_forgets_56 : decode cX12_forgets 56 = .ok (.iconst 0, 1) := by decide +kernel
theorem dX12_forgets_57 : decode cX12_forgets 57 = .ok (.iastore, 1) := by decide +kernel
theorem dX12_forgets_58 : decode cX12_forgets 58 = .ok (.iinc 1 1, 3) := by decide +kernel
theorem dX12_forgets_61 : decode cX12_forgets 61 = .ok (.goto (-17), 3) := by decide +kernel
theorem dX12_forgets_64 : decode cX12_forgets 64 = .ok (.return_, 1) := by decide +kernel
theorem dX12_longest_0 : decode cX12_longest 0 = .ok (.aload_n 0, 1) := by decide +kernel
theorem dX12_longest_1 : decode cX12_longest 1 = .ok (.invokevirtual 324, 3) := by decide +kernel
theorem dX12_longest_4 : decode cX12_longest 4 = .ok (.sipush 1600, 3) := by decide +kernel
theorem dX12_longest_7 : decode cX12_longest 7 = .ok (.iload_n 1, 1) := by decide +kernel
theorem dX12_longest_8 : decode cX12_longest 8 = .ok (.imul, 1) := by decide +kernel
theorem dX12_longest_9 : decode cX12_longest 9 = .ok (.bipush 40, 2) := by decide +kernel
theorem dX12_longest_11 : decode cX12_longest 11 = .ok (.iload_n 2, 1) := by decide +kernel
theorem dX12_longest_12 : decode cX12_longest 12 = .ok (.imul, 1) := by decide +kernel
theorem dX12_longest_13 : decode cX12_longest 13 = .ok (.iadd, 1) := by decide +kernel
theorem dX12_longest_14 : decode cX12_longest 14 = .ok (.iload_n 3, 1) := by decide +kernel
theorem dX12_longest_15 : decode cX12_longest 15 = .ok (.iadd, 1) := by decide +kernel
theorem dX12_longest_16 : decode cX12_longest 16 = .ok (.istore 4, 2) := by decide +kernel
theorem dX12_longest_18 : decode cX12_longest 18 = .ok (.aload_n 0, 1) := by decide +kernel
theorem dX12_longest_19 : decode cX12_longest 19 = .ok (.getfield 107, 3) := by decide +kernel
theorem dX12_longest_22 : decode cX12_longest 22 = .ok (.iload 4, 2) := by decide +kernel
theorem dX12_longest_24 : decode cX12_longest 24 = .ok (.iaload, 1) := by decide +kernel
theorem dX12_longest_25 : decode cX12_longest 25 = .ok (.ifCond .ne 26, 3) := by decide +kernel
theorem dX12_longest_28 : decode cX12_longest 28 = .ok (.aload_n 0, 1) := by decide +kernel
theorem dX12_longest_29 : decode cX12_longest 29 = .ok (.getfield 107, 3) := by decide +kernel
theorem dX12_longest_32 : decode cX12_longest 32 = .ok (.iload 4, 2) := by decide +kernel
theorem dX12_longest_34 : decode cX12_longest 34 = .ok (.iconst 1, 1) := by decide +kernel
theorem dX12_longest_35 : decode cX12_longest 35 = .ok (.aload_n 0, 1) := by decide +kernel
theorem dX12_longest_36 : decode cX12_longest 36 = .ok (.iload_n 1, 1) := by decide +kernel
theorem dX12_longest_37 : decode cX12_longest 37 = .ok (.iload_n 2, 1) := by decide +kernel
theorem dX12_longest_38 : decode cX12_longest 38 = .ok (.iload_n 3, 1) := by decide +kernel
theorem dX12_longest_39 : decode cX12_longest 39 = .ok (.aload_n 0, 1) := by decide +kernel
theorem dX12_longest_40 : decode cX12_longest 40 = .ok (.iload_n 1, 1) := by decide +kernel
theorem dX12_longest_41 : decode cX12_longest 41 = .ok (.iload_n 2, 1) := by decide +kernel
theorem dX12_longest_42 : decode cX12_longest 42 = .ok (.iload_n 3, 1) := by decide +kernel
theorem dX12_longest_43 : decode cX12_longest 43 = .ok (.invokevirtual 318, 3) := by decide +kernel
theorem dX12_longest_46 : decode cX12_longest 46 = .ok (.invokevirtual 321, 3) := by decide +kernel
theorem dX12_longest_49 : decode cX12_longest 49 = .ok (.iadd, 1) := by decide +kernel
theorem dX12_longest_50 : decode cX12_longest 50 = .ok (.iastore, 1) := by decide +kernel
theorem dX12_longest_51 : decode cX12_longest 51 = .ok (.aload_n 0, 1) := by decide +kernel
theorem dX12_longest_52 : decode cX12_longest 52 = .ok (.getfield 107, 3) := by decide +kernel
theorem dX12_longest_55 : decode cX12_longest 55 = .ok (.iload 4, 2) := by decide +kernel
theorem dX12_longest_57 : decode cX12_longest 57 = .ok (.iaload, 1) := by decide +kernel
theorem dX12_longest_58 : decode cX12_longest 58 = .ok (.iconst 1, 1) := by decide +kernel
theorem dX12_longest_59 : decode cX12_longest 59 = .ok (.isub, 1) := by decide +kernel
theorem dX12_longest_60 : decode cX12_longest 60 = .ok (.ireturn, 1) := by decide +kernel
theorem dX12_judges_0 : decode cX12_judges 0 = .ok (.aload_n 0, 1) := by decide +kernel
theorem dX12_judges_1 : decode cX12_judges 1 = .ok (.iload_n 1, 1) := by decide +kernel
theorem dX12_judges_2 : decode cX12_judges 2 = .ok (.iload_n 2, 1) := by decide +kernel
theorem dX12_judges_3 : decode cX12_judges 3 = .ok (.iload_n 3, 1) := by decide +kernel
theorem dX12_judges_4 : decode cX12_judges 4 = .ok (.invokevirtual 318, 3) := by decide +kernel
theorem dX12_judges_7 : decode cX12_judges 7 = .ok (.istore 5, 2) := by decide +kernel
theorem dX12_judges_9 : decode cX12_judges 9 = .ok (.aload_n 0, 1) := by decide +kernel
theorem dX12_judges_10 : decode cX12_judges 10 = .ok (.getfield 83, 3) := by decide +kernel
theorem dX12_judges_13 : decode cX12_judges 13 = .ok (.bipush 8, 2) := by decide +kernel
theorem dX12_judges_15 : decode cX12_judges 15 = .ok (.aload_n 0, 1) := by decide +kernel
theorem dX12_judges_16 : decode cX12_judges 16 = .ok (.iload_n 1, 1) := by decide +kernel
theorem dX12_judges_17 : decode cX12_judges 17 = .ok (.iload_n 2, 1) := by decide +kernel
theorem dX12_judges_18 : decode cX12_judges 18 = .ok (.iload_n 3, 1) := by decide +kernel
theorem dX12_judges_19 : decode cX12_judges 19 = .ok (.iload 5, 2) := by decide +kernel
theorem dX12_judges_21 : decode cX12_judges 21 = .ok (.invokevirtual 302, 3) := by decide +kernel
theorem dX12_judges_24 : decode cX12_judges 24 = .ok (.iastore, 1) := by decide +kernel
theorem dX12_judges_25 : decode cX12_judges 25 = .ok (.aload_n 0, 1) := by decide +kernel
theorem dX12_judges_26 : decode cX12_judges 26 = .ok (.getfield 83, 3) := by decide +kernel
theorem dX12_judges_29 : decode cX12_judges 29 = .ok (.bipush 9, 2) := by decide +kernel
theorem dX12_judges_31 : decode cX12_judges 31 = .ok (.aload_n 0, 1) := by decide +kernel
theorem dX12_judges_32 : decode cX12_judges 32 = .ok (.iload_n 1, 1) := by decide +kernel
theorem dX12_judges_33 : decode cX12_judges 33 = .ok (.iload_n 2, 1) := by decide +kernel
theorem dX12_judges_34 : decode cX12_judges 34 = .ok (.iload_n 3, 1) := by decide +kernel
theorem dX12_judges_35 : decode cX12_judges 35 = .ok (.iload 5, 2) := by decide +kernel
theorem dX12_judges_37 : decode cX12_judges 37 = .ok (.invokevirtual 321, 3) := by decide +kernel
theorem dX12_judges_40 : decode cX12_judges 40 = .ok (.iastore, 1) := by decide +kernel
theorem dX12_judges_41 : decode cX12_judges 41 = .ok (.aload_n 0, 1) := by decide +kernel
theorem dX12_judges_42 : decode cX12_judges 42 = .ok (.getfield 83, 3) := by decide +kernel
theorem dX12_judges_45 : decode cX12_judges 45 = .ok (.bipush 10, 2) := by decide +kernel
theorem dX12_judges_47 : decode cX12_judges 47 = .ok (.iload 5, 2) := by decide +kernel
theorem dX12_judges_49 : decode cX12_judges 49 = .ok (.iastore, 1) := by decide +kernel
theorem dX12_judges_50 : decode cX12_judges 50 = .ok (.aload_n 0, 1) := by decide +kernel
theorem dX12_judges_51 : decode cX12_judges 51 = .ok (.getfield 83, 3) := by decide +kernel
theorem dX12_judges_54 : decode cX12_judges 54 = .ok (.bipush 11, 2) := by decide +kernel
theorem dX12_judges_56 : decode cX12_judges 56 = .ok (.aload_n 0, 1) := by decide +kernel
theorem dX12_judges_57 : decode cX12_judges 57 = .ok (.iload_n 1, 1) := by decide +kernel
theorem dX12_judges_58 : decode cX12_judges 58 = .ok (.iload_n 2, 1) := by decide +kernel
theorem dX12_judges_59 : decode cX12_judges 59 = .ok (.iload_n 3, 1) := by decide +kernel
theorem dX12_judges_60 : decode cX12_judges 60 = .ok (.invokevirtual 312, 3) := by decide +kernel
theorem dX12_judges_63 : decode cX12_judges 63 = .ok (.iastore, 1) := by decide +kernel
theorem dX12_judges_64 : decode cX12_judges 64 = .ok (.aload_n 0, 1) := by decide +kernel
theorem dX12_judges_65 : decode cX12_judges 65 = .ok (.getfield 83, 3) := by decide +kernel
theorem dX12_judges_68 : decode cX12_judges 68 = .ok (.bipush 12, 2) := by decide +kernel
theorem dX12_judges_70 : decode cX12_judges 70 = .ok (.aload_n 0, 1) := by decide +kernel
theorem dX12_judges_71 : decode cX12_judges 71 = .ok (.iload_n 2, 1) := by decide +kernel
theorem dX12_judges_72 : decode cX12_judges 72 = .ok (.iload_n 3, 1) := by decide +kernel
theorem dX12_judges_73 : decode cX12_judges 73 = .ok (.invokevirtual 315, 3) := by decide +kernel
theorem dX12_judges_76 : decode cX12_judges 76 = .ok (.iastore, 1) := by decide +kernel
theorem dX12_judges_77 : decode cX12_judges 77 = .ok (.aload_n 0, 1) := by decide +kernel
theorem dX12_judges_78 : decode cX12_judges 78 = .ok (.getfield 83, 3) := by decide +kernel
theorem dX12_judges_81 : decode cX12_judges 81 = .ok (.bipush 13, 2) := by decide +kernel
theorem dX12_judges_83 : decode cX12_judges 83 = .ok (.iload 4, 2) := by decide +kernel
theorem dX12_judges_85 : decode cX12_judges 85 = .ok (.iastore, 1) := by decide +kernel
theorem dX12_judges_86 : decode cX12_judges 86 = .ok (.iconst 1, 1) := by decide +kernel
theorem dX12_judges_87 : decode cX12_judges 87 = .ok (.iload_n 1, 1) := by decide +kernel
theorem dX12_judges_88 : decode cX12_judges 88 = .ok (.iadd, 1) := by decide +kernel
theorem dX12_judges_89 : decode cX12_judges 89 = .ok (.istore 6, 2) := by decide +kernel
theorem dX12_judges_91 : decode cX12_judges 91 = .ok (.bipush 16, 2) := by decide +kernel
theorem dX12_judges_93 : decode cX12_judges 93 = .ok (.iload 6, 2) := by decide +kernel
theorem dX12_judges_95 : decode cX12_judges 95 = .ok (.imul, 1) := by decide +kernel
theorem dX12_judges_96 : decode cX12_judges 96 = .ok (.istore 7, 2) := by decide +kernel
theorem dX12_judges_98 : decode cX12_judges 98 = .ok (.iload 7, 2) := by decide +kernel
theorem dX12_judges_100 : decode cX12_judges 100 = .ok (.bipush 16, 2) := by decide +kernel
theorem dX12_judges_102 : decode cX12_judges 102 = .ok (.iload 6, 2) := by decide +kernel
theorem dX12_judges_104 : decode cX12_judges 104 = .ok (.imul, 1) := by decide +kernel
theorem dX12_judges_105 : decode cX12_judges 105 = .ok (.aload_n 0, 1) := by decide +kernel
theorem dX12_judges_106 : decode cX12_judges 106 = .ok (.getfield 55, 3) := by decide +kernel
theorem dX12_judges_109 : decode cX12_judges 109 = .ok (.iload 6, 2) := by decide +kernel
theorem dX12_judges_111 : decode cX12_judges 111 = .ok (.iaload, 1) := by decide +kernel
theorem dX12_judges_112 : decode cX12_judges 112 = .ok (.iadd, 1) := by decide +kernel
theorem dX12_judges_113 : decode cX12_judges 113 = .ok (.if_icmp .ge 49, 3) := by decide +kernel
theorem dX12_judges_116 : decode cX12_judges 116 = .ok (.aload_n 0, 1) := by decide +kernel
theorem dX12_judges_117 : decode cX12_judges 117 = .ok (.iload 6, 2) := by decide +kernel
theorem dX12_judges_119 : decode cX12_judges 119 = .ok (.aload_n 0, 1) := by decide +kernel
theorem dX12_judges_120 : decode cX12_judges 120 = .ok (.getfield 64, 3) := by decide +kernel
theorem dX12_judges_123 : decode cX12_judges 123 = .ok (.iload 7, 2) := by decide +kernel
theorem dX12_judges_125 : decode cX12_judges 125 = .ok (.iaload, 1) := by decide +kernel
theorem dX12_judges_126 : decode cX12_judges 126 = .ok (.aload_n 0, 1) := by decide +kernel
theorem dX12_judges_127 : decode cX12_judges 127 = .ok (.getfield 67, 3) := by decide +kernel
theorem dX12_judges_130 : decode cX12_judges 130 = .ok (.iload 7, 2) := by decide +kernel
theorem dX12_judges_132 : decode cX12_judges 132 = .ok (.iaload, 1) := by decide +kernel
theorem dX12_judges_133 : decode cX12_judges 133 = .ok (.invokevirtual 290, 3) := by decide +kernel
theorem dX12_judges_136 : decode cX12_judges 136 = .ok (.ifCond .eq 20, 3) := by decide +kernel
theorem dX12_judges_139 : decode cX12_judges 139 = .ok (.aload_n 0, 1) := by decide +kernel
theorem dX12_judges_140 : decode cX12_judges 140 = .ok (.getfield 58, 3) := by decide +kernel
theorem dX12_judges_143 : decode cX12_judges 143 = .ok (.iload 7, 2) := by decide +kernel
theorem dX12_judges_145 : decode cX12_judges 145 = .ok (.iaload, 1) := by decide +kernel
theorem dX12_judges_146 : decode cX12_judges 146 = .ok (.iconst 3, 1) := by decide +kernel
theorem dX12_judges_147 : decode cX12_judges 147 = .ok (.if_icmp .ne 7, 3) := by decide +kernel
theorem dX12_judges_150 : decode cX12_judges 150 = .ok (.iconst 1, 1) := by decide +kernel
theorem dX12_judges_151 : decode cX12_judges 151 = .ok (.goto 4, 3) := by decide +kernel
theorem dX12_judges_154 : decode cX12_judges 154 = .ok (.iconst 0, 1) := by decide +kernel
theorem dX12_judges_155 : decode cX12_judges 155 = .ok (.ireturn, 1) := by decide +kernel
theorem dX12_judges_156 : decode cX12_judges 156 = .ok (.iinc 7 1, 3) := by decide +kernel
theorem dX12_judges_159 : decode cX12_judges 159 = .ok (.goto (-61), 3) := by decide +kernel
theorem dX12_judges_162 : decode cX12_judges 162 = .ok (.iconst 2, 1) := by decide +kernel
theorem dX12_judges_163 : decode cX12_judges 163 = .ok (.ireturn, 1) := by decide +kernel
theorem dX12_saysOf_0 : decode cX12_saysOf 0 = .ok (.aload_n 0, 1) := by decide +kernel
theorem dX12_saysOf_1 : decode cX12_saysOf 1 = .ok (.invokevirtual 324, 3) := by decide +kernel
theorem dX12_saysOf_4 : decode cX12_saysOf 4 = .ok (.sipush 9600, 3) := by decide +kernel
theorem dX12_saysOf_7 : decode cX12_saysOf 7 = .ok (.iload 4, 2) := by decide +kernel
theorem dX12_saysOf_9 : decode cX12_saysOf 9 = .ok (.imul, 1) := by decide +kernel
theorem dX12_saysOf_10 : decode cX12_saysOf 10 = .ok (.sipush 1600, 3) := by decide +kernel
theorem dX12_saysOf_13 : decode cX12_saysOf 13 = .ok (.iload_n 1, 1) := by decide +kernel
theorem dX12_saysOf_14 : decode cX12_saysOf 14 = .ok (.imul, 1) := by decide +kernel
theorem dX12_saysOf_15 : decode cX12_saysOf 15 = .ok (.iadd, 1) := by decide +kernel
theorem dX12_saysOf_16 : decode cX12_saysOf 16 = .ok (.bipush 40, 2) := by decide +kernel
theorem dX12_saysOf_18 : decode cX12_saysOf 18 = .ok (.iload_n 2, 1) := by decide +kernel
theorem dX12_saysOf_19 : decode cX12_saysOf 19 = .ok (.imul, 1) := by decide +kernel
theorem dX12_saysOf_20 : decode cX12_saysOf 20 = .ok (.iadd, 1) := by decide +kernel
theorem dX12_saysOf_21 : decode cX12_saysOf 21 = .ok (.iload_n 3, 1) := by decide +kernel
theorem dX12_saysOf_22 : decode cX12_saysOf 22 = .ok (.iadd, 1) := by decide +kernel
theorem dX12_saysOf_23 : decode cX12_saysOf 23 = .ok (.istore 5, 2) := by decide +kernel
theorem dX12_saysOf_25 : decode cX12_saysOf 25 = .ok (.aload_n 0, 1) := by decide +kernel
theorem dX12_saysOf_26 : decode cX12_saysOf 26 = .ok (.getfield 104, 3) := by decide +kernel
theorem dX12_saysOf_29 : decode cX12_saysOf 29 = .ok (.iload 5, 2) := by decide +kernel
theorem dX12_saysOf_31 : decode cX12_saysOf 31 = .ok (.iaload, 1) := by decide +kernel
theorem dX12_saysOf_32 : decode cX12_saysOf 32 = .ok (.ifCond .ne 21, 3) := by decide +kernel
theorem dX12_saysOf_35 : decode cX12_saysOf 35 = .ok (.aload_n 0, 1) := by decide +kernel
theorem dX12_saysOf_36 : decode cX12_saysOf 36 = .ok (.getfield 104, 3) := by decide +kernel
theorem dX12_saysOf_39 : decode cX12_saysOf 39 = .ok (.iload 5, 2) := by decide +kernel
theorem dX12_saysOf_41 : decode cX12_saysOf 41 = .ok (.iconst 1, 1) := by decide +kernel
theorem dX12_saysOf_42 : decode cX12_saysOf 42 = .ok (.aload_n 0, 1) := by decide +kernel
theorem dX12_saysOf_43 : decode cX12_saysOf 43 = .ok (.iload_n 1, 1) := by decide +kernel
theorem dX12_saysOf_44 : decode cX12_saysOf 44 = .ok (.iload_n 2, 1) := by decide +kernel
theorem dX12_saysOf_45 : decode cX12_saysOf 45 = .ok (.iload_n 3, 1) := by decide +kernel
theorem dX12_saysOf_46 : decode cX12_saysOf 46 = .ok (.iload 4, 2) := by decide +kernel
theorem dX12_saysOf_48 : decode cX12_saysOf 48 = .ok (.invokevirtual 327, 3) := by decide +kernel
theorem dX12_saysOf_51 : decode cX12_saysOf 51 = .ok (.iadd, 1) := by decide +kernel
theorem dX12_saysOf_52 : decode cX12_saysOf 52 = .ok (.iastore, 1) := by decide +kernel
theorem dX12_saysOf_53 : decode cX12_saysOf 53 = .ok (.aload_n 0, 1) := by decide +kernel
theorem dX12_saysOf_54 : decode cX12_saysOf 54 = .ok (.getfield 104, 3) := by decide +kernel
theorem dX12_saysOf_57 : decode cX12_saysOf 57 = .ok (.iload 5, 2) := by decide +kernel
theorem dX12_saysOf_59 : decode cX12_saysOf 59 = .ok (.iaload, 1) := by decide +kernel
theorem dX12_saysOf_60 : decode cX12_saysOf 60 = .ok (.iconst 1, 1) := by decide +kernel
theorem dX12_saysOf_61 : decode cX12_saysOf 61 = .ok (.isub, 1) := by decide +kernel
theorem dX12_saysOf_62 : decode cX12_saysOf 62 = .ok (.ireturn, 1) := by decide +kernel
theorem dX12_says_0 : decode cX12_says 0 = .ok (.aload_n 0, 1) := by decide +kernel
theorem dX12_says_1 : decode cX12_says 1 = .ok (.iconst 0, 1) := by decide +kernel
theorem dX12_says_2 : decode cX12_says 2 = .ok (.putfield 132, 3) := by decide +kernel
theorem dX12_says_5 : decode cX12_says 5 = .ok (.aload_n 0, 1) := by decide +kernel
theorem dX12_says_6 : decode cX12_says 6 = .ok (.iload_n 1, 1) := by decide +kernel
theorem dX12_says_7 : decode cX12_says 7 = .ok (.invokevirtual 309, 3) := by decide +kernel
theorem dX12_says_10 : decode cX12_says 10 = .ok (.ifCond .eq 39, 3) := by decide +kernel
theorem dX12_says_13 : decode cX12_says 13 = .ok (.aload_n 0, 1) := by decide +kernel
theorem dX12_says_14 : decode cX12_says 14 = .ok (.iload_n 2, 1) := by decide +kernel
theorem dX12_says_15 : decode cX12_says 15 = .ok (.invokevirtual 168, 3) := by decide +kernel
theorem dX12_says_18 : decode cX12_says 18 = .ok (.ifCond .eq 31, 3) := by decide +kernel
theorem dX12_says_21 : decode cX12_says 21 = .ok (.aload_n 0, 1) := by decide +kernel
theorem dX12_says_22 : decode cX12_says 22 = .ok (.iload_n 3, 1) := by decide +kernel
theorem dX12_says_23 : decode cX12_says 23 = .ok (.invokevirtual 168, 3) := by decide +kernel
theorem dX12_says_26 : decode cX12_says 26 = .ok (.ifCond .eq 23, 3) := by decide +kernel
theorem dX12_says_29 : decode cX12_says 29 = .ok (.aload_n 0, 1) := by decide +kernel
theorem dX12_says_30 : decode cX12_says 30 = .ok (.iload_n 1, 1) := by decide +kernel
theorem dX12_says_31 : decode cX12_says 31 = .ok (.iload_n 2, 1) := by decide +kernel
theorem dX12_says_32 : decode cX12_says 32 = .ok (.iload_n 3, 1) := by decide +kernel
theorem dX12_says_33 : decode cX12_says 33 = .ok (.iload 4, 2) := by decide +kernel
theorem dX12_says_35 : decode cX12_says 35 = .ok (.ifCond .eq 7, 3) := by decide +kernel
theorem dX12_says_38 : decode cX12_says 38 = .ok (.iconst 1, 1) := by decide +kernel
theorem dX12_says_39 : decode cX12_says 39 = .ok (.goto 4, 3) := by decide +kernel
theorem dX12_says_42 : decode cX12_says 42 = .ok (.iconst 0, 1) := by decide +kernel
theorem dX12_says_43 : decode cX12_says 43 = .ok (.invokevirtual 330, 3) := by decide +kernel
theorem dX12_says_46 : decode cX12_says 46 = .ok (.goto 4, 3) := by decide +kernel
theorem dX12_says_49 : decode cX12_says 49 = .ok (.iconst (-1), 1) := by decide +kernel
theorem dX12_says_50 : decode cX12_says 50 = .ok (.ireturn, 1) := by decide +kernel
theorem dX12_isShot_0 : decode cX12_isShot 0 = .ok (.aload_n 0, 1) := by decide +kernel
theorem dX12_isShot_1 : decode cX12_isShot 1 = .ok (.getfield 40, 3) := by decide +kernel
theorem dX12_isShot_4 : decode cX12_isShot 4 = .ok (.iload_n 1, 1) := by decide +kernel
theorem dX12_isShot_5 : decode cX12_isShot 5 = .ok (.iaload, 1) := by decide +kernel
theorem dX12_isShot_6 : decode cX12_isShot 6 = .ok (.iconst (-1), 1) := by decide +kernel
theorem dX12_isShot_7 : decode cX12_isShot 7 = .ok (.if_icmp .eq 7, 3) := by decide +kernel
theorem dX12_isShot_10 : decode cX12_isShot 10 = .ok (.iconst 1, 1) := by decide +kernel
theorem dX12_isShot_11 : decode cX12_isShot 11 = .ok (.goto 4, 3) := by decide +kernel
theorem dX12_isShot_14 : decode cX12_isShot 14 = .ok (.iconst 0, 1) := by decide +kernel
theorem dX12_isShot_15 : decode cX12_isShot 15 = .ok (.ireturn, 1) := by decide +kernel
theorem dX12_truthOf_0 : decode cX12_truthOf 0 = .ok (.aload_n 0, 1) := by decide +kernel
theorem dX12_truthOf_1 : decode cX12_truthOf 1 = .ok (.getfield 40, 3) := by decide +kernel
theorem dX12_truthOf_4 : decode cX12_truthOf 4 = .ok (.iload_n 1, 1) := by decide +kernel
theorem dX12_truthOf_5 : decode cX12_truthOf 5 = .ok (.iaload, 1) := by decide +kernel
theorem dX12_truthOf_6 : decode cX12_truthOf 6 = .ok (.aload_n 0, 1) := by decide +kernel
theorem dX12_truthOf_7 : decode cX12_truthOf 7 = .ok (.getfield 40, 3) := by decide +kernel
theorem dX12_truthOf_10 : decode cX12_truthOf 10 = .ok (.iload_n 2, 1) := by decide +kernel
theorem dX12_truthOf_11 : decode cX12_truthOf 11 = .ok (.iaload, 1) := by decide +kernel
theorem dX12_truthOf_12 : decode cX12_truthOf 12 = .ok (.if_icmp .ne 5, 3) := by decide +kernel
theorem dX12_truthOf_15 : decode cX12_truthOf 15 = .ok (.iconst 0, 1) := by decide +kernel
theorem dX12_truthOf_16 : decode cX12_truthOf 16 = .ok (.ireturn, 1) := by decide +kernel
theorem dX12_truthOf_17 : decode cX12_truthOf 17 = .ok (.aload_n 0, 1) := by decide +kernel
theorem dX12_truthOf_18 : decode cX12_truthOf 18 = .ok (.getfield 25, 3) := by decide +kernel
theorem dX12_truthOf_21 : decode cX12_truthOf 21 = .ok (.aload_n 0, 1) := by decide +kernel
theorem dX12_truthOf_22 : decode cX12_truthOf 22 = .ok (.getfield 40, 3) := by decide +kernel
theorem dX12_truthOf_25 : decode cX12_truthOf 25 = .ok (.iload_n 1, 1) := by decide +kernel
theorem dX12_truthOf_26 : decode cX12_truthOf 26 = .ok (.iaload, 1) := by decide +kernel
theorem dX12_truthOf_27 : decode cX12_truthOf 27 = .ok (.iaload, 1) := by decide +kernel
theorem dX12_truthOf_28 : decode cX12_truthOf 28 = .ok (.aload_n 0, 1) := by decide +kernel
theorem dX12_truthOf_29 : decode cX12_truthOf 29 = .ok (.getfield 25, 3) := by decide +kernel
theorem dX12_truthOf_32 : decode cX12_truthOf 32 = .ok (.aload_n 0, 1) := by decide +kernel
theorem dX12_truthOf_33 : decode cX12_truthOf 33 = .ok (.getfield 40, 3) := by decide +kernel
theorem dX12_truthOf_36 : decode cX12_truthOf 36 = .ok (.iload_n 2, 1) := by decide +kernel
theorem dX12_truthOf_37 : decode cX12_truthOf 37 = .ok (.iaload, 1) := by decide +kernel
theorem dX12_truthOf_38 : decode cX12_truthOf 38 = .ok (.iaload, 1) := by decide +kernel
theorem dX12_truthOf_39 : decode cX12_truthOf 39 = .ok (.if_icmp .ne 7, 3) := by decide +kernel
theorem dX12_truthOf_42 : decode cX12_truthOf 42 = .ok (.iconst 1, 1) := by decide +kernel
theorem dX12_truthOf_43 : decode cX12_truthOf 43 = .ok (.goto 4, 3) := by decide +kernel
theorem dX12_truthOf_46 : decode cX12_truthOf 46 = .ok (.iconst 2, 1) := by decide +kernel
theorem dX12_truthOf_47 : decode cX12_truthOf 47 = .ok (.ireturn, 1) := by decide +kernel
theorem dX12_truth_0 : decode cX12_truth 0 = .ok (.aload_n 0, 1) := by decide +kernel
theorem dX12_truth_1 : decode cX12_truth 1 = .ok (.iconst 0, 1) := by decide +kernel
theorem dX12_truth_2 : decode cX12_truth 2 = .ok (.putfield 132, 3) := by decide +kernel
theorem dX12_truth_5 : decode cX12_truth 5 = .ok (.aload_n 0, 1) := by decide +kernel
theorem dX12_truth_6 : decode cX12_truth 6 = .ok (.iload_n 1, 1) := by decide +kernel
theorem dX12_truth_7 : decode cX12_truth 7 = .ok (.invokevirtual 168, 3) := by decide +kernel
theorem dX12_truth_10 : decode cX12_truth 10 = .ok (.ifCond .eq 41, 3) := by decide +kernel
theorem dX12_truth_13 : decode cX12_truth 13 = .ok (.aload_n 0, 1) := by decide +kernel
theorem dX12_truth_14 : decode cX12_truth 14 = .ok (.iload_n 2, 1) := by decide +kernel
theorem dX12_truth_15 : decode cX12_truth 15 = .ok (.invokevirtual 168, 3) := by decide +kernel
theorem dX12_truth_18 : decode cX12_truth 18 = .ok (.ifCond .eq 33, 3) := by decide +kernel
theorem dX12_truth_21 : decode cX12_truth 21 = .ok (.iload_n 1, 1) := by decide +kernel
theorem dX12_truth_22 : decode cX12_truth 22 = .ok (.iload_n 2, 1) := by decide +kernel
theorem dX12_truth_23 : decode cX12_truth 23 = .ok (.if_icmp .eq 28, 3) := by decide +kernel
theorem dX12_truth_26 : decode cX12_truth 26 = .ok (.aload_n 0, 1) := by decide +kernel
theorem dX12_truth_27 : decode cX12_truth 27 = .ok (.iload_n 1, 1) := by decide +kernel
theorem dX12_truth_28 : decode cX12_truth 28 = .ok (.invokevirtual 333, 3) := by decide +kernel
theorem dX12_truth_31 : decode cX12_truth 31 = .ok (.ifCond .eq 20, 3) := by decide +kernel
theorem dX12_truth_34 : decode cX12_truth 34 = .ok (.aload_n 0, 1) := by decide +kernel
theorem dX12_truth_35 : decode cX12_truth 35 = .ok (.iload_n 2, 1) := by decide +kernel
theorem dX12_truth_36 : decode cX12_truth 36 = .ok (.invokevirtual 333, 3) := by decide +kernel
theorem dX12_truth_39 : decode cX12_truth 39 = .ok (.ifCond .eq 12, 3) := by decide +kernel
theorem dX12_truth_42 : decode cX12_truth 42 = .ok (.aload_n 0, 1) := by decide +kernel
theorem dX12_truth_43 : decode cX12_truth 43 = .ok (.iload_n 1, 1) := by decide +kernel
theorem dX12_truth_44 : decode cX12_truth 44 = .ok (.iload_n 2, 1) := by decide +kernel
theorem dX12_truth_45 : decode cX12_truth 45 = .ok (.invokevirtual 336, 3) := by decide +kernel
theorem dX12_truth_48 : decode cX12_truth 48 = .ok (.goto 4, 3) := by decide +kernel
theorem dX12_truth_51 : decode cX12_truth 51 = .ok (.iconst (-1), 1) := by decide +kernel
theorem dX12_truth_52 : decode cX12_truth 52 = .ok (.ireturn, 1) := by decide +kernel
theorem dX12_odds_0 : decode cX12_odds 0 = .ok (.aload_n 0, 1) := by decide +kernel
theorem dX12_odds_1 : decode cX12_odds 1 = .ok (.iconst 0, 1) := by decide +kernel
theorem dX12_odds_2 : decode cX12_odds 2 = .ok (.putfield 132, 3) := by decide +kernel
theorem dX12_odds_5 : decode cX12_odds 5 = .ok (.aload_n 0, 1) := by decide +kernel
theorem dX12_odds_6 : decode cX12_odds 6 = .ok (.iload_n 1, 1) := by decide +kernel
theorem dX12_odds_7 : decode cX12_odds 7 = .ok (.invokevirtual 309, 3) := by decide +kernel
theorem dX12_odds_10 : decode cX12_odds 10 = .ok (.ifCond .eq 35, 3) := by decide +kernel
theorem dX12_odds_13 : decode cX12_odds 13 = .ok (.aload_n 0, 1) := by decide +kernel
theorem dX12_odds_14 : decode cX12_odds 14 = .ok (.iload_n 2, 1) := by decide +kernel
theorem dX12_odds_15 : decode cX12_odds 15 = .ok (.iconst 0, 1) := by decide +kernel
theorem dX12_odds_16 : decode cX12_odds 16 = .ok (.bipush 32, 2) := by decide +kernel
theorem dX12_odds_18 : decode cX12_odds 18 = .ok (.invokevirtual 144, 3) := by decide +kernel
theorem dX12_odds_21 : decode cX12_odds 21 = .ok (.ifCond .eq 24, 3) := by decide +kernel
theorem dX12_odds_24 : decode cX12_odds 24 = .ok (.aload_n 0, 1) := by decide +kernel
theorem dX12_odds_25 : decode cX12_odds 25 = .ok (.iload_n 3, 1) := by decide +kernel
theorem dX12_odds_26 : decode cX12_odds 26 = .ok (.iconst 0, 1) := by decide +kernel
theorem dX12_odds_27 : decode cX12_odds 27 = .ok (.iconst 2, 1) := by decide +kernel
theorem dX12_odds_28 : decode cX12_odds 28 = .ok (.invokevirtual 144, 3) := by decide +kernel
theorem dX12_odds_31 : decode cX12_odds 31 = .ok (.ifCond .eq 14, 3) := by decide +kernel
theorem dX12_odds_34 : decode cX12_odds 34 = .ok (.aload_n 0, 1) := by decide +kernel
theorem dX12_odds_35 : decode cX12_odds 35 = .ok (.iload 4, 2) := by decide +kernel
theorem dX12_odds_37 : decode cX12_odds 37 = .ok (.iconst 0, 1) := by decide +kernel
theorem dX12_odds_38 : decode cX12_odds 38 = .ok (.iconst 1, 1) := by decide +kernel
theorem dX12_odds_39 : decode cX12_odds 39 = .ok (.invokevirtual 144, 3) := by decide +kernel
theorem dX12_odds_42 : decode cX12_odds 42 = .ok (.ifCond .ne 5, 3) := by decide +kernel
theorem dX12_odds_45 : decode cX12_odds 45 = .ok (.iconst (-1), 1) := by decide +kernel
theorem dX12_odds_46 : decode cX12_odds 46 = .ok (.ireturn, 1) := by decide +kernel
theorem dX12_odds_47 : decode cX12_odds 47 = .ok (.iconst 0, 1) := by decide +kernel
theorem dX12_odds_48 : decode cX12_odds 48 = .ok (.istore 5, 2) := by decide +kernel
theorem dX12_odds_50 : decode cX12_odds 50 = .ok (.iconst 0, 1) := by decide +kernel
theorem dX12_odds_51 : decode cX12_odds 51 = .ok (.istore 6, 2) := by decide +kernel
theorem dX12_odds_53 : decode cX12_odds 53 = .ok (.iconst 0, 1) := by decide +kernel
theorem dX12_odds_54 : decode cX12_odds 54 = .ok (.istore 7, 2) := by decide +kernel
theorem dX12_odds_56 : decode cX12_odds 56 = .ok (.iload 7, 2) := by decide +kernel
theorem dX12_odds_58 : decode cX12_odds 58 = .ok (.aload_n 0, 1) := by decide +kernel
theorem dX12_odds_59 : decode cX12_odds 59 = .ok (.getfield 141, 3) := by decide +kernel
theorem dX12_odds_62 : decode cX12_odds 62 = .ok (.if_icmp .ge 93, 3) := by decide +kernel
theorem dX12_odds_65 : decode cX12_odds 65 = .ok (.iload 7, 2) := by decide +kernel
theorem dX12_odds_67 : decode cX12_odds 67 = .ok (.iconst 1, 1) := by decide +kernel
theorem dX12_odds_68 : decode cX12_odds 68 = .ok (.iadd, 1) := by decide +kernel
theorem dX12_odds_69 : decode cX12_odds 69 = .ok (.istore 8, 2) := by decide +kernel
theorem dX12_odds_71 : decode cX12_odds 71 = .ok (.iload 8, 2) := by decide +kernel
theorem dX12_odds_73 : decode cX12_odds 73 = .ok (.aload_n 0, 1) := by decide +kernel
theorem dX12_odds_74 : decode cX12_odds 74 = .ok (.getfield 141, 3) := by decide +kernel
theorem dX12_odds_77 : decode cX12_odds 77 = .ok (.if_icmp .ge 72, 3) := by decide +kernel
theorem dX12_odds_80 : decode cX12_odds 80 = .ok (.aload_n 0, 1) := by decide +kernel
theorem dX12_odds_81 : decode cX12_odds 81 = .ok (.iload 7, 2) := by decide +kernel
theorem dX12_odds_83 : decode cX12_odds 83 = .ok (.invokevirtual 333, 3) := by decide +kernel
theorem dX12_odds_86 : decode cX12_odds 86 = .ok (.ifCond .eq 57, 3) := by decide +kernel
theorem dX12_odds_89 : decode cX12_odds 89 = .ok (.aload_n 0, 1) := by decide +kernel
theorem dX12_odds_90 : decode cX12_odds 90 = .ok (.iload 8, 2) := by decide +kernel
theorem dX12_odds_92 : decode cX12_odds 92 = .ok (.invokevirtual 333, 3) := by decide +kernel
theorem dX12_odds_95 : decode cX12_odds 95 = .ok (.ifCond .eq 48, 3) := by decide +kernel
theorem dX12_odds_98 : decode cX12_odds 98 = .ok (.aload_n 0, 1) := by decide +kernel
theorem dX12_odds_99 : decode cX12_odds 99 = .ok (.iload 7, 2) := by decide +kernel
theorem dX12_odds_101 : decode cX12_odds 101 = .ok (.iload 8, 2) := by decide +kernel
theorem dX12_odds_103 : decode cX12_odds 103 = .ok (.invokevirtual 336, 3) := by decide +kernel
theorem dX12_odds_106 : decode cX12_odds 106 = .ok (.iload_n 3, 1) := by decide +kernel
theorem dX12_odds_107 : decode cX12_odds 107 = .ok (.if_icmp .eq 6, 3) := by decide +kernel
theorem dX12_odds_110 : decode cX12_odds 110 = .ok (.goto 33, 3) := by decide +kernel
theorem dX12_odds_113 : decode cX12_odds 113 = .ok (.iload 5, 2) := by decide +kernel
theorem dX12_odds_115 : decode cX12_odds 115 = .ok (.iconst 1, 1) := by decide +kernel
theorem dX12_odds_116 : decode cX12_odds 116 = .ok (.iadd, 1) := by decide +kernel
theorem dX12_odds_117 : decode cX12_odds 117 = .ok (.istore 5, 2) := by decide +kernel
theorem dX12_odds_119 : decode cX12_odds 119 = .ok (.iload 4, 2) := by decide +kernel
theorem dX12_odds_121 : decode cX12_odds 121 = .ok (.ifCond .ne 22, 3) := by decide +kernel
theorem dX12_odds_124 : decode cX12_odds 124 = .ok (.aload_n 0, 1) := by decide +kernel
theorem dX12_odds_125 : decode cX12_odds 125 = .ok (.iload_n 1, 1) := by decide +kernel
theorem dX12_odds_126 : decode cX12_odds 126 = .ok (.iload 7, 2) := by decide +kernel
theorem dX12_odds_128 : decode cX12_odds 128 = .ok (.iload 8, 2) := by decide +kernel
theorem dX12_odds_130 : decode cX12_odds 130 = .ok (.invokevirtual 339, 3) := by decide +kernel
theorem dX12_odds_133 : decode cX12_odds 133 = .ok (.iload_n 2, 1) := by decide +kernel
theorem dX12_odds_134 : decode cX12_odds 134 = .ok (.if_icmp .lt 9, 3) := by decide +kernel
theorem dX12_odds_137 : decode cX12_odds 137 = .ok (.iload 6, 2) := by decide +kernel
theorem dX12_odds_139 : decode cX12_odds 139 = .ok (.iconst 1, 1) := by decide +kernel
theorem dX12_odds_140 : decode cX12_odds 140 = .ok (.iadd, 1) := by decide +kernel
theorem dX12_odds_141 : decode cX12_odds 141 = .ok (.istore 6, 2) := by decide +kernel
theorem dX12_odds_143 : decode cX12_odds 143 = .ok (.iinc 8 1, 3) := by decide +kernel
theorem dX12_odds_146 : decode cX12_odds 146 = .ok (.goto (-75), 3) := by decide +kernel
theorem dX12_odds_149 : decode cX12_odds 149 = .ok (.iinc 7 1, 3) := by decide +kernel
theorem dX12_odds_152 : decode cX12_odds 152 = .ok (.goto (-96), 3) := by decide +kernel
theorem dX12_odds_155 : decode cX12_odds 155 = .ok (.iload 4, 2) := by decide +kernel
theorem dX12_odds_157 : decode cX12_odds 157 = .ok (.ifCond .ne 8, 3) := by decide +kernel
theorem dX12_odds_160 : decode cX12_odds 160 = .ok (.iload 6, 2) := by decide +kernel
theorem dX12_odds_162 : decode cX12_odds 162 = .ok (.goto 5, 3) := by decide +kernel
theorem dX12_odds_165 : decode cX12_odds 165 = .ok (.iload 5, 2) := by decide +kernel
theorem dX12_odds_167 : decode cX12_odds 167 = .ok (.ireturn, 1) := by decide +kernel
theorem dX12_far_0 : decode cX12_far 0 = .ok (.aload_n 0, 1) := by decide +kernel
theorem dX12_far_1 : decode cX12_far 1 = .ok (.iconst 0, 1) := by decide +kernel
theorem dX12_far_2 : decode cX12_far 2 = .ok (.putfield 132, 3) := by decide +kernel
theorem dX12_far_5 : decode cX12_far 5 = .ok (.aload_n 0, 1) := by decide +kernel
theorem dX12_far_6 : decode cX12_far 6 = .ok (.iload_n 1, 1) := by decide +kernel
theorem dX12_far_7 : decode cX12_far 7 = .ok (.invokevirtual 309, 3) := by decide +kernel
theorem dX12_far_10 : decode cX12_far 10 = .ok (.ifCond .eq 14, 3) := by decide +kernel
theorem dX12_far_13 : decode cX12_far 13 = .ok (.aload_n 0, 1) := by decide +kernel
theorem dX12_far_14 : decode cX12_far 14 = .ok (.iload_n 2, 1) := by decide +kernel
theorem dX12_far_15 : decode cX12_far 15 = .ok (.iconst 0, 1) := by decide +kernel
theorem dX12_far_16 : decode cX12_far 16 = .ok (.bipush 33, 2) := by decide +kernel
theorem dX12_far_18 : decode cX12_far 18 = .ok (.invokevirtual 144, 3) := by decide +kernel
theorem dX12_far_21 : decode cX12_far 21 = .ok (.ifCond .ne 5, 3) := by decide +kernel
theorem dX12_far_24 : decode cX12_far 24 = .ok (.iconst (-1), 1) := by decide +kernel
theorem dX12_far_25 : decode cX12_far 25 = .ok (.ireturn, 1) := by decide +kernel
theorem dX12_far_26 : decode cX12_far 26 = .ok (.iconst (-1), 1) := by decide +kernel
theorem dX12_far_27 : decode cX12_far 27 = .ok (.istore_n 3, 1) := by decide +kernel
theorem dX12_far_28 : decode cX12_far 28 = .ok (.iconst 0, 1) := by decide +kernel
theorem dX12_far_29 : decode cX12_far 29 = .ok (.istore 4, 2) := by decide +kernel
theorem dX12_far_31 : decode cX12_far 31 = .ok (.iload 4, 2) := by decide +kernel
theorem dX12_far_33 : decode cX12_far 33 = .ok (.aload_n 0, 1) := by decide +kernel
theorem dX12_far_34 : decode cX12_far 34 = .ok (.getfield 141, 3) := by decide +kernel
theorem dX12_far_37 : decode cX12_far 37 = .ok (.if_icmp .ge 112, 3) := by decide +kernel
theorem dX12_far_40 : decode cX12_far 40 = .ok (.iload 4, 2) := by decide +kernel
theorem dX12_far_42 : decode cX12_far 42 = .ok (.iconst 1, 1) := by decide +kernel
theorem dX12_far_43 : decode cX12_far 43 = .ok (.iadd, 1) := by decide +kernel
theorem dX12_far_44 : decode cX12_far 44 = .ok (.istore 5, 2) := by decide +kernel
