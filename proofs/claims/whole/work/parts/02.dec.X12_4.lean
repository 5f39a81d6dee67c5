theorem dX12_far_46 : decode cX12_far 46 = .ok (.iload 5, 2) := by decide +kernel
theorem dX12_far_48 : decode cX12_far 48 = .ok (.aload_n 0, 1) := by decide +kernel
theorem dX12_far_49 : decode cX12_far 49 = .ok (.getfield 141, 3) := by decide +kernel
theorem dX12_far_52 : decode cX12_far 52 = .ok (.if_icmp .ge 91, 3) := by decide +kernel
theorem dX12_far_55 : decode cX12_far 55 = .ok (.aload_n 0, 1) := by decide +kernel
theorem dX12_far_56 : decode cX12_far 56 = .ok (.iload 4, 2) := by decide +kernel
theorem dX12_far_58 : decode cX12_far 58 = .ok (.invokevirtual 333, 3) := by decide +kernel
theorem dX12_far_61 : decode cX12_far 61 = .ok (.ifCond .eq 76, 3) := by decide +kernel
theorem dX12_far_64 : decode cX12_far 64 = .ok (.aload_n 0, 1) := by decide +kernel
theorem dX12_far_65 : decode cX12_far 65 = .ok (.iload 5, 2) := by decide +kernel
theorem dX12_far_67 : decode cX12_far 67 = .ok (.invokevirtual 333, 3) := by decide +kernel
theorem dX12_far_70 : decode cX12_far 70 = .ok (.ifCond .eq 67, 3) := by decide +kernel
theorem dX12_far_73 : decode cX12_far 73 = .ok (.aload_n 0, 1) := by decide +kernel
theorem dX12_far_74 : decode cX12_far 74 = .ok (.getfield 40, 3) := by decide +kernel
theorem dX12_far_77 : decode cX12_far 77 = .ok (.iload 4, 2) := by decide +kernel
theorem dX12_far_79 : decode cX12_far 79 = .ok (.iaload, 1) := by decide +kernel
theorem dX12_far_80 : decode cX12_far 80 = .ok (.aload_n 0, 1) := by decide +kernel
theorem dX12_far_81 : decode cX12_far 81 = .ok (.getfield 40, 3) := by decide +kernel
theorem dX12_far_84 : decode cX12_far 84 = .ok (.iload 5, 2) := by decide +kernel
theorem dX12_far_86 : decode cX12_far 86 = .ok (.iaload, 1) := by decide +kernel
theorem dX12_far_87 : decode cX12_far 87 = .ok (.if_icmp .eq 6, 3) := by decide +kernel
theorem dX12_far_90 : decode cX12_far 90 = .ok (.goto 47, 3) := by decide +kernel
theorem dX12_far_93 : decode cX12_far 93 = .ok (.aload_n 0, 1) := by decide +kernel
theorem dX12_far_94 : decode cX12_far 94 = .ok (.getfield 43, 3) := by decide +kernel
theorem dX12_far_97 : decode cX12_far 97 = .ok (.iload 5, 2) := by decide +kernel
theorem dX12_far_99 : decode cX12_far 99 = .ok (.iaload, 1) := by decide +kernel
theorem dX12_far_100 : decode cX12_far 100 = .ok (.aload_n 0, 1) := by decide +kernel
theorem dX12_far_101 : decode cX12_far 101 = .ok (.getfield 43, 3) := by decide +kernel
theorem dX12_far_104 : decode cX12_far 104 = .ok (.iload 4, 2) := by decide +kernel
theorem dX12_far_106 : decode cX12_far 106 = .ok (.iaload, 1) := by decide +kernel
theorem dX12_far_107 : decode cX12_far 107 = .ok (.isub, 1) := by decide +kernel
theorem dX12_far_108 : decode cX12_far 108 = .ok (.istore 6, 2) := by decide +kernel
theorem dX12_far_110 : decode cX12_far 110 = .ok (.iload_n 3, 1) := by decide +kernel
theorem dX12_far_111 : decode cX12_far 111 = .ok (.iconst (-1), 1) := by decide +kernel
theorem dX12_far_112 : decode cX12_far 112 = .ok (.if_icmp .eq 9, 3) := by decide +kernel
theorem dX12_far_115 : decode cX12_far 115 = .ok (.iload 6, 2) := by decide +kernel
theorem dX12_far_117 : decode cX12_far 117 = .ok (.iload_n 3, 1) := by decide +kernel
theorem dX12_far_118 : decode cX12_far 118 = .ok (.if_icmp .ge 19, 3) := by decide +kernel
theorem dX12_far_121 : decode cX12_far 121 = .ok (.aload_n 0, 1) := by decide +kernel
theorem dX12_far_122 : decode cX12_far 122 = .ok (.iload_n 1, 1) := by decide +kernel
theorem dX12_far_123 : decode cX12_far 123 = .ok (.iload 4, 2) := by decide +kernel
theorem dX12_far_125 : decode cX12_far 125 = .ok (.iload 5, 2) := by decide +kernel
theorem dX12_far_127 : decode cX12_far 127 = .ok (.invokevirtual 339, 3) := by decide +kernel
theorem dX12_far_130 : decode cX12_far 130 = .ok (.iload_n 2, 1) := by decide +kernel
theorem dX12_far_131 : decode cX12_far 131 = .ok (.if_icmp .ge 6, 3) := by decide +kernel
theorem dX12_far_134 : decode cX12_far 134 = .ok (.iload 6, 2) := by decide +kernel
theorem dX12_far_136 : decode cX12_far 136 = .ok (.istore_n 3, 1) := by decide +kernel
theorem dX12_far_137 : decode cX12_far 137 = .ok (.iinc 5 1, 3) := by decide +kernel
theorem dX12_far_140 : decode cX12_far 140 = .ok (.goto (-94), 3) := by decide +kernel
theorem dX12_far_143 : decode cX12_far 143 = .ok (.iinc 4 1, 3) := by decide +kernel
theorem dX12_far_146 : decode cX12_far 146 = .ok (.goto (-115), 3) := by decide +kernel
theorem dX12_far_149 : decode cX12_far 149 = .ok (.iload_n 3, 1) := by decide +kernel
theorem dX12_far_150 : decode cX12_far 150 = .ok (.ireturn, 1) := by decide +kernel
theorem dX12_own_0 : decode cX12_own 0 = .ok (.aload_n 0, 1) := by decide +kernel
theorem dX12_own_1 : decode cX12_own 1 = .ok (.iconst 0, 1) := by decide +kernel
theorem dX12_own_2 : decode cX12_own 2 = .ok (.putfield 132, 3) := by decide +kernel
theorem dX12_own_5 : decode cX12_own 5 = .ok (.aload_n 0, 1) := by decide +kernel
theorem dX12_own_6 : decode cX12_own 6 = .ok (.iload_n 1, 1) := by decide +kernel
theorem dX12_own_7 : decode cX12_own 7 = .ok (.invokevirtual 309, 3) := by decide +kernel
theorem dX12_own_10 : decode cX12_own 10 = .ok (.ifCond .eq 39, 3) := by decide +kernel
theorem dX12_own_13 : decode cX12_own 13 = .ok (.aload_n 0, 1) := by decide +kernel
theorem dX12_own_14 : decode cX12_own 14 = .ok (.iload_n 2, 1) := by decide +kernel
theorem dX12_own_15 : decode cX12_own 15 = .ok (.invokevirtual 168, 3) := by decide +kernel
theorem dX12_own_18 : decode cX12_own 18 = .ok (.ifCond .eq 31, 3) := by decide +kernel
theorem dX12_own_21 : decode cX12_own 21 = .ok (.aload_n 0, 1) := by decide +kernel
theorem dX12_own_22 : decode cX12_own 22 = .ok (.iload_n 3, 1) := by decide +kernel
theorem dX12_own_23 : decode cX12_own 23 = .ok (.invokevirtual 168, 3) := by decide +kernel
theorem dX12_own_26 : decode cX12_own 26 = .ok (.ifCond .eq 23, 3) := by decide +kernel
theorem dX12_own_29 : decode cX12_own 29 = .ok (.aload_n 0, 1) := by decide +kernel
theorem dX12_own_30 : decode cX12_own 30 = .ok (.iload 4, 2) := by decide +kernel
theorem dX12_own_32 : decode cX12_own 32 = .ok (.invokevirtual 168, 3) := by decide +kernel
theorem dX12_own_35 : decode cX12_own 35 = .ok (.ifCond .eq 14, 3) := by decide +kernel
theorem dX12_own_38 : decode cX12_own 38 = .ok (.aload_n 0, 1) := by decide +kernel
theorem dX12_own_39 : decode cX12_own 39 = .ok (.iload 5, 2) := by decide +kernel
theorem dX12_own_41 : decode cX12_own 41 = .ok (.iconst 0, 1) := by decide +kernel
theorem dX12_own_42 : decode cX12_own 42 = .ok (.iconst 1, 1) := by decide +kernel
theorem dX12_own_43 : decode cX12_own 43 = .ok (.invokevirtual 144, 3) := by decide +kernel
theorem dX12_own_46 : decode cX12_own 46 = .ok (.ifCond .ne 5, 3) := by decide +kernel
theorem dX12_own_49 : decode cX12_own 49 = .ok (.iconst 0, 1) := by decide +kernel
theorem dX12_own_50 : decode cX12_own 50 = .ok (.ireturn, 1) := by decide +kernel
theorem dX12_own_51 : decode cX12_own 51 = .ok (.aload_n 0, 1) := by decide +kernel
theorem dX12_own_52 : decode cX12_own 52 = .ok (.iload_n 1, 1) := by decide +kernel
theorem dX12_own_53 : decode cX12_own 53 = .ok (.iload_n 2, 1) := by decide +kernel
theorem dX12_own_54 : decode cX12_own 54 = .ok (.iload_n 3, 1) := by decide +kernel
theorem dX12_own_55 : decode cX12_own 55 = .ok (.invokevirtual 318, 3) := by decide +kernel
theorem dX12_own_58 : decode cX12_own 58 = .ok (.istore 6, 2) := by decide +kernel
theorem dX12_own_60 : decode cX12_own 60 = .ok (.aload_n 0, 1) := by decide +kernel
theorem dX12_own_61 : decode cX12_own 61 = .ok (.iload_n 1, 1) := by decide +kernel
theorem dX12_own_62 : decode cX12_own 62 = .ok (.iload_n 2, 1) := by decide +kernel
theorem dX12_own_63 : decode cX12_own 63 = .ok (.iload 4, 2) := by decide +kernel
theorem dX12_own_65 : decode cX12_own 65 = .ok (.invokevirtual 318, 3) := by decide +kernel
theorem dX12_own_68 : decode cX12_own 68 = .ok (.istore 7, 2) := by decide +kernel
theorem dX12_own_70 : decode cX12_own 70 = .ok (.iconst 0, 1) := by decide +kernel
theorem dX12_own_71 : decode cX12_own 71 = .ok (.istore 8, 2) := by decide +kernel
theorem dX12_own_73 : decode cX12_own 73 = .ok (.iconst 0, 1) := by decide +kernel
theorem dX12_own_74 : decode cX12_own 74 = .ok (.istore 9, 2) := by decide +kernel
theorem dX12_own_76 : decode cX12_own 76 = .ok (.iload 9, 2) := by decide +kernel
theorem dX12_own_78 : decode cX12_own 78 = .ok (.bipush 32, 2) := by decide +kernel
theorem dX12_own_80 : decode cX12_own 80 = .ok (.if_icmp .ge 58, 3) := by decide +kernel
theorem dX12_own_83 : decode cX12_own 83 = .ok (.aload_n 0, 1) := by decide +kernel
theorem dX12_own_84 : decode cX12_own 84 = .ok (.iload_n 1, 1) := by decide +kernel
theorem dX12_own_85 : decode cX12_own 85 = .ok (.iload_n 2, 1) := by decide +kernel
theorem dX12_own_86 : decode cX12_own 86 = .ok (.iload_n 3, 1) := by decide +kernel
theorem dX12_own_87 : decode cX12_own 87 = .ok (.iload 9, 2) := by decide +kernel
theorem dX12_own_89 : decode cX12_own 89 = .ok (.iload 6, 2) := by decide +kernel
theorem dX12_own_91 : decode cX12_own 91 = .ok (.invokevirtual 298, 3) := by decide +kernel
theorem dX12_own_94 : decode cX12_own 94 = .ok (.ifCond .eq 38, 3) := by decide +kernel
theorem dX12_own_97 : decode cX12_own 97 = .ok (.aload_n 0, 1) := by decide +kernel
theorem dX12_own_98 : decode cX12_own 98 = .ok (.iload_n 1, 1) := by decide +kernel
theorem dX12_own_99 : decode cX12_own 99 = .ok (.iload_n 2, 1) := by decide +kernel
theorem dX12_own_100 : decode cX12_own 100 = .ok (.iload 4, 2) := by decide +kernel
theorem dX12_own_102 : decode cX12_own 102 = .ok (.iload 9, 2) := by decide +kernel
theorem dX12_own_104 : decode cX12_own 104 = .ok (.iload 7, 2) := by decide +kernel
theorem dX12_own_106 : decode cX12_own 106 = .ok (.invokevirtual 298, 3) := by decide +kernel
theorem dX12_own_109 : decode cX12_own 109 = .ok (.iload 5, 2) := by decide +kernel
theorem dX12_own_111 : decode cX12_own 111 = .ok (.iconst 1, 1) := by decide +kernel
theorem dX12_own_112 : decode cX12_own 112 = .ok (.if_icmp .ne 7, 3) := by decide +kernel
theorem dX12_own_115 : decode cX12_own 115 = .ok (.iconst 1, 1) := by decide +kernel
theorem dX12_own_116 : decode cX12_own 116 = .ok (.goto 4, 3) := by decide +kernel
theorem dX12_own_119 : decode cX12_own 119 = .ok (.iconst 0, 1) := by decide +kernel
theorem dX12_own_120 : decode cX12_own 120 = .ok (.if_icmp .ne 12, 3) := by decide +kernel
theorem dX12_own_123 : decode cX12_own 123 = .ok (.iload 8, 2) := by decide +kernel
theorem dX12_own_125 : decode cX12_own 125 = .ok (.iconst 1, 1) := by decide +kernel
theorem dX12_own_126 : decode cX12_own 126 = .ok (.iload 9, 2) := by decide +kernel
theorem dX12_own_128 : decode cX12_own 128 = .ok (.ishl, 1) := by decide +kernel
theorem dX12_own_129 : decode cX12_own 129 = .ok (.ior, 1) := by decide +kernel
theorem dX12_own_130 : decode cX12_own 130 = .ok (.istore 8, 2) := by decide +kernel
theorem dX12_own_132 : decode cX12_own 132 = .ok (.iinc 9 1, 3) := by decide +kernel
theorem dX12_own_135 : decode cX12_own 135 = .ok (.goto (-59), 3) := by decide +kernel
theorem dX12_own_138 : decode cX12_own 138 = .ok (.iload 8, 2) := by decide +kernel
theorem dX12_own_140 : decode cX12_own 140 = .ok (.ireturn, 1) := by decide +kernel
theorem dX12_list_0 : decode cX12_list 0 = .ok (.aload_n 0, 1) := by decide +kernel
theorem dX12_list_1 : decode cX12_list 1 = .ok (.iconst 0, 1) := by decide +kernel
theorem dX12_list_2 : decode cX12_list 2 = .ok (.putfield 132, 3) := by decide +kernel
theorem dX12_list_5 : decode cX12_list 5 = .ok (.aload_n 0, 1) := by decide +kernel
theorem dX12_list_6 : decode cX12_list 6 = .ok (.iload_n 1, 1) := by decide +kernel
theorem dX12_list_7 : decode cX12_list 7 = .ok (.invokevirtual 309, 3) := by decide +kernel
theorem dX12_list_10 : decode cX12_list 10 = .ok (.ifCond .eq 26, 3) := by decide +kernel
theorem dX12_list_13 : decode cX12_list 13 = .ok (.aload_n 0, 1) := by decide +kernel
theorem dX12_list_14 : decode cX12_list 14 = .ok (.iload_n 2, 1) := by decide +kernel
theorem dX12_list_15 : decode cX12_list 15 = .ok (.invokevirtual 168, 3) := by decide +kernel
theorem dX12_list_18 : decode cX12_list 18 = .ok (.ifCond .eq 18, 3) := by decide +kernel
theorem dX12_list_21 : decode cX12_list 21 = .ok (.aload_n 0, 1) := by decide +kernel
theorem dX12_list_22 : decode cX12_list 22 = .ok (.iload_n 3, 1) := by decide +kernel
theorem dX12_list_23 : decode cX12_list 23 = .ok (.iconst 0, 1) := by decide +kernel
theorem dX12_list_24 : decode cX12_list 24 = .ok (.aload_n 0, 1) := by decide +kernel
theorem dX12_list_25 : decode cX12_list 25 = .ok (.getfield 141, 3) := by decide +kernel
theorem dX12_list_28 : decode cX12_list 28 = .ok (.iconst 2, 1) := by decide +kernel
theorem dX12_list_29 : decode cX12_list 29 = .ok (.isub, 1) := by decide +kernel
theorem dX12_list_30 : decode cX12_list 30 = .ok (.invokevirtual 144, 3) := by decide +kernel
theorem dX12_list_33 : decode cX12_list 33 = .ok (.ifCond .ne 5, 3) := by decide +kernel
theorem dX12_list_36 : decode cX12_list 36 = .ok (.iconst (-1), 1) := by decide +kernel
theorem dX12_list_37 : decode cX12_list 37 = .ok (.ireturn, 1) := by decide +kernel
theorem dX12_list_38 : decode cX12_list 38 = .ok (.iconst 0, 1) := by decide +kernel
theorem dX12_list_39 : decode cX12_list 39 = .ok (.istore 4, 2) := by decide +kernel
theorem dX12_list_41 : decode cX12_list 41 = .ok (.iload 4, 2) := by decide +kernel
theorem dX12_list_43 : decode cX12_list 43 = .ok (.aload_n 0, 1) := by decide +kernel
theorem dX12_list_44 : decode cX12_list 44 = .ok (.getfield 141, 3) := by decide +kernel
theorem dX12_list_47 : decode cX12_list 47 = .ok (.if_icmp .ge 44, 3) := by decide +kernel
theorem dX12_list_50 : decode cX12_list 50 = .ok (.aload_n 0, 1) := by decide +kernel
theorem dX12_list_51 : decode cX12_list 51 = .ok (.getfield 110, 3) := by decide +kernel
theorem dX12_list_54 : decode cX12_list 54 = .ok (.iload 4, 2) := by decide +kernel
theorem dX12_list_56 : decode cX12_list 56 = .ok (.bipush 64, 2) := by decide +kernel
theorem dX12_list_58 : decode cX12_list 58 = .ok (.aload_n 0, 1) := by decide +kernel
theorem dX12_list_59 : decode cX12_list 59 = .ok (.iload_n 1, 1) := by decide +kernel
theorem dX12_list_60 : decode cX12_list 60 = .ok (.iload_n 2, 1) := by decide +kernel
theorem dX12_list_61 : decode cX12_list 61 = .ok (.iload 4, 2) := by decide +kernel
theorem dX12_list_63 : decode cX12_list 63 = .ok (.aload_n 0, 1) := by decide +kernel
theorem dX12_list_64 : decode cX12_list 64 = .ok (.iload_n 1, 1) := by decide +kernel
theorem dX12_list_65 : decode cX12_list 65 = .ok (.iload_n 2, 1) := by decide +kernel
theorem dX12_list_66 : decode cX12_list 66 = .ok (.iload 4, 2) := by decide +kernel
theorem dX12_list_68 : decode cX12_list 68 = .ok (.invokevirtual 318, 3) := by decide +kernel
theorem dX12_list_71 : decode cX12_list 71 = .ok (.invokevirtual 302, 3) := by decide +kernel
theorem dX12_list_74 : decode cX12_list 74 = .ok (.imul, 1) := by decide +kernel
theorem dX12_list_75 : decode cX12_list 75 = .ok (.aload_n 0, 1) := by decide +kernel
theorem dX12_list_76 : decode cX12_list 76 = .ok (.iload_n 1, 1) := by decide +kernel
theorem dX12_list_77 : decode cX12_list 77 = .ok (.iload_n 2, 1) := by decide +kernel
theorem dX12_list_78 : decode cX12_list 78 = .ok (.iload 4, 2) := by decide +kernel
theorem dX12_list_80 : decode cX12_list 80 = .ok (.invokevirtual 339, 3) := by decide +kernel
theorem dX12_list_83 : decode cX12_list 83 = .ok (.iadd, 1) := by decide +kernel
theorem dX12_list_84 : decode cX12_list 84 = .ok (.iastore, 1) := by decide +kernel
theorem dX12_list_85 : decode cX12_list 85 = .ok (.iinc 4 1, 3) := by decide +kernel
theorem dX12_list_88 : decode cX12_list 88 = .ok (.goto (-47), 3) := by decide +kernel
theorem dX12_list_91 : decode cX12_list 91 = .ok (.aload_n 0, 1) := by decide +kernel
theorem dX12_list_92 : decode cX12_list 92 = .ok (.getfield 110, 3) := by decide +kernel
theorem dX12_list_95 : decode cX12_list 95 = .ok (.iload_n 2, 1) := by decide +kernel
theorem dX12_list_96 : decode cX12_list 96 = .ok (.iconst (-1), 1) := by decide +kernel
theorem dX12_list_97 : decode cX12_list 97 = .ok (.iastore, 1) := by decide +kernel
theorem dX12_list_98 : decode cX12_list 98 = .ok (.iconst (-1), 1) := by decide +kernel
theorem dX12_list_99 : decode cX12_list 99 = .ok (.istore 4, 2) := by decide +kernel
theorem dX12_list_101 : decode cX12_list 101 = .ok (.iconst 0, 1) := by decide +kernel
theorem dX12_list_102 : decode cX12_list 102 = .ok (.istore 5, 2) := by decide +kernel
theorem dX12_list_104 : decode cX12_list 104 = .ok (.iload 5, 2) := by decide +kernel
theorem dX12_list_106 : decode cX12_list 106 = .ok (.iload_n 3, 1) := by decide +kernel
theorem dX12_list_107 : decode cX12_list 107 = .ok (.if_icmp .gt 59, 3) := by decide +kernel
theorem dX12_list_110 : decode cX12_list 110 = .ok (.iconst 0, 1) := by decide +kernel
theorem dX12_list_111 : decode cX12_list 111 = .ok (.istore 4, 2) := by decide +kernel
theorem dX12_list_113 : decode cX12_list 113 = .ok (.iconst 1, 1) := by decide +kernel
theorem dX12_list_114 : decode cX12_list 114 = .ok (.istore 6, 2) := by decide +kernel
theorem dX12_list_116 : decode cX12_list 116 = .ok (.iload 6, 2) := by decide +kernel
theorem dX12_list_118 : decode cX12_list 118 = .ok (.aload_n 0, 1) := by decide +kernel
theorem dX12_list_119 : decode cX12_list 119 = .ok (.getfield 141, 3) := by decide +kernel
theorem dX12_list_122 : decode cX12_list 122 = .ok (.if_icmp .ge 30, 3) := by decide +kernel
theorem dX12_list_125 : decode cX12_list 125 = .ok (.aload_n 0, 1) := by decide +kernel
theorem dX12_list_126 : decode cX12_list 126 = .ok (.getfield 110, 3) := by decide +kernel
theorem dX12_list_129 : decode cX12_list 129 = .ok (.iload 6, 2) := by decide +kernel
theorem dX12_list_131 : decode cX12_list 131 = .ok (.iaload, 1) := by decide +kernel
theorem dX12_list_132 : decode cX12_list 132 = .ok (.aload_n 0, 1) := by decide +kernel
theorem dX12_list_133 : decode cX12_list 133 = .ok (.getfield 110, 3) := by decide +kernel
theorem dX12_list_136 : decode cX12_list 136 = .ok (.iload 4, 2) := by decide +kernel
theorem dX12_list_138 : decode cX12_list 138 = .ok (.iaload, 1) := by decide +kernel
theorem dX12_list_139 : decode cX12_list 139 = .ok (.if_icmp .le 7, 3) := by decide +kernel
theorem dX12_list_142 : decode cX12_list 142 = .ok (.iload 6, 2) := by decide +kernel
theorem dX12_list_144 : decode cX12_list 144 = .ok (.istore 4, 2) := by decide +kernel
theorem dX12_list_146 : decode cX12_list 146 = .ok (.iinc 6 1, 3) := by decide +kernel
theorem dX12_list_149 : decode cX12_list 149 = .ok (.goto (-33), 3) := by decide +kernel
theorem dX12_list_152 : decode cX12_list 152 = .ok (.aload_n 0, 1) := by decide +kernel
theorem dX12_list_153 : decode cX12_list 153 = .ok (.getfield 110, 3) := by decide +kernel
theorem dX12_list_156 : decode cX12_list 156 = .ok (.iload 4, 2) := by decide +kernel
theorem dX12_list_158 : decode cX12_list 158 = .ok (.iconst (-1), 1) := by decide +kernel
theorem dX12_list_159 : decode cX12_list 159 = .ok (.iastore, 1) := by decide +kernel
theorem dX12_list_160 : decode cX12_list 160 = .ok (.iinc 5 1, 3) := by decide +kernel
theorem dX12_list_163 : decode cX12_list 163 = .ok (.goto (-59), 3) := by decide +kernel
theorem dX12_list_166 : decode cX12_list 166 = .ok (.iload 4, 2) := by decide +kernel
theorem dX12_list_168 : decode cX12_list 168 = .ok (.ireturn, 1) := by decide +kernel
theorem dX12_pair_0 : decode cX12_pair 0 = .ok (.aload_n 0, 1) := by decide +kernel
theorem dX12_pair_1 : decode cX12_pair 1 = .ok (.iconst 0, 1) := by decide +kernel
theorem dX12_pair_2 : decode cX12_pair 2 = .ok (.putfield 132, 3) := by decide +kernel
theorem dX12_pair_5 : decode cX12_pair 5 = .ok (.aload_n 0, 1) := by decide +kernel
theorem dX12_pair_6 : decode cX12_pair 6 = .ok (.iload_n 1, 1) := by decide +kernel
theorem dX12_pair_7 : decode cX12_pair 7 = .ok (.invokevirtual 168, 3) := by decide +kernel
theorem dX12_pair_10 : decode cX12_pair 10 = .ok (.ifCond .eq 36, 3) := by decide +kernel
theorem dX12_pair_13 : decode cX12_pair 13 = .ok (.aload_n 0, 1) := by decide +kernel
theorem dX12_pair_14 : decode cX12_pair 14 = .ok (.iload_n 2, 1) := by decide +kernel
theorem dX12_pair_15 : decode cX12_pair 15 = .ok (.invokevirtual 168, 3) := by decide +kernel
theorem dX12_pair_18 : decode cX12_pair 18 = .ok (.ifCond .eq 28, 3) := by decide +kernel
theorem dX12_pair_21 : decode cX12_pair 21 = .ok (.iload_n 1, 1) := by decide +kernel
theorem dX12_pair_22 : decode cX12_pair 22 = .ok (.iload_n 2, 1) := by decide +kernel
theorem dX12_pair_23 : decode cX12_pair 23 = .ok (.if_icmp .eq 23, 3) := by decide +kernel
theorem dX12_pair_26 : decode cX12_pair 26 = .ok (.aload_n 0, 1) := by decide +kernel
theorem dX12_pair_27 : decode cX12_pair 27 = .ok (.iload_n 3, 1) := by decide +kernel
theorem dX12_pair_28 : decode cX12_pair 28 = .ok (.iconst 1, 1) := by decide +kernel
theorem dX12_pair_29 : decode cX12_pair 29 = .ok (.bipush 99, 2) := by decide +kernel
theorem dX12_pair_31 : decode cX12_pair 31 = .ok (.invokevirtual 144, 3) := by decide +kernel
theorem dX12_pair_34 : decode cX12_pair 34 = .ok (.ifCond .eq 12, 3) := by decide +kernel
theorem dX12_pair_37 : decode cX12_pair 37 = .ok (.aload_n 0, 1) := by decide +kernel
theorem dX12_pair_38 : decode cX12_pair 38 = .ok (.getfield 342, 3) := by decide +kernel
theorem dX12_pair_41 : decode cX12_pair 41 = .ok (.bipush 10, 2) := by decide +kernel
theorem dX12_pair_43 : decode cX12_pair 43 = .ok (.if_icmp .ne 5, 3) := by decide +kernel
theorem dX12_pair_46 : decode cX12_pair 46 = .ok (.iconst (-1), 1) := by decide +kernel
theorem dX12_pair_47 : decode cX12_pair 47 = .ok (.ireturn, 1) := by decide +kernel
theorem dX12_pair_48 : decode cX12_pair 48 = .ok (.aload_n 0, 1) := by decide +kernel
theorem dX12_pair_49 : decode cX12_pair 49 = .ok (.getfield 113, 3) := by decide +kernel
theorem dX12_pair_52 : decode cX12_pair 52 = .ok (.aload_n 0, 1) := by decide +kernel
theorem dX12_pair_53 : decode cX12_pair 53 = .ok (.getfield 342, 3) := by decide +kernel
theorem dX12_pair_56 : decode cX12_pair 56 = .ok (.iload_n 1, 1) := by decide +kernel
theorem dX12_pair_57 : decode cX12_pair 57 = .ok (.iastore, 1) := by decide +kernel
theorem dX12_pair_58 : decode cX12_pair 58 = .ok (.aload_n 0, 1) := by decide +kernel
theorem dX12_pair_59 : decode cX12_pair 59 = .ok (.getfield 116, 3) := by decide +kernel
theorem dX12_pair_62 : decode cX12_pair 62 = .ok (.aload_n 0, 1) := by decide +kernel
theorem dX12_pair_63 : decode cX12_pair 63 = .ok (.getfield 342, 3) := by decide +kernel
theorem dX12_pair_66 : decode cX12_pair 66 = .ok (.iload_n 2, 1) := by decide +kernel
theorem dX12_pair_67 : decode cX12_pair 67 = .ok (.iastore, 1) := by decide +kernel
theorem dX12_pair_68 : decode cX12_pair 68 = .ok (.aload_n 0, 1) := by decide +kernel
theorem dX12_pair_69 : decode cX12_pair 69 = .ok (.getfield 119, 3) := by decide +kernel
theorem dX12_pair_72 : decode cX12_pair 72 = .ok (.aload_n 0, 1) := by decide +kernel
theorem dX12_pair_73 : decode cX12_pair 73 = .ok (.getfield 342, 3) := by decide +kernel
theorem dX12_pair_76 : decode cX12_pair 76 = .ok (.iload_n 3, 1) := by decide +kernel
theorem dX12_pair_77 : decode cX12_pair 77 = .ok (.iastore, 1) := by decide +kernel
theorem dX12_pair_78 : decode cX12_pair 78 = .ok (.aload_n 0, 1) := by decide +kernel
theorem dX12_pair_79 : decode cX12_pair 79 = .ok (.aload_n 0, 1) := by decide +kernel
theorem dX12_pair_80 : decode cX12_pair 80 = .ok (.getfield 342, 3) := by decide +kernel
theorem dX12_pair_83 : decode cX12_pair 83 = .ok (.iconst 1, 1) := by decide +kernel
theorem dX12_pair_84 : decode cX12_pair 84 = .ok (.iadd, 1) := by decide +kernel
theorem dX12_pair_85 : decode cX12_pair 85 = .ok (.putfield 342, 3) := by decide +kernel
theorem dX12_pair_88 : decode cX12_pair 88 = .ok (.aload_n 0, 1) := by decide +kernel
theorem dX12_pair_89 : decode cX12_pair 89 = .ok (.getfield 342, 3) := by decide +kernel
theorem dX12_pair_92 : decode cX12_pair 92 = .ok (.iconst 1, 1) := by decide +kernel
theorem dX12_pair_93 : decode cX12_pair 93 = .ok (.isub, 1) := by decide +kernel
theorem dX12_pair_94 : decode cX12_pair 94 = .ok (.ireturn, 1) := by decide +kernel
theorem dX12_countOf_0 : decode cX12_countOf 0 = .ok (.aload_n 0, 1) := by decide +kernel
theorem dX12_countOf_1 : decode cX12_countOf 1 = .ok (.aload_n 0, 1) := by decide +kernel
theorem dX12_countOf_2 : decode cX12_countOf 2 = .ok (.getfield 113, 3) := by decide +kernel
theorem dX12_countOf_5 : decode cX12_countOf 5 = .ok (.iload_n 2, 1) := by decide +kernel
theorem dX12_countOf_6 : decode cX12_countOf 6 = .ok (.iaload, 1) := by decide +kernel
theorem dX12_countOf_7 : decode cX12_countOf 7 = .ok (.invokevirtual 333, 3) := by decide +kernel
theorem dX12_countOf_10 : decode cX12_countOf 10 = .ok (.ifCond .eq 16, 3) := by decide +kernel
theorem dX12_countOf_13 : decode cX12_countOf 13 = .ok (.aload_n 0, 1) := by decide +kernel
theorem dX12_countOf_14 : decode cX12_countOf 14 = .ok (.aload_n 0, 1) := by decide +kernel
theorem dX12_countOf_15 : decode cX12_countOf 15 = .ok (.getfield 116, 3) := by decide +kernel
theorem dX12_countOf_18 : decode cX12_countOf 18 = .ok (.iload_n 2, 1) := by decide +kernel
theorem dX12_countOf_19 : decode cX12_countOf 19 = .ok (.iaload, 1) := by decide +kernel
theorem dX12_countOf_20 : decode cX12_countOf 20 = .ok (.invokevirtual 333, 3) := by decide +kernel
theorem dX12_countOf_23 : decode cX12_countOf 23 = .ok (.ifCond .ne 5, 3) := by decide +kernel
theorem dX12_countOf_26 : decode cX12_countOf 26 = .ok (.iconst (-1), 1) := by decide +kernel
theorem dX12_countOf_27 : decode cX12_countOf 27 = .ok (.ireturn, 1) := by decide +kernel
theorem dX12_countOf_28 : decode cX12_countOf 28 = .ok (.aload_n 0, 1) := by decide +kernel
theorem dX12_countOf_29 : decode cX12_countOf 29 = .ok (.iload_n 1, 1) := by decide +kernel
theorem dX12_countOf_30 : decode cX12_countOf 30 = .ok (.aload_n 0, 1) := by decide +kernel
theorem dX12_countOf_31 : decode cX12_countOf 31 = .ok (.getfield 113, 3) := by decide +kernel
theorem dX12_countOf_34 : decode cX12_countOf 34 = .ok (.iload_n 2, 1) := by decide +kernel
theorem dX12_countOf_35 : decode cX12_countOf 35 = .ok (.iaload, 1) := by decide +kernel
theorem dX12_countOf_36 : decode cX12_countOf 36 = .ok (.aload_n 0, 1) := by decide +kernel
theorem dX12_countOf_37 : decode cX12_countOf 37 = .ok (.getfield 116, 3) := by decide +kernel
theorem dX12_countOf_40 : decode cX12_countOf 40 = .ok (.iload_n 2, 1) := by decide +kernel
theorem dX12_countOf_41 : decode cX12_countOf 41 = .ok (.iaload, 1) := by decide +kernel
theorem dX12_countOf_42 : decode cX12_countOf 42 = .ok (.iload_n 3, 1) := by decide +kernel
theorem dX12_countOf_43 : decode cX12_countOf 43 = .ok (.invokevirtual 330, 3) := by decide +kernel
theorem dX12_countOf_46 : decode cX12_countOf 46 = .ok (.istore 4, 2) := by decide +kernel
theorem dX12_countOf_48 : decode cX12_countOf 48 = .ok (.iload 4, 2) := by decide +kernel
theorem dX12_countOf_50 : decode cX12_countOf 50 = .ok (.iconst 2, 1) := by decide +kernel
theorem dX12_countOf_51 : decode cX12_countOf 51 = .ok (.if_icmp .ne 5, 3) := by decide +kernel
theorem dX12_countOf_54 : decode cX12_countOf 54 = .ok (.iconst 2, 1) := by decide +kernel
theorem dX12_countOf_55 : decode cX12_countOf 55 = .ok (.ireturn, 1) := by decide +kernel
theorem dX12_countOf_56 : decode cX12_countOf 56 = .ok (.iload 4, 2) := by decide +kernel
theorem dX12_countOf_58 : decode cX12_countOf 58 = .ok (.iconst 1, 1) := by decide +kernel
theorem dX12_countOf_59 : decode cX12_countOf 59 = .ok (.if_icmp .ne 7, 3) := by decide +kernel
theorem dX12_countOf_62 : decode cX12_countOf 62 = .ok (.iconst 1, 1) := by decide +kernel
theorem dX12_countOf_63 : decode cX12_countOf 63 = .ok (.goto 4, 3) := by decide +kernel
theorem dX12_countOf_66 : decode cX12_countOf 66 = .ok (.iconst 0, 1) := by decide +kernel
theorem dX12_countOf_67 : decode cX12_countOf 67 = .ok (.aload_n 0, 1) := by decide +kernel
theorem dX12_countOf_68 : decode cX12_countOf 68 = .ok (.aload_n 0, 1) := by decide +kernel
theorem dX12_countOf_69 : decode cX12_countOf 69 = .ok (.getfield 113, 3) := by decide +kernel
theorem dX12_countOf_72 : decode cX12_countOf 72 = .ok (.iload_n 2, 1) := by decide +kernel
theorem dX12_countOf_73 : decode cX12_countOf 73 = .ok (.iaload, 1) := by decide +kernel
theorem dX12_countOf_74 : decode cX12_countOf 74 = .ok (.aload_n 0, 1) := by decide +kernel
theorem dX12_countOf_75 : decode cX12_countOf 75 = .ok (.getfield 116, 3) := by decide +kernel
theorem dX12_countOf_78 : decode cX12_countOf 78 = .ok (.iload_n 2, 1) := by decide +kernel
theorem dX12_countOf_79 : decode cX12_countOf 79 = .ok (.iaload, 1) := by decide +kernel
theorem dX12_countOf_80 : decode cX12_countOf 80 = .ok (.invokevirtual 336, 3) := by decide +kernel
theorem dX12_countOf_83 : decode cX12_countOf 83 = .ok (.ifCond .ne 7, 3) := by decide +kernel
theorem dX12_countOf_86 : decode cX12_countOf 86 = .ok (.iconst 1, 1) := by decide +kernel
theorem dX12_countOf_87 : decode cX12_countOf 87 = .ok (.goto 4, 3) := by decide +kernel
theorem dX12_countOf_90 : decode cX12_countOf 90 = .ok (.iconst 0, 1) := by decide +kernel
theorem dX12_countOf_91 : decode cX12_countOf 91 = .ok (.if_icmp .ne 7, 3) := by decide +kernel
theorem dX12_countOf_94 : decode cX12_countOf 94 = .ok (.iconst 0, 1) := by decide +kernel
theorem dX12_countOf_95 : decode cX12_countOf 95 = .ok (.goto 4, 3) := by decide +kernel
theorem dX12_countOf_98 : decode cX12_countOf 98 = .ok (.iconst 1, 1) := by decide +kernel
theorem dX12_countOf_99 : decode cX12_countOf 99 = .ok (.ireturn, 1) := by decide +kernel
theorem dX12_counted_0 : decode cX12_counted 0 = .ok (.aload_n 0, 1) := by decide +kernel
theorem dX12_counted_1 : decode cX12_counted 1 = .ok (.iconst 0, 1) := by decide +kernel
theorem dX12_counted_2 : decode cX12_counted 2 = .ok (.putfield 132, 3) := by decide +kernel
theorem dX12_counted_5 : decode cX12_counted 5 = .ok (.aload_n 0, 1) := by decide +kernel
theorem dX12_counted_6 : decode cX12_counted 6 = .ok (.iload_n 1, 1) := by decide +kernel
theorem dX12_counted_7 : decode cX12_counted 7 = .ok (.invokevirtual 309, 3) := by decide +kernel
theorem dX12_counted_10 : decode cX12_counted 10 = .ok (.ifCond .eq 13, 3) := by decide +kernel
theorem dX12_counted_13 : decode cX12_counted 13 = .ok (.aload_n 0, 1) := by decide +kernel
theorem dX12_counted_14 : decode cX12_counted 14 = .ok (.iload_n 3, 1) := by decide +kernel
theorem dX12_counted_15 : decode cX12_counted 15 = .ok (.iconst 0, 1) := by decide +kernel
theorem dX12_counted_16 : decode cX12_counted 16 = .ok (.iconst 2, 1) := by decide +kernel
theorem dX12_counted_17 : decode cX12_counted 17 = .ok (.invokevirtual 144, 3) := by decide +kernel
theorem dX12_counted_20 : decode cX12_counted 20 = .ok (.ifCond .ne 5, 3) := by decide +kernel
theorem dX12_counted_23 : decode cX12_counted 23 = .ok (.iconst (-1), 1) := by decide +kernel
theorem dX12_counted_24 : decode cX12_counted 24 = .ok (.ireturn, 1) := by decide +kernel
theorem dX12_counted_25 : decode cX12_counted 25 = .ok (.iconst 0, 1) := by decide +kernel
theorem dX12_counted_26 : decode cX12_counted 26 = .ok (.istore 4, 2) := by decide +kernel
theorem dX12_counted_28 : decode cX12_counted 28 = .ok (.iconst 0, 1) := by decide +kernel
theorem dX12_counted_29 : decode cX12_counted 29 = .ok (.istore 5, 2) := by decide +kernel
theorem dX12_counted_31 : decode cX12_counted 31 = .ok (.iload 5, 2) := by decide +kernel
theorem dX12_counted_33 : decode cX12_counted 33 = .ok (.aload_n 0, 1) := by decide +kernel
theorem dX12_counted_34 : decode cX12_counted 34 = .ok (.getfield 342, 3) := by decide +kernel
theorem dX12_counted_37 : decode cX12_counted 37 = .ok (.if_icmp .ge 35, 3) := by decide +kernel
theorem dX12_counted_40 : decode cX12_counted 40 = .ok (.aload_n 0, 1) := by decide +kernel
theorem dX12_counted_41 : decode cX12_counted 41 = .ok (.iload_n 1, 1) := by decide +kernel
theorem dX12_counted_42 : decode cX12_counted 42 = .ok (.iload 5, 2) := by decide +kernel
theorem dX12_counted_44 : decode cX12_counted 44 = .ok (.iload_n 2, 1) := by decide +kernel
theorem dX12_counted_45 : decode cX12_counted 45 = .ok (.ifCond .eq 7, 3) := by decide +kernel
theorem dX12_counted_48 : decode cX12_counted 48 = .ok (.iconst 1, 1) := by decide +kernel
theorem dX12_counted_49 : decode cX12_counted 49 = .ok (.goto 4, 3) := by decide +kernel
theorem dX12_counted_52 : decode cX12_counted 52 = .ok (.iconst 0, 1) := by decide +kernel
theorem dX12_counted_53 : decode cX12_counted 53 = .ok (.invokevirtual 345, 3) := by decide +kernel
theorem dX12_counted_56 : decode cX12_counted 56 = .ok (.iload_n 3, 1) := by decide +kernel
theorem dX12_counted_57 : decode cX12_counted 57 = .ok (.if_icmp .ne 9, 3) := by decide +kernel
theorem dX12_counted_60 : decode cX12_counted 60 = .ok (.iload 4, 2) := by decide +kernel
theorem dX12_counted_62 : decode cX12_counted 62 = .ok (.iconst 1, 1) := by decide +kernel
theorem dX12_counted_63 : decode cX12_counted 63 = .ok (.iadd, 1) := by decide +kernel
theorem dX12_counted_64 : decode cX12_counted 64 = .ok (.istore 4, 2) := by decide +kernel
theorem dX12_counted_66 : decode cX12_counted 66 = .ok (.iinc 5 1, 3) := by decide +kernel
theorem dX12_counted_69 : decode cX12_counted 69 = .ok (.goto (-38), 3) := by decide +kernel
theorem dX12_counted_72 : decode cX12_counted 72 = .ok (.iload 4, 2) := by decide +kernel
theorem dX12_counted_74 : decode cX12_counted 74 = .ok (.ireturn, 1) := by decide +kernel
theorem dX12_ones_0 : decode cX12_ones 0 = .ok (.iconst 0, 1) := by decide +kernel
theorem dX12_ones_1 : decode cX12_ones 1 = .ok (.istore_n 2, 1) := by decide +kernel
theorem dX12_ones_2 : decode cX12_ones 2 = .ok (.iload_n 1, 1) := by decide +kernel
theorem dX12_ones_3 : decode cX12_ones 3 = .ok (.istore_n 3, 1) := by decide +kernel
theorem dX12_ones_4 : decode cX12_ones 4 = .ok (.iload_n 3, 1) := by decide +kernel
theorem dX12_ones_5 : decode cX12_ones 5 = .ok (.ifCond .eq 16, 3) := by decide +kernel
theorem dX12_ones_8 : decode cX12_ones 8 = .ok (.iload_n 2, 1) := by decide +kernel
theorem dX12_ones_9 : decode cX12_ones 9 = .ok (.iconst 1, 1) := by decide +kernel
theorem dX12_ones_10 : decode cX12_ones 10 = .ok (.iadd, 1) := by decide +kernel
theorem dX12_ones_11 : decode cX12_ones 11 = .ok (.istore_n 2, 1) := by decide +kernel
theorem dX12_ones_12 : decode cX12_ones 12 = .ok (.iload_n 3, 1) := by decide +kernel
theorem dX12_ones_13 : decode cX12_ones 13 = .ok (.iload_n 3, 1) := by decide +kernel
theorem dX12_ones_14 : decode cX12_ones 14 = .ok (.iconst 1, 1) := by decide +kernel
theorem dX12_ones_15 : decode cX12_ones 15 = .ok (.isub, 1) := by decide +kernel
theorem dX12_ones_16 : decode cX12_ones 16 = .ok (.iand, 1) := by decide +kernel
theorem dX12_ones_17 : decode cX12_ones 17 = .ok (.istore_n 3, 1) := by decide +kernel
theorem dX12_ones_18 : decode cX12_ones 18 = .ok (.goto (-14), 3) := by decide +kernel
theorem dX12_ones_21 : decode cX12_ones 21 = .ok (.iload_n 2, 1) := by decide +kernel
theorem dX12_ones_22 : decode cX12_ones 22 = .ok (.ireturn, 1) := by decide +kernel
theorem dX12_hoursOfSet_0 : decode cX12_hoursOfSet 0 = .ok (.iconst 0, 1) := by decide +kernel
theorem dX12_hoursOfSet_1 : decode cX12_hoursOfSet 1 = .ok (.istore_n 2, 1) := by decide +kernel
theorem dX12_hoursOfSet_2 : decode cX12_hoursOfSet 2 = .ok (.iconst 0, 1) := by decide +kernel
theorem dX12_hoursOfSet_3 : decode cX12_hoursOfSet 3 = .ok (.istore_n 3, 1) := by decide +kernel
theorem dX12_hoursOfSet_4 : decode cX12_hoursOfSet 4 = .ok (.iload_n 3, 1) := by decide +kernel
theorem dX12_hoursOfSet_5 : decode cX12_hoursOfSet 5 = .ok (.aload_n 0, 1) := by decide +kernel
theorem dX12_hoursOfSet_6 : decode cX12_hoursOfSet 6 = .ok (.getfield 342, 3) := by decide +kernel
theorem dX12_hoursOfSet_9 : decode cX12_hoursOfSet 9 = .ok (.if_icmp .ge 27, 3) := by decide +kernel
theorem dX12_hoursOfSet_12 : decode cX12_hoursOfSet 12 = .ok (.iload_n 1, 1) := by decide +kernel
theorem dX12_hoursOfSet_13 : decode cX12_hoursOfSet 13 = .ok (.iload_n 3, 1) := by decide +kernel
theorem dX12_hoursOfSet_14 : decode cX12_hoursOfSet 14 = .ok (.ishr, 1) := by decide +kernel
theorem dX12_hoursOfSet_15 : decode cX12_hoursOfSet 15 = .ok (.iconst 1, 1) := by decide +kernel
theorem dX12_hoursOfSet_16 : decode cX12_hoursOfSet 16 = .ok (.iand, 1) := by decide +kernel
theorem dX12_hoursOfSet_17 : decode cX12_hoursOfSet 17 = .ok (.iconst 1, 1) := by decide +kernel
theorem dX12_hoursOfSet_18 : decode cX12_hoursOfSet 18 = .ok (.if_icmp .ne 12, 3) := by decide +kernel
theorem dX12_hoursOfSet_21 : decode cX12_hoursOfSet 21 = .ok (.iload_n 2, 1) := by decide +kernel
theorem dX12_hoursOfSet_22 : decode cX12_hoursOfSet 22 = .ok (.aload_n 0, 1) := by decide +kernel
theorem dX12_hoursOfSet_23 : decode cX12_hoursOfSet 23 = .ok (.getfield 119, 3) := by decide +kernel
theorem dX12_hoursOfSet_26 : decode cX12_hoursOfSet 26 = .ok (.iload_n 3, 1) := by decide +kernel
theorem dX12_hoursOfSet_27 : decode cX12_hoursOfSet 27 = .ok (.iaload, 1) := by decide +kernel
theorem dX12_hoursOfSet_28 : decode cX12_hoursOfSet 28 = .ok (.iadd, 1) := by decide +kernel
theorem dX12_hoursOfSet_29 : decode cX12_hoursOfSet 29 = .ok (.istore_n 2, 1) := by decide +kernel
theorem dX12_hoursOfSet_30 : decode cX12_hoursOfSet 30 = .ok (.iinc 3 1, 3) := by decide +kernel
theorem dX12_hoursOfSet_33 : decode cX12_hoursOfSet 33 = .ok (.goto (-29), 3) := by decide +kernel
theorem dX12_hoursOfSet_36 : decode cX12_hoursOfSet 36 = .ok (.iload_n 2, 1) := by decide +kernel
theorem dX12_hoursOfSet_37 : decode cX12_hoursOfSet 37 = .ok (.ireturn, 1) := by decide +kernel
theorem dX12_findsAll_0 : decode cX12_findsAll 0 = .ok (.iconst 0, 1) := by decide +kernel
theorem dX12_findsAll_1 : decode cX12_findsAll 1 = .ok (.istore_n 3, 1) := by decide +kernel
theorem dX12_findsAll_2 : decode cX12_findsAll 2 = .ok (.iload_n 3, 1) := by decide +kernel
theorem dX12_findsAll_3 : decode cX12_findsAll 3 = .ok (.aload_n 0, 1) := by decide +kernel
theorem dX12_findsAll_4 : decode cX12_findsAll 4 = .ok (.getfield 283, 3) := by decide +kernel
theorem dX12_findsAll_7 : decode cX12_findsAll 7 = .ok (.if_icmp .ge 31, 3) := by decide +kernel
theorem dX12_findsAll_10 : decode cX12_findsAll 10 = .ok (.iload_n 1, 1) := by decide +kernel
theorem dX12_findsAll_11 : decode cX12_findsAll 11 = .ok (.iload_n 3, 1) := by decide +kernel
theorem dX12_findsAll_12 : decode cX12_findsAll 12 = .ok (.ishr, 1) := by decide +kernel
theorem dX12_findsAll_13 : decode cX12_findsAll 13 = .ok (.iconst 1, 1) := by decide +kernel
theorem dX12_findsAll_14 : decode cX12_findsAll 14 = .ok (.iand, 1) := by decide +kernel
theorem dX12_findsAll_15 : decode cX12_findsAll 15 = .ok (.iconst 1, 1) := by decide +kernel
theorem dX12_findsAll_16 : decode cX12_findsAll 16 = .ok (.if_icmp .ne 16, 3) := by decide +kernel
theorem dX12_findsAll_19 : decode cX12_findsAll 19 = .ok (.aload_n 0, 1) := by decide +kernel
theorem dX12_findsAll_20 : decode cX12_findsAll 20 = .ok (.getfield 122, 3) := by decide +kernel
theorem dX12_findsAll_23 : decode cX12_findsAll 23 = .ok (.iload_n 3, 1) := by decide +kernel
theorem dX12_findsAll_24 : decode cX12_findsAll 24 = .ok (.iaload, 1) := by decide +kernel
theorem dX12_findsAll_25 : decode cX12_findsAll 25 = .ok (.iload_n 2, 1) := by decide +kernel
theorem dX12_findsAll_26 : decode cX12_findsAll 26 = .ok (.iand, 1) := by decide +kernel
theorem dX12_findsAll_27 : decode cX12_findsAll 27 = .ok (.ifCond .ne 5, 3) := by decide +kernel
theorem dX12_findsAll_30 : decode cX12_findsAll 30 = .ok (.iconst 0, 1) := by decide +kernel
theorem dX12_findsAll_31 : decode cX12_findsAll 31 = .ok (.ireturn, 1) := by decide +kernel
theorem dX12_findsAll_32 : decode cX12_findsAll 32 = .ok (.iinc 3 1, 3) := by decide +kernel
theorem dX12_findsAll_35 : decode cX12_findsAll 35 = .ok (.goto (-33), 3) := by decide +kernel
theorem dX12_findsAll_38 : decode cX12_findsAll 38 = .ok (.iconst 1, 1) := by decide +kernel
theorem dX12_findsAll_39 : decode cX12_findsAll 39 = .ok (.ireturn, 1) := by decide +kernel
theorem dX12_round_0 : decode cX12_round 0 = .ok (.aload_n 0, 1) := by decide +kernel
theorem dX12_round_1 : decode cX12_round 1 = .ok (.iconst 0, 1) := by decide +kernel
theorem dX12_round_2 : decode cX12_round 2 = .ok (.putfield 132, 3) := by decide +kernel
theorem dX12_round_5 : decode cX12_round 5 = .ok (.aload_n 0, 1) := by decide +kernel
theorem dX12_round_6 : decode cX12_round 6 = .ok (.iload_n 1, 1) := by decide +kernel
theorem dX12_round_7 : decode cX12_round 7 = .ok (.iconst 1, 1) := by decide +kernel
theorem dX12_round_8 : decode cX12_round 8 = .ok (.iconst 1, 1) := by decide +kernel
theorem dX12_round_9 : decode cX12_round 9 = .ok (.aload_n 0, 1) := by decide +kernel
theorem dX12_round_10 : decode cX12_round 10 = .ok (.getfield 283, 3) := by decide +kernel
theorem dX12_round_13 : decode cX12_round 13 = .ok (.ishl, 1) := by decide +kernel
theorem dX12_round_14 : decode cX12_round 14 = .ok (.iconst 1, 1) := by decide +kernel
theorem dX12_round_15 : decode cX12_round 15 = .ok (.isub, 1) := by decide +kernel
theorem dX12_round_16 : decode cX12_round 16 = .ok (.invokevirtual 144, 3) := by decide +kernel
theorem dX12_round_19 : decode cX12_round 19 = .ok (.ifCond .eq 13, 3) := by decide +kernel
theorem dX12_round_22 : decode cX12_round 22 = .ok (.aload_n 0, 1) := by decide +kernel
theorem dX12_round_23 : decode cX12_round 23 = .ok (.iload_n 2, 1) := by decide +kernel
theorem dX12_round_24 : decode cX12_round 24 = .ok (.iconst 0, 1) := by decide +kernel
theorem dX12_round_25 : decode cX12_round 25 = .ok (.iconst 1, 1) := by decide +kernel
theorem dX12_round_26 : decode cX12_round 26 = .ok (.invokevirtual 144, 3) := by decide +kernel
theorem dX12_round_29 : decode cX12_round 29 = .ok (.ifCond .ne 5, 3) := by decide +kernel
theorem dX12_round_32 : decode cX12_round 32 = .ok (.iconst (-1), 1) := by decide +kernel
theorem dX12_round_33 : decode cX12_round 33 = .ok (.ireturn, 1) := by decide +kernel
theorem dX12_round_34 : decode cX12_round 34 = .ok (.iconst 0, 1) := by decide +kernel
theorem dX12_round_35 : decode cX12_round 35 = .ok (.istore_n 3, 1) := by decide +kernel
theorem dX12_round_36 : decode cX12_round 36 = .ok (.iload_n 3, 1) := by decide +kernel
theorem dX12_round_37 : decode cX12_round 37 = .ok (.aload_n 0, 1) := by decide +kernel
theorem dX12_round_38 : decode cX12_round 38 = .ok (.getfield 283, 3) := by decide +kernel
theorem dX12_round_41 : decode cX12_round 41 = .ok (.if_icmp .ge 72, 3) := by decide +kernel
theorem dX12_round_44 : decode cX12_round 44 = .ok (.aload_n 0, 1) := by decide +kernel
theorem dX12_round_45 : decode cX12_round 45 = .ok (.getfield 122, 3) := by decide +kernel
theorem dX12_round_48 : decode cX12_round 48 = .ok (.iload_n 3, 1) := by decide +kernel
theorem dX12_round_49 : decode cX12_round 49 = .ok (.iconst 0, 1) := by decide +kernel
theorem dX12_round_50 : decode cX12_round 50 = .ok (.iastore, 1) := by decide +kernel
theorem dX12_round_51 : decode cX12_round 51 = .ok (.iconst 0, 1) := by decide +kernel
theorem dX12_round_52 : decode cX12_round 52 = .ok (.istore 4, 2) := by decide +kernel
theorem dX12_round_54 : decode cX12_round 54 = .ok (.iload 4, 2) := by decide +kernel
theorem dX12_round_56 : decode cX12_round 56 = .ok (.aload_n 0, 1) := by decide +kernel
theorem dX12_round_57 : decode cX12_round 57 = .ok (.getfield 342, 3) := by decide +kernel
theorem dX12_round_60 : decode cX12_round 60 = .ok (.if_icmp .ge 47, 3) := by decide +kernel
theorem dX12_round_63 : decode cX12_round 63 = .ok (.iload_n 1, 1) := by decide +kernel
theorem dX12_round_64 : decode cX12_round 64 = .ok (.iload_n 3, 1) := by decide +kernel
theorem dX12_round_65 : decode cX12_round 65 = .ok (.ishr, 1) := by decide +kernel
theorem dX12_round_66 : decode cX12_round 66 = .ok (.iconst 1, 1) := by decide +kernel
theorem dX12_round_67 : decode cX12_round 67 = .ok (.iand, 1) := by decide +kernel
theorem dX12_round_68 : decode cX12_round 68 = .ok (.iconst 1, 1) := by decide +kernel
theorem dX12_round_69 : decode cX12_round 69 = .ok (.if_icmp .ne 38, 3) := by decide +kernel
theorem dX12_round_72 : decode cX12_round 72 = .ok (.aload_n 0, 1) := by decide +kernel
theorem dX12_round_73 : decode cX12_round 73 = .ok (.iload_n 3, 1) := by decide +kernel
theorem dX12_round_74 : decode cX12_round 74 = .ok (.iload 4, 2) := by decide +kernel
theorem dX12_round_76 : decode cX12_round 76 = .ok (.iconst 0, 1) := by decide +kernel
theorem dX12_round_77 : decode cX12_round 77 = .ok (.invokevirtual 345, 3) := by decide +kernel
theorem dX12_round_80 : decode cX12_round 80 = .ok (.iconst 1, 1) := by decide +kernel
theorem dX12_round_81 : decode cX12_round 81 = .ok (.if_icmp .ne 20, 3) := by decide +kernel
theorem dX12_round_84 : decode cX12_round 84 = .ok (.aload_n 0, 1) := by decide +kernel
theorem dX12_round_85 : decode cX12_round 85 = .ok (.getfield 122, 3) := by decide +kernel
theorem dX12_round_88 : decode cX12_round 88 = .ok (.iload_n 3, 1) := by decide +kernel
theorem dX12_round_89 : decode cX12_round 89 = .ok (.aload_n 0, 1) := by decide +kernel
theorem dX12_round_90 : decode cX12_round 90 = .ok (.getfield 122, 3) := by decide +kernel
theorem dX12_round_93 : decode cX12_round 93 = .ok (.iload_n 3, 1) := by decide +kernel
theorem dX12_round_94 : decode cX12_round 94 = .ok (.iaload, 1) := by decide +kernel
theorem dX12_round_95 : decode cX12_round 95 = .ok (.iconst 1, 1) := by decide +kernel
theorem dX12_round_96 : decode cX12_round 96 = .ok (.iload 4, 2) := by decide +kernel
theorem dX12_round_98 : decode cX12_round 98 = .ok (.ishl, 1) := by decide +kernel
theorem dX12_round_99 : decode cX12_round 99 = .ok (.ior, 1) := by decide +kernel
theorem dX12_round_100 : decode cX12_round 100 = .ok (.iastore, 1) := by decide +kernel
theorem dX12_round_101 : decode cX12_round 101 = .ok (.iinc 4 1, 3) := by decide +kernel
theorem dX12_round_104 : decode cX12_round 104 = .ok (.goto (-50), 3) := by decide +kernel
theorem dX12_round_107 : decode cX12_round 107 = .ok (.iinc 3 1, 3) := by decide +kernel
theorem dX12_round_110 : decode cX12_round 110 = .ok (.goto (-74), 3) := by decide +kernel
theorem dX12_round_113 : decode cX12_round 113 = .ok (.iconst (-1), 1) := by decide +kernel
theorem dX12_round_114 : decode cX12_round 114 = .ok (.istore_n 3, 1) := by decide +kernel
theorem dX12_round_115 : decode cX12_round 115 = .ok (.iconst 1, 1) := by decide +kernel
theorem dX12_round_116 : decode cX12_round 116 = .ok (.istore 4, 2) := by decide +kernel
theorem dX12_round_118 : decode cX12_round 118 = .ok (.iload 4, 2) := by decide +kernel
theorem dX12_round_120 : decode cX12_round 120 = .ok (.iconst 1, 1) := by decide +kernel
theorem dX12_round_121 : decode cX12_round 121 = .ok (.aload_n 0, 1) := by decide +kernel
theorem dX12_round_122 : decode cX12_round 122 = .ok (.getfield 342, 3) := by decide +kernel
theorem dX12_round_125 : decode cX12_round 125 = .ok (.ishl, 1) := by decide +kernel
theorem dX12_round_126 : decode cX12_round 126 = .ok (.if_icmp .ge 75, 3) := by decide +kernel
theorem dX12_round_129 : decode cX12_round 129 = .ok (.aload_n 0, 1) := by decide +kernel
theorem dX12_round_130 : decode cX12_round 130 = .ok (.iload_n 1, 1) := by decide +kernel
theorem dX12_round_131 : decode cX12_round 131 = .ok (.iload 4, 2) := by decide +kernel
theorem dX12_round_133 : decode cX12_round 133 = .ok (.invokevirtual 348, 3) := by decide +kernel
theorem dX12_round_136 : decode cX12_round 136 = .ok (.ifCond .ne 6, 3) := by decide +kernel
theorem dX12_round_139 : decode cX12_round 139 = .ok (.goto 56, 3) := by decide +kernel
theorem dX12_round_142 : decode cX12_round 142 = .ok (.iload_n 3, 1) := by decide +kernel
theorem dX12_round_143 : decode cX12_round 143 = .ok (.iconst (-1), 1) := by decide +kernel
theorem dX12_round_144 : decode cX12_round 144 = .ok (.if_icmp .eq 48, 3) := by decide +kernel
theorem dX12_round_147 : decode cX12_round 147 = .ok (.aload_n 0, 1) := by decide +kernel
theorem dX12_round_148 : decode cX12_round 148 = .ok (.iload 4, 2) := by decide +kernel
theorem dX12_round_150 : decode cX12_round 150 = .ok (.invokevirtual 352, 3) := by decide +kernel
theorem dX12_round_153 : decode cX12_round 153 = .ok (.aload_n 0, 1) := by decide +kernel
theorem dX12_round_154 : decode cX12_round 154 = .ok (.iload_n 3, 1) := by decide +kernel
theorem dX12_round_155 : decode cX12_round 155 = .ok (.invokevirtual 352, 3) := by decide +kernel
theorem dX12_round_158 : decode cX12_round 158 = .ok (.if_icmp .gt 37, 3) := by decide +kernel
theorem dX12_round_161 : decode cX12_round 161 = .ok (.aload_n 0, 1) := by decide +kernel
theorem dX12_round_162 : decode cX12_round 162 = .ok (.iload 4, 2) := by decide +kernel
theorem dX12_round_164 : decode cX12_round 164 = .ok (.invokevirtual 352, 3) := by decide +kernel
theorem dX12_round_167 : decode cX12_round 167 = .ok (.aload_n 0, 1) := by decide +kernel
theorem dX12_round_168 : decode cX12_round 168 = .ok (.iload_n 3, 1) := by decide +kernel
theorem dX12_round_169 : decode cX12_round 169 = .ok (.invokevirtual 352, 3) := by decide +kernel
theorem dX12_round_172 : decode cX12_round 172 = .ok (.if_icmp .ne 20, 3) := by decide +kernel
theorem dX12_round_175 : decode cX12_round 175 = .ok (.aload_n 0, 1) := by decide +kernel
theorem dX12_round_176 : decode cX12_round 176 = .ok (.iload 4, 2) := by decide +kernel
theorem dX12_round_178 : decode cX12_round 178 = .ok (.invokevirtual 355, 3) := by decide +kernel
theorem dX12_round_181 : decode cX12_round 181 = .ok (.aload_n 0, 1) := by decide +kernel
theorem dX12_round_182 : decode cX12_round 182 = .ok (.iload_n 3, 1) := by decide +kernel
theorem dX12_round_183 : decode cX12_round 183 = .ok (.invokevirtual 355, 3) := by decide +kernel
theorem dX12_round_186 : decode cX12_round 186 = .ok (.if_icmp .lt 6, 3) := by decide +kernel
theorem dX12_round_189 : decode cX12_round 189 = .ok (.goto 6, 3) := by decide +kernel
theorem dX12_round_192 : decode cX12_round 192 = .ok (.iload 4, 2) := by decide +kernel
theorem dX12_round_194 : decode cX12_round 194 = .ok (.istore_n 3, 1) := by decide +kernel
theorem dX12_round_195 : decode cX12_round 195 = .ok (.iinc 4 1, 3) := by decide +kernel
theorem dX12_round_198 : decode cX12_round 198 = .ok (.goto (-80), 3) := by decide +kernel
theorem dX12_round_201 : decode cX12_round 201 = .ok (.iload_n 3, 1) := by decide +kernel
theorem dX12_round_202 : decode cX12_round 202 = .ok (.iconst (-1), 1) := by decide +kernel
theorem dX12_round_203 : decode cX12_round 203 = .ok (.if_icmp .eq 7, 3) := by decide +kernel
theorem dX12_round_206 : decode cX12_round 206 = .ok (.iload_n 2, 1) := by decide +kernel
theorem dX12_round_207 : decode cX12_round 207 = .ok (.ifCond .ne 7, 3) := by decide +kernel
theorem dX12_round_210 : decode cX12_round 210 = .ok (.iload_n 3, 1) := by decide +kernel
theorem dX12_round_211 : decode cX12_round 211 = .ok (.goto 8, 3) := by decide +kernel
theorem dX12_round_214 : decode cX12_round 214 = .ok (.aload_n 0, 1) := by decide +kernel
theorem dX12_round_215 : decode cX12_round 215 = .ok (.iload_n 3, 1) := by decide +kernel
theorem dX12_round_216 : decode cX12_round 216 = .ok (.invokevirtual 352, 3) := by decide +kernel
theorem dX12_round_219 : decode cX12_round 219 = .ok (.ireturn, 1) := by decide +kernel
theorem dX12_lean_0 : decode cX12_lean 0 = .ok (.aload_n 0, 1) := by decide +kernel
theorem dX12_lean_1 : decode cX12_lean 1 = .ok (.iconst 0, 1) := by decide +kernel
theorem dX12_lean_2 : decode cX12_lean 2 = .ok (.putfield 132, 3) := by decide +kernel
theorem dX12_lean_5 : decode cX12_lean 5 = .ok (.aload_n 0, 1) := by decide +kernel
theorem dX12_lean_6 : decode cX12_lean 6 = .ok (.iload_n 1, 1) := by decide +kernel
theorem dX12_lean_7 : decode cX12_lean 7 = .ok (.invokevirtual 309, 3) := by decide +kernel
theorem dX12_lean_10 : decode cX12_lean 10 = .ok (.ifCond .ne 5, 3) := by decide +kernel
theorem dX12_lean_13 : decode cX12_lean 13 = .ok (.iconst (-1), 1) := by decide +kernel
theorem dX12_lean_14 : decode cX12_lean 14 = .ok (.ireturn, 1) := by decide +kernel
theorem dX12_lean_15 : decode cX12_lean 15 = .ok (.iconst 0, 1) := by decide +kernel
theorem dX12_lean_16 : decode cX12_lean 16 = .ok (.istore_n 2, 1) := by decide +kernel
theorem dX12_lean_17 : decode cX12_lean 17 = .ok (.iconst 0, 1) := by decide +kernel
theorem dX12_lean_18 : decode cX12_lean 18 = .ok (.istore_n 3, 1) := by decide +kernel
theorem dX12_lean_19 : decode cX12_lean 19 = .ok (.iload_n 3, 1) := by decide +kernel
theorem dX12_lean_20 : decode cX12_lean 20 = .ok (.aload_n 0, 1) := by decide +kernel
theorem dX12_lean_21 : decode cX12_lean 21 = .ok (.getfield 342, 3) := by decide +kernel
theorem dX12_lean_24 : decode cX12_lean 24 = .ok (.if_icmp .ge 52, 3) := by decide +kernel
theorem dX12_lean_27 : decode cX12_lean 27 = .ok (.aload_n 0, 1) := by decide +kernel
theorem dX12_lean_28 : decode cX12_lean 28 = .ok (.iload_n 1, 1) := by decide +kernel
theorem dX12_lean_29 : decode cX12_lean 29 = .ok (.aload_n 0, 1) := by decide +kernel
theorem dX12_lean_30 : decode cX12_lean 30 = .ok (.getfield 113, 3) := by decide +kernel
theorem dX12_lean_33 : decode cX12_lean 33 = .ok (.iload_n 3, 1) := by decide +kernel
theorem dX12_lean_34 : decode cX12_lean 34 = .ok (.iaload, 1) := by decide +kernel
theorem dX12_lean_35 : decode cX12_lean 35 = .ok (.aload_n 0, 1) := by decide +kernel
theorem dX12_lean_36 : decode cX12_lean 36 = .ok (.getfield 116, 3) := by decide +kernel
theorem dX12_lean_39 : decode cX12_lean 39 = .ok (.iload_n 3, 1) := by decide +kernel
theorem dX12_lean_40 : decode cX12_lean 40 = .ok (.iaload, 1) := by decide +kernel
theorem dX12_lean_41 : decode cX12_lean 41 = .ok (.iconst 0, 1) := by decide +kernel
theorem dX12_lean_42 : decode cX12_lean 42 = .ok (.invokevirtual 330, 3) := by decide +kernel
theorem dX12_lean_45 : decode cX12_lean 45 = .ok (.aload_n 0, 1) := by decide +kernel
theorem dX12_lean_46 : decode cX12_lean 46 = .ok (.iload_n 1, 1) := by decide +kernel
theorem dX12_lean_47 : decode cX12_lean 47 = .ok (.aload_n 0, 1) := by decide +kernel
theorem dX12_lean_48 : decode cX12_lean 48 = .ok (.getfield 113, 3) := by decide +kernel
theorem dX12_lean_51 : decode cX12_lean 51 = .ok (.iload_n 3, 1) := by decide +kernel
theorem dX12_lean_52 : decode cX12_lean 52 = .ok (.iaload, 1) := by decide +kernel
theorem dX12_lean_53 : decode cX12_lean 53 = .ok (.aload_n 0, 1) := by decide +kernel
theorem dX12_lean_54 : decode cX12_lean 54 = .ok (.getfield 116, 3) := by decide +kernel
theorem dX12_lean_57 : decode cX12_lean 57 = .ok (.iload_n 3, 1) := by decide +kernel
theorem dX12_lean_58 : decode cX12_lean 58 = .ok (.iaload, 1) := by decide +kernel
theorem dX12_lean_59 : decode cX12_lean 59 = .ok (.iconst 1, 1) := by decide +kernel
theorem dX12_lean_60 : decode cX12_lean 60 = .ok (.invokevirtual 330, 3) := by decide +kernel
theorem dX12_lean_63 : decode cX12_lean 63 = .ok (.if_icmp .eq 7, 3) := by decide +kernel
theorem dX12_lean_66 : decode cX12_lean 66 = .ok (.iload_n 2, 1) := by decide +kernel
theorem dX12_lean_67 : decode cX12_lean 67 = .ok (.iconst 1, 1) := by decide +kernel
theorem dX12_lean_68 : decode cX12_lean 68 = .ok (.iadd, 1) := by decide +kernel
theorem dX12_lean_69 : decode cX12_lean 69 = .ok (.istore_n 2, 1) := by decide +kernel
theorem dX12_lean_70 : decode cX12_lean 70 = .ok (.iinc 3 1, 3) := by decide +kernel
theorem dX12_lean_73 : decode cX12_lean 73 = .ok (.goto (-54), 3) := by decide +kernel
theorem dX12_lean_76 : decode cX12_lean 76 = .ok (.iload_n 2, 1) := by decide +kernel
theorem dX12_lean_77 : decode cX12_lean 77 = .ok (.ireturn, 1) := by decide +kernel
theorem dX12_scene_0 : decode cX12_scene 0 = .ok (.aload_n 0, 1) := by decide +kernel
theorem dX12_scene_1 : decode cX12_scene 1 = .ok (.iconst 0, 1) := by decide +kernel
theorem dX12_scene_2 : decode cX12_scene 2 = .ok (.putfield 132, 3) := by decide +kernel
theorem dX12_scene_5 : decode cX12_scene 5 = .ok (.aload_n 0, 1) := by decide +kernel
theorem dX12_scene_6 : decode cX12_scene 6 = .ok (.iload_n 1, 1) := by decide +kernel
theorem dX12_scene_7 : decode cX12_scene 7 = .ok (.iconst 0, 1) := by decide +kernel
theorem dX12_scene_8 : decode cX12_scene 8 = .ok (.bipush 7, 2) := by decide +kernel
theorem dX12_scene_10 : decode cX12_scene 10 = .ok (.invokevirtual 144, 3) := by decide +kernel
theorem dX12_scene_13 : decode cX12_scene 13 = .ok (.ifCond .eq 34, 3) := by decide +kernel
theorem dX12_scene_16 : decode cX12_scene 16 = .ok (.aload_n 0, 1) := by decide +kernel
theorem dX12_scene_17 : decode cX12_scene 17 = .ok (.iload_n 2, 1) := by decide +kernel
theorem dX12_scene_18 : decode cX12_scene 18 = .ok (.invokevirtual 168, 3) := by decide +kernel
theorem dX12_scene_21 : decode cX12_scene 21 = .ok (.ifCond .eq 26, 3) := by decide +kernel
theorem dX12_scene_24 : decode cX12_scene 24 = .ok (.aload_n 0, 1) := by decide +kernel
theorem dX12_scene_25 : decode cX12_scene 25 = .ok (.getfield 125, 3) := by decide +kernel
theorem dX12_scene_28 : decode cX12_scene 28 = .ok (.iload_n 1, 1) := by decide +kernel
theorem dX12_scene_29 : decode cX12_scene 29 = .ok (.laload, 1) := by decide +kernel
theorem dX12_scene_30 : decode cX12_scene 30 = .ok (.iload_n 2, 1) := by decide +kernel
theorem dX12_scene_31 : decode cX12_scene 31 = .ok (.lshr, 1) := by decide +kernel
theorem dX12_scene_32 : decode cX12_scene 32 = .ok (.lconst 1, 1) := by decide +kernel
theorem dX12_scene_33 : decode cX12_scene 33 = .ok (.land, 1) := by decide +kernel
theorem dX12_scene_34 : decode cX12_scene 34 = .ok (.iload_n 3, 1) := by decide +kernel
theorem dX12_scene_35 : decode cX12_scene 35 = .ok (.ifCond .eq 7, 3) := by decide +kernel
theorem dX12_scene_38 : decode cX12_scene 38 = .ok (.lconst 1, 1) := by decide +kernel
theorem dX12_scene_39 : decode cX12_scene 39 = .ok (.goto 4, 3) := by decide +kernel
theorem dX12_scene_42 : decode cX12_scene 42 = .ok (.lconst 0, 1) := by decide +kernel
theorem dX12_scene_43 : decode cX12_scene 43 = .ok (.lcmp, 1) := by decide +kernel
theorem dX12_scene_44 : decode cX12_scene 44 = .ok (.ifCond .ne 5, 3) := by decide +kernel
theorem dX12_scene_47 : decode cX12_scene 47 = .ok (.iconst 0, 1) := by decide +kernel
theorem dX12_scene_48 : decode cX12_scene 48 = .ok (.ireturn, 1) := by decide +kernel
theorem dX12_scene_49 : decode cX12_scene 49 = .ok (.aload_n 0, 1) := by decide +kernel
theorem dX12_scene_50 : decode cX12_scene 50 = .ok (.getfield 125, 3) := by decide +kernel
theorem dX12_scene_53 : decode cX12_scene 53 = .ok (.iload_n 1, 1) := by decide +kernel
theorem dX12_scene_54 : decode cX12_scene 54 = .ok (.aload_n 0, 1) := by decide +kernel
theorem dX12_scene_55 : decode cX12_scene 55 = .ok (.getfield 125, 3) := by decide +kernel
theorem dX12_scene_58 : decode cX12_scene 58 = .ok (.iload_n 1, 1) := by decide +kernel
theorem dX12_scene_59 : decode cX12_scene 59 = .ok (.laload, 1) := by decide +kernel
theorem dX12_scene_60 : decode cX12_scene 60 = .ok (.lconst 1, 1) := by decide +kernel
theorem dX12_scene_61 : decode cX12_scene 61 = .ok (.iload_n 2, 1) := by decide +kernel
theorem dX12_scene_62 : decode cX12_scene 62 = .ok (.lshl, 1) := by decide +kernel
theorem dX12_scene_63 : decode cX12_scene 63 = .ok (.lxor, 1) := by decide +kernel
theorem dX12_scene_64 : decode cX12_scene 64 = .ok (.lastore, 1) := by decide +kernel
theorem dX12_scene_65 : decode cX12_scene 65 = .ok (.iconst 1, 1) := by decide +kernel
theorem dX12_scene_66 : decode cX12_scene 66 = .ok (.ireturn, 1) := by decide +kernel
theorem dX12_bestOf_0 : decode cX12_bestOf 0 = .ok (.iconst (-1), 1) := by decide +kernel
theorem dX12_bestOf_1 : decode cX12_bestOf 1 = .ok (.istore 4, 2) := by decide +kernel
theorem dX12_bestOf_3 : decode cX12_bestOf 3 = .ok (.iconst 0, 1) := by decide +kernel
theorem dX12_bestOf_4 : decode cX12_bestOf 4 = .ok (.istore 5, 2) := by decide +kernel
theorem dX12_bestOf_6 : decode cX12_bestOf 6 = .ok (.iload 5, 2) := by decide +kernel
theorem dX12_bestOf_8 : decode cX12_bestOf 8 = .ok (.aload_n 0, 1) := by decide +kernel
theorem dX12_bestOf_9 : decode cX12_bestOf 9 = .ok (.getfield 141, 3) := by decide +kernel
theorem dX12_bestOf_12 : decode cX12_bestOf 12 = .ok (.if_icmp .ge 93, 3) := by decide +kernel
theorem dX12_bestOf_15 : decode cX12_bestOf 15 = .ok (.iconst 0, 1) := by decide +kernel
theorem dX12_bestOf_16 : decode cX12_bestOf 16 = .ok (.istore 6, 2) := by decide +kernel
theorem dX12_bestOf_18 : decode cX12_bestOf 18 = .ok (.iload 6, 2) := by decide +kernel
theorem dX12_bestOf_20 : decode cX12_bestOf 20 = .ok (.aload_n 0, 1) := by decide +kernel
theorem dX12_bestOf_21 : decode cX12_bestOf 21 = .ok (.getfield 141, 3) := by decide +kernel
theorem dX12_bestOf_24 : decode cX12_bestOf 24 = .ok (.if_icmp .ge 75, 3) := by decide +kernel
theorem dX12_bestOf_27 : decode cX12_bestOf 27 = .ok (.aload_n 0, 1) := by decide +kernel
theorem dX12_bestOf_28 : decode cX12_bestOf 28 = .ok (.getfield 125, 3) := by decide +kernel
theorem dX12_bestOf_31 : decode cX12_bestOf 31 = .ok (.iload_n 2, 1) := by decide +kernel
theorem dX12_bestOf_32 : decode cX12_bestOf 32 = .ok (.laload, 1) := by decide +kernel
theorem dX12_bestOf_33 : decode cX12_bestOf 33 = .ok (.iload 5, 2) := by decide +kernel
theorem dX12_bestOf_35 : decode cX12_bestOf 35 = .ok (.lshr, 1) := by decide +kernel
theorem dX12_bestOf_36 : decode cX12_bestOf 36 = .ok (.lconst 1, 1) := by decide +kernel
theorem dX12_bestOf_37 : decode cX12_bestOf 37 = .ok (.land, 1) := by decide +kernel
theorem dX12_bestOf_38 : decode cX12_bestOf 38 = .ok (.lconst 0, 1) := by decide +kernel
theorem dX12_bestOf_39 : decode cX12_bestOf 39 = .ok (.lcmp, 1) := by decide +kernel
theorem dX12_bestOf_40 : decode cX12_bestOf 40 = .ok (.ifCond .eq 53, 3) := by decide +kernel
theorem dX12_bestOf_43 : decode cX12_bestOf 43 = .ok (.aload_n 0, 1) := by decide +kernel
theorem dX12_bestOf_44 : decode cX12_bestOf 44 = .ok (.getfield 125, 3) := by decide +kernel
theorem dX12_bestOf_47 : decode cX12_bestOf 47 = .ok (.iload_n 3, 1) := by decide +kernel
theorem dX12_bestOf_48 : decode cX12_bestOf 48 = .ok (.laload, 1) := by decide +kernel
theorem dX12_bestOf_49 : decode cX12_bestOf 49 = .ok (.iload 6, 2) := by decide +kernel
theorem dX12_bestOf_51 : decode cX12_bestOf 51 = .ok (.lshr, 1) := by decide +kernel
theorem dX12_bestOf_52 : decode cX12_bestOf 52 = .ok (.lconst 1, 1) := by decide +kernel
theorem dX12_bestOf_53 : decode cX12_bestOf 53 = .ok (.land, 1) := by decide +kernel
theorem dX12_bestOf_54 : decode cX12_bestOf 54 = .ok (.lconst 0, 1) := by decide +kernel
theorem dX12_bestOf_55 : decode cX12_bestOf 55 = .ok (.lcmp, 1) := by decide +kernel
theorem dX12_bestOf_56 : decode cX12_bestOf 56 = .ok (.ifCond .eq 37, 3) := by decide +kernel
theorem dX12_bestOf_59 : decode cX12_bestOf 59 = .ok (.aload_n 0, 1) := by decide +kernel
theorem dX12_bestOf_60 : decode cX12_bestOf 60 = .ok (.iload_n 1, 1) := by decide +kernel
theorem dX12_bestOf_61 : decode cX12_bestOf 61 = .ok (.iload 5, 2) := by decide +kernel
theorem dX12_bestOf_63 : decode cX12_bestOf 63 = .ok (.iload 6, 2) := by decide +kernel
theorem dX12_bestOf_65 : decode cX12_bestOf 65 = .ok (.iconst 0, 1) := by decide +kernel
theorem dX12_bestOf_66 : decode cX12_bestOf 66 = .ok (.invokevirtual 330, 3) := by decide +kernel
theorem dX12_bestOf_69 : decode cX12_bestOf 69 = .ok (.iconst 1, 1) := by decide +kernel
theorem dX12_bestOf_70 : decode cX12_bestOf 70 = .ok (.if_icmp .eq 6, 3) := by decide +kernel
theorem dX12_bestOf_73 : decode cX12_bestOf 73 = .ok (.goto 20, 3) := by decide +kernel
theorem dX12_bestOf_76 : decode cX12_bestOf 76 = .ok (.aload_n 0, 1) := by decide +kernel
theorem dX12_bestOf_77 : decode cX12_bestOf 77 = .ok (.iload 4, 2) := by decide +kernel
theorem dX12_bestOf_79 : decode cX12_bestOf 79 = .ok (.aload_n 0, 1) := by decide +kernel
theorem dX12_bestOf_80 : decode cX12_bestOf 80 = .ok (.iload_n 1, 1) := by decide +kernel
theorem dX12_bestOf_81 : decode cX12_bestOf 81 = .ok (.iload 5, 2) := by decide +kernel
theorem dX12_bestOf_83 : decode cX12_bestOf 83 = .ok (.iload 6, 2) := by decide +kernel
theorem dX12_bestOf_85 : decode cX12_bestOf 85 = .ok (.invokevirtual 339, 3) := by decide +kernel
theorem dX12_bestOf_88 : decode cX12_bestOf 88 = .ok (.invokevirtual 306, 3) := by decide +kernel
theorem dX12_bestOf_91 : decode cX12_bestOf 91 = .ok (.istore 4, 2) := by decide +kernel
theorem dX12_bestOf_93 : decode cX12_bestOf 93 = .ok (.iinc 6 1, 3) := by decide +kernel
theorem dX12_bestOf_96 : decode cX12_bestOf 96 = .ok (.goto (-78), 3) := by decide +kernel
theorem dX12_bestOf_99 : decode cX12_bestOf 99 = .ok (.iinc 5 1, 3) := by decide +kernel
theorem dX12_bestOf_102 : decode cX12_bestOf 102 = .ok (.goto (-96), 3) := by decide +kernel
theorem dX12_bestOf_105 : decode cX12_bestOf 105 = .ok (.iload 4, 2) := by decide +kernel
theorem dX12_bestOf_107 : decode cX12_bestOf 107 = .ok (.ireturn, 1) := by decide +kernel
theorem dX12_joins_0 : decode cX12_joins 0 = .ok (.aload_n 0, 1) := by decide +kernel
theorem dX12_joins_1 : decode cX12_joins 1 = .ok (.getfield 129, 3) := by decide +kernel
theorem dX12_joins_4 : decode cX12_joins 4 = .ok (.iload_n 1, 1) := by decide +kernel
theorem dX12_joins_5 : decode cX12_joins 5 = .ok (.iaload, 1) := by decide +kernel
theorem dX12_joins_6 : decode cX12_joins 6 = .ok (.aload_n 0, 1) := by decide +kernel
theorem dX12_joins_7 : decode cX12_joins 7 = .ok (.getfield 129, 3) := by decide +kernel
theorem dX12_joins_10 : decode cX12_joins 10 = .ok (.iload_n 2, 1) := by decide +kernel
theorem dX12_joins_11 : decode cX12_joins 11 = .ok (.iaload, 1) := by decide +kernel
theorem dX12_joins_12 : decode cX12_joins 12 = .ok (.if_icmp .ge 12, 3) := by decide +kernel
theorem dX12_joins_15 : decode cX12_joins 15 = .ok (.aload_n 0, 1) := by decide +kernel
theorem dX12_joins_16 : decode cX12_joins 16 = .ok (.getfield 129, 3) := by decide +kernel
theorem dX12_joins_19 : decode cX12_joins 19 = .ok (.iload_n 1, 1) := by decide +kernel
theorem dX12_joins_20 : decode cX12_joins 20 = .ok (.iaload, 1) := by decide +kernel
theorem dX12_joins_21 : decode cX12_joins 21 = .ok (.goto 9, 3) := by decide +kernel
theorem dX12_joins_24 : decode cX12_joins 24 = .ok (.aload_n 0, 1) := by decide +kernel
theorem dX12_joins_25 : decode cX12_joins 25 = .ok (.getfield 129, 3) := by decide +kernel
theorem dX12_joins_28 : decode cX12_joins 28 = .ok (.iload_n 2, 1) := by decide +kernel
theorem dX12_joins_29 : decode cX12_joins 29 = .ok (.iaload, 1) := by decide +kernel
theorem dX12_joins_30 : decode cX12_joins 30 = .ok (.istore_n 3, 1) := by decide +kernel
theorem dX12_joins_31 : decode cX12_joins 31 = .ok (.aload_n 0, 1) := by decide +kernel
theorem dX12_joins_32 : decode cX12_joins 32 = .ok (.getfield 129, 3) := by decide +kernel
theorem dX12_joins_35 : decode cX12_joins 35 = .ok (.iload_n 1, 1) := by decide +kernel
theorem dX12_joins_36 : decode cX12_joins 36 = .ok (.iaload, 1) := by decide +kernel
theorem dX12_joins_37 : decode cX12_joins 37 = .ok (.aload_n 0, 1) := by decide +kernel
theorem dX12_joins_38 : decode cX12_joins 38 = .ok (.getfield 129, 3) := by decide +kernel
theorem dX12_joins_41 : decode cX12_joins 41 = .ok (.iload_n 2, 1) := by decide +kernel
theorem dX12_joins_42 : decode cX12_joins 42 = .ok (.iaload, 1) := by decide +kernel
theorem dX12_joins_43 : decode cX12_joins 43 = .ok (.iadd, 1) := by decide +kernel
theorem dX12_joins_44 : decode cX12_joins 44 = .ok (.iload_n 3, 1) := by decide +kernel
theorem dX12_joins_45 : decode cX12_joins 45 = .ok (.isub, 1) := by decide +kernel
theorem dX12_joins_46 : decode cX12_joins 46 = .ok (.istore 4, 2) := by decide +kernel
theorem dX12_joins_48 : decode cX12_joins 48 = .ok (.iconst 0, 1) := by decide +kernel
theorem dX12_joins_49 : decode cX12_joins 49 = .ok (.istore 5, 2) := by decide +kernel
theorem dX12_joins_51 : decode cX12_joins 51 = .ok (.iload 5, 2) := by decide +kernel
theorem dX12_joins_53 : decode cX12_joins 53 = .ok (.bipush 8, 2) := by decide +kernel
theorem dX12_joins_55 : decode cX12_joins 55 = .ok (.if_icmp .ge 29, 3) := by decide +kernel
theorem dX12_joins_58 : decode cX12_joins 58 = .ok (.aload_n 0, 1) := by decide +kernel
theorem dX12_joins_59 : decode cX12_joins 59 = .ok (.getfield 129, 3) := by decide +kernel
theorem dX12_joins_62 : decode cX12_joins 62 = .ok (.iload 5, 2) := by decide +kernel
theorem dX12_joins_64 : decode cX12_joins 64 = .ok (.iaload, 1) := by decide +kernel
theorem dX12_joins_65 : decode cX12_joins 65 = .ok (.iload 4, 2) := by decide +kernel
theorem dX12_joins_67 : decode cX12_joins 67 = .ok (.if_icmp .ne 11, 3) := by decide +kernel
theorem dX12_joins_70 : decode cX12_joins 70 = .ok (.aload_n 0, 1) := by decide +kernel
theorem dX12_joins_71 : decode cX12_joins 71 = .ok (.getfield 129, 3) := by decide +kernel
theorem dX12_joins_74 : decode cX12_joins 74 = .ok (.iload 5, 2) := by decide +kernel
theorem dX12_joins_76 : decode cX12_joins 76 = .ok (.iload_n 3, 1) := by decide +kernel
theorem dX12_joins_77 : decode cX12_joins 77 = .ok (.iastore, 1) := by decide +kernel
theorem dX12_joins_78 : decode cX12_joins 78 = .ok (.iinc 5 1, 3) := by decide +kernel
theorem dX12_joins_81 : decode cX12_joins 81 = .ok (.goto (-30), 3) := by decide +kernel
theorem dX12_joins_84 : decode cX12_joins 84 = .ok (.return_, 1) := by decide +kernel
theorem dX12_findsGroups_0 : decode cX12_findsGroups 0 = .ok (.aload_n 0, 1) := by decide +kernel
theorem dX12_findsGroups_1 : decode cX12_findsGroups 1 = .ok (.iconst (-1), 1) := by decide +kernel
theorem dX12_findsGroups_2 : decode cX12_findsGroups 2 = .ok (.putfield 358, 3) := by decide +kernel
theorem dX12_findsGroups_5 : decode cX12_findsGroups 5 = .ok (.aload_n 0, 1) := by decide +kernel
theorem dX12_findsGroups_6 : decode cX12_findsGroups 6 = .ok (.iconst (-1), 1) := by decide +kernel
theorem dX12_findsGroups_7 : decode cX12_findsGroups 7 = .ok (.putfield 361, 3) := by decide +kernel
theorem dX12_findsGroups_10 : decode cX12_findsGroups 10 = .ok (.iconst 0, 1) := by decide +kernel
theorem dX12_findsGroups_11 : decode cX12_findsGroups 11 = .ok (.istore_n 2, 1) := by decide +kernel
theorem dX12_findsGroups_12 : decode cX12_findsGroups 12 = .ok (.iload_n 2, 1) := by decide +kernel
theorem dX12_findsGroups_13 : decode cX12_findsGroups 13 = .ok (.bipush 8, 2) := by decide +kernel
theorem dX12_findsGroups_15 : decode cX12_findsGroups 15 = .ok (.if_icmp .ge 16, 3) := by decide +kernel
theorem dX12_findsGroups_18 : decode cX12_findsGroups 18 = .ok (.aload_n 0, 1) := by decide +kernel
theorem dX12_findsGroups_19 : decode cX12_findsGroups 19 = .ok (.getfield 129, 3) := by decide +kernel
theorem dX12_findsGroups_22 : decode cX12_findsGroups 22 = .ok (.iload_n 2, 1) := by decide +kernel
theorem dX12_findsGroups_23 : decode cX12_findsGroups 23 = .ok (.iload_n 2, 1) := by decide +kernel
theorem dX12_findsGroups_24 : decode cX12_findsGroups 24 = .ok (.iastore, 1) := by decide +kernel
theorem dX12_findsGroups_25 : decode cX12_findsGroups 25 = .ok (.iinc 2 1, 3) := by decide +kernel
theorem dX12_findsGroups_28 : decode cX12_findsGroups 28 = .ok (.goto (-16), 3) := by decide +kernel
theorem dX12_findsGroups_31 : decode cX12_findsGroups 31 = .ok (.iconst 0, 1) := by decide +kernel
theorem dX12_findsGroups_32 : decode cX12_findsGroups 32 = .ok (.istore_n 2, 1) := by decide +kernel
theorem dX12_findsGroups_33 : decode cX12_findsGroups 33 = .ok (.iload_n 2, 1) := by decide +kernel
theorem dX12_findsGroups_34 : decode cX12_findsGroups 34 = .ok (.bipush 8, 2) := by decide +kernel
theorem dX12_findsGroups_36 : decode cX12_findsGroups 36 = .ok (.if_icmp .ge 85, 3) := by decide +kernel
theorem dX12_findsGroups_39 : decode cX12_findsGroups 39 = .ok (.iload_n 2, 1) := by decide +kernel
theorem dX12_findsGroups_40 : decode cX12_findsGroups 40 = .ok (.iconst 1, 1) := by decide +kernel
theorem dX12_findsGroups_41 : decode cX12_findsGroups 41 = .ok (.iadd, 1) := by decide +kernel
theorem dX12_findsGroups_42 : decode cX12_findsGroups 42 = .ok (.istore_n 3, 1) := by decide +kernel
theorem dX12_findsGroups_43 : decode cX12_findsGroups 43 = .ok (.iload_n 3, 1) := by decide +kernel
theorem dX12_findsGroups_44 : decode cX12_findsGroups 44 = .ok (.bipush 8, 2) := by decide +kernel
theorem dX12_findsGroups_46 : decode cX12_findsGroups 46 = .ok (.if_icmp .ge 69, 3) := by decide +kernel
theorem dX12_findsGroups_49 : decode cX12_findsGroups 49 = .ok (.aload_n 0, 1) := by decide +kernel
theorem dX12_findsGroups_50 : decode cX12_findsGroups 50 = .ok (.iload_n 1, 1) := by decide +kernel
theorem dX12_findsGroups_51 : decode cX12_findsGroups 51 = .ok (.iload_n 2, 1) := by decide +kernel
theorem dX12_findsGroups_52 : decode cX12_findsGroups 52 = .ok (.iload_n 3, 1) := by decide +kernel
theorem dX12_findsGroups_53 : decode cX12_findsGroups 53 = .ok (.invokevirtual 364, 3) := by decide +kernel
theorem dX12_findsGroups_56 : decode cX12_findsGroups 56 = .ok (.istore 4, 2) := by decide +kernel
theorem dX12_findsGroups_58 : decode cX12_findsGroups 58 = .ok (.iload 4, 2) := by decide +kernel
theorem dX12_findsGroups_60 : decode cX12_findsGroups 60 = .ok (.iconst (-1), 1) := by decide +kernel
theorem dX12_findsGroups_61 : decode cX12_findsGroups 61 = .ok (.if_icmp .ne 6, 3) := by decide +kernel
theorem dX12_findsGroups_64 : decode cX12_findsGroups 64 = .ok (.goto 45, 3) := by decide +kernel
theorem dX12_findsGroups_67 : decode cX12_findsGroups 67 = .ok (.aload_n 0, 1) := by decide +kernel
theorem dX12_findsGroups_68 : decode cX12_findsGroups 68 = .ok (.iload_n 2, 1) := by decide +kernel
theorem dX12_findsGroups_69 : decode cX12_findsGroups 69 = .ok (.iload_n 3, 1) := by decide +kernel
theorem dX12_findsGroups_70 : decode cX12_findsGroups 70 = .ok (.invokevirtual 367, 3) := by decide +kernel
theorem dX12_findsGroups_73 : decode cX12_findsGroups 73 = .ok (.aload_n 0, 1) := by decide +kernel
theorem dX12_findsGroups_74 : decode cX12_findsGroups 74 = .ok (.getfield 358, 3) := by decide +kernel
theorem dX12_findsGroups_77 : decode cX12_findsGroups 77 = .ok (.iconst (-1), 1) := by decide +kernel
theorem dX12_findsGroups_78 : decode cX12_findsGroups 78 = .ok (.if_icmp .eq 15, 3) := by decide +kernel
theorem dX12_findsGroups_81 : decode cX12_findsGroups 81 = .ok (.iload 4, 2) := by decide +kernel
theorem dX12_findsGroups_83 : decode cX12_findsGroups 83 = .ok (.aload_n 0, 1) := by decide +kernel
theorem dX12_findsGroups_84 : decode cX12_findsGroups 84 = .ok (.getfield 361, 3) := by decide +kernel
theorem dX12_findsGroups_87 : decode cX12_findsGroups 87 = .ok (.if_icmp .lt 6, 3) := by decide +kernel
theorem dX12_findsGroups_90 : decode cX12_findsGroups 90 = .ok (.goto 19, 3) := by decide +kernel
theorem dX12_findsGroups_93 : decode cX12_findsGroups 93 = .ok (.aload_n 0, 1) := by decide +kernel
theorem dX12_findsGroups_94 : decode cX12_findsGroups 94 = .ok (.bipush 8, 2) := by decide +kernel
theorem dX12_findsGroups_96 : decode cX12_findsGroups 96 = .ok (.iload_n 2, 1) := by decide +kernel
theorem dX12_findsGroups_97 : decode cX12_findsGroups 97 = .ok (.imul, 1) := by decide +kernel
theorem dX12_findsGroups_98 : decode cX12_findsGroups 98 = .ok (.iload_n 3, 1) := by decide +kernel
theorem dX12_findsGroups_99 : decode cX12_findsGroups 99 = .ok (.iadd, 1) := by decide +kernel
theorem dX12_findsGroups_100 : decode cX12_findsGroups 100 = .ok (.putfield 358, 3) := by decide +kernel
theorem dX12_findsGroups_103 : decode cX12_findsGroups 103 = .ok (.aload_n 0, 1) := by decide +kernel
theorem dX12_findsGroups_104 : decode cX12_findsGroups 104 = .ok (.iload 4, 2) := by decide +kernel
theorem dX12_findsGroups_106 : decode cX12_findsGroups 106 = .ok (.putfield 361, 3) := by decide +kernel
theorem dX12_findsGroups_109 : decode cX12_findsGroups 109 = .ok (.iinc 3 1, 3) := by decide +kernel
theorem dX12_findsGroups_112 : decode cX12_findsGroups 112 = .ok (.goto (-69), 3) := by decide +kernel
theorem dX12_findsGroups_115 : decode cX12_findsGroups 115 = .ok (.iinc 2 1, 3) := by decide +kernel
theorem dX12_findsGroups_118 : decode cX12_findsGroups 118 = .ok (.goto (-85), 3) := by decide +kernel
theorem dX12_findsGroups_121 : decode cX12_findsGroups 121 = .ok (.return_, 1) := by decide +kernel
theorem dX12_joined_0 : decode cX12_joined 0 = .ok (.aload_n 0, 1) := by decide +kernel
theorem dX12_joined_1 : decode cX12_joined 1 = .ok (.iconst 0, 1) := by decide +kernel
theorem dX12_joined_2 : decode cX12_joined 2 = .ok (.putfield 132, 3) := by decide +kernel
theorem dX12_joined_5 : decode cX12_joined 5 = .ok (.aload_n 0, 1) := by decide +kernel
theorem dX12_joined_6 : decode cX12_joined 6 = .ok (.iload_n 1, 1) := by decide +kernel
theorem dX12_joined_7 : decode cX12_joined 7 = .ok (.invokevirtual 309, 3) := by decide +kernel
theorem dX12_joined_10 : decode cX12_joined 10 = .ok (.ifCond .eq 25, 3) := by decide +kernel
theorem dX12_joined_13 : decode cX12_joined 13 = .ok (.aload_n 0, 1) := by decide +kernel
theorem dX12_joined_14 : decode cX12_joined 14 = .ok (.iload_n 2, 1) := by decide +kernel
theorem dX12_joined_15 : decode cX12_joined 15 = .ok (.iconst 0, 1) := by decide +kernel
theorem dX12_joined_16 : decode cX12_joined 16 = .ok (.iconst 2, 1) := by decide +kernel
theorem dX12_joined_17 : decode cX12_joined 17 = .ok (.invokevirtual 144, 3) := by decide +kernel
theorem dX12_joined_20 : decode cX12_joined 20 = .ok (.ifCond .ne 17, 3) := by decide +kernel
theorem dX12_joined_23 : decode cX12_joined 23 = .ok (.aload_n 0, 1) := by decide +kernel
theorem dX12_joined_24 : decode cX12_joined 24 = .ok (.iload_n 2, 1) := by decide +kernel
theorem dX12_joined_25 : decode cX12_joined 25 = .ok (.bipush 10, 2) := by decide +kernel
theorem dX12_joined_27 : decode cX12_joined 27 = .ok (.bipush 17, 2) := by decide +kernel
theorem dX12_joined_29 : decode cX12_joined 29 = .ok (.invokevirtual 144, 3) := by decide +kernel
theorem dX12_joined_32 : decode cX12_joined 32 = .ok (.ifCond .ne 5, 3) := by decide +kernel
theorem dX12_joined_35 : decode cX12_joined 35 = .ok (.iconst (-1), 1) := by decide +kernel
theorem dX12_joined_36 : decode cX12_joined 36 = .ok (.ireturn, 1) := by decide +kernel
theorem dX12_joined_37 : decode cX12_joined 37 = .ok (.aload_n 0, 1) := by decide +kernel
theorem dX12_joined_38 : decode cX12_joined 38 = .ok (.iload_n 1, 1) := by decide +kernel
theorem dX12_joined_39 : decode cX12_joined 39 = .ok (.invokevirtual 370, 3) := by decide +kernel
theorem dX12_joined_42 : decode cX12_joined 42 = .ok (.iload_n 2, 1) := by decide +kernel
theorem dX12_joined_43 : decode cX12_joined 43 = .ok (.iconst 1, 1) := by decide +kernel
theorem dX12_joined_44 : decode cX12_joined 44 = .ok (.if_icmp .ne 8, 3) := by decide +kernel
theorem dX12_joined_47 : decode cX12_joined 47 = .ok (.aload_n 0, 1) := by decide +kernel
theorem dX12_joined_48 : decode cX12_joined 48 = .ok (.getfield 358, 3) := by decide +kernel
theorem dX12_joined_51 : decode cX12_joined 51 = .ok (.ireturn, 1) := by decide +kernel
theorem dX12_joined_52 : decode cX12_joined 52 = .ok (.iload_n 2, 1) := by decide +kernel
theorem dX12_joined_53 : decode cX12_joined 53 = .ok (.iconst 2, 1) := by decide +kernel
theorem dX12_joined_54 : decode cX12_joined 54 = .ok (.if_icmp .ne 8, 3) := by decide +kernel
theorem dX12_joined_57 : decode cX12_joined 57 = .ok (.aload_n 0, 1) := by decide +kernel
theorem dX12_joined_58 : decode cX12_joined 58 = .ok (.getfield 361, 3) := by decide +kernel
theorem dX12_joined_61 : decode cX12_joined 61 = .ok (.ireturn, 1) := by decide +kernel
theorem dX12_joined_62 : decode cX12_joined 62 = .ok (.iload_n 2, 1) := by decide +kernel
theorem dX12_joined_63 : decode cX12_joined 63 = .ok (.bipush 10, 2) := by decide +kernel
theorem dX12_joined_65 : decode cX12_joined 65 = .ok (.if_icmp .lt 31, 3) := by decide +kernel
theorem dX12_joined_68 : decode cX12_joined 68 = .ok (.aload_n 0, 1) := by decide +kernel
theorem dX12_joined_69 : decode cX12_joined 69 = .ok (.getfield 125, 3) := by decide +kernel
theorem dX12_joined_72 : decode cX12_joined 72 = .ok (.iload_n 2, 1) := by decide +kernel
theorem dX12_joined_73 : decode cX12_joined 73 = .ok (.bipush 10, 2) := by decide +kernel
theorem dX12_joined_75 : decode cX12_joined 75 = .ok (.isub, 1) := by decide +kernel
theorem dX12_joined_76 : decode cX12_joined 76 = .ok (.laload, 1) := by decide +kernel
theorem dX12_joined_77 : decode cX12_joined 77 = .ok (.lconst 0, 1) := by decide +kernel
theorem dX12_joined_78 : decode cX12_joined 78 = .ok (.lcmp, 1) := by decide +kernel
theorem dX12_joined_79 : decode cX12_joined 79 = .ok (.ifCond .ne 7, 3) := by decide +kernel
theorem dX12_joined_82 : decode cX12_joined 82 = .ok (.iconst (-1), 1) := by decide +kernel
theorem dX12_joined_83 : decode cX12_joined 83 = .ok (.goto 12, 3) := by decide +kernel
theorem dX12_joined_86 : decode cX12_joined 86 = .ok (.aload_n 0, 1) := by decide +kernel
