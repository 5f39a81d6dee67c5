theorem dX12_joined_87 : decode cX12_joined 87 = .ok (.getfield 129, 3) := by decide +kernel
theorem dX12_joined_90 : decode cX12_joined 90 = .ok (.iload_n 2, 1) := by decide +kernel
theorem dX12_joined_91 : decode cX12_joined 91 = .ok (.bipush 10, 2) := by decide +kernel
theorem dX12_joined_93 : decode cX12_joined 93 = .ok (.isub, 1) := by decide +kernel
theorem dX12_joined_94 : decode cX12_joined 94 = .ok (.iaload, 1) := by decide +kernel
theorem dX12_joined_95 : decode cX12_joined 95 = .ok (.ireturn, 1) := by decide +kernel
theorem dX12_joined_96 : decode cX12_joined 96 = .ok (.iconst 0, 1) := by decide +kernel
theorem dX12_joined_97 : decode cX12_joined 97 = .ok (.istore_n 3, 1) := by decide +kernel
theorem dX12_joined_98 : decode cX12_joined 98 = .ok (.iconst 0, 1) := by decide +kernel
theorem dX12_joined_99 : decode cX12_joined 99 = .ok (.istore 4, 2) := by decide +kernel
theorem dX12_joined_101 : decode cX12_joined 101 = .ok (.iload 4, 2) := by decide +kernel
theorem dX12_joined_103 : decode cX12_joined 103 = .ok (.bipush 8, 2) := by decide +kernel
theorem dX12_joined_105 : decode cX12_joined 105 = .ok (.if_icmp .ge 37, 3) := by decide +kernel
theorem dX12_joined_108 : decode cX12_joined 108 = .ok (.aload_n 0, 1) := by decide +kernel
theorem dX12_joined_109 : decode cX12_joined 109 = .ok (.getfield 125, 3) := by decide +kernel
theorem dX12_joined_112 : decode cX12_joined 112 = .ok (.iload 4, 2) := by decide +kernel
theorem dX12_joined_114 : decode cX12_joined 114 = .ok (.laload, 1) := by decide +kernel
theorem dX12_joined_115 : decode cX12_joined 115 = .ok (.lconst 0, 1) := by decide +kernel
theorem dX12_joined_116 : decode cX12_joined 116 = .ok (.lcmp, 1) := by decide +kernel
theorem dX12_joined_117 : decode cX12_joined 117 = .ok (.ifCond .eq 19, 3) := by decide +kernel
theorem dX12_joined_120 : decode cX12_joined 120 = .ok (.aload_n 0, 1) := by decide +kernel
theorem dX12_joined_121 : decode cX12_joined 121 = .ok (.getfield 129, 3) := by decide +kernel
theorem dX12_joined_124 : decode cX12_joined 124 = .ok (.iload 4, 2) := by decide +kernel
theorem dX12_joined_126 : decode cX12_joined 126 = .ok (.iaload, 1) := by decide +kernel
theorem dX12_joined_127 : decode cX12_joined 127 = .ok (.iload 4, 2) := by decide +kernel
theorem dX12_joined_129 : decode cX12_joined 129 = .ok (.if_icmp .ne 7, 3) := by decide +kernel
theorem dX12_joined_132 : decode cX12_joined 132 = .ok (.iload_n 3, 1) := by decide +kernel
theorem dX12_joined_133 : decode cX12_joined 133 = .ok (.iconst 1, 1) := by decide +kernel
theorem dX12_joined_134 : decode cX12_joined 134 = .ok (.iadd, 1) := by decide +kernel
theorem dX12_joined_135 : decode cX12_joined 135 = .ok (.istore_n 3, 1) := by decide +kernel
theorem dX12_joined_136 : decode cX12_joined 136 = .ok (.iinc 4 1, 3) := by decide +kernel
theorem dX12_joined_139 : decode cX12_joined 139 = .ok (.goto (-38), 3) := by decide +kernel
theorem dX12_joined_142 : decode cX12_joined 142 = .ok (.iload_n 3, 1) := by decide +kernel
theorem dX12_joined_143 : decode cX12_joined 143 = .ok (.ireturn, 1) := by decide +kernel
theorem dX12_look_0 : decode cX12_look 0 = .ok (.aload_n 0, 1) := by decide +kernel
theorem dX12_look_1 : decode cX12_look 1 = .ok (.iconst 0, 1) := by decide +kernel
theorem dX12_look_2 : decode cX12_look 2 = .ok (.putfield 132, 3) := by decide +kernel
theorem dX12_look_5 : decode cX12_look 5 = .ok (.iload_n 1, 1) := by decide +kernel
theorem dX12_look_6 : decode cX12_look 6 = .ok (.ifCond .ne 8, 3) := by decide +kernel
theorem dX12_look_9 : decode cX12_look 9 = .ok (.aload_n 0, 1) := by decide +kernel
theorem dX12_look_10 : decode cX12_look 10 = .ok (.getfield 135, 3) := by decide +kernel
theorem dX12_look_13 : decode cX12_look 13 = .ok (.ireturn, 1) := by decide +kernel
theorem dX12_look_14 : decode cX12_look 14 = .ok (.iload_n 1, 1) := by decide +kernel
theorem dX12_look_15 : decode cX12_look 15 = .ok (.iconst 1, 1) := by decide +kernel
theorem dX12_look_16 : decode cX12_look 16 = .ok (.if_icmp .ne 8, 3) := by decide +kernel
theorem dX12_look_19 : decode cX12_look 19 = .ok (.aload_n 0, 1) := by decide +kernel
theorem dX12_look_20 : decode cX12_look 20 = .ok (.getfield 138, 3) := by decide +kernel
theorem dX12_look_23 : decode cX12_look 23 = .ok (.ireturn, 1) := by decide +kernel
theorem dX12_look_24 : decode cX12_look 24 = .ok (.iload_n 1, 1) := by decide +kernel
theorem dX12_look_25 : decode cX12_look 25 = .ok (.iconst 2, 1) := by decide +kernel
theorem dX12_look_26 : decode cX12_look 26 = .ok (.if_icmp .ne 8, 3) := by decide +kernel
theorem dX12_look_29 : decode cX12_look 29 = .ok (.aload_n 0, 1) := by decide +kernel
theorem dX12_look_30 : decode cX12_look 30 = .ok (.getfield 141, 3) := by decide +kernel
theorem dX12_look_33 : decode cX12_look 33 = .ok (.ireturn, 1) := by decide +kernel
theorem dX12_look_34 : decode cX12_look 34 = .ok (.iload_n 1, 1) := by decide +kernel
theorem dX12_look_35 : decode cX12_look 35 = .ok (.iconst 3, 1) := by decide +kernel
theorem dX12_look_36 : decode cX12_look 36 = .ok (.if_icmp .ne 8, 3) := by decide +kernel
theorem dX12_look_39 : decode cX12_look 39 = .ok (.aload_n 0, 1) := by decide +kernel
theorem dX12_look_40 : decode cX12_look 40 = .ok (.getfield 283, 3) := by decide +kernel
theorem dX12_look_43 : decode cX12_look 43 = .ok (.ireturn, 1) := by decide +kernel
theorem dX12_look_44 : decode cX12_look 44 = .ok (.iload_n 1, 1) := by decide +kernel
theorem dX12_look_45 : decode cX12_look 45 = .ok (.iconst 4, 1) := by decide +kernel
theorem dX12_look_46 : decode cX12_look 46 = .ok (.if_icmp .ne 8, 3) := by decide +kernel
theorem dX12_look_49 : decode cX12_look 49 = .ok (.aload_n 0, 1) := by decide +kernel
theorem dX12_look_50 : decode cX12_look 50 = .ok (.getfield 342, 3) := by decide +kernel
theorem dX12_look_53 : decode cX12_look 53 = .ok (.ireturn, 1) := by decide +kernel
theorem dX12_look_54 : decode cX12_look 54 = .ok (.iload_n 1, 1) := by decide +kernel
theorem dX12_look_55 : decode cX12_look 55 = .ok (.iconst 5, 1) := by decide +kernel
theorem dX12_look_56 : decode cX12_look 56 = .ok (.if_icmp .ne 10, 3) := by decide +kernel
theorem dX12_look_59 : decode cX12_look 59 = .ok (.aload_n 0, 1) := by decide +kernel
theorem dX12_look_60 : decode cX12_look 60 = .ok (.getfield 55, 3) := by decide +kernel
theorem dX12_look_63 : decode cX12_look 63 = .ok (.iconst 0, 1) := by decide +kernel
theorem dX12_look_64 : decode cX12_look 64 = .ok (.iaload, 1) := by decide +kernel
theorem dX12_look_65 : decode cX12_look 65 = .ok (.ireturn, 1) := by decide +kernel
theorem dX12_look_66 : decode cX12_look 66 = .ok (.iload_n 1, 1) := by decide +kernel
theorem dX12_look_67 : decode cX12_look 67 = .ok (.bipush 6, 2) := by decide +kernel
theorem dX12_look_69 : decode cX12_look 69 = .ok (.if_icmp .eq 5, 3) := by decide +kernel
theorem dX12_look_72 : decode cX12_look 72 = .ok (.iconst (-1), 1) := by decide +kernel
theorem dX12_look_73 : decode cX12_look 73 = .ok (.ireturn, 1) := by decide +kernel
theorem dX12_look_74 : decode cX12_look 74 = .ok (.iconst 0, 1) := by decide +kernel
theorem dX12_look_75 : decode cX12_look 75 = .ok (.istore_n 2, 1) := by decide +kernel
theorem dX12_look_76 : decode cX12_look 76 = .ok (.iconst 0, 1) := by decide +kernel
theorem dX12_look_77 : decode cX12_look 77 = .ok (.istore_n 3, 1) := by decide +kernel
theorem dX12_look_78 : decode cX12_look 78 = .ok (.iload_n 3, 1) := by decide +kernel
theorem dX12_look_79 : decode cX12_look 79 = .ok (.aload_n 0, 1) := by decide +kernel
theorem dX12_look_80 : decode cX12_look 80 = .ok (.getfield 141, 3) := by decide +kernel
theorem dX12_look_83 : decode cX12_look 83 = .ok (.if_icmp .ge 21, 3) := by decide +kernel
theorem dX12_look_86 : decode cX12_look 86 = .ok (.aload_n 0, 1) := by decide +kernel
theorem dX12_look_87 : decode cX12_look 87 = .ok (.iload_n 3, 1) := by decide +kernel
theorem dX12_look_88 : decode cX12_look 88 = .ok (.invokevirtual 333, 3) := by decide +kernel
theorem dX12_look_91 : decode cX12_look 91 = .ok (.ifCond .ne 7, 3) := by decide +kernel
theorem dX12_look_94 : decode cX12_look 94 = .ok (.iload_n 2, 1) := by decide +kernel
theorem dX12_look_95 : decode cX12_look 95 = .ok (.iconst 1, 1) := by decide +kernel
theorem dX12_look_96 : decode cX12_look 96 = .ok (.iadd, 1) := by decide +kernel
theorem dX12_look_97 : decode cX12_look 97 = .ok (.istore_n 2, 1) := by decide +kernel
theorem dX12_look_98 : decode cX12_look 98 = .ok (.iinc 3 1, 3) := by decide +kernel
theorem dX12_look_101 : decode cX12_look 101 = .ok (.goto (-23), 3) := by decide +kernel
theorem dX12_look_104 : decode cX12_look 104 = .ok (.iload_n 2, 1) := by decide +kernel
theorem dX12_look_105 : decode cX12_look 105 = .ok (.ireturn, 1) := by decide +kernel
