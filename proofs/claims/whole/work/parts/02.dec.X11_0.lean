theorem dX11_init_0 : decode cX11_init 0 = .ok (.aload_n 0, 1) := by decide +kernel
theorem dX11_init_1 : decode cX11_init 1 = .ok (.invokespecial 3, 3) := by decide +kernel
theorem dX11_init_4 : decode cX11_init 4 = .ok (.aload_n 0, 1) := by decide +kernel
theorem dX11_init_5 : decode cX11_init 5 = .ok (.bipush 6, 2) := by decide +kernel
theorem dX11_init_7 : decode cX11_init 7 = .ok (.anewarray 9, 3) := by decide +kernel
theorem dX11_init_10 : decode cX11_init 10 = .ok (.putfield 11, 3) := by decide +kernel
theorem dX11_init_13 : decode cX11_init 13 = .ok (.aload_n 0, 1) := by decide +kernel
theorem dX11_init_14 : decode cX11_init 14 = .ok (.bipush 16, 2) := by decide +kernel
theorem dX11_init_16 : decode cX11_init 16 = .ok (.anewarray 15, 3) := by decide +kernel
theorem dX11_init_19 : decode cX11_init 19 = .ok (.putfield 17, 3) := by decide +kernel
theorem dX11_init_22 : decode cX11_init 22 = .ok (.aload_n 0, 1) := by decide +kernel
theorem dX11_init_23 : decode cX11_init 23 = .ok (.bipush 40, 2) := by decide +kernel
theorem dX11_init_25 : decode cX11_init 25 = .ok (.anewarray 21, 3) := by decide +kernel
theorem dX11_init_28 : decode cX11_init 28 = .ok (.putfield 23, 3) := by decide +kernel
theorem dX11_init_31 : decode cX11_init 31 = .ok (.aload_n 0, 1) := by decide +kernel
theorem dX11_init_32 : decode cX11_init 32 = .ok (.bipush 6, 2) := by decide +kernel
theorem dX11_init_34 : decode cX11_init 34 = .ok (.anewarray 27, 3) := by decide +kernel
theorem dX11_init_37 : decode cX11_init 37 = .ok (.putfield 29, 3) := by decide +kernel
theorem dX11_init_40 : decode cX11_init 40 = .ok (.aload_n 0, 1) := by decide +kernel
theorem dX11_init_41 : decode cX11_init 41 = .ok (.bipush 10, 2) := by decide +kernel
theorem dX11_init_43 : decode cX11_init 43 = .ok (.anewarray 33, 3) := by decide +kernel
theorem dX11_init_46 : decode cX11_init 46 = .ok (.putfield 35, 3) := by decide +kernel
theorem dX11_init_49 : decode cX11_init 49 = .ok (.aload_n 0, 1) := by decide +kernel
theorem dX11_init_50 : decode cX11_init 50 = .ok (.bipush 8, 2) := by decide +kernel
theorem dX11_init_52 : decode cX11_init 52 = .ok (.newarray .long, 2) := by decide +kernel
theorem dX11_init_54 : decode cX11_init 54 = .ok (.putfield 39, 3) := by decide +kernel
theorem dX11_init_57 : decode cX11_init 57 = .ok (.aload_n 0, 1) := by decide +kernel
theorem dX11_init_58 : decode cX11_init 58 = .ok (.new 43, 3) := by decide +kernel
theorem dX11_init_61 : decode cX11_init 61 = .ok (.dup, 1) := by decide +kernel
theorem dX11_init_62 : decode cX11_init 62 = .ok (.invokespecial 45, 3) := by decide +kernel
theorem dX11_init_65 : decode cX11_init 65 = .ok (.putfield 46, 3) := by decide +kernel
theorem dX11_init_68 : decode cX11_init 68 = .ok (.aload_n 0, 1) := by decide +kernel
theorem dX11_init_69 : decode cX11_init 69 = .ok (.new 50, 3) := by decide +kernel
theorem dX11_init_72 : decode cX11_init 72 = .ok (.dup, 1) := by decide +kernel
theorem dX11_init_73 : decode cX11_init 73 = .ok (.aload_n 0, 1) := by decide +kernel
theorem dX11_init_74 : decode cX11_init 74 = .ok (.getfield 46, 3) := by decide +kernel
theorem dX11_init_77 : decode cX11_init 77 = .ok (.invokespecial 52, 3) := by decide +kernel
theorem dX11_init_80 : decode cX11_init 80 = .ok (.putfield 55, 3) := by decide +kernel
theorem dX11_init_83 : decode cX11_init 83 = .ok (.aload_n 0, 1) := by decide +kernel
theorem dX11_init_84 : decode cX11_init 84 = .ok (.new 59, 3) := by decide +kernel
theorem dX11_init_87 : decode cX11_init 87 = .ok (.dup, 1) := by decide +kernel
theorem dX11_init_88 : decode cX11_init 88 = .ok (.invokespecial 61, 3) := by decide +kernel
theorem dX11_init_91 : decode cX11_init 91 = .ok (.putfield 62, 3) := by decide +kernel
theorem dX11_init_94 : decode cX11_init 94 = .ok (.aload_n 0, 1) := by decide +kernel
theorem dX11_init_95 : decode cX11_init 95 = .ok (.new 66, 3) := by decide +kernel
theorem dX11_init_98 : decode cX11_init 98 = .ok (.dup, 1) := by decide +kernel
theorem dX11_init_99 : decode cX11_init 99 = .ok (.invokespecial 68, 3) := by decide +kernel
theorem dX11_init_102 : decode cX11_init 102 = .ok (.putfield 69, 3) := by decide +kernel
theorem dX11_init_105 : decode cX11_init 105 = .ok (.return_, 1) := by decide +kernel
theorem dX11_tool_0 : decode cX11_tool 0 = .ok (.aload_n 0, 1) := by decide +kernel
theorem dX11_tool_1 : decode cX11_tool 1 = .ok (.getfield 73, 3) := by decide +kernel
theorem dX11_tool_4 : decode cX11_tool 4 = .ok (.bipush 6, 2) := by decide +kernel
theorem dX11_tool_6 : decode cX11_tool 6 = .ok (.if_icmp .lt 5, 3) := by decide +kernel
theorem dX11_tool_9 : decode cX11_tool 9 = .ok (.iconst (-1), 1) := by decide +kernel
theorem dX11_tool_10 : decode cX11_tool 10 = .ok (.ireturn, 1) := by decide +kernel
theorem dX11_tool_11 : decode cX11_tool 11 = .ok (.aload_n 0, 1) := by decide +kernel
theorem dX11_tool_12 : decode cX11_tool 12 = .ok (.getfield 11, 3) := by decide +kernel
theorem dX11_tool_15 : decode cX11_tool 15 = .ok (.aload_n 0, 1) := by decide +kernel
theorem dX11_tool_16 : decode cX11_tool 16 = .ok (.getfield 73, 3) := by decide +kernel
theorem dX11_tool_19 : decode cX11_tool 19 = .ok (.new 9, 3) := by decide +kernel
theorem dX11_tool_22 : decode cX11_tool 22 = .ok (.dup, 1) := by decide +kernel
theorem dX11_tool_23 : decode cX11_tool 23 = .ok (.iload_n 1, 1) := by decide +kernel
theorem dX11_tool_24 : decode cX11_tool 24 = .ok (.invokespecial 77, 3) := by decide +kernel
theorem dX11_tool_27 : decode cX11_tool 27 = .ok (.aastore, 1) := by decide +kernel
theorem dX11_tool_28 : decode cX11_tool 28 = .ok (.aload_n 0, 1) := by decide +kernel
theorem dX11_tool_29 : decode cX11_tool 29 = .ok (.dup, 1) := by decide +kernel
theorem dX11_tool_30 : decode cX11_tool 30 = .ok (.getfield 73, 3) := by decide +kernel
theorem dX11_tool_33 : decode cX11_tool 33 = .ok (.iconst 1, 1) := by decide +kernel
theorem dX11_tool_34 : decode cX11_tool 34 = .ok (.iadd, 1) := by decide +kernel
theorem dX11_tool_35 : decode cX11_tool 35 = .ok (.putfield 73, 3) := by decide +kernel
theorem dX11_tool_38 : decode cX11_tool 38 = .ok (.aload_n 0, 1) := by decide +kernel
theorem dX11_tool_39 : decode cX11_tool 39 = .ok (.getfield 73, 3) := by decide +kernel
theorem dX11_tool_42 : decode cX11_tool 42 = .ok (.iconst 1, 1) := by decide +kernel
theorem dX11_tool_43 : decode cX11_tool 43 = .ok (.isub, 1) := by decide +kernel
theorem dX11_tool_44 : decode cX11_tool 44 = .ok (.ireturn, 1) := by decide +kernel
theorem dX11_edge_0 : decode cX11_edge 0 = .ok (.aload_n 0, 1) := by decide +kernel
theorem dX11_edge_1 : decode cX11_edge 1 = .ok (.iload_n 1, 1) := by decide +kernel
theorem dX11_edge_2 : decode cX11_edge 2 = .ok (.invokevirtual 80, 3) := by decide +kernel
theorem dX11_edge_5 : decode cX11_edge 5 = .ok (.astore 4, 2) := by decide +kernel
theorem dX11_edge_7 : decode cX11_edge 7 = .ok (.aload 4, 2) := by decide +kernel
theorem dX11_edge_9 : decode cX11_edge 9 = .ok (.ifnull 17, 3) := by decide +kernel
theorem dX11_edge_12 : decode cX11_edge 12 = .ok (.iload_n 2, 1) := by decide +kernel
theorem dX11_edge_13 : decode cX11_edge 13 = .ok (.invokestatic 84, 3) := by decide +kernel
theorem dX11_edge_16 : decode cX11_edge 16 = .ok (.ifCond .eq 10, 3) := by decide +kernel
theorem dX11_edge_19 : decode cX11_edge 19 = .ok (.iload_n 3, 1) := by decide +kernel
theorem dX11_edge_20 : decode cX11_edge 20 = .ok (.invokestatic 88, 3) := by decide +kernel
theorem dX11_edge_23 : decode cX11_edge 23 = .ok (.ifCond .ne 5, 3) := by decide +kernel
theorem dX11_edge_26 : decode cX11_edge 26 = .ok (.iconst 0, 1) := by decide +kernel
theorem dX11_edge_27 : decode cX11_edge 27 = .ok (.ireturn, 1) := by decide +kernel
theorem dX11_edge_28 : decode cX11_edge 28 = .ok (.aload 4, 2) := by decide +kernel
theorem dX11_edge_30 : decode cX11_edge 30 = .ok (.getfield 91, 3) := by decide +kernel
theorem dX11_edge_33 : decode cX11_edge 33 = .ok (.iload_n 2, 1) := by decide +kernel
theorem dX11_edge_34 : decode cX11_edge 34 = .ok (.iload_n 3, 1) := by decide +kernel
theorem dX11_edge_35 : decode cX11_edge 35 = .ok (.iastore, 1) := by decide +kernel
theorem dX11_edge_36 : decode cX11_edge 36 = .ok (.iconst 1, 1) := by decide +kernel
theorem dX11_edge_37 : decode cX11_edge 37 = .ok (.ireturn, 1) := by decide +kernel
theorem dX11_barrel_0 : decode cX11_barrel 0 = .ok (.aload_n 0, 1) := by decide +kernel
theorem dX11_barrel_1 : decode cX11_barrel 1 = .ok (.iload_n 1, 1) := by decide +kernel
theorem dX11_barrel_2 : decode cX11_barrel 2 = .ok (.invokevirtual 80, 3) := by decide +kernel
theorem dX11_barrel_5 : decode cX11_barrel 5 = .ok (.astore_n 2, 1) := by decide +kernel
theorem dX11_barrel_6 : decode cX11_barrel 6 = .ok (.aload_n 2, 1) := by decide +kernel
theorem dX11_barrel_7 : decode cX11_barrel 7 = .ok (.ifnull 12, 3) := by decide +kernel
theorem dX11_barrel_10 : decode cX11_barrel 10 = .ok (.aload_n 0, 1) := by decide +kernel
theorem dX11_barrel_11 : decode cX11_barrel 11 = .ok (.getfield 95, 3) := by decide +kernel
theorem dX11_barrel_14 : decode cX11_barrel 14 = .ok (.bipush 16, 2) := by decide +kernel
theorem dX11_barrel_16 : decode cX11_barrel 16 = .ok (.if_icmp .lt 5, 3) := by decide +kernel
theorem dX11_barrel_19 : decode cX11_barrel 19 = .ok (.iconst (-1), 1) := by decide +kernel
theorem dX11_barrel_20 : decode cX11_barrel 20 = .ok (.ireturn, 1) := by decide +kernel
theorem dX11_barrel_21 : decode cX11_barrel 21 = .ok (.aload_n 0, 1) := by decide +kernel
theorem dX11_barrel_22 : decode cX11_barrel 22 = .ok (.getfield 17, 3) := by decide +kernel
theorem dX11_barrel_25 : decode cX11_barrel 25 = .ok (.aload_n 0, 1) := by decide +kernel
theorem dX11_barrel_26 : decode cX11_barrel 26 = .ok (.getfield 95, 3) := by decide +kernel
theorem dX11_barrel_29 : decode cX11_barrel 29 = .ok (.new 15, 3) := by decide +kernel
theorem dX11_barrel_32 : decode cX11_barrel 32 = .ok (.dup, 1) := by decide +kernel
theorem dX11_barrel_33 : decode cX11_barrel 33 = .ok (.aload_n 0, 1) := by decide +kernel
theorem dX11_barrel_34 : decode cX11_barrel 34 = .ok (.getfield 95, 3) := by decide +kernel
theorem dX11_barrel_37 : decode cX11_barrel 37 = .ok (.iload_n 1, 1) := by decide +kernel
theorem dX11_barrel_38 : decode cX11_barrel 38 = .ok (.aload_n 2, 1) := by decide +kernel
theorem dX11_barrel_39 : decode cX11_barrel 39 = .ok (.invokespecial 98, 3) := by decide +kernel
theorem dX11_barrel_42 : decode cX11_barrel 42 = .ok (.aastore, 1) := by decide +kernel
theorem dX11_barrel_43 : decode cX11_barrel 43 = .ok (.aload_n 0, 1) := by decide +kernel
theorem dX11_barrel_44 : decode cX11_barrel 44 = .ok (.dup, 1) := by decide +kernel
theorem dX11_barrel_45 : decode cX11_barrel 45 = .ok (.getfield 95, 3) := by decide +kernel
theorem dX11_barrel_48 : decode cX11_barrel 48 = .ok (.iconst 1, 1) := by decide +kernel
theorem dX11_barrel_49 : decode cX11_barrel 49 = .ok (.iadd, 1) := by decide +kernel
theorem dX11_barrel_50 : decode cX11_barrel 50 = .ok (.putfield 95, 3) := by decide +kernel
theorem dX11_barrel_53 : decode cX11_barrel 53 = .ok (.aload_n 2, 1) := by decide +kernel
theorem dX11_barrel_54 : decode cX11_barrel 54 = .ok (.dup, 1) := by decide +kernel
theorem dX11_barrel_55 : decode cX11_barrel 55 = .ok (.getfield 101, 3) := by decide +kernel
theorem dX11_barrel_58 : decode cX11_barrel 58 = .ok (.iconst 1, 1) := by decide +kernel
theorem dX11_barrel_59 : decode cX11_barrel 59 = .ok (.iadd, 1) := by decide +kernel
theorem dX11_barrel_60 : decode cX11_barrel 60 = .ok (.putfield 101, 3) := by decide +kernel
theorem dX11_barrel_63 : decode cX11_barrel 63 = .ok (.aload_n 0, 1) := by decide +kernel
theorem dX11_barrel_64 : decode cX11_barrel 64 = .ok (.getfield 69, 3) := by decide +kernel
theorem dX11_barrel_67 : decode cX11_barrel 67 = .ok (.aload_n 2, 1) := by decide +kernel
theorem dX11_barrel_68 : decode cX11_barrel 68 = .ok (.getfield 101, 3) := by decide +kernel
theorem dX11_barrel_71 : decode cX11_barrel 71 = .ok (.iconst 0, 1) := by decide +kernel
theorem dX11_barrel_72 : decode cX11_barrel 72 = .ok (.iconst 0, 1) := by decide +kernel
theorem dX11_barrel_73 : decode cX11_barrel 73 = .ok (.invokevirtual 104, 3) := by decide +kernel
theorem dX11_barrel_76 : decode cX11_barrel 76 = .ok (.aload_n 2, 1) := by decide +kernel
theorem dX11_barrel_77 : decode cX11_barrel 77 = .ok (.aload_n 0, 1) := by decide +kernel
theorem dX11_barrel_78 : decode cX11_barrel 78 = .ok (.getfield 62, 3) := by decide +kernel
theorem dX11_barrel_81 : decode cX11_barrel 81 = .ok (.aload_n 2, 1) := by decide +kernel
theorem dX11_barrel_82 : decode cX11_barrel 82 = .ok (.getfield 91, 3) := by decide +kernel
theorem dX11_barrel_85 : decode cX11_barrel 85 = .ok (.sipush 260, 3) := by decide +kernel
theorem dX11_barrel_88 : decode cX11_barrel 88 = .ok (.aload_n 2, 1) := by decide +kernel
theorem dX11_barrel_89 : decode cX11_barrel 89 = .ok (.getfield 108, 3) := by decide +kernel
theorem dX11_barrel_92 : decode cX11_barrel 92 = .ok (.aload_n 0, 1) := by decide +kernel
theorem dX11_barrel_93 : decode cX11_barrel 93 = .ok (.getfield 69, 3) := by decide +kernel
theorem dX11_barrel_96 : decode cX11_barrel 96 = .ok (.invokevirtual 111, 3) := by decide +kernel
theorem dX11_barrel_99 : decode cX11_barrel 99 = .ok (.putfield 108, 3) := by decide +kernel
theorem dX11_barrel_102 : decode cX11_barrel 102 = .ok (.aload_n 0, 1) := by decide +kernel
theorem dX11_barrel_103 : decode cX11_barrel 103 = .ok (.getfield 95, 3) := by decide +kernel
theorem dX11_barrel_106 : decode cX11_barrel 106 = .ok (.iconst 1, 1) := by decide +kernel
theorem dX11_barrel_107 : decode cX11_barrel 107 = .ok (.isub, 1) := by decide +kernel
theorem dX11_barrel_108 : decode cX11_barrel 108 = .ok (.ireturn, 1) := by decide +kernel
theorem dX11_rust_0 : decode cX11_rust 0 = .ok (.aload_n 0, 1) := by decide +kernel
theorem dX11_rust_1 : decode cX11_rust 1 = .ok (.iload_n 1, 1) := by decide +kernel
theorem dX11_rust_2 : decode cX11_rust 2 = .ok (.invokevirtual 115, 3) := by decide +kernel
theorem dX11_rust_5 : decode cX11_rust 5 = .ok (.astore_n 3, 1) := by decide +kernel
theorem dX11_rust_6 : decode cX11_rust 6 = .ok (.aload_n 3, 1) := by decide +kernel
theorem dX11_rust_7 : decode cX11_rust 7 = .ok (.ifnull 13, 3) := by decide +kernel
theorem dX11_rust_10 : decode cX11_rust 10 = .ok (.iload_n 2, 1) := by decide +kernel
theorem dX11_rust_11 : decode cX11_rust 11 = .ok (.ifCond .lt 9, 3) := by decide +kernel
theorem dX11_rust_14 : decode cX11_rust 14 = .ok (.iload_n 2, 1) := by decide +kernel
theorem dX11_rust_15 : decode cX11_rust 15 = .ok (.bipush 99, 2) := by decide +kernel
theorem dX11_rust_17 : decode cX11_rust 17 = .ok (.if_icmp .le 5, 3) := by decide +kernel
theorem dX11_rust_20 : decode cX11_rust 20 = .ok (.iconst 0, 1) := by decide +kernel
theorem dX11_rust_21 : decode cX11_rust 21 = .ok (.ireturn, 1) := by decide +kernel
theorem dX11_rust_22 : decode cX11_rust 22 = .ok (.aload_n 3, 1) := by decide +kernel
theorem dX11_rust_23 : decode cX11_rust 23 = .ok (.iload_n 2, 1) := by decide +kernel
theorem dX11_rust_24 : decode cX11_rust 24 = .ok (.putfield 119, 3) := by decide +kernel
theorem dX11_rust_27 : decode cX11_rust 27 = .ok (.iconst 1, 1) := by decide +kernel
theorem dX11_rust_28 : decode cX11_rust 28 = .ok (.ireturn, 1) := by decide +kernel
theorem dX11_shot_0 : decode cX11_shot 0 = .ok (.aload_n 0, 1) := by decide +kernel
theorem dX11_shot_1 : decode cX11_shot 1 = .ok (.iload_n 1, 1) := by decide +kernel
theorem dX11_shot_2 : decode cX11_shot 2 = .ok (.invokevirtual 115, 3) := by decide +kernel
theorem dX11_shot_5 : decode cX11_shot 5 = .ok (.astore_n 3, 1) := by decide +kernel
theorem dX11_shot_6 : decode cX11_shot 6 = .ok (.aload_n 3, 1) := by decide +kernel
theorem dX11_shot_7 : decode cX11_shot 7 = .ok (.ifnull 22, 3) := by decide +kernel
theorem dX11_shot_10 : decode cX11_shot 10 = .ok (.iload_n 2, 1) := by decide +kernel
theorem dX11_shot_11 : decode cX11_shot 11 = .ok (.ifCond .lt 18, 3) := by decide +kernel
theorem dX11_shot_14 : decode cX11_shot 14 = .ok (.iload_n 2, 1) := by decide +kernel
theorem dX11_shot_15 : decode cX11_shot 15 = .ok (.bipush 9, 2) := by decide +kernel
theorem dX11_shot_17 : decode cX11_shot 17 = .ok (.if_icmp .gt 12, 3) := by decide +kernel
theorem dX11_shot_20 : decode cX11_shot 20 = .ok (.aload_n 0, 1) := by decide +kernel
theorem dX11_shot_21 : decode cX11_shot 21 = .ok (.getfield 122, 3) := by decide +kernel
theorem dX11_shot_24 : decode cX11_shot 24 = .ok (.bipush 40, 2) := by decide +kernel
theorem dX11_shot_26 : decode cX11_shot 26 = .ok (.if_icmp .lt 5, 3) := by decide +kernel
theorem dX11_shot_29 : decode cX11_shot 29 = .ok (.iconst (-1), 1) := by decide +kernel
theorem dX11_shot_30 : decode cX11_shot 30 = .ok (.ireturn, 1) := by decide +kernel
theorem dX11_shot_31 : decode cX11_shot 31 = .ok (.new 21, 3) := by decide +kernel
theorem dX11_shot_34 : decode cX11_shot 34 = .ok (.dup, 1) := by decide +kernel
theorem dX11_shot_35 : decode cX11_shot 35 = .ok (.aload_n 0, 1) := by decide +kernel
theorem dX11_shot_36 : decode cX11_shot 36 = .ok (.getfield 122, 3) := by decide +kernel
theorem dX11_shot_39 : decode cX11_shot 39 = .ok (.aload_n 3, 1) := by decide +kernel
theorem dX11_shot_40 : decode cX11_shot 40 = .ok (.iload_n 2, 1) := by decide +kernel
theorem dX11_shot_41 : decode cX11_shot 41 = .ok (.invokespecial 125, 3) := by decide +kernel
theorem dX11_shot_44 : decode cX11_shot 44 = .ok (.astore 4, 2) := by decide +kernel
theorem dX11_shot_46 : decode cX11_shot 46 = .ok (.aload_n 0, 1) := by decide +kernel
theorem dX11_shot_47 : decode cX11_shot 47 = .ok (.getfield 69, 3) := by decide +kernel
theorem dX11_shot_50 : decode cX11_shot 50 = .ok (.aload_n 3, 1) := by decide +kernel
theorem dX11_shot_51 : decode cX11_shot 51 = .ok (.getfield 128, 3) := by decide +kernel
theorem dX11_shot_54 : decode cX11_shot 54 = .ok (.aload_n 3, 1) := by decide +kernel
theorem dX11_shot_55 : decode cX11_shot 55 = .ok (.getfield 119, 3) := by decide +kernel
theorem dX11_shot_58 : decode cX11_shot 58 = .ok (.iload_n 2, 1) := by decide +kernel
theorem dX11_shot_59 : decode cX11_shot 59 = .ok (.invokevirtual 104, 3) := by decide +kernel
theorem dX11_shot_62 : decode cX11_shot 62 = .ok (.aload_n 3, 1) := by decide +kernel
theorem dX11_shot_63 : decode cX11_shot 63 = .ok (.aload_n 0, 1) := by decide +kernel
theorem dX11_shot_64 : decode cX11_shot 64 = .ok (.getfield 62, 3) := by decide +kernel
theorem dX11_shot_67 : decode cX11_shot 67 = .ok (.aload 4, 2) := by decide +kernel
theorem dX11_shot_69 : decode cX11_shot 69 = .ok (.getfield 131, 3) := by decide +kernel
theorem dX11_shot_72 : decode cX11_shot 72 = .ok (.sipush 262, 3) := by decide +kernel
theorem dX11_shot_75 : decode cX11_shot 75 = .ok (.aload_n 3, 1) := by decide +kernel
theorem dX11_shot_76 : decode cX11_shot 76 = .ok (.getfield 132, 3) := by decide +kernel
theorem dX11_shot_79 : decode cX11_shot 79 = .ok (.aload_n 0, 1) := by decide +kernel
theorem dX11_shot_80 : decode cX11_shot 80 = .ok (.getfield 69, 3) := by decide +kernel
theorem dX11_shot_83 : decode cX11_shot 83 = .ok (.invokevirtual 111, 3) := by decide +kernel
theorem dX11_shot_86 : decode cX11_shot 86 = .ok (.putfield 132, 3) := by decide +kernel
theorem dX11_shot_89 : decode cX11_shot 89 = .ok (.aload_n 3, 1) := by decide +kernel
theorem dX11_shot_90 : decode cX11_shot 90 = .ok (.aload_n 0, 1) := by decide +kernel
theorem dX11_shot_91 : decode cX11_shot 91 = .ok (.getfield 62, 3) := by decide +kernel
theorem dX11_shot_94 : decode cX11_shot 94 = .ok (.aload_n 3, 1) := by decide +kernel
theorem dX11_shot_95 : decode cX11_shot 95 = .ok (.getfield 133, 3) := by decide +kernel
theorem dX11_shot_98 : decode cX11_shot 98 = .ok (.sipush 261, 3) := by decide +kernel
theorem dX11_shot_101 : decode cX11_shot 101 = .ok (.aload_n 3, 1) := by decide +kernel
theorem dX11_shot_102 : decode cX11_shot 102 = .ok (.getfield 132, 3) := by decide +kernel
theorem dX11_shot_105 : decode cX11_shot 105 = .ok (.aload_n 0, 1) := by decide +kernel
theorem dX11_shot_106 : decode cX11_shot 106 = .ok (.getfield 69, 3) := by decide +kernel
theorem dX11_shot_109 : decode cX11_shot 109 = .ok (.invokevirtual 111, 3) := by decide +kernel
theorem dX11_shot_112 : decode cX11_shot 112 = .ok (.putfield 132, 3) := by decide +kernel
theorem dX11_shot_115 : decode cX11_shot 115 = .ok (.aload_n 3, 1) := by decide +kernel
theorem dX11_shot_116 : decode cX11_shot 116 = .ok (.dup, 1) := by decide +kernel
theorem dX11_shot_117 : decode cX11_shot 117 = .ok (.getfield 128, 3) := by decide +kernel
theorem dX11_shot_120 : decode cX11_shot 120 = .ok (.iconst 1, 1) := by decide +kernel
theorem dX11_shot_121 : decode cX11_shot 121 = .ok (.iadd, 1) := by decide +kernel
theorem dX11_shot_122 : decode cX11_shot 122 = .ok (.putfield 128, 3) := by decide +kernel
theorem dX11_shot_125 : decode cX11_shot 125 = .ok (.aload_n 0, 1) := by decide +kernel
theorem dX11_shot_126 : decode cX11_shot 126 = .ok (.getfield 23, 3) := by decide +kernel
theorem dX11_shot_129 : decode cX11_shot 129 = .ok (.aload_n 0, 1) := by decide +kernel
theorem dX11_shot_130 : decode cX11_shot 130 = .ok (.getfield 122, 3) := by decide +kernel
theorem dX11_shot_133 : decode cX11_shot 133 = .ok (.aload 4, 2) := by decide +kernel
theorem dX11_shot_135 : decode cX11_shot 135 = .ok (.aastore, 1) := by decide +kernel
theorem dX11_shot_136 : decode cX11_shot 136 = .ok (.aload_n 0, 1) := by decide +kernel
theorem dX11_shot_137 : decode cX11_shot 137 = .ok (.dup, 1) := by decide +kernel
theorem dX11_shot_138 : decode cX11_shot 138 = .ok (.getfield 122, 3) := by decide +kernel
theorem dX11_shot_141 : decode cX11_shot 141 = .ok (.iconst 1, 1) := by decide +kernel
theorem dX11_shot_142 : decode cX11_shot 142 = .ok (.iadd, 1) := by decide +kernel
theorem dX11_shot_143 : decode cX11_shot 143 = .ok (.putfield 122, 3) := by decide +kernel
theorem dX11_shot_146 : decode cX11_shot 146 = .ok (.aload 4, 2) := by decide +kernel
theorem dX11_shot_148 : decode cX11_shot 148 = .ok (.getfield 134, 3) := by decide +kernel
theorem dX11_shot_151 : decode cX11_shot 151 = .ok (.ireturn, 1) := by decide +kernel
theorem dX11_found_0 : decode cX11_found 0 = .ok (.aload_n 0, 1) := by decide +kernel
theorem dX11_found_1 : decode cX11_found 1 = .ok (.getfield 122, 3) := by decide +kernel
theorem dX11_found_4 : decode cX11_found 4 = .ok (.bipush 40, 2) := by decide +kernel
theorem dX11_found_6 : decode cX11_found 6 = .ok (.if_icmp .lt 5, 3) := by decide +kernel
theorem dX11_found_9 : decode cX11_found 9 = .ok (.iconst (-1), 1) := by decide +kernel
theorem dX11_found_10 : decode cX11_found 10 = .ok (.ireturn, 1) := by decide +kernel
theorem dX11_found_11 : decode cX11_found 11 = .ok (.aload_n 0, 1) := by decide +kernel
theorem dX11_found_12 : decode cX11_found 12 = .ok (.getfield 23, 3) := by decide +kernel
theorem dX11_found_15 : decode cX11_found 15 = .ok (.aload_n 0, 1) := by decide +kernel
theorem dX11_found_16 : decode cX11_found 16 = .ok (.getfield 122, 3) := by decide +kernel
theorem dX11_found_19 : decode cX11_found 19 = .ok (.new 21, 3) := by decide +kernel
theorem dX11_found_22 : decode cX11_found 22 = .ok (.dup, 1) := by decide +kernel
theorem dX11_found_23 : decode cX11_found 23 = .ok (.aload_n 0, 1) := by decide +kernel
theorem dX11_found_24 : decode cX11_found 24 = .ok (.getfield 122, 3) := by decide +kernel
theorem dX11_found_27 : decode cX11_found 27 = .ok (.aconst_null, 1) := by decide +kernel
theorem dX11_found_28 : decode cX11_found 28 = .ok (.iconst (-1), 1) := by decide +kernel
theorem dX11_found_29 : decode cX11_found 29 = .ok (.invokespecial 125, 3) := by decide +kernel
theorem dX11_found_32 : decode cX11_found 32 = .ok (.aastore, 1) := by decide +kernel
theorem dX11_found_33 : decode cX11_found 33 = .ok (.aload_n 0, 1) := by decide +kernel
theorem dX11_found_34 : decode cX11_found 34 = .ok (.dup, 1) := by decide +kernel
theorem dX11_found_35 : decode cX11_found 35 = .ok (.getfield 122, 3) := by decide +kernel
theorem dX11_found_38 : decode cX11_found 38 = .ok (.iconst 1, 1) := by decide +kernel
theorem dX11_found_39 : decode cX11_found 39 = .ok (.iadd, 1) := by decide +kernel
theorem dX11_found_40 : decode cX11_found 40 = .ok (.putfield 122, 3) := by decide +kernel
theorem dX11_found_43 : decode cX11_found 43 = .ok (.aload_n 0, 1) := by decide +kernel
theorem dX11_found_44 : decode cX11_found 44 = .ok (.dup, 1) := by decide +kernel
theorem dX11_found_45 : decode cX11_found 45 = .ok (.getfield 137, 3) := by decide +kernel
theorem dX11_found_48 : decode cX11_found 48 = .ok (.iconst 1, 1) := by decide +kernel
theorem dX11_found_49 : decode cX11_found 49 = .ok (.iadd, 1) := by decide +kernel
theorem dX11_found_50 : decode cX11_found 50 = .ok (.putfield 137, 3) := by decide +kernel
theorem dX11_found_53 : decode cX11_found 53 = .ok (.aload_n 0, 1) := by decide +kernel
theorem dX11_found_54 : decode cX11_found 54 = .ok (.getfield 122, 3) := by decide +kernel
theorem dX11_found_57 : decode cX11_found 57 = .ok (.iconst 1, 1) := by decide +kernel
theorem dX11_found_58 : decode cX11_found 58 = .ok (.isub, 1) := by decide +kernel
theorem dX11_found_59 : decode cX11_found 59 = .ok (.ireturn, 1) := by decide +kernel
theorem dX11_hair_0 : decode cX11_hair 0 = .ok (.aload_n 0, 1) := by decide +kernel
theorem dX11_hair_1 : decode cX11_hair 1 = .ok (.iload_n 1, 1) := by decide +kernel
theorem dX11_hair_2 : decode cX11_hair 2 = .ok (.invokevirtual 140, 3) := by decide +kernel
theorem dX11_hair_5 : decode cX11_hair 5 = .ok (.astore 4, 2) := by decide +kernel
theorem dX11_hair_7 : decode cX11_hair 7 = .ok (.aload 4, 2) := by decide +kernel
theorem dX11_hair_9 : decode cX11_hair 9 = .ok (.ifnull 22, 3) := by decide +kernel
theorem dX11_hair_12 : decode cX11_hair 12 = .ok (.iload_n 2, 1) := by decide +kernel
theorem dX11_hair_13 : decode cX11_hair 13 = .ok (.invokestatic 84, 3) := by decide +kernel
theorem dX11_hair_16 : decode cX11_hair 16 = .ok (.ifCond .eq 15, 3) := by decide +kernel
theorem dX11_hair_19 : decode cX11_hair 19 = .ok (.iload_n 3, 1) := by decide +kernel
theorem dX11_hair_20 : decode cX11_hair 20 = .ok (.iconst (-1), 1) := by decide +kernel
theorem dX11_hair_21 : decode cX11_hair 21 = .ok (.if_icmp .eq 12, 3) := by decide +kernel
theorem dX11_hair_24 : decode cX11_hair 24 = .ok (.iload_n 3, 1) := by decide +kernel
theorem dX11_hair_25 : decode cX11_hair 25 = .ok (.invokestatic 88, 3) := by decide +kernel
theorem dX11_hair_28 : decode cX11_hair 28 = .ok (.ifCond .ne 5, 3) := by decide +kernel
theorem dX11_hair_31 : decode cX11_hair 31 = .ok (.iconst 0, 1) := by decide +kernel
theorem dX11_hair_32 : decode cX11_hair 32 = .ok (.ireturn, 1) := by decide +kernel
theorem dX11_hair_33 : decode cX11_hair 33 = .ok (.aload 4, 2) := by decide +kernel
theorem dX11_hair_35 : decode cX11_hair 35 = .ok (.getfield 131, 3) := by decide +kernel
theorem dX11_hair_38 : decode cX11_hair 38 = .ok (.iload_n 2, 1) := by decide +kernel
theorem dX11_hair_39 : decode cX11_hair 39 = .ok (.iload_n 3, 1) := by decide +kernel
theorem dX11_hair_40 : decode cX11_hair 40 = .ok (.iastore, 1) := by decide +kernel
theorem dX11_hair_41 : decode cX11_hair 41 = .ok (.iconst 0, 1) := by decide +kernel
theorem dX11_hair_42 : decode cX11_hair 42 = .ok (.istore 5, 2) := by decide +kernel
theorem dX11_hair_44 : decode cX11_hair 44 = .ok (.iload 5, 2) := by decide +kernel
theorem dX11_hair_46 : decode cX11_hair 46 = .ok (.bipush 6, 2) := by decide +kernel
theorem dX11_hair_48 : decode cX11_hair 48 = .ok (.if_icmp .ge 28, 3) := by decide +kernel
theorem dX11_hair_51 : decode cX11_hair 51 = .ok (.aload_n 0, 1) := by decide +kernel
theorem dX11_hair_52 : decode cX11_hair 52 = .ok (.iload 5, 2) := by decide +kernel
theorem dX11_hair_54 : decode cX11_hair 54 = .ok (.invokevirtual 144, 3) := by decide +kernel
theorem dX11_hair_57 : decode cX11_hair 57 = .ok (.astore 6, 2) := by decide +kernel
theorem dX11_hair_59 : decode cX11_hair 59 = .ok (.aload 6, 2) := by decide +kernel
theorem dX11_hair_61 : decode cX11_hair 61 = .ok (.ifnull 9, 3) := by decide +kernel
theorem dX11_hair_64 : decode cX11_hair 64 = .ok (.aload 6, 2) := by decide +kernel
theorem dX11_hair_66 : decode cX11_hair 66 = .ok (.iload_n 1, 1) := by decide +kernel
theorem dX11_hair_67 : decode cX11_hair 67 = .ok (.invokevirtual 148, 3) := by decide +kernel
theorem dX11_hair_70 : decode cX11_hair 70 = .ok (.iinc 5 1, 3) := by decide +kernel
theorem dX11_hair_73 : decode cX11_hair 73 = .ok (.goto (-29), 3) := by decide +kernel
theorem dX11_hair_76 : decode cX11_hair 76 = .ok (.iconst 1, 1) := by decide +kernel
theorem dX11_hair_77 : decode cX11_hair 77 = .ok (.ireturn, 1) := by decide +kernel
theorem dX11_at_0 : decode cX11_at 0 = .ok (.aload_n 0, 1) := by decide +kernel
theorem dX11_at_1 : decode cX11_at 1 = .ok (.iload_n 1, 1) := by decide +kernel
theorem dX11_at_2 : decode cX11_at 2 = .ok (.iload_n 2, 1) := by decide +kernel
theorem dX11_at_3 : decode cX11_at 3 = .ok (.invokevirtual 151, 3) := by decide +kernel
theorem dX11_at_6 : decode cX11_at 6 = .ok (.astore 4, 2) := by decide +kernel
theorem dX11_at_8 : decode cX11_at 8 = .ok (.aload 4, 2) := by decide +kernel
theorem dX11_at_10 : decode cX11_at 10 = .ok (.ifnull 10, 3) := by decide +kernel
theorem dX11_at_13 : decode cX11_at 13 = .ok (.iload_n 3, 1) := by decide +kernel
theorem dX11_at_14 : decode cX11_at 14 = .ok (.invokestatic 84, 3) := by decide +kernel
theorem dX11_at_17 : decode cX11_at 17 = .ok (.ifCond .ne 8, 3) := by decide +kernel
theorem dX11_at_20 : decode cX11_at 20 = .ok (.bipush (-2), 2) := by decide +kernel
theorem dX11_at_22 : decode cX11_at 22 = .ok (.goto 7, 3) := by decide +kernel
theorem dX11_at_25 : decode cX11_at 25 = .ok (.aload 4, 2) := by decide +kernel
theorem dX11_at_27 : decode cX11_at 27 = .ok (.iload_n 3, 1) := by decide +kernel
theorem dX11_at_28 : decode cX11_at 28 = .ok (.iaload, 1) := by decide +kernel
theorem dX11_at_29 : decode cX11_at 29 = .ok (.ireturn, 1) := by decide +kernel
theorem dX11_of_0 : decode cX11_of 0 = .ok (.iload_n 2, 1) := by decide +kernel
theorem dX11_of_1 : decode cX11_of 1 = .ok (.bipush 10, 2) := by decide +kernel
theorem dX11_of_3 : decode cX11_of 3 = .ok (.if_icmp .ge 15, 3) := by decide +kernel
theorem dX11_of_6 : decode cX11_of 6 = .ok (.aload_n 0, 1) := by decide +kernel
theorem dX11_of_7 : decode cX11_of 7 = .ok (.iload_n 1, 1) := by decide +kernel
theorem dX11_of_8 : decode cX11_of 8 = .ok (.invokevirtual 140, 3) := by decide +kernel
theorem dX11_of_11 : decode cX11_of 11 = .ok (.iload_n 2, 1) := by decide +kernel
theorem dX11_of_12 : decode cX11_of 12 = .ok (.invokestatic 155, 3) := by decide +kernel
theorem dX11_of_15 : decode cX11_of 15 = .ok (.goto 12, 3) := by decide +kernel
theorem dX11_of_18 : decode cX11_of 18 = .ok (.aload_n 0, 1) := by decide +kernel
theorem dX11_of_19 : decode cX11_of 19 = .ok (.iload_n 1, 1) := by decide +kernel
theorem dX11_of_20 : decode cX11_of 20 = .ok (.invokevirtual 115, 3) := by decide +kernel
theorem dX11_of_23 : decode cX11_of 23 = .ok (.iload_n 2, 1) := by decide +kernel
theorem dX11_of_24 : decode cX11_of 24 = .ok (.invokestatic 159, 3) := by decide +kernel
theorem dX11_of_27 : decode cX11_of 27 = .ok (.ireturn, 1) := by decide +kernel
theorem dX11_feed_0 : decode cX11_feed 0 = .ok (.aload_n 0, 1) := by decide +kernel
theorem dX11_feed_1 : decode cX11_feed 1 = .ok (.getfield 46, 3) := by decide +kernel
theorem dX11_feed_4 : decode cX11_feed 4 = .ok (.getfield 163, 3) := by decide +kernel
theorem dX11_feed_7 : decode cX11_feed 7 = .ok (.bipush 20, 2) := by decide +kernel
theorem dX11_feed_9 : decode cX11_feed 9 = .ok (.iadd, 1) := by decide +kernel
theorem dX11_feed_10 : decode cX11_feed 10 = .ok (.sipush 600, 3) := by decide +kernel
theorem dX11_feed_13 : decode cX11_feed 13 = .ok (.if_icmp .le 5, 3) := by decide +kernel
theorem dX11_feed_16 : decode cX11_feed 16 = .ok (.iconst (-1), 1) := by decide +kernel
theorem dX11_feed_17 : decode cX11_feed 17 = .ok (.ireturn, 1) := by decide +kernel
theorem dX11_feed_18 : decode cX11_feed 18 = .ok (.aload_n 0, 1) := by decide +kernel
theorem dX11_feed_19 : decode cX11_feed 19 = .ok (.getfield 46, 3) := by decide +kernel
theorem dX11_feed_22 : decode cX11_feed 22 = .ok (.iload_n 1, 1) := by decide +kernel
theorem dX11_feed_23 : decode cX11_feed 23 = .ok (.invokevirtual 166, 3) := by decide +kernel
theorem dX11_feed_26 : decode cX11_feed 26 = .ok (.aload_n 0, 1) := by decide +kernel
theorem dX11_feed_27 : decode cX11_feed 27 = .ok (.getfield 46, 3) := by decide +kernel
theorem dX11_feed_30 : decode cX11_feed 30 = .ok (.iload_n 2, 1) := by decide +kernel
theorem dX11_feed_31 : decode cX11_feed 31 = .ok (.invokevirtual 166, 3) := by decide +kernel
theorem dX11_feed_34 : decode cX11_feed 34 = .ok (.aload_n 0, 1) := by decide +kernel
theorem dX11_feed_35 : decode cX11_feed 35 = .ok (.getfield 46, 3) := by decide +kernel
theorem dX11_feed_38 : decode cX11_feed 38 = .ok (.iload_n 3, 1) := by decide +kernel
theorem dX11_feed_39 : decode cX11_feed 39 = .ok (.invokevirtual 166, 3) := by decide +kernel
theorem dX11_feed_42 : decode cX11_feed 42 = .ok (.aload_n 0, 1) := by decide +kernel
theorem dX11_feed_43 : decode cX11_feed 43 = .ok (.getfield 46, 3) := by decide +kernel
theorem dX11_feed_46 : decode cX11_feed 46 = .ok (.iload 4, 2) := by decide +kernel
theorem dX11_feed_48 : decode cX11_feed 48 = .ok (.invokevirtual 166, 3) := by decide +kernel
theorem dX11_feed_51 : decode cX11_feed 51 = .ok (.aload_n 0, 1) := by decide +kernel
theorem dX11_feed_52 : decode cX11_feed 52 = .ok (.getfield 46, 3) := by decide +kernel
theorem dX11_feed_55 : decode cX11_feed 55 = .ok (.iload 5, 2) := by decide +kernel
theorem dX11_feed_57 : decode cX11_feed 57 = .ok (.invokevirtual 166, 3) := by decide +kernel
theorem dX11_feed_60 : decode cX11_feed 60 = .ok (.aload_n 0, 1) := by decide +kernel
theorem dX11_feed_61 : decode cX11_feed 61 = .ok (.getfield 46, 3) := by decide +kernel
theorem dX11_feed_64 : decode cX11_feed 64 = .ok (.getfield 163, 3) := by decide +kernel
theorem dX11_feed_67 : decode cX11_feed 67 = .ok (.ireturn, 1) := by decide +kernel
theorem dX11_end_0 : decode cX11_end 0 = .ok (.iload_n 1, 1) := by decide +kernel
theorem dX11_end_1 : decode cX11_end 1 = .ok (.ifCond .lt 14, 3) := by decide +kernel
theorem dX11_end_4 : decode cX11_end 4 = .ok (.iload_n 1, 1) := by decide +kernel
theorem dX11_end_5 : decode cX11_end 5 = .ok (.aload_n 0, 1) := by decide +kernel
theorem dX11_end_6 : decode cX11_end 6 = .ok (.getfield 46, 3) := by decide +kernel
theorem dX11_end_9 : decode cX11_end 9 = .ok (.getfield 163, 3) := by decide +kernel
theorem dX11_end_12 : decode cX11_end 12 = .ok (.if_icmp .le 5, 3) := by decide +kernel
theorem dX11_end_15 : decode cX11_end 15 = .ok (.iconst 0, 1) := by decide +kernel
theorem dX11_end_16 : decode cX11_end 16 = .ok (.ireturn, 1) := by decide +kernel
theorem dX11_end_17 : decode cX11_end 17 = .ok (.aload_n 0, 1) := by decide +kernel
theorem dX11_end_18 : decode cX11_end 18 = .ok (.getfield 46, 3) := by decide +kernel
theorem dX11_end_21 : decode cX11_end 21 = .ok (.iload_n 1, 1) := by decide +kernel
theorem dX11_end_22 : decode cX11_end 22 = .ok (.putfield 163, 3) := by decide +kernel
theorem dX11_end_25 : decode cX11_end 25 = .ok (.iconst 1, 1) := by decide +kernel
theorem dX11_end_26 : decode cX11_end 26 = .ok (.ireturn, 1) := by decide +kernel
theorem dX11_laws_0 : decode cX11_laws 0 = .ok (.aload_n 0, 1) := by decide +kernel
theorem dX11_laws_1 : decode cX11_laws 1 = .ok (.getfield 55, 3) := by decide +kernel
theorem dX11_laws_4 : decode cX11_laws 4 = .ok (.iconst 1, 1) := by decide +kernel
theorem dX11_laws_5 : decode cX11_laws 5 = .ok (.invokevirtual 169, 3) := by decide +kernel
theorem dX11_laws_8 : decode cX11_laws 8 = .ok (.ifCond .ne 5, 3) := by decide +kernel
theorem dX11_laws_11 : decode cX11_laws 11 = .ok (.iconst (-1), 1) := by decide +kernel
theorem dX11_laws_12 : decode cX11_laws 12 = .ok (.ireturn, 1) := by decide +kernel
theorem dX11_laws_13 : decode cX11_laws 13 = .ok (.aload_n 0, 1) := by decide +kernel
theorem dX11_laws_14 : decode cX11_laws 14 = .ok (.aload_n 0, 1) := by decide +kernel
theorem dX11_laws_15 : decode cX11_laws 15 = .ok (.getfield 55, 3) := by decide +kernel
theorem dX11_laws_18 : decode cX11_laws 18 = .ok (.aload_n 0, 1) := by decide +kernel
theorem dX11_laws_19 : decode cX11_laws 19 = .ok (.getfield 62, 3) := by decide +kernel
theorem dX11_laws_22 : decode cX11_laws 22 = .ok (.invokevirtual 173, 3) := by decide +kernel
theorem dX11_laws_25 : decode cX11_laws 25 = .ok (.putfield 62, 3) := by decide +kernel
theorem dX11_laws_28 : decode cX11_laws 28 = .ok (.aload_n 0, 1) := by decide +kernel
theorem dX11_laws_29 : decode cX11_laws 29 = .ok (.getfield 62, 3) := by decide +kernel
theorem dX11_laws_32 : decode cX11_laws 32 = .ok (.getfield 177, 3) := by decide +kernel
theorem dX11_laws_35 : decode cX11_laws 35 = .ok (.ireturn, 1) := by decide +kernel
theorem dX11_judgement_0 : decode cX11_judgement 0 = .ok (.aload_n 0, 1) := by decide +kernel
theorem dX11_judgement_1 : decode cX11_judgement 1 = .ok (.iload_n 1, 1) := by decide +kernel
theorem dX11_judgement_2 : decode cX11_judgement 2 = .ok (.invokevirtual 144, 3) := by decide +kernel
theorem dX11_judgement_5 : decode cX11_judgement 5 = .ok (.astore_n 2, 1) := by decide +kernel
theorem dX11_judgement_6 : decode cX11_judgement 6 = .ok (.aload_n 2, 1) := by decide +kernel
theorem dX11_judgement_7 : decode cX11_judgement 7 = .ok (.ifnonnull 12, 3) := by decide +kernel
theorem dX11_judgement_10 : decode cX11_judgement 10 = .ok (.aload_n 0, 1) := by decide +kernel
theorem dX11_judgement_11 : decode cX11_judgement 11 = .ok (.getfield 55, 3) := by decide +kernel
theorem dX11_judgement_14 : decode cX11_judgement 14 = .ok (.invokevirtual 180, 3) := by decide +kernel
theorem dX11_judgement_17 : decode cX11_judgement 17 = .ok (.iconst (-1), 1) := by decide +kernel
theorem dX11_judgement_18 : decode cX11_judgement 18 = .ok (.ireturn, 1) := by decide +kernel
theorem dX11_judgement_19 : decode cX11_judgement 19 = .ok (.aload_n 0, 1) := by decide +kernel
theorem dX11_judgement_20 : decode cX11_judgement 20 = .ok (.getfield 55, 3) := by decide +kernel
theorem dX11_judgement_23 : decode cX11_judgement 23 = .ok (.iconst 0, 1) := by decide +kernel
theorem dX11_judgement_24 : decode cX11_judgement 24 = .ok (.invokevirtual 169, 3) := by decide +kernel
theorem dX11_judgement_27 : decode cX11_judgement 27 = .ok (.ifCond .ne 5, 3) := by decide +kernel
theorem dX11_judgement_30 : decode cX11_judgement 30 = .ok (.iconst (-1), 1) := by decide +kernel
theorem dX11_judgement_31 : decode cX11_judgement 31 = .ok (.ireturn, 1) := by decide +kernel
theorem dX11_judgement_32 : decode cX11_judgement 32 = .ok (.aload_n 2, 1) := by decide +kernel
theorem dX11_judgement_33 : decode cX11_judgement 33 = .ok (.aload_n 0, 1) := by decide +kernel
theorem dX11_judgement_34 : decode cX11_judgement 34 = .ok (.getfield 55, 3) := by decide +kernel
theorem dX11_judgement_37 : decode cX11_judgement 37 = .ok (.aload_n 2, 1) := by decide +kernel
theorem dX11_judgement_38 : decode cX11_judgement 38 = .ok (.getfield 183, 3) := by decide +kernel
theorem dX11_judgement_41 : decode cX11_judgement 41 = .ok (.invokevirtual 173, 3) := by decide +kernel
theorem dX11_judgement_44 : decode cX11_judgement 44 = .ok (.putfield 183, 3) := by decide +kernel
theorem dX11_judgement_47 : decode cX11_judgement 47 = .ok (.aload_n 2, 1) := by decide +kernel
theorem dX11_judgement_48 : decode cX11_judgement 48 = .ok (.invokevirtual 186, 3) := by decide +kernel
theorem dX11_judgement_51 : decode cX11_judgement 51 = .ok (.aload_n 2, 1) := by decide +kernel
theorem dX11_judgement_52 : decode cX11_judgement 52 = .ok (.getfield 183, 3) := by decide +kernel
theorem dX11_judgement_55 : decode cX11_judgement 55 = .ok (.getfield 177, 3) := by decide +kernel
theorem dX11_judgement_58 : decode cX11_judgement 58 = .ok (.ireturn, 1) := by decide +kernel
theorem dX11_fault_0 : decode cX11_fault 0 = .ok (.iload_n 1, 1) := by decide +kernel
theorem dX11_fault_1 : decode cX11_fault 1 = .ok (.ifCond .ne 11, 3) := by decide +kernel
theorem dX11_fault_4 : decode cX11_fault 4 = .ok (.aload_n 0, 1) := by decide +kernel
theorem dX11_fault_5 : decode cX11_fault 5 = .ok (.getfield 55, 3) := by decide +kernel
theorem dX11_fault_8 : decode cX11_fault 8 = .ok (.getfield 189, 3) := by decide +kernel
theorem dX11_fault_11 : decode cX11_fault 11 = .ok (.ireturn, 1) := by decide +kernel
theorem dX11_fault_12 : decode cX11_fault 12 = .ok (.iload_n 1, 1) := by decide +kernel
theorem dX11_fault_13 : decode cX11_fault 13 = .ok (.iconst 1, 1) := by decide +kernel
theorem dX11_fault_14 : decode cX11_fault 14 = .ok (.if_icmp .ne 13, 3) := by decide +kernel
theorem dX11_fault_17 : decode cX11_fault 17 = .ok (.aload_n 0, 1) := by decide +kernel
theorem dX11_fault_18 : decode cX11_fault 18 = .ok (.getfield 55, 3) := by decide +kernel
theorem dX11_fault_21 : decode cX11_fault 21 = .ok (.getfield 192, 3) := by decide +kernel
theorem dX11_fault_24 : decode cX11_fault 24 = .ok (.goto 4, 3) := by decide +kernel
theorem dX11_fault_27 : decode cX11_fault 27 = .ok (.iconst (-1), 1) := by decide +kernel
theorem dX11_fault_28 : decode cX11_fault 28 = .ok (.ireturn, 1) := by decide +kernel
theorem dX11_looker_0 : decode cX11_looker 0 = .ok (.iload_n 1, 1) := by decide +kernel
theorem dX11_looker_1 : decode cX11_looker 1 = .ok (.ifCond .lt 18, 3) := by decide +kernel
theorem dX11_looker_4 : decode cX11_looker 4 = .ok (.iload_n 1, 1) := by decide +kernel
theorem dX11_looker_5 : decode cX11_looker 5 = .ok (.bipush 15, 2) := by decide +kernel
theorem dX11_looker_7 : decode cX11_looker 7 = .ok (.if_icmp .gt 12, 3) := by decide +kernel
theorem dX11_looker_10 : decode cX11_looker 10 = .ok (.aload_n 0, 1) := by decide +kernel
theorem dX11_looker_11 : decode cX11_looker 11 = .ok (.getfield 195, 3) := by decide +kernel
theorem dX11_looker_14 : decode cX11_looker 14 = .ok (.bipush 6, 2) := by decide +kernel
theorem dX11_looker_16 : decode cX11_looker 16 = .ok (.if_icmp .lt 5, 3) := by decide +kernel
theorem dX11_looker_19 : decode cX11_looker 19 = .ok (.iconst (-1), 1) := by decide +kernel
theorem dX11_looker_20 : decode cX11_looker 20 = .ok (.ireturn, 1) := by decide +kernel
theorem dX11_looker_21 : decode cX11_looker 21 = .ok (.aload_n 0, 1) := by decide +kernel
theorem dX11_looker_22 : decode cX11_looker 22 = .ok (.getfield 29, 3) := by decide +kernel
theorem dX11_looker_25 : decode cX11_looker 25 = .ok (.aload_n 0, 1) := by decide +kernel
theorem dX11_looker_26 : decode cX11_looker 26 = .ok (.getfield 195, 3) := by decide +kernel
theorem dX11_looker_29 : decode cX11_looker 29 = .ok (.new 27, 3) := by decide +kernel
theorem dX11_looker_32 : decode cX11_looker 32 = .ok (.dup, 1) := by decide +kernel
theorem dX11_looker_33 : decode cX11_looker 33 = .ok (.iload_n 1, 1) := by decide +kernel
theorem dX11_looker_34 : decode cX11_looker 34 = .ok (.invokespecial 198, 3) := by decide +kernel
theorem dX11_looker_37 : decode cX11_looker 37 = .ok (.aastore, 1) := by decide +kernel
theorem dX11_looker_38 : decode cX11_looker 38 = .ok (.aload_n 0, 1) := by decide +kernel
theorem dX11_looker_39 : decode cX11_looker 39 = .ok (.dup, 1) := by decide +kernel
theorem dX11_looker_40 : decode cX11_looker 40 = .ok (.getfield 195, 3) := by decide +kernel
theorem dX11_looker_43 : decode cX11_looker 43 = .ok (.iconst 1, 1) := by decide +kernel
theorem dX11_looker_44 : decode cX11_looker 44 = .ok (.iadd, 1) := by decide +kernel
theorem dX11_looker_45 : decode cX11_looker 45 = .ok (.putfield 195, 3) := by decide +kernel
theorem dX11_looker_48 : decode cX11_looker 48 = .ok (.aload_n 0, 1) := by decide +kernel
theorem dX11_looker_49 : decode cX11_looker 49 = .ok (.getfield 195, 3) := by decide +kernel
theorem dX11_looker_52 : decode cX11_looker 52 = .ok (.iconst 1, 1) := by decide +kernel
theorem dX11_looker_53 : decode cX11_looker 53 = .ok (.isub, 1) := by decide +kernel
theorem dX11_looker_54 : decode cX11_looker 54 = .ok (.ireturn, 1) := by decide +kernel
theorem dX11_slid_0 : decode cX11_slid 0 = .ok (.aload_n 0, 1) := by decide +kernel
theorem dX11_slid_1 : decode cX11_slid 1 = .ok (.iload_n 1, 1) := by decide +kernel
theorem dX11_slid_2 : decode cX11_slid 2 = .ok (.invokevirtual 144, 3) := by decide +kernel
theorem dX11_slid_5 : decode cX11_slid 5 = .ok (.astore 5, 2) := by decide +kernel
theorem dX11_slid_7 : decode cX11_slid 7 = .ok (.aload_n 0, 1) := by decide +kernel
theorem dX11_slid_8 : decode cX11_slid 8 = .ok (.iload_n 2, 1) := by decide +kernel
theorem dX11_slid_9 : decode cX11_slid 9 = .ok (.invokevirtual 140, 3) := by decide +kernel
theorem dX11_slid_12 : decode cX11_slid 12 = .ok (.astore 6, 2) := by decide +kernel
theorem dX11_slid_14 : decode cX11_slid 14 = .ok (.aload_n 0, 1) := by decide +kernel
theorem dX11_slid_15 : decode cX11_slid 15 = .ok (.iload_n 3, 1) := by decide +kernel
theorem dX11_slid_16 : decode cX11_slid 16 = .ok (.invokevirtual 140, 3) := by decide +kernel
theorem dX11_slid_19 : decode cX11_slid 19 = .ok (.astore 7, 2) := by decide +kernel
theorem dX11_slid_21 : decode cX11_slid 21 = .ok (.aload 5, 2) := by decide +kernel
theorem dX11_slid_23 : decode cX11_slid 23 = .ok (.ifnull 13, 3) := by decide +kernel
theorem dX11_slid_26 : decode cX11_slid 26 = .ok (.aload 6, 2) := by decide +kernel
theorem dX11_slid_28 : decode cX11_slid 28 = .ok (.ifnull 8, 3) := by decide +kernel
theorem dX11_slid_31 : decode cX11_slid 31 = .ok (.aload 7, 2) := by decide +kernel
theorem dX11_slid_33 : decode cX11_slid 33 = .ok (.ifnonnull 5, 3) := by decide +kernel
theorem dX11_slid_36 : decode cX11_slid 36 = .ok (.iconst (-1), 1) := by decide +kernel
theorem dX11_slid_37 : decode cX11_slid 37 = .ok (.ireturn, 1) := by decide +kernel
theorem dX11_slid_38 : decode cX11_slid 38 = .ok (.iload 4, 2) := by decide +kernel
theorem dX11_slid_40 : decode cX11_slid 40 = .ok (.tableswitch 101 0 4 #[36, 49, 62, 75, 89], 36) := by decide +kernel
theorem dX11_slid_76 : decode cX11_slid 76 = .ok (.aload 5, 2) := by decide +kernel
theorem dX11_slid_78 : decode cX11_slid 78 = .ok (.aload 6, 2) := by decide +kernel
theorem dX11_slid_80 : decode cX11_slid 80 = .ok (.aload 7, 2) := by decide +kernel
theorem dX11_slid_82 : decode cX11_slid 82 = .ok (.invokevirtual 199, 3) := by decide +kernel
theorem dX11_slid_85 : decode cX11_slid 85 = .ok (.invokestatic 203, 3) := by decide +kernel
theorem dX11_slid_88 : decode cX11_slid 88 = .ok (.ireturn, 1) := by decide +kernel
theorem dX11_slid_89 : decode cX11_slid 89 = .ok (.aload 5, 2) := by decide +kernel
theorem dX11_slid_91 : decode cX11_slid 91 = .ok (.aload 6, 2) := by decide +kernel
theorem dX11_slid_93 : decode cX11_slid 93 = .ok (.aload 7, 2) := by decide +kernel
theorem dX11_slid_95 : decode cX11_slid 95 = .ok (.invokevirtual 199, 3) := by decide +kernel
theorem dX11_slid_98 : decode cX11_slid 98 = .ok (.invokestatic 209, 3) := by decide +kernel
theorem dX11_slid_101 : decode cX11_slid 101 = .ok (.ireturn, 1) := by decide +kernel
theorem dX11_slid_102 : decode cX11_slid 102 = .ok (.aload 5, 2) := by decide +kernel
theorem dX11_slid_104 : decode cX11_slid 104 = .ok (.aload 6, 2) := by decide +kernel
theorem dX11_slid_106 : decode cX11_slid 106 = .ok (.aload 7, 2) := by decide +kernel
theorem dX11_slid_108 : decode cX11_slid 108 = .ok (.invokevirtual 199, 3) := by decide +kernel
theorem dX11_slid_111 : decode cX11_slid 111 = .ok (.invokestatic 212, 3) := by decide +kernel
theorem dX11_slid_114 : decode cX11_slid 114 = .ok (.ireturn, 1) := by decide +kernel
theorem dX11_slid_115 : decode cX11_slid 115 = .ok (.aload 5, 2) := by decide +kernel
theorem dX11_slid_117 : decode cX11_slid 117 = .ok (.aload 6, 2) := by decide +kernel
theorem dX11_slid_119 : decode cX11_slid 119 = .ok (.aload 7, 2) := by decide +kernel
theorem dX11_slid_121 : decode cX11_slid 121 = .ok (.aload_n 0, 1) := by decide +kernel
theorem dX11_slid_122 : decode cX11_slid 122 = .ok (.getfield 69, 3) := by decide +kernel
theorem dX11_slid_125 : decode cX11_slid 125 = .ok (.invokevirtual 215, 3) := by decide +kernel
theorem dX11_slid_128 : decode cX11_slid 128 = .ok (.ireturn, 1) := by decide +kernel
theorem dX11_slid_129 : decode cX11_slid 129 = .ok (.aload 6, 2) := by decide +kernel
theorem dX11_slid_131 : decode cX11_slid 131 = .ok (.invokevirtual 219, 3) := by decide +kernel
theorem dX11_slid_134 : decode cX11_slid 134 = .ok (.aload 7, 2) := by decide +kernel
theorem dX11_slid_136 : decode cX11_slid 136 = .ok (.invokevirtual 219, 3) := by decide +kernel
theorem dX11_slid_139 : decode cX11_slid 139 = .ok (.iadd, 1) := by decide +kernel
theorem dX11_slid_140 : decode cX11_slid 140 = .ok (.ireturn, 1) := by decide +kernel
theorem dX11_slid_141 : decode cX11_slid 141 = .ok (.iload 4, 2) := by decide +kernel
theorem dX11_slid_143 : decode cX11_slid 143 = .ok (.bipush 32, 2) := by decide +kernel
theorem dX11_slid_145 : decode cX11_slid 145 = .ok (.if_icmp .lt 10, 3) := by decide +kernel
theorem dX11_slid_148 : decode cX11_slid 148 = .ok (.iload 4, 2) := by decide +kernel
theorem dX11_slid_150 : decode cX11_slid 150 = .ok (.bipush 64, 2) := by decide +kernel
theorem dX11_slid_152 : decode cX11_slid 152 = .ok (.if_icmp .lt 7, 3) := by decide +kernel
theorem dX11_slid_155 : decode cX11_slid 155 = .ok (.iconst (-1), 1) := by decide +kernel
theorem dX11_slid_156 : decode cX11_slid 156 = .ok (.goto 29, 3) := by decide +kernel
theorem dX11_slid_159 : decode cX11_slid 159 = .ok (.aload 6, 2) := by decide +kernel
theorem dX11_slid_161 : decode cX11_slid 161 = .ok (.getfield 131, 3) := by decide +kernel
theorem dX11_slid_164 : decode cX11_slid 164 = .ok (.aload 7, 2) := by decide +kernel
theorem dX11_slid_166 : decode cX11_slid 166 = .ok (.getfield 131, 3) := by decide +kernel
theorem dX11_slid_169 : decode cX11_slid 169 = .ok (.iload 4, 2) := by decide +kernel
theorem dX11_slid_171 : decode cX11_slid 171 = .ok (.bipush 32, 2) := by decide +kernel
theorem dX11_slid_173 : decode cX11_slid 173 = .ok (.isub, 1) := by decide +kernel
theorem dX11_slid_174 : decode cX11_slid 174 = .ok (.aload 5, 2) := by decide +kernel
theorem dX11_slid_176 : decode cX11_slid 176 = .ok (.getfield 223, 3) := by decide +kernel
theorem dX11_slid_179 : decode cX11_slid 179 = .ok (.invokestatic 226, 3) := by decide +kernel
theorem dX11_slid_182 : decode cX11_slid 182 = .ok (.invokestatic 232, 3) := by decide +kernel
theorem dX11_slid_185 : decode cX11_slid 185 = .ok (.ireturn, 1) := by decide +kernel
theorem dX11_says_0 : decode cX11_says 0 = .ok (.aload_n 0, 1) := by decide +kernel
theorem dX11_says_1 : decode cX11_says 1 = .ok (.iload_n 1, 1) := by decide +kernel
theorem dX11_says_2 : decode cX11_says 2 = .ok (.invokevirtual 144, 3) := by decide +kernel
theorem dX11_says_5 : decode cX11_says 5 = .ok (.astore 5, 2) := by decide +kernel
theorem dX11_says_7 : decode cX11_says 7 = .ok (.aload_n 0, 1) := by decide +kernel
theorem dX11_says_8 : decode cX11_says 8 = .ok (.iload_n 2, 1) := by decide +kernel
theorem dX11_says_9 : decode cX11_says 9 = .ok (.invokevirtual 140, 3) := by decide +kernel
theorem dX11_says_12 : decode cX11_says 12 = .ok (.astore 6, 2) := by decide +kernel
theorem dX11_says_14 : decode cX11_says 14 = .ok (.aload_n 0, 1) := by decide +kernel
theorem dX11_says_15 : decode cX11_says 15 = .ok (.iload_n 3, 1) := by decide +kernel
theorem dX11_says_16 : decode cX11_says 16 = .ok (.invokevirtual 140, 3) := by decide +kernel
theorem dX11_says_19 : decode cX11_says 19 = .ok (.astore 7, 2) := by decide +kernel
theorem dX11_says_21 : decode cX11_says 21 = .ok (.aload 5, 2) := by decide +kernel
theorem dX11_says_23 : decode cX11_says 23 = .ok (.ifnull 13, 3) := by decide +kernel
theorem dX11_says_26 : decode cX11_says 26 = .ok (.aload 6, 2) := by decide +kernel
theorem dX11_says_28 : decode cX11_says 28 = .ok (.ifnull 8, 3) := by decide +kernel
theorem dX11_says_31 : decode cX11_says 31 = .ok (.aload 7, 2) := by decide +kernel
theorem dX11_says_33 : decode cX11_says 33 = .ok (.ifnonnull 5, 3) := by decide +kernel
theorem dX11_says_36 : decode cX11_says 36 = .ok (.iconst (-1), 1) := by decide +kernel
theorem dX11_says_37 : decode cX11_says 37 = .ok (.ireturn, 1) := by decide +kernel
theorem dX11_says_38 : decode cX11_says 38 = .ok (.aload 5, 2) := by decide +kernel
theorem dX11_says_40 : decode cX11_says 40 = .ok (.aload 6, 2) := by decide +kernel
theorem dX11_says_42 : decode cX11_says 42 = .ok (.aload 7, 2) := by decide +kernel
theorem dX11_says_44 : decode cX11_says 44 = .ok (.iload 4, 2) := by decide +kernel
theorem dX11_says_46 : decode cX11_says 46 = .ok (.aload_n 0, 1) := by decide +kernel
theorem dX11_says_47 : decode cX11_says 47 = .ok (.getfield 69, 3) := by decide +kernel
theorem dX11_says_50 : decode cX11_says 50 = .ok (.invokevirtual 237, 3) := by decide +kernel
theorem dX11_says_53 : decode cX11_says 53 = .ok (.ireturn, 1) := by decide +kernel
theorem dX11_truth_0 : decode cX11_truth 0 = .ok (.aload_n 0, 1) := by decide +kernel
theorem dX11_truth_1 : decode cX11_truth 1 = .ok (.iload_n 1, 1) := by decide +kernel
theorem dX11_truth_2 : decode cX11_truth 2 = .ok (.invokevirtual 140, 3) := by decide +kernel
theorem dX11_truth_5 : decode cX11_truth 5 = .ok (.aload_n 0, 1) := by decide +kernel
theorem dX11_truth_6 : decode cX11_truth 6 = .ok (.iload_n 2, 1) := by decide +kernel
theorem dX11_truth_7 : decode cX11_truth 7 = .ok (.invokevirtual 140, 3) := by decide +kernel
theorem dX11_truth_10 : decode cX11_truth 10 = .ok (.invokestatic 241, 3) := by decide +kernel
theorem dX11_truth_13 : decode cX11_truth 13 = .ok (.ireturn, 1) := by decide +kernel
theorem dX11_odds_0 : decode cX11_odds 0 = .ok (.aload_n 0, 1) := by decide +kernel
theorem dX11_odds_1 : decode cX11_odds 1 = .ok (.iload_n 1, 1) := by decide +kernel
theorem dX11_odds_2 : decode cX11_odds 2 = .ok (.invokevirtual 144, 3) := by decide +kernel
theorem dX11_odds_5 : decode cX11_odds 5 = .ok (.astore 5, 2) := by decide +kernel
theorem dX11_odds_7 : decode cX11_odds 7 = .ok (.aload 5, 2) := by decide +kernel
theorem dX11_odds_9 : decode cX11_odds 9 = .ok (.ifnull 33, 3) := by decide +kernel
theorem dX11_odds_12 : decode cX11_odds 12 = .ok (.iload_n 2, 1) := by decide +kernel
theorem dX11_odds_13 : decode cX11_odds 13 = .ok (.ifCond .lt 29, 3) := by decide +kernel
theorem dX11_odds_16 : decode cX11_odds 16 = .ok (.iload_n 2, 1) := by decide +kernel
theorem dX11_odds_17 : decode cX11_odds 17 = .ok (.bipush 32, 2) := by decide +kernel
theorem dX11_odds_19 : decode cX11_odds 19 = .ok (.if_icmp .gt 23, 3) := by decide +kernel
theorem dX11_odds_22 : decode cX11_odds 22 = .ok (.iload_n 3, 1) := by decide +kernel
theorem dX11_odds_23 : decode cX11_odds 23 = .ok (.ifCond .lt 19, 3) := by decide +kernel
theorem dX11_odds_26 : decode cX11_odds 26 = .ok (.iload_n 3, 1) := by decide +kernel
theorem dX11_odds_27 : decode cX11_odds 27 = .ok (.iconst 2, 1) := by decide +kernel
theorem dX11_odds_28 : decode cX11_odds 28 = .ok (.if_icmp .gt 14, 3) := by decide +kernel
theorem dX11_odds_31 : decode cX11_odds 31 = .ok (.iload 4, 2) := by decide +kernel
theorem dX11_odds_33 : decode cX11_odds 33 = .ok (.ifCond .lt 9, 3) := by decide +kernel
theorem dX11_odds_36 : decode cX11_odds 36 = .ok (.iload 4, 2) := by decide +kernel
theorem dX11_odds_38 : decode cX11_odds 38 = .ok (.iconst 1, 1) := by decide +kernel
theorem dX11_odds_39 : decode cX11_odds 39 = .ok (.if_icmp .le 5, 3) := by decide +kernel
theorem dX11_odds_42 : decode cX11_odds 42 = .ok (.iconst (-1), 1) := by decide +kernel
theorem dX11_odds_43 : decode cX11_odds 43 = .ok (.ireturn, 1) := by decide +kernel
theorem dX11_odds_44 : decode cX11_odds 44 = .ok (.iconst 0, 1) := by decide +kernel
theorem dX11_odds_45 : decode cX11_odds 45 = .ok (.istore 6, 2) := by decide +kernel
theorem dX11_odds_47 : decode cX11_odds 47 = .ok (.iconst 0, 1) := by decide +kernel
theorem dX11_odds_48 : decode cX11_odds 48 = .ok (.istore 7, 2) := by decide +kernel
theorem dX11_odds_50 : decode cX11_odds 50 = .ok (.iload 7, 2) := by decide +kernel
theorem dX11_odds_52 : decode cX11_odds 52 = .ok (.aload_n 0, 1) := by decide +kernel
theorem dX11_odds_53 : decode cX11_odds 53 = .ok (.getfield 122, 3) := by decide +kernel
theorem dX11_odds_56 : decode cX11_odds 56 = .ok (.if_icmp .ge 84, 3) := by decide +kernel
theorem dX11_odds_59 : decode cX11_odds 59 = .ok (.aload_n 0, 1) := by decide +kernel
theorem dX11_odds_60 : decode cX11_odds 60 = .ok (.getfield 23, 3) := by decide +kernel
theorem dX11_odds_63 : decode cX11_odds 63 = .ok (.iload 7, 2) := by decide +kernel
theorem dX11_odds_65 : decode cX11_odds 65 = .ok (.aaload, 1) := by decide +kernel
theorem dX11_odds_66 : decode cX11_odds 66 = .ok (.astore 8, 2) := by decide +kernel
theorem dX11_odds_68 : decode cX11_odds 68 = .ok (.iload 7, 2) := by decide +kernel
theorem dX11_odds_70 : decode cX11_odds 70 = .ok (.iconst 1, 1) := by decide +kernel
theorem dX11_odds_71 : decode cX11_odds 71 = .ok (.iadd, 1) := by decide +kernel
theorem dX11_odds_72 : decode cX11_odds 72 = .ok (.istore 9, 2) := by decide +kernel
theorem dX11_odds_74 : decode cX11_odds 74 = .ok (.iload 9, 2) := by decide +kernel
theorem dX11_odds_76 : decode cX11_odds 76 = .ok (.aload_n 0, 1) := by decide +kernel
theorem dX11_odds_77 : decode cX11_odds 77 = .ok (.getfield 122, 3) := by decide +kernel
theorem dX11_odds_80 : decode cX11_odds 80 = .ok (.if_icmp .ge 54, 3) := by decide +kernel
theorem dX11_odds_83 : decode cX11_odds 83 = .ok (.aload_n 0, 1) := by decide +kernel
theorem dX11_odds_84 : decode cX11_odds 84 = .ok (.getfield 23, 3) := by decide +kernel
theorem dX11_odds_87 : decode cX11_odds 87 = .ok (.iload 9, 2) := by decide +kernel
theorem dX11_odds_89 : decode cX11_odds 89 = .ok (.aaload, 1) := by decide +kernel
theorem dX11_odds_90 : decode cX11_odds 90 = .ok (.astore 10, 2) := by decide +kernel
theorem dX11_odds_92 : decode cX11_odds 92 = .ok (.aload 8, 2) := by decide +kernel
theorem dX11_odds_94 : decode cX11_odds 94 = .ok (.aload 10, 2) := by decide +kernel
theorem dX11_odds_96 : decode cX11_odds 96 = .ok (.invokestatic 241, 3) := by decide +kernel
theorem dX11_odds_99 : decode cX11_odds 99 = .ok (.iload_n 3, 1) := by decide +kernel
theorem dX11_odds_100 : decode cX11_odds 100 = .ok (.if_icmp .ne 28, 3) := by decide +kernel
theorem dX11_odds_103 : decode cX11_odds 103 = .ok (.iload 4, 2) := by decide +kernel
theorem dX11_odds_105 : decode cX11_odds 105 = .ok (.iconst 1, 1) := by decide +kernel
theorem dX11_odds_106 : decode cX11_odds 106 = .ok (.if_icmp .eq 19, 3) := by decide +kernel
theorem dX11_odds_109 : decode cX11_odds 109 = .ok (.aload 5, 2) := by decide +kernel
theorem dX11_odds_111 : decode cX11_odds 111 = .ok (.aload 8, 2) := by decide +kernel
theorem dX11_odds_113 : decode cX11_odds 113 = .ok (.aload 10, 2) := by decide +kernel
theorem dX11_odds_115 : decode cX11_odds 115 = .ok (.invokevirtual 199, 3) := by decide +kernel
theorem dX11_odds_118 : decode cX11_odds 118 = .ok (.invokestatic 212, 3) := by decide +kernel
theorem dX11_odds_121 : decode cX11_odds 121 = .ok (.iload_n 2, 1) := by decide +kernel
theorem dX11_odds_122 : decode cX11_odds 122 = .ok (.if_icmp .lt 6, 3) := by decide +kernel
theorem dX11_odds_125 : decode cX11_odds 125 = .ok (.iinc 6 1, 3) := by decide +kernel
theorem dX11_odds_128 : decode cX11_odds 128 = .ok (.iinc 9 1, 3) := by decide +kernel
theorem dX11_odds_131 : decode cX11_odds 131 = .ok (.goto (-57), 3) := by decide +kernel
theorem dX11_odds_134 : decode cX11_odds 134 = .ok (.iinc 7 1, 3) := by decide +kernel
theorem dX11_odds_137 : decode cX11_odds 137 = .ok (.goto (-87), 3) := by decide +kernel
theorem dX11_odds_140 : decode cX11_odds 140 = .ok (.iload 6, 2) := by decide +kernel
theorem dX11_odds_142 : decode cX11_odds 142 = .ok (.ireturn, 1) := by decide +kernel
theorem dX11_far_0 : decode cX11_far 0 = .ok (.aload_n 0, 1) := by decide +kernel
theorem dX11_far_1 : decode cX11_far 1 = .ok (.iload_n 1, 1) := by decide +kernel
theorem dX11_far_2 : decode cX11_far 2 = .ok (.invokevirtual 144, 3) := by decide +kernel
theorem dX11_far_5 : decode cX11_far 5 = .ok (.astore_n 3, 1) := by decide +kernel
theorem dX11_far_6 : decode cX11_far 6 = .ok (.aload_n 3, 1) := by decide +kernel
theorem dX11_far_7 : decode cX11_far 7 = .ok (.ifnull 13, 3) := by decide +kernel
theorem dX11_far_10 : decode cX11_far 10 = .ok (.iload_n 2, 1) := by decide +kernel
theorem dX11_far_11 : decode cX11_far 11 = .ok (.ifCond .lt 9, 3) := by decide +kernel
theorem dX11_far_14 : decode cX11_far 14 = .ok (.iload_n 2, 1) := by decide +kernel
theorem dX11_far_15 : decode cX11_far 15 = .ok (.bipush 33, 2) := by decide +kernel
theorem dX11_far_17 : decode cX11_far 17 = .ok (.if_icmp .le 5, 3) := by decide +kernel
theorem dX11_far_20 : decode cX11_far 20 = .ok (.iconst (-1), 1) := by decide +kernel
theorem dX11_far_21 : decode cX11_far 21 = .ok (.ireturn, 1) := by decide +kernel
theorem dX11_far_22 : decode cX11_far 22 = .ok (.iconst (-1), 1) := by decide +kernel
theorem dX11_far_23 : decode cX11_far 23 = .ok (.istore 4, 2) := by decide +kernel
theorem dX11_far_25 : decode cX11_far 25 = .ok (.iconst 0, 1) := by decide +kernel
theorem dX11_far_26 : decode cX11_far 26 = .ok (.istore 5, 2) := by decide +kernel
theorem dX11_far_28 : decode cX11_far 28 = .ok (.iload 5, 2) := by decide +kernel
theorem dX11_far_30 : decode cX11_far 30 = .ok (.aload_n 0, 1) := by decide +kernel
theorem dX11_far_31 : decode cX11_far 31 = .ok (.getfield 122, 3) := by decide +kernel
theorem dX11_far_34 : decode cX11_far 34 = .ok (.if_icmp .ge 108, 3) := by decide +kernel
theorem dX11_far_37 : decode cX11_far 37 = .ok (.aload_n 0, 1) := by decide +kernel
theorem dX11_far_38 : decode cX11_far 38 = .ok (.getfield 23, 3) := by decide +kernel
theorem dX11_far_41 : decode cX11_far 41 = .ok (.iload 5, 2) := by decide +kernel
theorem dX11_far_43 : decode cX11_far 43 = .ok (.aaload, 1) := by decide +kernel
theorem dX11_far_44 : decode cX11_far 44 = .ok (.astore 6, 2) := by decide +kernel
theorem dX11_far_46 : decode cX11_far 46 = .ok (.iload 5, 2) := by decide +kernel
theorem dX11_far_48 : decode cX11_far 48 = .ok (.iconst 1, 1) := by decide +kernel
theorem dX11_far_49 : decode cX11_far 49 = .ok (.iadd, 1) := by decide +kernel
theorem dX11_far_50 : decode cX11_far 50 = .ok (.istore 7, 2) := by decide +kernel
theorem dX11_far_52 : decode cX11_far 52 = .ok (.iload 7, 2) := by decide +kernel
theorem dX11_far_54 : decode cX11_far 54 = .ok (.aload_n 0, 1) := by decide +kernel
theorem dX11_far_55 : decode cX11_far 55 = .ok (.getfield 122, 3) := by decide +kernel
theorem dX11_far_58 : decode cX11_far 58 = .ok (.if_icmp .ge 78, 3) := by decide +kernel
theorem dX11_far_61 : decode cX11_far 61 = .ok (.aload_n 0, 1) := by decide +kernel
theorem dX11_far_62 : decode cX11_far 62 = .ok (.getfield 23, 3) := by decide +kernel
theorem dX11_far_65 : decode cX11_far 65 = .ok (.iload 7, 2) := by decide +kernel
theorem dX11_far_67 : decode cX11_far 67 = .ok (.aaload, 1) := by decide +kernel
theorem dX11_far_68 : decode cX11_far 68 = .ok (.astore 8, 2) := by decide +kernel
theorem dX11_far_70 : decode cX11_far 70 = .ok (.aload 6, 2) := by decide +kernel
theorem dX11_far_72 : decode cX11_far 72 = .ok (.aload 8, 2) := by decide +kernel
theorem dX11_far_74 : decode cX11_far 74 = .ok (.invokestatic 241, 3) := by decide +kernel
theorem dX11_far_77 : decode cX11_far 77 = .ok (.ifCond .ne 53, 3) := by decide +kernel
theorem dX11_far_80 : decode cX11_far 80 = .ok (.iload 4, 2) := by decide +kernel
theorem dX11_far_82 : decode cX11_far 82 = .ok (.iconst (-1), 1) := by decide +kernel
theorem dX11_far_83 : decode cX11_far 83 = .ok (.if_icmp .eq 19, 3) := by decide +kernel
theorem dX11_far_86 : decode cX11_far 86 = .ok (.aload 8, 2) := by decide +kernel
theorem dX11_far_88 : decode cX11_far 88 = .ok (.getfield 244, 3) := by decide +kernel
theorem dX11_far_91 : decode cX11_far 91 = .ok (.aload 6, 2) := by decide +kernel
theorem dX11_far_93 : decode cX11_far 93 = .ok (.getfield 244, 3) := by decide +kernel
theorem dX11_far_96 : decode cX11_far 96 = .ok (.isub, 1) := by decide +kernel
theorem dX11_far_97 : decode cX11_far 97 = .ok (.iload 4, 2) := by decide +kernel
theorem dX11_far_99 : decode cX11_far 99 = .ok (.if_icmp .ge 31, 3) := by decide +kernel
theorem dX11_far_102 : decode cX11_far 102 = .ok (.aload_n 3, 1) := by decide +kernel
theorem dX11_far_103 : decode cX11_far 103 = .ok (.aload 6, 2) := by decide +kernel
theorem dX11_far_105 : decode cX11_far 105 = .ok (.aload 8, 2) := by decide +kernel
theorem dX11_far_107 : decode cX11_far 107 = .ok (.invokevirtual 199, 3) := by decide +kernel
theorem dX11_far_110 : decode cX11_far 110 = .ok (.invokestatic 212, 3) := by decide +kernel
theorem dX11_far_113 : decode cX11_far 113 = .ok (.iload_n 2, 1) := by decide +kernel
theorem dX11_far_114 : decode cX11_far 114 = .ok (.if_icmp .ge 16, 3) := by decide +kernel
theorem dX11_far_117 : decode cX11_far 117 = .ok (.aload 8, 2) := by decide +kernel
theorem dX11_far_119 : decode cX11_far 119 = .ok (.getfield 244, 3) := by decide +kernel
theorem dX11_far_122 : decode cX11_far 122 = .ok (.aload 6, 2) := by decide +kernel
theorem dX11_far_124 : decode cX11_far 124 = .ok (.getfield 244, 3) := by decide +kernel
theorem dX11_far_127 : decode cX11_far 127 = .ok (.isub, 1) := by decide +kernel
theorem dX11_far_128 : decode cX11_far 128 = .ok (.istore 4, 2) := by decide +kernel
theorem dX11_far_130 : decode cX11_far 130 = .ok (.iinc 7 1, 3) := by decide +kernel
theorem dX11_far_133 : decode cX11_far 133 = .ok (.goto (-81), 3) := by decide +kernel
theorem dX11_far_136 : decode cX11_far 136 = .ok (.iinc 5 1, 3) := by decide +kernel
theorem dX11_far_139 : decode cX11_far 139 = .ok (.goto (-111), 3) := by decide +kernel
theorem dX11_far_142 : decode cX11_far 142 = .ok (.iload 4, 2) := by decide +kernel
theorem dX11_far_144 : decode cX11_far 144 = .ok (.ireturn, 1) := by decide +kernel
theorem dX11_own_0 : decode cX11_own 0 = .ok (.aload_n 0, 1) := by decide +kernel
theorem dX11_own_1 : decode cX11_own 1 = .ok (.iload_n 1, 1) := by decide +kernel
theorem dX11_own_2 : decode cX11_own 2 = .ok (.invokevirtual 144, 3) := by decide +kernel
theorem dX11_own_5 : decode cX11_own 5 = .ok (.astore 6, 2) := by decide +kernel
theorem dX11_own_7 : decode cX11_own 7 = .ok (.aload_n 0, 1) := by decide +kernel
theorem dX11_own_8 : decode cX11_own 8 = .ok (.iload_n 2, 1) := by decide +kernel
theorem dX11_own_9 : decode cX11_own 9 = .ok (.invokevirtual 140, 3) := by decide +kernel
theorem dX11_own_12 : decode cX11_own 12 = .ok (.astore 7, 2) := by decide +kernel
theorem dX11_own_14 : decode cX11_own 14 = .ok (.aload_n 0, 1) := by decide +kernel
theorem dX11_own_15 : decode cX11_own 15 = .ok (.iload_n 3, 1) := by decide +kernel
theorem dX11_own_16 : decode cX11_own 16 = .ok (.invokevirtual 140, 3) := by decide +kernel
theorem dX11_own_19 : decode cX11_own 19 = .ok (.astore 8, 2) := by decide +kernel
theorem dX11_own_21 : decode cX11_own 21 = .ok (.aload_n 0, 1) := by decide +kernel
theorem dX11_own_22 : decode cX11_own 22 = .ok (.iload 4, 2) := by decide +kernel
theorem dX11_own_24 : decode cX11_own 24 = .ok (.invokevirtual 140, 3) := by decide +kernel
theorem dX11_own_27 : decode cX11_own 27 = .ok (.astore 9, 2) := by decide +kernel
theorem dX11_own_29 : decode cX11_own 29 = .ok (.aload 6, 2) := by decide +kernel
theorem dX11_own_31 : decode cX11_own 31 = .ok (.ifnull 29, 3) := by decide +kernel
theorem dX11_own_34 : decode cX11_own 34 = .ok (.aload 7, 2) := by decide +kernel
theorem dX11_own_36 : decode cX11_own 36 = .ok (.ifnull 24, 3) := by decide +kernel
theorem dX11_own_39 : decode cX11_own 39 = .ok (.aload 8, 2) := by decide +kernel
theorem dX11_own_41 : decode cX11_own 41 = .ok (.ifnull 19, 3) := by decide +kernel
theorem dX11_own_44 : decode cX11_own 44 = .ok (.aload 9, 2) := by decide +kernel
theorem dX11_own_46 : decode cX11_own 46 = .ok (.ifnull 14, 3) := by decide +kernel
theorem dX11_own_49 : decode cX11_own 49 = .ok (.iload 5, 2) := by decide +kernel
theorem dX11_own_51 : decode cX11_own 51 = .ok (.ifCond .lt 9, 3) := by decide +kernel
theorem dX11_own_54 : decode cX11_own 54 = .ok (.iload 5, 2) := by decide +kernel
theorem dX11_own_56 : decode cX11_own 56 = .ok (.iconst 1, 1) := by decide +kernel
theorem dX11_own_57 : decode cX11_own 57 = .ok (.if_icmp .le 5, 3) := by decide +kernel
theorem dX11_own_60 : decode cX11_own 60 = .ok (.iconst 0, 1) := by decide +kernel
theorem dX11_own_61 : decode cX11_own 61 = .ok (.ireturn, 1) := by decide +kernel
theorem dX11_own_62 : decode cX11_own 62 = .ok (.aload 6, 2) := by decide +kernel
theorem dX11_own_64 : decode cX11_own 64 = .ok (.aload 7, 2) := by decide +kernel
theorem dX11_own_66 : decode cX11_own 66 = .ok (.aload 8, 2) := by decide +kernel
theorem dX11_own_68 : decode cX11_own 68 = .ok (.invokevirtual 247, 3) := by decide +kernel
theorem dX11_own_71 : decode cX11_own 71 = .ok (.istore 10, 2) := by decide +kernel
theorem dX11_own_73 : decode cX11_own 73 = .ok (.aload 6, 2) := by decide +kernel
theorem dX11_own_75 : decode cX11_own 75 = .ok (.aload 7, 2) := by decide +kernel
theorem dX11_own_77 : decode cX11_own 77 = .ok (.aload 9, 2) := by decide +kernel
theorem dX11_own_79 : decode cX11_own 79 = .ok (.invokevirtual 247, 3) := by decide +kernel
theorem dX11_own_82 : decode cX11_own 82 = .ok (.istore 11, 2) := by decide +kernel
theorem dX11_own_84 : decode cX11_own 84 = .ok (.iload 5, 2) := by decide +kernel
theorem dX11_own_86 : decode cX11_own 86 = .ok (.ifCond .ne 13, 3) := by decide +kernel
theorem dX11_own_89 : decode cX11_own 89 = .ok (.iload 10, 2) := by decide +kernel
theorem dX11_own_91 : decode cX11_own 91 = .ok (.iload 11, 2) := by decide +kernel
theorem dX11_own_93 : decode cX11_own 93 = .ok (.iconst (-1), 1) := by decide +kernel
theorem dX11_own_94 : decode cX11_own 94 = .ok (.ixor, 1) := by decide +kernel
theorem dX11_own_95 : decode cX11_own 95 = .ok (.iand, 1) := by decide +kernel
theorem dX11_own_96 : decode cX11_own 96 = .ok (.goto 8, 3) := by decide +kernel
theorem dX11_own_99 : decode cX11_own 99 = .ok (.iload 10, 2) := by decide +kernel
theorem dX11_own_101 : decode cX11_own 101 = .ok (.iload 11, 2) := by decide +kernel
theorem dX11_own_103 : decode cX11_own 103 = .ok (.iand, 1) := by decide +kernel
theorem dX11_own_104 : decode cX11_own 104 = .ok (.ireturn, 1) := by decide +kernel
theorem dX11_list_0 : decode cX11_list 0 = .ok (.aload_n 0, 1) := by decide +kernel
theorem dX11_list_1 : decode cX11_list 1 = .ok (.iload_n 1, 1) := by decide +kernel
theorem dX11_list_2 : decode cX11_list 2 = .ok (.invokevirtual 144, 3) := by decide +kernel
theorem dX11_list_5 : decode cX11_list 5 = .ok (.astore 4, 2) := by decide +kernel
theorem dX11_list_7 : decode cX11_list 7 = .ok (.aload_n 0, 1) := by decide +kernel
theorem dX11_list_8 : decode cX11_list 8 = .ok (.iload_n 2, 1) := by decide +kernel
theorem dX11_list_9 : decode cX11_list 9 = .ok (.invokevirtual 140, 3) := by decide +kernel
theorem dX11_list_12 : decode cX11_list 12 = .ok (.astore 5, 2) := by decide +kernel
theorem dX11_list_14 : decode cX11_list 14 = .ok (.aload 4, 2) := by decide +kernel
theorem dX11_list_16 : decode cX11_list 16 = .ok (.ifnull 22, 3) := by decide +kernel
theorem dX11_list_19 : decode cX11_list 19 = .ok (.aload 5, 2) := by decide +kernel
theorem dX11_list_21 : decode cX11_list 21 = .ok (.ifnull 17, 3) := by decide +kernel
theorem dX11_list_24 : decode cX11_list 24 = .ok (.iload_n 3, 1) := by decide +kernel
theorem dX11_list_25 : decode cX11_list 25 = .ok (.ifCond .lt 13, 3) := by decide +kernel
theorem dX11_list_28 : decode cX11_list 28 = .ok (.iload_n 3, 1) := by decide +kernel
theorem dX11_list_29 : decode cX11_list 29 = .ok (.aload_n 0, 1) := by decide +kernel
theorem dX11_list_30 : decode cX11_list 30 = .ok (.getfield 122, 3) := by decide +kernel
theorem dX11_list_33 : decode cX11_list 33 = .ok (.iconst 1, 1) := by decide +kernel
theorem dX11_list_34 : decode cX11_list 34 = .ok (.isub, 1) := by decide +kernel
theorem dX11_list_35 : decode cX11_list 35 = .ok (.if_icmp .lt 5, 3) := by decide +kernel
theorem dX11_list_38 : decode cX11_list 38 = .ok (.iconst (-1), 1) := by decide +kernel
theorem dX11_list_39 : decode cX11_list 39 = .ok (.ireturn, 1) := by decide +kernel
theorem dX11_list_40 : decode cX11_list 40 = .ok (.ldc 250, 2) := by decide +kernel
theorem dX11_list_42 : decode cX11_list 42 = .ok (.istore 6, 2) := by decide +kernel
theorem dX11_list_44 : decode cX11_list 44 = .ok (.iconst 0, 1) := by decide +kernel
theorem dX11_list_45 : decode cX11_list 45 = .ok (.istore 7, 2) := by decide +kernel
theorem dX11_list_47 : decode cX11_list 47 = .ok (.iload 7, 2) := by decide +kernel
theorem dX11_list_49 : decode cX11_list 49 = .ok (.iload_n 3, 1) := by decide +kernel
theorem dX11_list_50 : decode cX11_list 50 = .ok (.if_icmp .gt 21, 3) := by decide +kernel
theorem dX11_list_53 : decode cX11_list 53 = .ok (.aload_n 0, 1) := by decide +kernel
theorem dX11_list_54 : decode cX11_list 54 = .ok (.aload 4, 2) := by decide +kernel
theorem dX11_list_56 : decode cX11_list 56 = .ok (.aload 5, 2) := by decide +kernel
theorem dX11_list_58 : decode cX11_list 58 = .ok (.iload 6, 2) := by decide +kernel
theorem dX11_list_60 : decode cX11_list 60 = .ok (.invokevirtual 251, 3) := by decide +kernel
theorem dX11_list_63 : decode cX11_list 63 = .ok (.istore 6, 2) := by decide +kernel
theorem dX11_list_65 : decode cX11_list 65 = .ok (.iinc 7 1, 3) := by decide +kernel
theorem dX11_list_68 : decode cX11_list 68 = .ok (.goto (-21), 3) := by decide +kernel
theorem dX11_list_71 : decode cX11_list 71 = .ok (.iload 6, 2) := by decide +kernel
theorem dX11_list_73 : decode cX11_list 73 = .ok (.invokestatic 255, 3) := by decide +kernel
theorem dX11_list_76 : decode cX11_list 76 = .ok (.ireturn, 1) := by decide +kernel
theorem dX11_pair_0 : decode cX11_pair 0 = .ok (.aload_n 0, 1) := by decide +kernel
theorem dX11_pair_1 : decode cX11_pair 1 = .ok (.iload_n 1, 1) := by decide +kernel
theorem dX11_pair_2 : decode cX11_pair 2 = .ok (.invokevirtual 140, 3) := by decide +kernel
theorem dX11_pair_5 : decode cX11_pair 5 = .ok (.astore 4, 2) := by decide +kernel
theorem dX11_pair_7 : decode cX11_pair 7 = .ok (.aload_n 0, 1) := by decide +kernel
theorem dX11_pair_8 : decode cX11_pair 8 = .ok (.iload_n 2, 1) := by decide +kernel
theorem dX11_pair_9 : decode cX11_pair 9 = .ok (.invokevirtual 140, 3) := by decide +kernel
theorem dX11_pair_12 : decode cX11_pair 12 = .ok (.astore 5, 2) := by decide +kernel
theorem dX11_pair_14 : decode cX11_pair 14 = .ok (.aload 4, 2) := by decide +kernel
theorem dX11_pair_16 : decode cX11_pair 16 = .ok (.ifnull 33, 3) := by decide +kernel
theorem dX11_pair_19 : decode cX11_pair 19 = .ok (.aload 5, 2) := by decide +kernel
theorem dX11_pair_21 : decode cX11_pair 21 = .ok (.ifnull 28, 3) := by decide +kernel
theorem dX11_pair_24 : decode cX11_pair 24 = .ok (.iload_n 1, 1) := by decide +kernel
theorem dX11_pair_25 : decode cX11_pair 25 = .ok (.iload_n 2, 1) := by decide +kernel
theorem dX11_pair_26 : decode cX11_pair 26 = .ok (.if_icmp .eq 23, 3) := by decide +kernel
theorem dX11_pair_29 : decode cX11_pair 29 = .ok (.iload_n 3, 1) := by decide +kernel
theorem dX11_pair_30 : decode cX11_pair 30 = .ok (.iconst 1, 1) := by decide +kernel
theorem dX11_pair_31 : decode cX11_pair 31 = .ok (.if_icmp .lt 18, 3) := by decide +kernel
theorem dX11_pair_34 : decode cX11_pair 34 = .ok (.iload_n 3, 1) := by decide +kernel
theorem dX11_pair_35 : decode cX11_pair 35 = .ok (.bipush 99, 2) := by decide +kernel
theorem dX11_pair_37 : decode cX11_pair 37 = .ok (.if_icmp .gt 12, 3) := by decide +kernel
theorem dX11_pair_40 : decode cX11_pair 40 = .ok (.aload_n 0, 1) := by decide +kernel
theorem dX11_pair_41 : decode cX11_pair 41 = .ok (.getfield 258, 3) := by decide +kernel
theorem dX11_pair_44 : decode cX11_pair 44 = .ok (.bipush 10, 2) := by decide +kernel
theorem dX11_pair_46 : decode cX11_pair 46 = .ok (.if_icmp .lt 5, 3) := by decide +kernel
theorem dX11_pair_49 : decode cX11_pair 49 = .ok (.iconst (-1), 1) := by decide +kernel
theorem dX11_pair_50 : decode cX11_pair 50 = .ok (.ireturn, 1) := by decide +kernel
theorem dX11_pair_51 : decode cX11_pair 51 = .ok (.aload_n 0, 1) := by decide +kernel
theorem dX11_pair_52 : decode cX11_pair 52 = .ok (.getfield 35, 3) := by decide +kernel
theorem dX11_pair_55 : decode cX11_pair 55 = .ok (.aload_n 0, 1) := by decide +kernel
theorem dX11_pair_56 : decode cX11_pair 56 = .ok (.getfield 258, 3) := by decide +kernel
theorem dX11_pair_59 : decode cX11_pair 59 = .ok (.new 33, 3) := by decide +kernel
theorem dX11_pair_62 : decode cX11_pair 62 = .ok (.dup, 1) := by decide +kernel
theorem dX11_pair_63 : decode cX11_pair 63 = .ok (.aload 4, 2) := by decide +kernel
theorem dX11_pair_65 : decode cX11_pair 65 = .ok (.aload 5, 2) := by decide +kernel
theorem dX11_pair_67 : decode cX11_pair 67 = .ok (.iload_n 3, 1) := by decide +kernel
theorem dX11_pair_68 : decode cX11_pair 68 = .ok (.invokespecial 261, 3) := by decide +kernel
theorem dX11_pair_71 : decode cX11_pair 71 = .ok (.aastore, 1) := by decide +kernel
theorem dX11_pair_72 : decode cX11_pair 72 = .ok (.aload_n 0, 1) := by decide +kernel
theorem dX11_pair_73 : decode cX11_pair 73 = .ok (.dup, 1) := by decide +kernel
theorem dX11_pair_74 : decode cX11_pair 74 = .ok (.getfield 258, 3) := by decide +kernel
theorem dX11_pair_77 : decode cX11_pair 77 = .ok (.iconst 1, 1) := by decide +kernel
theorem dX11_pair_78 : decode cX11_pair 78 = .ok (.iadd, 1) := by decide +kernel
theorem dX11_pair_79 : decode cX11_pair 79 = .ok (.putfield 258, 3) := by decide +kernel
theorem dX11_pair_82 : decode cX11_pair 82 = .ok (.aload_n 0, 1) := by decide +kernel
theorem dX11_pair_83 : decode cX11_pair 83 = .ok (.getfield 258, 3) := by decide +kernel
theorem dX11_pair_86 : decode cX11_pair 86 = .ok (.iconst 1, 1) := by decide +kernel
theorem dX11_pair_87 : decode cX11_pair 87 = .ok (.isub, 1) := by decide +kernel
theorem dX11_pair_88 : decode cX11_pair 88 = .ok (.ireturn, 1) := by decide +kernel
theorem dX11_counted_0 : decode cX11_counted 0 = .ok (.aload_n 0, 1) := by decide +kernel
theorem dX11_counted_1 : decode cX11_counted 1 = .ok (.iload_n 1, 1) := by decide +kernel
theorem dX11_counted_2 : decode cX11_counted 2 = .ok (.invokevirtual 144, 3) := by decide +kernel
theorem dX11_counted_5 : decode cX11_counted 5 = .ok (.astore 4, 2) := by decide +kernel
theorem dX11_counted_7 : decode cX11_counted 7 = .ok (.aload 4, 2) := by decide +kernel
