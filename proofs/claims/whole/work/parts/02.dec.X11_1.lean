theorem dX11_counted_9 : decode cX11_counted 9 = .ok (.ifnull 12, 3) := by decide +kernel
theorem dX11_counted_12 : decode cX11_counted 12 = .ok (.iload_n 3, 1) := by decide +kernel
theorem dX11_counted_13 : decode cX11_counted 13 = .ok (.ifCond .lt 8, 3) := by decide +kernel
theorem dX11_counted_16 : decode cX11_counted 16 = .ok (.iload_n 3, 1) := by decide +kernel
theorem dX11_counted_17 : decode cX11_counted 17 = .ok (.iconst 2, 1) := by decide +kernel
theorem dX11_counted_18 : decode cX11_counted 18 = .ok (.if_icmp .le 5, 3) := by decide +kernel
theorem dX11_counted_21 : decode cX11_counted 21 = .ok (.iconst (-1), 1) := by decide +kernel
theorem dX11_counted_22 : decode cX11_counted 22 = .ok (.ireturn, 1) := by decide +kernel
theorem dX11_counted_23 : decode cX11_counted 23 = .ok (.iconst 0, 1) := by decide +kernel
theorem dX11_counted_24 : decode cX11_counted 24 = .ok (.istore 5, 2) := by decide +kernel
theorem dX11_counted_26 : decode cX11_counted 26 = .ok (.iconst 0, 1) := by decide +kernel
theorem dX11_counted_27 : decode cX11_counted 27 = .ok (.istore 6, 2) := by decide +kernel
theorem dX11_counted_29 : decode cX11_counted 29 = .ok (.iload 6, 2) := by decide +kernel
theorem dX11_counted_31 : decode cX11_counted 31 = .ok (.aload_n 0, 1) := by decide +kernel
theorem dX11_counted_32 : decode cX11_counted 32 = .ok (.getfield 258, 3) := by decide +kernel
theorem dX11_counted_35 : decode cX11_counted 35 = .ok (.if_icmp .ge 30, 3) := by decide +kernel
theorem dX11_counted_38 : decode cX11_counted 38 = .ok (.aload_n 0, 1) := by decide +kernel
theorem dX11_counted_39 : decode cX11_counted 39 = .ok (.aload 4, 2) := by decide +kernel
theorem dX11_counted_41 : decode cX11_counted 41 = .ok (.aload_n 0, 1) := by decide +kernel
theorem dX11_counted_42 : decode cX11_counted 42 = .ok (.getfield 35, 3) := by decide +kernel
theorem dX11_counted_45 : decode cX11_counted 45 = .ok (.iload 6, 2) := by decide +kernel
theorem dX11_counted_47 : decode cX11_counted 47 = .ok (.aaload, 1) := by decide +kernel
theorem dX11_counted_48 : decode cX11_counted 48 = .ok (.iload_n 2, 1) := by decide +kernel
theorem dX11_counted_49 : decode cX11_counted 49 = .ok (.invokevirtual 264, 3) := by decide +kernel
theorem dX11_counted_52 : decode cX11_counted 52 = .ok (.iload_n 3, 1) := by decide +kernel
theorem dX11_counted_53 : decode cX11_counted 53 = .ok (.if_icmp .ne 6, 3) := by decide +kernel
theorem dX11_counted_56 : decode cX11_counted 56 = .ok (.iinc 5 1, 3) := by decide +kernel
theorem dX11_counted_59 : decode cX11_counted 59 = .ok (.iinc 6 1, 3) := by decide +kernel
theorem dX11_counted_62 : decode cX11_counted 62 = .ok (.goto (-33), 3) := by decide +kernel
theorem dX11_counted_65 : decode cX11_counted 65 = .ok (.iload 5, 2) := by decide +kernel
theorem dX11_counted_67 : decode cX11_counted 67 = .ok (.ireturn, 1) := by decide +kernel
theorem dX11_round_0 : decode cX11_round 0 = .ok (.iload_n 1, 1) := by decide +kernel
theorem dX11_round_1 : decode cX11_round 1 = .ok (.ifCond .le 22, 3) := by decide +kernel
theorem dX11_round_4 : decode cX11_round 4 = .ok (.iload_n 1, 1) := by decide +kernel
theorem dX11_round_5 : decode cX11_round 5 = .ok (.iconst 1, 1) := by decide +kernel
theorem dX11_round_6 : decode cX11_round 6 = .ok (.aload_n 0, 1) := by decide +kernel
theorem dX11_round_7 : decode cX11_round 7 = .ok (.getfield 195, 3) := by decide +kernel
theorem dX11_round_10 : decode cX11_round 10 = .ok (.ishl, 1) := by decide +kernel
theorem dX11_round_11 : decode cX11_round 11 = .ok (.if_icmp .ge 12, 3) := by decide +kernel
theorem dX11_round_14 : decode cX11_round 14 = .ok (.iload_n 2, 1) := by decide +kernel
theorem dX11_round_15 : decode cX11_round 15 = .ok (.ifCond .lt 8, 3) := by decide +kernel
theorem dX11_round_18 : decode cX11_round 18 = .ok (.iload_n 2, 1) := by decide +kernel
theorem dX11_round_19 : decode cX11_round 19 = .ok (.iconst 1, 1) := by decide +kernel
theorem dX11_round_20 : decode cX11_round 20 = .ok (.if_icmp .le 5, 3) := by decide +kernel
theorem dX11_round_23 : decode cX11_round 23 = .ok (.iconst (-1), 1) := by decide +kernel
theorem dX11_round_24 : decode cX11_round 24 = .ok (.ireturn, 1) := by decide +kernel
theorem dX11_round_25 : decode cX11_round 25 = .ok (.aload_n 0, 1) := by decide +kernel
theorem dX11_round_26 : decode cX11_round 26 = .ok (.invokevirtual 268, 3) := by decide +kernel
theorem dX11_round_29 : decode cX11_round 29 = .ok (.aload_n 0, 1) := by decide +kernel
theorem dX11_round_30 : decode cX11_round 30 = .ok (.iload_n 1, 1) := by decide +kernel
theorem dX11_round_31 : decode cX11_round 31 = .ok (.invokevirtual 271, 3) := by decide +kernel
theorem dX11_round_34 : decode cX11_round 34 = .ok (.istore_n 3, 1) := by decide +kernel
theorem dX11_round_35 : decode cX11_round 35 = .ok (.iload_n 2, 1) := by decide +kernel
theorem dX11_round_36 : decode cX11_round 36 = .ok (.ifCond .eq 8, 3) := by decide +kernel
theorem dX11_round_39 : decode cX11_round 39 = .ok (.iload_n 3, 1) := by decide +kernel
theorem dX11_round_40 : decode cX11_round 40 = .ok (.iconst (-1), 1) := by decide +kernel
theorem dX11_round_41 : decode cX11_round 41 = .ok (.if_icmp .ne 7, 3) := by decide +kernel
theorem dX11_round_44 : decode cX11_round 44 = .ok (.iload_n 3, 1) := by decide +kernel
theorem dX11_round_45 : decode cX11_round 45 = .ok (.goto 8, 3) := by decide +kernel
theorem dX11_round_48 : decode cX11_round 48 = .ok (.aload_n 0, 1) := by decide +kernel
theorem dX11_round_49 : decode cX11_round 49 = .ok (.iload_n 3, 1) := by decide +kernel
theorem dX11_round_50 : decode cX11_round 50 = .ok (.invokevirtual 274, 3) := by decide +kernel
theorem dX11_round_53 : decode cX11_round 53 = .ok (.ireturn, 1) := by decide +kernel
theorem dX11_lean_0 : decode cX11_lean 0 = .ok (.aload_n 0, 1) := by decide +kernel
theorem dX11_lean_1 : decode cX11_lean 1 = .ok (.iload_n 1, 1) := by decide +kernel
theorem dX11_lean_2 : decode cX11_lean 2 = .ok (.invokevirtual 144, 3) := by decide +kernel
theorem dX11_lean_5 : decode cX11_lean 5 = .ok (.astore_n 2, 1) := by decide +kernel
theorem dX11_lean_6 : decode cX11_lean 6 = .ok (.aload_n 2, 1) := by decide +kernel
theorem dX11_lean_7 : decode cX11_lean 7 = .ok (.ifnonnull 5, 3) := by decide +kernel
theorem dX11_lean_10 : decode cX11_lean 10 = .ok (.iconst (-1), 1) := by decide +kernel
theorem dX11_lean_11 : decode cX11_lean 11 = .ok (.ireturn, 1) := by decide +kernel
theorem dX11_lean_12 : decode cX11_lean 12 = .ok (.iconst 0, 1) := by decide +kernel
theorem dX11_lean_13 : decode cX11_lean 13 = .ok (.istore_n 3, 1) := by decide +kernel
theorem dX11_lean_14 : decode cX11_lean 14 = .ok (.iconst 0, 1) := by decide +kernel
theorem dX11_lean_15 : decode cX11_lean 15 = .ok (.istore 4, 2) := by decide +kernel
theorem dX11_lean_17 : decode cX11_lean 17 = .ok (.iload 4, 2) := by decide +kernel
theorem dX11_lean_19 : decode cX11_lean 19 = .ok (.aload_n 0, 1) := by decide +kernel
theorem dX11_lean_20 : decode cX11_lean 20 = .ok (.getfield 258, 3) := by decide +kernel
theorem dX11_lean_23 : decode cX11_lean 23 = .ok (.if_icmp .ge 67, 3) := by decide +kernel
theorem dX11_lean_26 : decode cX11_lean 26 = .ok (.aload_n 0, 1) := by decide +kernel
theorem dX11_lean_27 : decode cX11_lean 27 = .ok (.getfield 35, 3) := by decide +kernel
theorem dX11_lean_30 : decode cX11_lean 30 = .ok (.iload 4, 2) := by decide +kernel
theorem dX11_lean_32 : decode cX11_lean 32 = .ok (.aaload, 1) := by decide +kernel
theorem dX11_lean_33 : decode cX11_lean 33 = .ok (.astore 5, 2) := by decide +kernel
theorem dX11_lean_35 : decode cX11_lean 35 = .ok (.aload 5, 2) := by decide +kernel
theorem dX11_lean_37 : decode cX11_lean 37 = .ok (.ifnull 47, 3) := by decide +kernel
theorem dX11_lean_40 : decode cX11_lean 40 = .ok (.aload_n 2, 1) := by decide +kernel
theorem dX11_lean_41 : decode cX11_lean 41 = .ok (.aload 5, 2) := by decide +kernel
theorem dX11_lean_43 : decode cX11_lean 43 = .ok (.getfield 277, 3) := by decide +kernel
theorem dX11_lean_46 : decode cX11_lean 46 = .ok (.aload 5, 2) := by decide +kernel
theorem dX11_lean_48 : decode cX11_lean 48 = .ok (.getfield 281, 3) := by decide +kernel
theorem dX11_lean_51 : decode cX11_lean 51 = .ok (.iconst 1, 1) := by decide +kernel
theorem dX11_lean_52 : decode cX11_lean 52 = .ok (.aload_n 0, 1) := by decide +kernel
theorem dX11_lean_53 : decode cX11_lean 53 = .ok (.getfield 69, 3) := by decide +kernel
theorem dX11_lean_56 : decode cX11_lean 56 = .ok (.invokevirtual 237, 3) := by decide +kernel
theorem dX11_lean_59 : decode cX11_lean 59 = .ok (.aload_n 2, 1) := by decide +kernel
theorem dX11_lean_60 : decode cX11_lean 60 = .ok (.aload 5, 2) := by decide +kernel
theorem dX11_lean_62 : decode cX11_lean 62 = .ok (.getfield 277, 3) := by decide +kernel
theorem dX11_lean_65 : decode cX11_lean 65 = .ok (.aload 5, 2) := by decide +kernel
theorem dX11_lean_67 : decode cX11_lean 67 = .ok (.getfield 281, 3) := by decide +kernel
theorem dX11_lean_70 : decode cX11_lean 70 = .ok (.iconst 0, 1) := by decide +kernel
theorem dX11_lean_71 : decode cX11_lean 71 = .ok (.aload_n 0, 1) := by decide +kernel
theorem dX11_lean_72 : decode cX11_lean 72 = .ok (.getfield 69, 3) := by decide +kernel
theorem dX11_lean_75 : decode cX11_lean 75 = .ok (.invokevirtual 237, 3) := by decide +kernel
theorem dX11_lean_78 : decode cX11_lean 78 = .ok (.if_icmp .eq 6, 3) := by decide +kernel
theorem dX11_lean_81 : decode cX11_lean 81 = .ok (.iinc 3 1, 3) := by decide +kernel
theorem dX11_lean_84 : decode cX11_lean 84 = .ok (.iinc 4 1, 3) := by decide +kernel
theorem dX11_lean_87 : decode cX11_lean 87 = .ok (.goto (-70), 3) := by decide +kernel
theorem dX11_lean_90 : decode cX11_lean 90 = .ok (.iload_n 3, 1) := by decide +kernel
theorem dX11_lean_91 : decode cX11_lean 91 = .ok (.ireturn, 1) := by decide +kernel
theorem dX11_scene_0 : decode cX11_scene 0 = .ok (.iload_n 1, 1) := by decide +kernel
theorem dX11_scene_1 : decode cX11_scene 1 = .ok (.ifCond .lt 27, 3) := by decide +kernel
theorem dX11_scene_4 : decode cX11_scene 4 = .ok (.iload_n 1, 1) := by decide +kernel
theorem dX11_scene_5 : decode cX11_scene 5 = .ok (.bipush 8, 2) := by decide +kernel
theorem dX11_scene_7 : decode cX11_scene 7 = .ok (.if_icmp .ge 21, 3) := by decide +kernel
theorem dX11_scene_10 : decode cX11_scene 10 = .ok (.aload_n 0, 1) := by decide +kernel
theorem dX11_scene_11 : decode cX11_scene 11 = .ok (.iload_n 2, 1) := by decide +kernel
theorem dX11_scene_12 : decode cX11_scene 12 = .ok (.invokevirtual 140, 3) := by decide +kernel
theorem dX11_scene_15 : decode cX11_scene 15 = .ok (.ifnull 13, 3) := by decide +kernel
theorem dX11_scene_18 : decode cX11_scene 18 = .ok (.aload_n 0, 1) := by decide +kernel
theorem dX11_scene_19 : decode cX11_scene 19 = .ok (.iload_n 1, 1) := by decide +kernel
theorem dX11_scene_20 : decode cX11_scene 20 = .ok (.iload_n 2, 1) := by decide +kernel
theorem dX11_scene_21 : decode cX11_scene 21 = .ok (.invokevirtual 284, 3) := by decide +kernel
theorem dX11_scene_24 : decode cX11_scene 24 = .ok (.iload_n 3, 1) := by decide +kernel
theorem dX11_scene_25 : decode cX11_scene 25 = .ok (.if_icmp .ne 5, 3) := by decide +kernel
theorem dX11_scene_28 : decode cX11_scene 28 = .ok (.iconst 0, 1) := by decide +kernel
theorem dX11_scene_29 : decode cX11_scene 29 = .ok (.ireturn, 1) := by decide +kernel
theorem dX11_scene_30 : decode cX11_scene 30 = .ok (.aload_n 0, 1) := by decide +kernel
theorem dX11_scene_31 : decode cX11_scene 31 = .ok (.getfield 39, 3) := by decide +kernel
theorem dX11_scene_34 : decode cX11_scene 34 = .ok (.iload_n 1, 1) := by decide +kernel
theorem dX11_scene_35 : decode cX11_scene 35 = .ok (.dup2, 1) := by decide +kernel
theorem dX11_scene_36 : decode cX11_scene 36 = .ok (.laload, 1) := by decide +kernel
theorem dX11_scene_37 : decode cX11_scene 37 = .ok (.lconst 1, 1) := by decide +kernel
theorem dX11_scene_38 : decode cX11_scene 38 = .ok (.iload_n 2, 1) := by decide +kernel
theorem dX11_scene_39 : decode cX11_scene 39 = .ok (.lshl, 1) := by decide +kernel
theorem dX11_scene_40 : decode cX11_scene 40 = .ok (.lxor, 1) := by decide +kernel
theorem dX11_scene_41 : decode cX11_scene 41 = .ok (.lastore, 1) := by decide +kernel
theorem dX11_scene_42 : decode cX11_scene 42 = .ok (.iconst 1, 1) := by decide +kernel
theorem dX11_scene_43 : decode cX11_scene 43 = .ok (.ireturn, 1) := by decide +kernel
theorem dX11_joined_0 : decode cX11_joined 0 = .ok (.aload_n 0, 1) := by decide +kernel
theorem dX11_joined_1 : decode cX11_joined 1 = .ok (.iload_n 1, 1) := by decide +kernel
theorem dX11_joined_2 : decode cX11_joined 2 = .ok (.invokevirtual 144, 3) := by decide +kernel
theorem dX11_joined_5 : decode cX11_joined 5 = .ok (.astore_n 3, 1) := by decide +kernel
theorem dX11_joined_6 : decode cX11_joined 6 = .ok (.aload_n 3, 1) := by decide +kernel
theorem dX11_joined_7 : decode cX11_joined 7 = .ok (.ifnonnull 5, 3) := by decide +kernel
theorem dX11_joined_10 : decode cX11_joined 10 = .ok (.iconst (-1), 1) := by decide +kernel
theorem dX11_joined_11 : decode cX11_joined 11 = .ok (.ireturn, 1) := by decide +kernel
theorem dX11_joined_12 : decode cX11_joined 12 = .ok (.iload_n 2, 1) := by decide +kernel
theorem dX11_joined_13 : decode cX11_joined 13 = .ok (.iconst 1, 1) := by decide +kernel
theorem dX11_joined_14 : decode cX11_joined 14 = .ok (.if_icmp .eq 8, 3) := by decide +kernel
theorem dX11_joined_17 : decode cX11_joined 17 = .ok (.iload_n 2, 1) := by decide +kernel
theorem dX11_joined_18 : decode cX11_joined 18 = .ok (.iconst 2, 1) := by decide +kernel
theorem dX11_joined_19 : decode cX11_joined 19 = .ok (.if_icmp .ne 39, 3) := by decide +kernel
theorem dX11_joined_22 : decode cX11_joined 22 = .ok (.aload_n 0, 1) := by decide +kernel
theorem dX11_joined_23 : decode cX11_joined 23 = .ok (.aload_n 3, 1) := by decide +kernel
theorem dX11_joined_24 : decode cX11_joined 24 = .ok (.invokevirtual 288, 3) := by decide +kernel
theorem dX11_joined_27 : decode cX11_joined 27 = .ok (.istore 4, 2) := by decide +kernel
theorem dX11_joined_29 : decode cX11_joined 29 = .ok (.iload 4, 2) := by decide +kernel
theorem dX11_joined_31 : decode cX11_joined 31 = .ok (.iconst (-1), 1) := by decide +kernel
theorem dX11_joined_32 : decode cX11_joined 32 = .ok (.if_icmp .ne 7, 3) := by decide +kernel
theorem dX11_joined_35 : decode cX11_joined 35 = .ok (.iconst (-1), 1) := by decide +kernel
theorem dX11_joined_36 : decode cX11_joined 36 = .ok (.goto 21, 3) := by decide +kernel
theorem dX11_joined_39 : decode cX11_joined 39 = .ok (.iload_n 2, 1) := by decide +kernel
theorem dX11_joined_40 : decode cX11_joined 40 = .ok (.iconst 1, 1) := by decide +kernel
theorem dX11_joined_41 : decode cX11_joined 41 = .ok (.if_icmp .ne 11, 3) := by decide +kernel
theorem dX11_joined_44 : decode cX11_joined 44 = .ok (.iload 4, 2) := by decide +kernel
theorem dX11_joined_46 : decode cX11_joined 46 = .ok (.bipush 64, 2) := by decide +kernel
theorem dX11_joined_48 : decode cX11_joined 48 = .ok (.irem, 1) := by decide +kernel
theorem dX11_joined_49 : decode cX11_joined 49 = .ok (.goto 8, 3) := by decide +kernel
theorem dX11_joined_52 : decode cX11_joined 52 = .ok (.iload 4, 2) := by decide +kernel
theorem dX11_joined_54 : decode cX11_joined 54 = .ok (.bipush 64, 2) := by decide +kernel
theorem dX11_joined_56 : decode cX11_joined 56 = .ok (.idiv, 1) := by decide +kernel
theorem dX11_joined_57 : decode cX11_joined 57 = .ok (.ireturn, 1) := by decide +kernel
theorem dX11_joined_58 : decode cX11_joined 58 = .ok (.iload_n 2, 1) := by decide +kernel
theorem dX11_joined_59 : decode cX11_joined 59 = .ok (.ifCond .ne 13, 3) := by decide +kernel
theorem dX11_joined_62 : decode cX11_joined 62 = .ok (.aload_n 0, 1) := by decide +kernel
theorem dX11_joined_63 : decode cX11_joined 63 = .ok (.aload_n 3, 1) := by decide +kernel
theorem dX11_joined_64 : decode cX11_joined 64 = .ok (.invokevirtual 292, 3) := by decide +kernel
theorem dX11_joined_67 : decode cX11_joined 67 = .ok (.aload_n 0, 1) := by decide +kernel
theorem dX11_joined_68 : decode cX11_joined 68 = .ok (.invokevirtual 296, 3) := by decide +kernel
theorem dX11_joined_71 : decode cX11_joined 71 = .ok (.ireturn, 1) := by decide +kernel
theorem dX11_joined_72 : decode cX11_joined 72 = .ok (.iload_n 2, 1) := by decide +kernel
theorem dX11_joined_73 : decode cX11_joined 73 = .ok (.bipush 10, 2) := by decide +kernel
theorem dX11_joined_75 : decode cX11_joined 75 = .ok (.isub, 1) := by decide +kernel
theorem dX11_joined_76 : decode cX11_joined 76 = .ok (.istore 4, 2) := by decide +kernel
theorem dX11_joined_78 : decode cX11_joined 78 = .ok (.iload 4, 2) := by decide +kernel
theorem dX11_joined_80 : decode cX11_joined 80 = .ok (.ifCond .lt 22, 3) := by decide +kernel
theorem dX11_joined_83 : decode cX11_joined 83 = .ok (.iload 4, 2) := by decide +kernel
theorem dX11_joined_85 : decode cX11_joined 85 = .ok (.bipush 8, 2) := by decide +kernel
theorem dX11_joined_87 : decode cX11_joined 87 = .ok (.if_icmp .ge 15, 3) := by decide +kernel
theorem dX11_joined_90 : decode cX11_joined 90 = .ok (.aload_n 0, 1) := by decide +kernel
theorem dX11_joined_91 : decode cX11_joined 91 = .ok (.getfield 39, 3) := by decide +kernel
theorem dX11_joined_94 : decode cX11_joined 94 = .ok (.iload 4, 2) := by decide +kernel
theorem dX11_joined_96 : decode cX11_joined 96 = .ok (.laload, 1) := by decide +kernel
theorem dX11_joined_97 : decode cX11_joined 97 = .ok (.lconst 0, 1) := by decide +kernel
theorem dX11_joined_98 : decode cX11_joined 98 = .ok (.lcmp, 1) := by decide +kernel
theorem dX11_joined_99 : decode cX11_joined 99 = .ok (.ifCond .ne 5, 3) := by decide +kernel
theorem dX11_joined_102 : decode cX11_joined 102 = .ok (.iconst (-1), 1) := by decide +kernel
theorem dX11_joined_103 : decode cX11_joined 103 = .ok (.ireturn, 1) := by decide +kernel
theorem dX11_joined_104 : decode cX11_joined 104 = .ok (.aload_n 0, 1) := by decide +kernel
theorem dX11_joined_105 : decode cX11_joined 105 = .ok (.aload_n 3, 1) := by decide +kernel
theorem dX11_joined_106 : decode cX11_joined 106 = .ok (.invokevirtual 292, 3) := by decide +kernel
theorem dX11_joined_109 : decode cX11_joined 109 = .ok (.aload_n 0, 1) := by decide +kernel
theorem dX11_joined_110 : decode cX11_joined 110 = .ok (.getfield 69, 3) := by decide +kernel
theorem dX11_joined_113 : decode cX11_joined 113 = .ok (.getfield 299, 3) := by decide +kernel
theorem dX11_joined_116 : decode cX11_joined 116 = .ok (.iload 4, 2) := by decide +kernel
theorem dX11_joined_118 : decode cX11_joined 118 = .ok (.iaload, 1) := by decide +kernel
theorem dX11_joined_119 : decode cX11_joined 119 = .ok (.ireturn, 1) := by decide +kernel
theorem dX11_look_0 : decode cX11_look 0 = .ok (.iload_n 1, 1) := by decide +kernel
theorem dX11_look_1 : decode cX11_look 1 = .ok (.tableswitch 81 0 6 #[43, 48, 53, 58, 63, 68, 76], 43) := by decide +kernel
theorem dX11_look_44 : decode cX11_look 44 = .ok (.aload_n 0, 1) := by decide +kernel
theorem dX11_look_45 : decode cX11_look 45 = .ok (.getfield 73, 3) := by decide +kernel
theorem dX11_look_48 : decode cX11_look 48 = .ok (.ireturn, 1) := by decide +kernel
theorem dX11_look_49 : decode cX11_look 49 = .ok (.aload_n 0, 1) := by decide +kernel
theorem dX11_look_50 : decode cX11_look 50 = .ok (.getfield 95, 3) := by decide +kernel
theorem dX11_look_53 : decode cX11_look 53 = .ok (.ireturn, 1) := by decide +kernel
theorem dX11_look_54 : decode cX11_look 54 = .ok (.aload_n 0, 1) := by decide +kernel
theorem dX11_look_55 : decode cX11_look 55 = .ok (.getfield 122, 3) := by decide +kernel
theorem dX11_look_58 : decode cX11_look 58 = .ok (.ireturn, 1) := by decide +kernel
theorem dX11_look_59 : decode cX11_look 59 = .ok (.aload_n 0, 1) := by decide +kernel
theorem dX11_look_60 : decode cX11_look 60 = .ok (.getfield 195, 3) := by decide +kernel
theorem dX11_look_63 : decode cX11_look 63 = .ok (.ireturn, 1) := by decide +kernel
theorem dX11_look_64 : decode cX11_look 64 = .ok (.aload_n 0, 1) := by decide +kernel
theorem dX11_look_65 : decode cX11_look 65 = .ok (.getfield 258, 3) := by decide +kernel
theorem dX11_look_68 : decode cX11_look 68 = .ok (.ireturn, 1) := by decide +kernel
theorem dX11_look_69 : decode cX11_look 69 = .ok (.aload_n 0, 1) := by decide +kernel
theorem dX11_look_70 : decode cX11_look 70 = .ok (.getfield 62, 3) := by decide +kernel
theorem dX11_look_73 : decode cX11_look 73 = .ok (.getfield 177, 3) := by decide +kernel
theorem dX11_look_76 : decode cX11_look 76 = .ok (.ireturn, 1) := by decide +kernel
theorem dX11_look_77 : decode cX11_look 77 = .ok (.aload_n 0, 1) := by decide +kernel
theorem dX11_look_78 : decode cX11_look 78 = .ok (.getfield 137, 3) := by decide +kernel
theorem dX11_look_81 : decode cX11_look 81 = .ok (.ireturn, 1) := by decide +kernel
theorem dX11_look_82 : decode cX11_look 82 = .ok (.iconst (-1), 1) := by decide +kernel
theorem dX11_look_83 : decode cX11_look 83 = .ok (.ireturn, 1) := by decide +kernel
theorem dX11_isHair_0 : decode cX11_isHair 0 = .ok (.iload_n 0, 1) := by decide +kernel
theorem dX11_isHair_1 : decode cX11_isHair 1 = .ok (.ifCond .lt 13, 3) := by decide +kernel
theorem dX11_isHair_4 : decode cX11_isHair 4 = .ok (.iload_n 0, 1) := by decide +kernel
theorem dX11_isHair_5 : decode cX11_isHair 5 = .ok (.bipush 32, 2) := by decide +kernel
theorem dX11_isHair_7 : decode cX11_isHair 7 = .ok (.if_icmp .ge 7, 3) := by decide +kernel
theorem dX11_isHair_10 : decode cX11_isHair 10 = .ok (.iconst 1, 1) := by decide +kernel
theorem dX11_isHair_11 : decode cX11_isHair 11 = .ok (.goto 4, 3) := by decide +kernel
theorem dX11_isHair_14 : decode cX11_isHair 14 = .ok (.iconst 0, 1) := by decide +kernel
theorem dX11_isHair_15 : decode cX11_isHair 15 = .ok (.ireturn, 1) := by decide +kernel
theorem dX11_isHeight_0 : decode cX11_isHeight 0 = .ok (.iload_n 0, 1) := by decide +kernel
theorem dX11_isHeight_1 : decode cX11_isHeight 1 = .ok (.ifCond .lt 13, 3) := by decide +kernel
theorem dX11_isHeight_4 : decode cX11_isHeight 4 = .ok (.iload_n 0, 1) := by decide +kernel
theorem dX11_isHeight_5 : decode cX11_isHeight 5 = .ok (.bipush 63, 2) := by decide +kernel
theorem dX11_isHeight_7 : decode cX11_isHeight 7 = .ok (.if_icmp .gt 7, 3) := by decide +kernel
theorem dX11_isHeight_10 : decode cX11_isHeight 10 = .ok (.iconst 1, 1) := by decide +kernel
theorem dX11_isHeight_11 : decode cX11_isHeight 11 = .ok (.goto 4, 3) := by decide +kernel
theorem dX11_isHeight_14 : decode cX11_isHeight 14 = .ok (.iconst 0, 1) := by decide +kernel
theorem dX11_isHeight_15 : decode cX11_isHeight 15 = .ok (.ireturn, 1) := by decide +kernel
theorem dX11_toolAt_0 : decode cX11_toolAt 0 = .ok (.iload_n 1, 1) := by decide +kernel
theorem dX11_toolAt_1 : decode cX11_toolAt 1 = .ok (.ifCond .lt 18, 3) := by decide +kernel
theorem dX11_toolAt_4 : decode cX11_toolAt 4 = .ok (.iload_n 1, 1) := by decide +kernel
theorem dX11_toolAt_5 : decode cX11_toolAt 5 = .ok (.bipush 6, 2) := by decide +kernel
theorem dX11_toolAt_7 : decode cX11_toolAt 7 = .ok (.if_icmp .ge 12, 3) := by decide +kernel
theorem dX11_toolAt_10 : decode cX11_toolAt 10 = .ok (.aload_n 0, 1) := by decide +kernel
theorem dX11_toolAt_11 : decode cX11_toolAt 11 = .ok (.getfield 11, 3) := by decide +kernel
theorem dX11_toolAt_14 : decode cX11_toolAt 14 = .ok (.iload_n 1, 1) := by decide +kernel
theorem dX11_toolAt_15 : decode cX11_toolAt 15 = .ok (.aaload, 1) := by decide +kernel
theorem dX11_toolAt_16 : decode cX11_toolAt 16 = .ok (.goto 4, 3) := by decide +kernel
theorem dX11_toolAt_19 : decode cX11_toolAt 19 = .ok (.aconst_null, 1) := by decide +kernel
theorem dX11_toolAt_20 : decode cX11_toolAt 20 = .ok (.areturn, 1) := by decide +kernel
theorem dX11_barrelAt_0 : decode cX11_barrelAt 0 = .ok (.iload_n 1, 1) := by decide +kernel
theorem dX11_barrelAt_1 : decode cX11_barrelAt 1 = .ok (.ifCond .lt 18, 3) := by decide +kernel
theorem dX11_barrelAt_4 : decode cX11_barrelAt 4 = .ok (.iload_n 1, 1) := by decide +kernel
theorem dX11_barrelAt_5 : decode cX11_barrelAt 5 = .ok (.bipush 16, 2) := by decide +kernel
theorem dX11_barrelAt_7 : decode cX11_barrelAt 7 = .ok (.if_icmp .ge 12, 3) := by decide +kernel
theorem dX11_barrelAt_10 : decode cX11_barrelAt 10 = .ok (.aload_n 0, 1) := by decide +kernel
theorem dX11_barrelAt_11 : decode cX11_barrelAt 11 = .ok (.getfield 17, 3) := by decide +kernel
theorem dX11_barrelAt_14 : decode cX11_barrelAt 14 = .ok (.iload_n 1, 1) := by decide +kernel
theorem dX11_barrelAt_15 : decode cX11_barrelAt 15 = .ok (.aaload, 1) := by decide +kernel
theorem dX11_barrelAt_16 : decode cX11_barrelAt 16 = .ok (.goto 4, 3) := by decide +kernel
theorem dX11_barrelAt_19 : decode cX11_barrelAt 19 = .ok (.aconst_null, 1) := by decide +kernel
theorem dX11_barrelAt_20 : decode cX11_barrelAt 20 = .ok (.areturn, 1) := by decide +kernel
theorem dX11_ballAt_0 : decode cX11_ballAt 0 = .ok (.iload_n 1, 1) := by decide +kernel
theorem dX11_ballAt_1 : decode cX11_ballAt 1 = .ok (.ifCond .lt 18, 3) := by decide +kernel
theorem dX11_ballAt_4 : decode cX11_ballAt 4 = .ok (.iload_n 1, 1) := by decide +kernel
theorem dX11_ballAt_5 : decode cX11_ballAt 5 = .ok (.bipush 40, 2) := by decide +kernel
theorem dX11_ballAt_7 : decode cX11_ballAt 7 = .ok (.if_icmp .ge 12, 3) := by decide +kernel
theorem dX11_ballAt_10 : decode cX11_ballAt 10 = .ok (.aload_n 0, 1) := by decide +kernel
theorem dX11_ballAt_11 : decode cX11_ballAt 11 = .ok (.getfield 23, 3) := by decide +kernel
theorem dX11_ballAt_14 : decode cX11_ballAt 14 = .ok (.iload_n 1, 1) := by decide +kernel
theorem dX11_ballAt_15 : decode cX11_ballAt 15 = .ok (.aaload, 1) := by decide +kernel
theorem dX11_ballAt_16 : decode cX11_ballAt 16 = .ok (.goto 4, 3) := by decide +kernel
theorem dX11_ballAt_19 : decode cX11_ballAt 19 = .ok (.aconst_null, 1) := by decide +kernel
theorem dX11_ballAt_20 : decode cX11_ballAt 20 = .ok (.areturn, 1) := by decide +kernel
theorem dX11_lookerAt_0 : decode cX11_lookerAt 0 = .ok (.iload_n 1, 1) := by decide +kernel
theorem dX11_lookerAt_1 : decode cX11_lookerAt 1 = .ok (.ifCond .lt 18, 3) := by decide +kernel
theorem dX11_lookerAt_4 : decode cX11_lookerAt 4 = .ok (.iload_n 1, 1) := by decide +kernel
theorem dX11_lookerAt_5 : decode cX11_lookerAt 5 = .ok (.bipush 6, 2) := by decide +kernel
theorem dX11_lookerAt_7 : decode cX11_lookerAt 7 = .ok (.if_icmp .ge 12, 3) := by decide +kernel
theorem dX11_lookerAt_10 : decode cX11_lookerAt 10 = .ok (.aload_n 0, 1) := by decide +kernel
theorem dX11_lookerAt_11 : decode cX11_lookerAt 11 = .ok (.getfield 29, 3) := by decide +kernel
theorem dX11_lookerAt_14 : decode cX11_lookerAt 14 = .ok (.iload_n 1, 1) := by decide +kernel
theorem dX11_lookerAt_15 : decode cX11_lookerAt 15 = .ok (.aaload, 1) := by decide +kernel
theorem dX11_lookerAt_16 : decode cX11_lookerAt 16 = .ok (.goto 4, 3) := by decide +kernel
theorem dX11_lookerAt_19 : decode cX11_lookerAt 19 = .ok (.aconst_null, 1) := by decide +kernel
theorem dX11_lookerAt_20 : decode cX11_lookerAt 20 = .ok (.areturn, 1) := by decide +kernel
theorem dX11_rowOf_0 : decode cX11_rowOf 0 = .ok (.iload_n 1, 1) := by decide +kernel
theorem dX11_rowOf_1 : decode cX11_rowOf 1 = .ok (.ifCond .ne 22, 3) := by decide +kernel
theorem dX11_rowOf_4 : decode cX11_rowOf 4 = .ok (.aload_n 0, 1) := by decide +kernel
theorem dX11_rowOf_5 : decode cX11_rowOf 5 = .ok (.iload_n 2, 1) := by decide +kernel
theorem dX11_rowOf_6 : decode cX11_rowOf 6 = .ok (.invokevirtual 80, 3) := by decide +kernel
theorem dX11_rowOf_9 : decode cX11_rowOf 9 = .ok (.astore_n 3, 1) := by decide +kernel
theorem dX11_rowOf_10 : decode cX11_rowOf 10 = .ok (.aload_n 3, 1) := by decide +kernel
theorem dX11_rowOf_11 : decode cX11_rowOf 11 = .ok (.ifnonnull 7, 3) := by decide +kernel
theorem dX11_rowOf_14 : decode cX11_rowOf 14 = .ok (.aconst_null, 1) := by decide +kernel
theorem dX11_rowOf_15 : decode cX11_rowOf 15 = .ok (.goto 7, 3) := by decide +kernel
theorem dX11_rowOf_18 : decode cX11_rowOf 18 = .ok (.aload_n 3, 1) := by decide +kernel
theorem dX11_rowOf_19 : decode cX11_rowOf 19 = .ok (.getfield 91, 3) := by decide +kernel
theorem dX11_rowOf_22 : decode cX11_rowOf 22 = .ok (.areturn, 1) := by decide +kernel
theorem dX11_rowOf_23 : decode cX11_rowOf 23 = .ok (.iload_n 1, 1) := by decide +kernel
theorem dX11_rowOf_24 : decode cX11_rowOf 24 = .ok (.iconst 1, 1) := by decide +kernel
theorem dX11_rowOf_25 : decode cX11_rowOf 25 = .ok (.if_icmp .ne 22, 3) := by decide +kernel
theorem dX11_rowOf_28 : decode cX11_rowOf 28 = .ok (.aload_n 0, 1) := by decide +kernel
theorem dX11_rowOf_29 : decode cX11_rowOf 29 = .ok (.iload_n 2, 1) := by decide +kernel
theorem dX11_rowOf_30 : decode cX11_rowOf 30 = .ok (.invokevirtual 115, 3) := by decide +kernel
theorem dX11_rowOf_33 : decode cX11_rowOf 33 = .ok (.astore_n 3, 1) := by decide +kernel
theorem dX11_rowOf_34 : decode cX11_rowOf 34 = .ok (.aload_n 3, 1) := by decide +kernel
theorem dX11_rowOf_35 : decode cX11_rowOf 35 = .ok (.ifnonnull 7, 3) := by decide +kernel
theorem dX11_rowOf_38 : decode cX11_rowOf 38 = .ok (.aconst_null, 1) := by decide +kernel
theorem dX11_rowOf_39 : decode cX11_rowOf 39 = .ok (.goto 7, 3) := by decide +kernel
theorem dX11_rowOf_42 : decode cX11_rowOf 42 = .ok (.aload_n 3, 1) := by decide +kernel
theorem dX11_rowOf_43 : decode cX11_rowOf 43 = .ok (.getfield 133, 3) := by decide +kernel
theorem dX11_rowOf_46 : decode cX11_rowOf 46 = .ok (.areturn, 1) := by decide +kernel
theorem dX11_rowOf_47 : decode cX11_rowOf 47 = .ok (.aload_n 0, 1) := by decide +kernel
theorem dX11_rowOf_48 : decode cX11_rowOf 48 = .ok (.iload_n 2, 1) := by decide +kernel
theorem dX11_rowOf_49 : decode cX11_rowOf 49 = .ok (.invokevirtual 140, 3) := by decide +kernel
theorem dX11_rowOf_52 : decode cX11_rowOf 52 = .ok (.astore_n 3, 1) := by decide +kernel
theorem dX11_rowOf_53 : decode cX11_rowOf 53 = .ok (.iload_n 1, 1) := by decide +kernel
theorem dX11_rowOf_54 : decode cX11_rowOf 54 = .ok (.iconst 2, 1) := by decide +kernel
theorem dX11_rowOf_55 : decode cX11_rowOf 55 = .ok (.if_icmp .ne 7, 3) := by decide +kernel
theorem dX11_rowOf_58 : decode cX11_rowOf 58 = .ok (.aload_n 3, 1) := by decide +kernel
theorem dX11_rowOf_59 : decode cX11_rowOf 59 = .ok (.ifnonnull 7, 3) := by decide +kernel
theorem dX11_rowOf_62 : decode cX11_rowOf 62 = .ok (.aconst_null, 1) := by decide +kernel
theorem dX11_rowOf_63 : decode cX11_rowOf 63 = .ok (.goto 7, 3) := by decide +kernel
theorem dX11_rowOf_66 : decode cX11_rowOf 66 = .ok (.aload_n 3, 1) := by decide +kernel
theorem dX11_rowOf_67 : decode cX11_rowOf 67 = .ok (.getfield 131, 3) := by decide +kernel
theorem dX11_rowOf_70 : decode cX11_rowOf 70 = .ok (.areturn, 1) := by decide +kernel
theorem dX11_ofBall_0 : decode cX11_ofBall 0 = .ok (.aload_n 0, 1) := by decide +kernel
theorem dX11_ofBall_1 : decode cX11_ofBall 1 = .ok (.ifnonnull 6, 3) := by decide +kernel
theorem dX11_ofBall_4 : decode cX11_ofBall 4 = .ok (.bipush (-2), 2) := by decide +kernel
theorem dX11_ofBall_6 : decode cX11_ofBall 6 = .ok (.ireturn, 1) := by decide +kernel
theorem dX11_ofBall_7 : decode cX11_ofBall 7 = .ok (.iload_n 1, 1) := by decide +kernel
theorem dX11_ofBall_8 : decode cX11_ofBall 8 = .ok (.tableswitch 66 0 3 #[32, 51, 56, 61], 32) := by decide +kernel
theorem dX11_ofBall_40 : decode cX11_ofBall 40 = .ok (.aload_n 0, 1) := by decide +kernel
theorem dX11_ofBall_41 : decode cX11_ofBall 41 = .ok (.getfield 302, 3) := by decide +kernel
theorem dX11_ofBall_44 : decode cX11_ofBall 44 = .ok (.ifnonnull 7, 3) := by decide +kernel
theorem dX11_ofBall_47 : decode cX11_ofBall 47 = .ok (.iconst (-1), 1) := by decide +kernel
theorem dX11_ofBall_48 : decode cX11_ofBall 48 = .ok (.goto 10, 3) := by decide +kernel
theorem dX11_ofBall_51 : decode cX11_ofBall 51 = .ok (.aload_n 0, 1) := by decide +kernel
theorem dX11_ofBall_52 : decode cX11_ofBall 52 = .ok (.getfield 302, 3) := by decide +kernel
theorem dX11_ofBall_55 : decode cX11_ofBall 55 = .ok (.getfield 306, 3) := by decide +kernel
theorem dX11_ofBall_58 : decode cX11_ofBall 58 = .ok (.ireturn, 1) := by decide +kernel
theorem dX11_ofBall_59 : decode cX11_ofBall 59 = .ok (.aload_n 0, 1) := by decide +kernel
theorem dX11_ofBall_60 : decode cX11_ofBall 60 = .ok (.getfield 244, 3) := by decide +kernel
theorem dX11_ofBall_63 : decode cX11_ofBall 63 = .ok (.ireturn, 1) := by decide +kernel
theorem dX11_ofBall_64 : decode cX11_ofBall 64 = .ok (.aload_n 0, 1) := by decide +kernel
theorem dX11_ofBall_65 : decode cX11_ofBall 65 = .ok (.getfield 307, 3) := by decide +kernel
theorem dX11_ofBall_68 : decode cX11_ofBall 68 = .ok (.ireturn, 1) := by decide +kernel
theorem dX11_ofBall_69 : decode cX11_ofBall 69 = .ok (.aload_n 0, 1) := by decide +kernel
theorem dX11_ofBall_70 : decode cX11_ofBall 70 = .ok (.invokevirtual 219, 3) := by decide +kernel
theorem dX11_ofBall_73 : decode cX11_ofBall 73 = .ok (.ireturn, 1) := by decide +kernel
theorem dX11_ofBall_74 : decode cX11_ofBall 74 = .ok (.bipush (-2), 2) := by decide +kernel
theorem dX11_ofBall_76 : decode cX11_ofBall 76 = .ok (.ireturn, 1) := by decide +kernel
theorem dX11_ofBarrel_0 : decode cX11_ofBarrel 0 = .ok (.aload_n 0, 1) := by decide +kernel
theorem dX11_ofBarrel_1 : decode cX11_ofBarrel 1 = .ok (.ifnonnull 6, 3) := by decide +kernel
theorem dX11_ofBarrel_4 : decode cX11_ofBarrel 4 = .ok (.bipush (-2), 2) := by decide +kernel
theorem dX11_ofBarrel_6 : decode cX11_ofBarrel 6 = .ok (.ireturn, 1) := by decide +kernel
theorem dX11_ofBarrel_7 : decode cX11_ofBarrel 7 = .ok (.iload_n 1, 1) := by decide +kernel
theorem dX11_ofBarrel_8 : decode cX11_ofBarrel 8 = .ok (.tableswitch 52 10 13 #[32, 37, 42, 47], 32) := by decide +kernel
theorem dX11_ofBarrel_40 : decode cX11_ofBarrel 40 = .ok (.aload_n 0, 1) := by decide +kernel
theorem dX11_ofBarrel_41 : decode cX11_ofBarrel 41 = .ok (.getfield 310, 3) := by decide +kernel
theorem dX11_ofBarrel_44 : decode cX11_ofBarrel 44 = .ok (.ireturn, 1) := by decide +kernel
theorem dX11_ofBarrel_45 : decode cX11_ofBarrel 45 = .ok (.aload_n 0, 1) := by decide +kernel
theorem dX11_ofBarrel_46 : decode cX11_ofBarrel 46 = .ok (.getfield 313, 3) := by decide +kernel
theorem dX11_ofBarrel_49 : decode cX11_ofBarrel 49 = .ok (.ireturn, 1) := by decide +kernel
theorem dX11_ofBarrel_50 : decode cX11_ofBarrel 50 = .ok (.aload_n 0, 1) := by decide +kernel
theorem dX11_ofBarrel_51 : decode cX11_ofBarrel 51 = .ok (.getfield 128, 3) := by decide +kernel
theorem dX11_ofBarrel_54 : decode cX11_ofBarrel 54 = .ok (.ireturn, 1) := by decide +kernel
theorem dX11_ofBarrel_55 : decode cX11_ofBarrel 55 = .ok (.aload_n 0, 1) := by decide +kernel
theorem dX11_ofBarrel_56 : decode cX11_ofBarrel 56 = .ok (.getfield 119, 3) := by decide +kernel
theorem dX11_ofBarrel_59 : decode cX11_ofBarrel 59 = .ok (.ireturn, 1) := by decide +kernel
theorem dX11_ofBarrel_60 : decode cX11_ofBarrel 60 = .ok (.bipush (-2), 2) := by decide +kernel
theorem dX11_ofBarrel_62 : decode cX11_ofBarrel 62 = .ok (.ireturn, 1) := by decide +kernel
theorem dX11_truthOf_0 : decode cX11_truthOf 0 = .ok (.aload_n 0, 1) := by decide +kernel
theorem dX11_truthOf_1 : decode cX11_truthOf 1 = .ok (.ifnull 32, 3) := by decide +kernel
theorem dX11_truthOf_4 : decode cX11_truthOf 4 = .ok (.aload_n 1, 1) := by decide +kernel
theorem dX11_truthOf_5 : decode cX11_truthOf 5 = .ok (.ifnull 28, 3) := by decide +kernel
theorem dX11_truthOf_8 : decode cX11_truthOf 8 = .ok (.aload_n 0, 1) := by decide +kernel
theorem dX11_truthOf_9 : decode cX11_truthOf 9 = .ok (.getfield 302, 3) := by decide +kernel
theorem dX11_truthOf_12 : decode cX11_truthOf 12 = .ok (.ifnull 21, 3) := by decide +kernel
theorem dX11_truthOf_15 : decode cX11_truthOf 15 = .ok (.aload_n 1, 1) := by decide +kernel
theorem dX11_truthOf_16 : decode cX11_truthOf 16 = .ok (.getfield 302, 3) := by decide +kernel
theorem dX11_truthOf_19 : decode cX11_truthOf 19 = .ok (.ifnull 14, 3) := by decide +kernel
theorem dX11_truthOf_22 : decode cX11_truthOf 22 = .ok (.aload_n 0, 1) := by decide +kernel
theorem dX11_truthOf_23 : decode cX11_truthOf 23 = .ok (.getfield 134, 3) := by decide +kernel
theorem dX11_truthOf_26 : decode cX11_truthOf 26 = .ok (.aload_n 1, 1) := by decide +kernel
theorem dX11_truthOf_27 : decode cX11_truthOf 27 = .ok (.getfield 134, 3) := by decide +kernel
theorem dX11_truthOf_30 : decode cX11_truthOf 30 = .ok (.if_icmp .ne 5, 3) := by decide +kernel
theorem dX11_truthOf_33 : decode cX11_truthOf 33 = .ok (.iconst (-1), 1) := by decide +kernel
theorem dX11_truthOf_34 : decode cX11_truthOf 34 = .ok (.ireturn, 1) := by decide +kernel
theorem dX11_truthOf_35 : decode cX11_truthOf 35 = .ok (.aload_n 0, 1) := by decide +kernel
theorem dX11_truthOf_36 : decode cX11_truthOf 36 = .ok (.getfield 302, 3) := by decide +kernel
theorem dX11_truthOf_39 : decode cX11_truthOf 39 = .ok (.getfield 306, 3) := by decide +kernel
theorem dX11_truthOf_42 : decode cX11_truthOf 42 = .ok (.aload_n 1, 1) := by decide +kernel
theorem dX11_truthOf_43 : decode cX11_truthOf 43 = .ok (.getfield 302, 3) := by decide +kernel
theorem dX11_truthOf_46 : decode cX11_truthOf 46 = .ok (.getfield 306, 3) := by decide +kernel
theorem dX11_truthOf_49 : decode cX11_truthOf 49 = .ok (.if_icmp .ne 5, 3) := by decide +kernel
theorem dX11_truthOf_52 : decode cX11_truthOf 52 = .ok (.iconst 0, 1) := by decide +kernel
theorem dX11_truthOf_53 : decode cX11_truthOf 53 = .ok (.ireturn, 1) := by decide +kernel
theorem dX11_truthOf_54 : decode cX11_truthOf 54 = .ok (.aload_n 0, 1) := by decide +kernel
theorem dX11_truthOf_55 : decode cX11_truthOf 55 = .ok (.getfield 302, 3) := by decide +kernel
theorem dX11_truthOf_58 : decode cX11_truthOf 58 = .ok (.getfield 310, 3) := by decide +kernel
theorem dX11_truthOf_61 : decode cX11_truthOf 61 = .ok (.aload_n 1, 1) := by decide +kernel
theorem dX11_truthOf_62 : decode cX11_truthOf 62 = .ok (.getfield 302, 3) := by decide +kernel
theorem dX11_truthOf_65 : decode cX11_truthOf 65 = .ok (.getfield 310, 3) := by decide +kernel
theorem dX11_truthOf_68 : decode cX11_truthOf 68 = .ok (.if_icmp .ne 7, 3) := by decide +kernel
theorem dX11_truthOf_71 : decode cX11_truthOf 71 = .ok (.iconst 1, 1) := by decide +kernel
theorem dX11_truthOf_72 : decode cX11_truthOf 72 = .ok (.goto 4, 3) := by decide +kernel
theorem dX11_truthOf_75 : decode cX11_truthOf 75 = .ok (.iconst 2, 1) := by decide +kernel
theorem dX11_truthOf_76 : decode cX11_truthOf 76 = .ok (.ireturn, 1) := by decide +kernel
theorem dX11_nextLikeness_0 : decode cX11_nextLikeness 0 = .ok (.iconst (-1), 1) := by decide +kernel
theorem dX11_nextLikeness_1 : decode cX11_nextLikeness 1 = .ok (.istore 4, 2) := by decide +kernel
theorem dX11_nextLikeness_3 : decode cX11_nextLikeness 3 = .ok (.iconst 0, 1) := by decide +kernel
theorem dX11_nextLikeness_4 : decode cX11_nextLikeness 4 = .ok (.istore 5, 2) := by decide +kernel
theorem dX11_nextLikeness_6 : decode cX11_nextLikeness 6 = .ok (.iload 5, 2) := by decide +kernel
theorem dX11_nextLikeness_8 : decode cX11_nextLikeness 8 = .ok (.aload_n 0, 1) := by decide +kernel
theorem dX11_nextLikeness_9 : decode cX11_nextLikeness 9 = .ok (.getfield 122, 3) := by decide +kernel
theorem dX11_nextLikeness_12 : decode cX11_nextLikeness 12 = .ok (.if_icmp .ge 63, 3) := by decide +kernel
theorem dX11_nextLikeness_15 : decode cX11_nextLikeness 15 = .ok (.aload_n 0, 1) := by decide +kernel
theorem dX11_nextLikeness_16 : decode cX11_nextLikeness 16 = .ok (.getfield 23, 3) := by decide +kernel
theorem dX11_nextLikeness_19 : decode cX11_nextLikeness 19 = .ok (.iload 5, 2) := by decide +kernel
theorem dX11_nextLikeness_21 : decode cX11_nextLikeness 21 = .ok (.aaload, 1) := by decide +kernel
theorem dX11_nextLikeness_22 : decode cX11_nextLikeness 22 = .ok (.astore 6, 2) := by decide +kernel
theorem dX11_nextLikeness_24 : decode cX11_nextLikeness 24 = .ok (.aload 6, 2) := by decide +kernel
theorem dX11_nextLikeness_26 : decode cX11_nextLikeness 26 = .ok (.ifnull 43, 3) := by decide +kernel
theorem dX11_nextLikeness_29 : decode cX11_nextLikeness 29 = .ok (.iload 5, 2) := by decide +kernel
theorem dX11_nextLikeness_31 : decode cX11_nextLikeness 31 = .ok (.aload_n 2, 1) := by decide +kernel
theorem dX11_nextLikeness_32 : decode cX11_nextLikeness 32 = .ok (.getfield 134, 3) := by decide +kernel
theorem dX11_nextLikeness_35 : decode cX11_nextLikeness 35 = .ok (.if_icmp .eq 34, 3) := by decide +kernel
theorem dX11_nextLikeness_38 : decode cX11_nextLikeness 38 = .ok (.aload_n 1, 1) := by decide +kernel
theorem dX11_nextLikeness_39 : decode cX11_nextLikeness 39 = .ok (.aload_n 2, 1) := by decide +kernel
theorem dX11_nextLikeness_40 : decode cX11_nextLikeness 40 = .ok (.aload 6, 2) := by decide +kernel
theorem dX11_nextLikeness_42 : decode cX11_nextLikeness 42 = .ok (.invokevirtual 199, 3) := by decide +kernel
theorem dX11_nextLikeness_45 : decode cX11_nextLikeness 45 = .ok (.iload 5, 2) := by decide +kernel
theorem dX11_nextLikeness_47 : decode cX11_nextLikeness 47 = .ok (.invokestatic 314, 3) := by decide +kernel
theorem dX11_nextLikeness_50 : decode cX11_nextLikeness 50 = .ok (.istore 7, 2) := by decide +kernel
theorem dX11_nextLikeness_52 : decode cX11_nextLikeness 52 = .ok (.iload 7, 2) := by decide +kernel
theorem dX11_nextLikeness_54 : decode cX11_nextLikeness 54 = .ok (.iload_n 3, 1) := by decide +kernel
theorem dX11_nextLikeness_55 : decode cX11_nextLikeness 55 = .ok (.if_icmp .ge 14, 3) := by decide +kernel
theorem dX11_nextLikeness_58 : decode cX11_nextLikeness 58 = .ok (.iload 7, 2) := by decide +kernel
theorem dX11_nextLikeness_60 : decode cX11_nextLikeness 60 = .ok (.iload 4, 2) := by decide +kernel
theorem dX11_nextLikeness_62 : decode cX11_nextLikeness 62 = .ok (.if_icmp .le 7, 3) := by decide +kernel
theorem dX11_nextLikeness_65 : decode cX11_nextLikeness 65 = .ok (.iload 7, 2) := by decide +kernel
theorem dX11_nextLikeness_67 : decode cX11_nextLikeness 67 = .ok (.istore 4, 2) := by decide +kernel
theorem dX11_nextLikeness_69 : decode cX11_nextLikeness 69 = .ok (.iinc 5 1, 3) := by decide +kernel
theorem dX11_nextLikeness_72 : decode cX11_nextLikeness 72 = .ok (.goto (-66), 3) := by decide +kernel
theorem dX11_nextLikeness_75 : decode cX11_nextLikeness 75 = .ok (.iload 4, 2) := by decide +kernel
theorem dX11_nextLikeness_77 : decode cX11_nextLikeness 77 = .ok (.ireturn, 1) := by decide +kernel
theorem dX11_gradeOf_0 : decode cX11_gradeOf 0 = .ok (.aload_n 2, 1) := by decide +kernel
theorem dX11_gradeOf_1 : decode cX11_gradeOf 1 = .ok (.ifnonnull 7, 3) := by decide +kernel
theorem dX11_gradeOf_4 : decode cX11_gradeOf 4 = .ok (.iconst (-1), 1) := by decide +kernel
theorem dX11_gradeOf_5 : decode cX11_gradeOf 5 = .ok (.goto 14, 3) := by decide +kernel
theorem dX11_gradeOf_8 : decode cX11_gradeOf 8 = .ok (.aload_n 2, 1) := by decide +kernel
theorem dX11_gradeOf_9 : decode cX11_gradeOf 9 = .ok (.getfield 277, 3) := by decide +kernel
theorem dX11_gradeOf_12 : decode cX11_gradeOf 12 = .ok (.aload_n 2, 1) := by decide +kernel
theorem dX11_gradeOf_13 : decode cX11_gradeOf 13 = .ok (.getfield 281, 3) := by decide +kernel
theorem dX11_gradeOf_16 : decode cX11_gradeOf 16 = .ok (.invokestatic 241, 3) := by decide +kernel
theorem dX11_gradeOf_19 : decode cX11_gradeOf 19 = .ok (.istore 4, 2) := by decide +kernel
theorem dX11_gradeOf_21 : decode cX11_gradeOf 21 = .ok (.iload 4, 2) := by decide +kernel
theorem dX11_gradeOf_23 : decode cX11_gradeOf 23 = .ok (.iconst (-1), 1) := by decide +kernel
theorem dX11_gradeOf_24 : decode cX11_gradeOf 24 = .ok (.if_icmp .ne 5, 3) := by decide +kernel
theorem dX11_gradeOf_27 : decode cX11_gradeOf 27 = .ok (.iconst (-1), 1) := by decide +kernel
theorem dX11_gradeOf_28 : decode cX11_gradeOf 28 = .ok (.ireturn, 1) := by decide +kernel
theorem dX11_gradeOf_29 : decode cX11_gradeOf 29 = .ok (.aload_n 1, 1) := by decide +kernel
theorem dX11_gradeOf_30 : decode cX11_gradeOf 30 = .ok (.aload_n 2, 1) := by decide +kernel
theorem dX11_gradeOf_31 : decode cX11_gradeOf 31 = .ok (.getfield 277, 3) := by decide +kernel
theorem dX11_gradeOf_34 : decode cX11_gradeOf 34 = .ok (.aload_n 2, 1) := by decide +kernel
theorem dX11_gradeOf_35 : decode cX11_gradeOf 35 = .ok (.getfield 281, 3) := by decide +kernel
theorem dX11_gradeOf_38 : decode cX11_gradeOf 38 = .ok (.iload_n 3, 1) := by decide +kernel
theorem dX11_gradeOf_39 : decode cX11_gradeOf 39 = .ok (.aload_n 0, 1) := by decide +kernel
theorem dX11_gradeOf_40 : decode cX11_gradeOf 40 = .ok (.getfield 69, 3) := by decide +kernel
theorem dX11_gradeOf_43 : decode cX11_gradeOf 43 = .ok (.invokevirtual 237, 3) := by decide +kernel
theorem dX11_gradeOf_46 : decode cX11_gradeOf 46 = .ok (.istore 5, 2) := by decide +kernel
theorem dX11_gradeOf_48 : decode cX11_gradeOf 48 = .ok (.iload 5, 2) := by decide +kernel
theorem dX11_gradeOf_50 : decode cX11_gradeOf 50 = .ok (.iconst 2, 1) := by decide +kernel
theorem dX11_gradeOf_51 : decode cX11_gradeOf 51 = .ok (.if_icmp .ne 5, 3) := by decide +kernel
theorem dX11_gradeOf_54 : decode cX11_gradeOf 54 = .ok (.iconst 2, 1) := by decide +kernel
theorem dX11_gradeOf_55 : decode cX11_gradeOf 55 = .ok (.ireturn, 1) := by decide +kernel
theorem dX11_gradeOf_56 : decode cX11_gradeOf 56 = .ok (.iload 5, 2) := by decide +kernel
theorem dX11_gradeOf_58 : decode cX11_gradeOf 58 = .ok (.iconst 1, 1) := by decide +kernel
theorem dX11_gradeOf_59 : decode cX11_gradeOf 59 = .ok (.if_icmp .ne 7, 3) := by decide +kernel
theorem dX11_gradeOf_62 : decode cX11_gradeOf 62 = .ok (.iconst 1, 1) := by decide +kernel
theorem dX11_gradeOf_63 : decode cX11_gradeOf 63 = .ok (.goto 4, 3) := by decide +kernel
theorem dX11_gradeOf_66 : decode cX11_gradeOf 66 = .ok (.iconst 0, 1) := by decide +kernel
theorem dX11_gradeOf_67 : decode cX11_gradeOf 67 = .ok (.iload 4, 2) := by decide +kernel
theorem dX11_gradeOf_69 : decode cX11_gradeOf 69 = .ok (.ifCond .ne 7, 3) := by decide +kernel
theorem dX11_gradeOf_72 : decode cX11_gradeOf 72 = .ok (.iconst 1, 1) := by decide +kernel
theorem dX11_gradeOf_73 : decode cX11_gradeOf 73 = .ok (.goto 4, 3) := by decide +kernel
theorem dX11_gradeOf_76 : decode cX11_gradeOf 76 = .ok (.iconst 0, 1) := by decide +kernel
theorem dX11_gradeOf_77 : decode cX11_gradeOf 77 = .ok (.if_icmp .ne 7, 3) := by decide +kernel
theorem dX11_gradeOf_80 : decode cX11_gradeOf 80 = .ok (.iconst 0, 1) := by decide +kernel
theorem dX11_gradeOf_81 : decode cX11_gradeOf 81 = .ok (.goto 4, 3) := by decide +kernel
theorem dX11_gradeOf_84 : decode cX11_gradeOf 84 = .ok (.iconst 1, 1) := by decide +kernel
theorem dX11_gradeOf_85 : decode cX11_gradeOf 85 = .ok (.ireturn, 1) := by decide +kernel
theorem dX11_markMisled_0 : decode cX11_markMisled 0 = .ok (.iconst 0, 1) := by decide +kernel
theorem dX11_markMisled_1 : decode cX11_markMisled 1 = .ok (.istore_n 1, 1) := by decide +kernel
theorem dX11_markMisled_2 : decode cX11_markMisled 2 = .ok (.iload_n 1, 1) := by decide +kernel
theorem dX11_markMisled_3 : decode cX11_markMisled 3 = .ok (.aload_n 0, 1) := by decide +kernel
theorem dX11_markMisled_4 : decode cX11_markMisled 4 = .ok (.getfield 258, 3) := by decide +kernel
theorem dX11_markMisled_7 : decode cX11_markMisled 7 = .ok (.if_icmp .ge 70, 3) := by decide +kernel
theorem dX11_markMisled_10 : decode cX11_markMisled 10 = .ok (.iconst 0, 1) := by decide +kernel
theorem dX11_markMisled_11 : decode cX11_markMisled 11 = .ok (.istore_n 2, 1) := by decide +kernel
theorem dX11_markMisled_12 : decode cX11_markMisled 12 = .ok (.iconst 0, 1) := by decide +kernel
theorem dX11_markMisled_13 : decode cX11_markMisled 13 = .ok (.istore_n 3, 1) := by decide +kernel
theorem dX11_markMisled_14 : decode cX11_markMisled 14 = .ok (.iload_n 3, 1) := by decide +kernel
theorem dX11_markMisled_15 : decode cX11_markMisled 15 = .ok (.bipush 6, 2) := by decide +kernel
theorem dX11_markMisled_17 : decode cX11_markMisled 17 = .ok (.if_icmp .ge 44, 3) := by decide +kernel
theorem dX11_markMisled_20 : decode cX11_markMisled 20 = .ok (.aload_n 0, 1) := by decide +kernel
theorem dX11_markMisled_21 : decode cX11_markMisled 21 = .ok (.iload_n 3, 1) := by decide +kernel
theorem dX11_markMisled_22 : decode cX11_markMisled 22 = .ok (.invokevirtual 144, 3) := by decide +kernel
theorem dX11_markMisled_25 : decode cX11_markMisled 25 = .ok (.astore 4, 2) := by decide +kernel
theorem dX11_markMisled_27 : decode cX11_markMisled 27 = .ok (.aload 4, 2) := by decide +kernel
theorem dX11_markMisled_29 : decode cX11_markMisled 29 = .ok (.ifnull 26, 3) := by decide +kernel
theorem dX11_markMisled_32 : decode cX11_markMisled 32 = .ok (.aload_n 0, 1) := by decide +kernel
theorem dX11_markMisled_33 : decode cX11_markMisled 33 = .ok (.aload 4, 2) := by decide +kernel
theorem dX11_markMisled_35 : decode cX11_markMisled 35 = .ok (.aload_n 0, 1) := by decide +kernel
theorem dX11_markMisled_36 : decode cX11_markMisled 36 = .ok (.getfield 35, 3) := by decide +kernel
theorem dX11_markMisled_39 : decode cX11_markMisled 39 = .ok (.iload_n 1, 1) := by decide +kernel
theorem dX11_markMisled_40 : decode cX11_markMisled 40 = .ok (.aaload, 1) := by decide +kernel
theorem dX11_markMisled_41 : decode cX11_markMisled 41 = .ok (.iconst 0, 1) := by decide +kernel
theorem dX11_markMisled_42 : decode cX11_markMisled 42 = .ok (.invokevirtual 264, 3) := by decide +kernel
theorem dX11_markMisled_45 : decode cX11_markMisled 45 = .ok (.iconst 1, 1) := by decide +kernel
theorem dX11_markMisled_46 : decode cX11_markMisled 46 = .ok (.if_icmp .ne 9, 3) := by decide +kernel
theorem dX11_markMisled_49 : decode cX11_markMisled 49 = .ok (.iload_n 2, 1) := by decide +kernel
theorem dX11_markMisled_50 : decode cX11_markMisled 50 = .ok (.iconst 1, 1) := by decide +kernel
theorem dX11_markMisled_51 : decode cX11_markMisled 51 = .ok (.iload_n 3, 1) := by decide +kernel
theorem dX11_markMisled_52 : decode cX11_markMisled 52 = .ok (.ishl, 1) := by decide +kernel
theorem dX11_markMisled_53 : decode cX11_markMisled 53 = .ok (.ior, 1) := by decide +kernel
theorem dX11_markMisled_54 : decode cX11_markMisled 54 = .ok (.istore_n 2, 1) := by decide +kernel
theorem dX11_markMisled_55 : decode cX11_markMisled 55 = .ok (.iinc 3 1, 3) := by decide +kernel
theorem dX11_markMisled_58 : decode cX11_markMisled 58 = .ok (.goto (-44), 3) := by decide +kernel
theorem dX11_markMisled_61 : decode cX11_markMisled 61 = .ok (.aload_n 0, 1) := by decide +kernel
theorem dX11_markMisled_62 : decode cX11_markMisled 62 = .ok (.getfield 69, 3) := by decide +kernel
theorem dX11_markMisled_65 : decode cX11_markMisled 65 = .ok (.getfield 318, 3) := by decide +kernel
theorem dX11_markMisled_68 : decode cX11_markMisled 68 = .ok (.iload_n 1, 1) := by decide +kernel
theorem dX11_markMisled_69 : decode cX11_markMisled 69 = .ok (.iload_n 2, 1) := by decide +kernel
theorem dX11_markMisled_70 : decode cX11_markMisled 70 = .ok (.iastore, 1) := by decide +kernel
theorem dX11_markMisled_71 : decode cX11_markMisled 71 = .ok (.iinc 1 1, 3) := by decide +kernel
theorem dX11_markMisled_74 : decode cX11_markMisled 74 = .ok (.goto (-72), 3) := by decide +kernel
theorem dX11_markMisled_77 : decode cX11_markMisled 77 = .ok (.return_, 1) := by decide +kernel
theorem dX11_cheapestRound_0 : decode cX11_cheapestRound 0 = .ok (.iconst (-1), 1) := by decide +kernel
theorem dX11_cheapestRound_1 : decode cX11_cheapestRound 1 = .ok (.istore_n 2, 1) := by decide +kernel
theorem dX11_cheapestRound_2 : decode cX11_cheapestRound 2 = .ok (.iconst 1, 1) := by decide +kernel
theorem dX11_cheapestRound_3 : decode cX11_cheapestRound 3 = .ok (.istore_n 3, 1) := by decide +kernel
theorem dX11_cheapestRound_4 : decode cX11_cheapestRound 4 = .ok (.iload_n 3, 1) := by decide +kernel
theorem dX11_cheapestRound_5 : decode cX11_cheapestRound 5 = .ok (.iconst 1, 1) := by decide +kernel
theorem dX11_cheapestRound_6 : decode cX11_cheapestRound 6 = .ok (.aload_n 0, 1) := by decide +kernel
theorem dX11_cheapestRound_7 : decode cX11_cheapestRound 7 = .ok (.getfield 258, 3) := by decide +kernel
theorem dX11_cheapestRound_10 : decode cX11_cheapestRound 10 = .ok (.ishl, 1) := by decide +kernel
theorem dX11_cheapestRound_11 : decode cX11_cheapestRound 11 = .ok (.if_icmp .ge 36, 3) := by decide +kernel
theorem dX11_cheapestRound_14 : decode cX11_cheapestRound 14 = .ok (.aload_n 0, 1) := by decide +kernel
theorem dX11_cheapestRound_15 : decode cX11_cheapestRound 15 = .ok (.iload_n 3, 1) := by decide +kernel
theorem dX11_cheapestRound_16 : decode cX11_cheapestRound 16 = .ok (.invokevirtual 321, 3) := by decide +kernel
theorem dX11_cheapestRound_19 : decode cX11_cheapestRound 19 = .ok (.iload_n 1, 1) := by decide +kernel
theorem dX11_cheapestRound_20 : decode cX11_cheapestRound 20 = .ok (.iand, 1) := by decide +kernel
theorem dX11_cheapestRound_21 : decode cX11_cheapestRound 21 = .ok (.iload_n 1, 1) := by decide +kernel
theorem dX11_cheapestRound_22 : decode cX11_cheapestRound 22 = .ok (.if_icmp .ne 19, 3) := by decide +kernel
theorem dX11_cheapestRound_25 : decode cX11_cheapestRound 25 = .ok (.iload_n 2, 1) := by decide +kernel
theorem dX11_cheapestRound_26 : decode cX11_cheapestRound 26 = .ok (.iconst (-1), 1) := by decide +kernel
theorem dX11_cheapestRound_27 : decode cX11_cheapestRound 27 = .ok (.if_icmp .eq 12, 3) := by decide +kernel
theorem dX11_cheapestRound_30 : decode cX11_cheapestRound 30 = .ok (.aload_n 0, 1) := by decide +kernel
theorem dX11_cheapestRound_31 : decode cX11_cheapestRound 31 = .ok (.iload_n 3, 1) := by decide +kernel
theorem dX11_cheapestRound_32 : decode cX11_cheapestRound 32 = .ok (.iload_n 2, 1) := by decide +kernel
theorem dX11_cheapestRound_33 : decode cX11_cheapestRound 33 = .ok (.invokevirtual 324, 3) := by decide +kernel
theorem dX11_cheapestRound_36 : decode cX11_cheapestRound 36 = .ok (.ifCond .eq 5, 3) := by decide +kernel
theorem dX11_cheapestRound_39 : decode cX11_cheapestRound 39 = .ok (.iload_n 3, 1) := by decide +kernel
theorem dX11_cheapestRound_40 : decode cX11_cheapestRound 40 = .ok (.istore_n 2, 1) := by decide +kernel
theorem dX11_cheapestRound_41 : decode cX11_cheapestRound 41 = .ok (.iinc 3 1, 3) := by decide +kernel
theorem dX11_cheapestRound_44 : decode cX11_cheapestRound 44 = .ok (.goto (-40), 3) := by decide +kernel
theorem dX11_cheapestRound_47 : decode cX11_cheapestRound 47 = .ok (.iload_n 2, 1) := by decide +kernel
theorem dX11_cheapestRound_48 : decode cX11_cheapestRound 48 = .ok (.ireturn, 1) := by decide +kernel
theorem dX11_isCheaper_0 : decode cX11_isCheaper 0 = .ok (.aload_n 0, 1) := by decide +kernel
theorem dX11_isCheaper_1 : decode cX11_isCheaper 1 = .ok (.iload_n 1, 1) := by decide +kernel
theorem dX11_isCheaper_2 : decode cX11_isCheaper 2 = .ok (.invokevirtual 274, 3) := by decide +kernel
theorem dX11_isCheaper_5 : decode cX11_isCheaper 5 = .ok (.istore_n 3, 1) := by decide +kernel
theorem dX11_isCheaper_6 : decode cX11_isCheaper 6 = .ok (.aload_n 0, 1) := by decide +kernel
theorem dX11_isCheaper_7 : decode cX11_isCheaper 7 = .ok (.iload_n 2, 1) := by decide +kernel
theorem dX11_isCheaper_8 : decode cX11_isCheaper 8 = .ok (.invokevirtual 274, 3) := by decide +kernel
theorem dX11_isCheaper_11 : decode cX11_isCheaper 11 = .ok (.istore 4, 2) := by decide +kernel
theorem dX11_isCheaper_13 : decode cX11_isCheaper 13 = .ok (.iload_n 3, 1) := by decide +kernel
theorem dX11_isCheaper_14 : decode cX11_isCheaper 14 = .ok (.iload 4, 2) := by decide +kernel
theorem dX11_isCheaper_16 : decode cX11_isCheaper 16 = .ok (.if_icmp .lt 20, 3) := by decide +kernel
theorem dX11_isCheaper_19 : decode cX11_isCheaper 19 = .ok (.iload_n 3, 1) := by decide +kernel
theorem dX11_isCheaper_20 : decode cX11_isCheaper 20 = .ok (.iload 4, 2) := by decide +kernel
theorem dX11_isCheaper_22 : decode cX11_isCheaper 22 = .ok (.if_icmp .ne 18, 3) := by decide +kernel
theorem dX11_isCheaper_25 : decode cX11_isCheaper 25 = .ok (.iload_n 1, 1) := by decide +kernel
theorem dX11_isCheaper_26 : decode cX11_isCheaper 26 = .ok (.invokestatic 232, 3) := by decide +kernel
theorem dX11_isCheaper_29 : decode cX11_isCheaper 29 = .ok (.iload_n 2, 1) := by decide +kernel
theorem dX11_isCheaper_30 : decode cX11_isCheaper 30 = .ok (.invokestatic 232, 3) := by decide +kernel
theorem dX11_isCheaper_33 : decode cX11_isCheaper 33 = .ok (.if_icmp .ge 7, 3) := by decide +kernel
theorem dX11_isCheaper_36 : decode cX11_isCheaper 36 = .ok (.iconst 1, 1) := by decide +kernel
theorem dX11_isCheaper_37 : decode cX11_isCheaper 37 = .ok (.goto 4, 3) := by decide +kernel
theorem dX11_isCheaper_40 : decode cX11_isCheaper 40 = .ok (.iconst 0, 1) := by decide +kernel
theorem dX11_isCheaper_41 : decode cX11_isCheaper 41 = .ok (.ireturn, 1) := by decide +kernel
theorem dX11_misledBy_0 : decode cX11_misledBy 0 = .ok (.iconst 0, 1) := by decide +kernel
theorem dX11_misledBy_1 : decode cX11_misledBy 1 = .ok (.istore_n 2, 1) := by decide +kernel
theorem dX11_misledBy_2 : decode cX11_misledBy 2 = .ok (.iconst 0, 1) := by decide +kernel
theorem dX11_misledBy_3 : decode cX11_misledBy 3 = .ok (.istore_n 3, 1) := by decide +kernel
theorem dX11_misledBy_4 : decode cX11_misledBy 4 = .ok (.iload_n 3, 1) := by decide +kernel
theorem dX11_misledBy_5 : decode cX11_misledBy 5 = .ok (.aload_n 0, 1) := by decide +kernel
theorem dX11_misledBy_6 : decode cX11_misledBy 6 = .ok (.getfield 258, 3) := by decide +kernel
theorem dX11_misledBy_9 : decode cX11_misledBy 9 = .ok (.if_icmp .ge 30, 3) := by decide +kernel
theorem dX11_misledBy_12 : decode cX11_misledBy 12 = .ok (.iload_n 1, 1) := by decide +kernel
theorem dX11_misledBy_13 : decode cX11_misledBy 13 = .ok (.iload_n 3, 1) := by decide +kernel
theorem dX11_misledBy_14 : decode cX11_misledBy 14 = .ok (.iushr, 1) := by decide +kernel
theorem dX11_misledBy_15 : decode cX11_misledBy 15 = .ok (.iconst 1, 1) := by decide +kernel
theorem dX11_misledBy_16 : decode cX11_misledBy 16 = .ok (.iand, 1) := by decide +kernel
theorem dX11_misledBy_17 : decode cX11_misledBy 17 = .ok (.iconst 1, 1) := by decide +kernel
theorem dX11_misledBy_18 : decode cX11_misledBy 18 = .ok (.if_icmp .ne 15, 3) := by decide +kernel
theorem dX11_misledBy_21 : decode cX11_misledBy 21 = .ok (.iload_n 2, 1) := by decide +kernel
theorem dX11_misledBy_22 : decode cX11_misledBy 22 = .ok (.aload_n 0, 1) := by decide +kernel
theorem dX11_misledBy_23 : decode cX11_misledBy 23 = .ok (.getfield 69, 3) := by decide +kernel
theorem dX11_misledBy_26 : decode cX11_misledBy 26 = .ok (.getfield 318, 3) := by decide +kernel
theorem dX11_misledBy_29 : decode cX11_misledBy 29 = .ok (.iload_n 3, 1) := by decide +kernel
theorem dX11_misledBy_30 : decode cX11_misledBy 30 = .ok (.iaload, 1) := by decide +kernel
theorem dX11_misledBy_31 : decode cX11_misledBy 31 = .ok (.ior, 1) := by decide +kernel
theorem dX11_misledBy_32 : decode cX11_misledBy 32 = .ok (.istore_n 2, 1) := by decide +kernel
theorem dX11_misledBy_33 : decode cX11_misledBy 33 = .ok (.iinc 3 1, 3) := by decide +kernel
theorem dX11_misledBy_36 : decode cX11_misledBy 36 = .ok (.goto (-32), 3) := by decide +kernel
theorem dX11_misledBy_39 : decode cX11_misledBy 39 = .ok (.iload_n 2, 1) := by decide +kernel
theorem dX11_misledBy_40 : decode cX11_misledBy 40 = .ok (.ireturn, 1) := by decide +kernel
theorem dX11_hoursOf_0 : decode cX11_hoursOf 0 = .ok (.iconst 0, 1) := by decide +kernel
theorem dX11_hoursOf_1 : decode cX11_hoursOf 1 = .ok (.istore_n 2, 1) := by decide +kernel
theorem dX11_hoursOf_2 : decode cX11_hoursOf 2 = .ok (.iconst 0, 1) := by decide +kernel
theorem dX11_hoursOf_3 : decode cX11_hoursOf 3 = .ok (.istore_n 3, 1) := by decide +kernel
theorem dX11_hoursOf_4 : decode cX11_hoursOf 4 = .ok (.iload_n 3, 1) := by decide +kernel
theorem dX11_hoursOf_5 : decode cX11_hoursOf 5 = .ok (.aload_n 0, 1) := by decide +kernel
theorem dX11_hoursOf_6 : decode cX11_hoursOf 6 = .ok (.getfield 258, 3) := by decide +kernel
theorem dX11_hoursOf_9 : decode cX11_hoursOf 9 = .ok (.if_icmp .ge 39, 3) := by decide +kernel
theorem dX11_hoursOf_12 : decode cX11_hoursOf 12 = .ok (.aload_n 0, 1) := by decide +kernel
theorem dX11_hoursOf_13 : decode cX11_hoursOf 13 = .ok (.getfield 35, 3) := by decide +kernel
theorem dX11_hoursOf_16 : decode cX11_hoursOf 16 = .ok (.iload_n 3, 1) := by decide +kernel
theorem dX11_hoursOf_17 : decode cX11_hoursOf 17 = .ok (.aaload, 1) := by decide +kernel
theorem dX11_hoursOf_18 : decode cX11_hoursOf 18 = .ok (.astore 4, 2) := by decide +kernel
theorem dX11_hoursOf_20 : decode cX11_hoursOf 20 = .ok (.aload 4, 2) := by decide +kernel
theorem dX11_hoursOf_22 : decode cX11_hoursOf 22 = .ok (.ifnull 20, 3) := by decide +kernel
theorem dX11_hoursOf_25 : decode cX11_hoursOf 25 = .ok (.iload_n 1, 1) := by decide +kernel
theorem dX11_hoursOf_26 : decode cX11_hoursOf 26 = .ok (.iload_n 3, 1) := by decide +kernel
theorem dX11_hoursOf_27 : decode cX11_hoursOf 27 = .ok (.iushr, 1) := by decide +kernel
theorem dX11_hoursOf_28 : decode cX11_hoursOf 28 = .ok (.iconst 1, 1) := by decide +kernel
theorem dX11_hoursOf_29 : decode cX11_hoursOf 29 = .ok (.iand, 1) := by decide +kernel
theorem dX11_hoursOf_30 : decode cX11_hoursOf 30 = .ok (.iconst 1, 1) := by decide +kernel
theorem dX11_hoursOf_31 : decode cX11_hoursOf 31 = .ok (.if_icmp .ne 11, 3) := by decide +kernel
theorem dX11_hoursOf_34 : decode cX11_hoursOf 34 = .ok (.iload_n 2, 1) := by decide +kernel
theorem dX11_hoursOf_35 : decode cX11_hoursOf 35 = .ok (.aload 4, 2) := by decide +kernel
theorem dX11_hoursOf_37 : decode cX11_hoursOf 37 = .ok (.getfield 327, 3) := by decide +kernel
theorem dX11_hoursOf_40 : decode cX11_hoursOf 40 = .ok (.iadd, 1) := by decide +kernel
theorem dX11_hoursOf_41 : decode cX11_hoursOf 41 = .ok (.istore_n 2, 1) := by decide +kernel
theorem dX11_hoursOf_42 : decode cX11_hoursOf 42 = .ok (.iinc 3 1, 3) := by decide +kernel
theorem dX11_hoursOf_45 : decode cX11_hoursOf 45 = .ok (.goto (-41), 3) := by decide +kernel
theorem dX11_hoursOf_48 : decode cX11_hoursOf 48 = .ok (.iload_n 2, 1) := by decide +kernel
theorem dX11_hoursOf_49 : decode cX11_hoursOf 49 = .ok (.ireturn, 1) := by decide +kernel
theorem dX11_isOfScene_0 : decode cX11_isOfScene 0 = .ok (.aload_n 0, 1) := by decide +kernel
theorem dX11_isOfScene_1 : decode cX11_isOfScene 1 = .ok (.getfield 39, 3) := by decide +kernel
theorem dX11_isOfScene_4 : decode cX11_isOfScene 4 = .ok (.iload_n 1, 1) := by decide +kernel
theorem dX11_isOfScene_5 : decode cX11_isOfScene 5 = .ok (.laload, 1) := by decide +kernel
theorem dX11_isOfScene_6 : decode cX11_isOfScene 6 = .ok (.iload_n 2, 1) := by decide +kernel
theorem dX11_isOfScene_7 : decode cX11_isOfScene 7 = .ok (.lushr, 1) := by decide +kernel
theorem dX11_isOfScene_8 : decode cX11_isOfScene 8 = .ok (.lconst 1, 1) := by decide +kernel
theorem dX11_isOfScene_9 : decode cX11_isOfScene 9 = .ok (.land, 1) := by decide +kernel
theorem dX11_isOfScene_10 : decode cX11_isOfScene 10 = .ok (.lconst 1, 1) := by decide +kernel
theorem dX11_isOfScene_11 : decode cX11_isOfScene 11 = .ok (.lcmp, 1) := by decide +kernel
theorem dX11_isOfScene_12 : decode cX11_isOfScene 12 = .ok (.ifCond .ne 7, 3) := by decide +kernel
theorem dX11_isOfScene_15 : decode cX11_isOfScene 15 = .ok (.iconst 1, 1) := by decide +kernel
theorem dX11_isOfScene_16 : decode cX11_isOfScene 16 = .ok (.goto 4, 3) := by decide +kernel
theorem dX11_isOfScene_19 : decode cX11_isOfScene 19 = .ok (.iconst 0, 1) := by decide +kernel
theorem dX11_isOfScene_20 : decode cX11_isOfScene 20 = .ok (.ireturn, 1) := by decide +kernel
theorem dX11_strengthOf_0 : decode cX11_strengthOf 0 = .ok (.iconst (-1), 1) := by decide +kernel
theorem dX11_strengthOf_1 : decode cX11_strengthOf 1 = .ok (.istore 4, 2) := by decide +kernel
theorem dX11_strengthOf_3 : decode cX11_strengthOf 3 = .ok (.iconst 0, 1) := by decide +kernel
theorem dX11_strengthOf_4 : decode cX11_strengthOf 4 = .ok (.istore 5, 2) := by decide +kernel
theorem dX11_strengthOf_6 : decode cX11_strengthOf 6 = .ok (.iload 5, 2) := by decide +kernel
theorem dX11_strengthOf_8 : decode cX11_strengthOf 8 = .ok (.aload_n 0, 1) := by decide +kernel
theorem dX11_strengthOf_9 : decode cX11_strengthOf 9 = .ok (.getfield 122, 3) := by decide +kernel
theorem dX11_strengthOf_12 : decode cX11_strengthOf 12 = .ok (.if_icmp .ge 113, 3) := by decide +kernel
theorem dX11_strengthOf_15 : decode cX11_strengthOf 15 = .ok (.aload_n 0, 1) := by decide +kernel
theorem dX11_strengthOf_16 : decode cX11_strengthOf 16 = .ok (.getfield 23, 3) := by decide +kernel
theorem dX11_strengthOf_19 : decode cX11_strengthOf 19 = .ok (.iload 5, 2) := by decide +kernel
theorem dX11_strengthOf_21 : decode cX11_strengthOf 21 = .ok (.aaload, 1) := by decide +kernel
theorem dX11_strengthOf_22 : decode cX11_strengthOf 22 = .ok (.astore 6, 2) := by decide +kernel
theorem dX11_strengthOf_24 : decode cX11_strengthOf 24 = .ok (.aload 6, 2) := by decide +kernel
theorem dX11_strengthOf_26 : decode cX11_strengthOf 26 = .ok (.ifnull 93, 3) := by decide +kernel
theorem dX11_strengthOf_29 : decode cX11_strengthOf 29 = .ok (.aload_n 0, 1) := by decide +kernel
theorem dX11_strengthOf_30 : decode cX11_strengthOf 30 = .ok (.iload_n 2, 1) := by decide +kernel
theorem dX11_strengthOf_31 : decode cX11_strengthOf 31 = .ok (.iload 5, 2) := by decide +kernel
theorem dX11_strengthOf_33 : decode cX11_strengthOf 33 = .ok (.invokevirtual 284, 3) := by decide +kernel
theorem dX11_strengthOf_36 : decode cX11_strengthOf 36 = .ok (.ifCond .ne 6, 3) := by decide +kernel
theorem dX11_strengthOf_39 : decode cX11_strengthOf 39 = .ok (.goto 80, 3) := by decide +kernel
theorem dX11_strengthOf_42 : decode cX11_strengthOf 42 = .ok (.iconst 0, 1) := by decide +kernel
theorem dX11_strengthOf_43 : decode cX11_strengthOf 43 = .ok (.istore 7, 2) := by decide +kernel
theorem dX11_strengthOf_45 : decode cX11_strengthOf 45 = .ok (.iload 7, 2) := by decide +kernel
theorem dX11_strengthOf_47 : decode cX11_strengthOf 47 = .ok (.aload_n 0, 1) := by decide +kernel
theorem dX11_strengthOf_48 : decode cX11_strengthOf 48 = .ok (.getfield 122, 3) := by decide +kernel
theorem dX11_strengthOf_51 : decode cX11_strengthOf 51 = .ok (.if_icmp .ge 68, 3) := by decide +kernel
theorem dX11_strengthOf_54 : decode cX11_strengthOf 54 = .ok (.aload_n 0, 1) := by decide +kernel
theorem dX11_strengthOf_55 : decode cX11_strengthOf 55 = .ok (.getfield 23, 3) := by decide +kernel
theorem dX11_strengthOf_58 : decode cX11_strengthOf 58 = .ok (.iload 7, 2) := by decide +kernel
theorem dX11_strengthOf_60 : decode cX11_strengthOf 60 = .ok (.aaload, 1) := by decide +kernel
theorem dX11_strengthOf_61 : decode cX11_strengthOf 61 = .ok (.astore 8, 2) := by decide +kernel
theorem dX11_strengthOf_63 : decode cX11_strengthOf 63 = .ok (.aload 8, 2) := by decide +kernel
theorem dX11_strengthOf_65 : decode cX11_strengthOf 65 = .ok (.ifnull 48, 3) := by decide +kernel
theorem dX11_strengthOf_68 : decode cX11_strengthOf 68 = .ok (.aload_n 0, 1) := by decide +kernel
theorem dX11_strengthOf_69 : decode cX11_strengthOf 69 = .ok (.iload_n 3, 1) := by decide +kernel
theorem dX11_strengthOf_70 : decode cX11_strengthOf 70 = .ok (.iload 7, 2) := by decide +kernel
theorem dX11_strengthOf_72 : decode cX11_strengthOf 72 = .ok (.invokevirtual 284, 3) := by decide +kernel
theorem dX11_strengthOf_75 : decode cX11_strengthOf 75 = .ok (.ifCond .eq 38, 3) := by decide +kernel
theorem dX11_strengthOf_78 : decode cX11_strengthOf 78 = .ok (.aload_n 1, 1) := by decide +kernel
theorem dX11_strengthOf_79 : decode cX11_strengthOf 79 = .ok (.aload 6, 2) := by decide +kernel
theorem dX11_strengthOf_81 : decode cX11_strengthOf 81 = .ok (.aload 8, 2) := by decide +kernel
theorem dX11_strengthOf_83 : decode cX11_strengthOf 83 = .ok (.iconst 0, 1) := by decide +kernel
theorem dX11_strengthOf_84 : decode cX11_strengthOf 84 = .ok (.aload_n 0, 1) := by decide +kernel
theorem dX11_strengthOf_85 : decode cX11_strengthOf 85 = .ok (.getfield 69, 3) := by decide +kernel
theorem dX11_strengthOf_88 : decode cX11_strengthOf 88 = .ok (.invokevirtual 237, 3) := by decide +kernel
theorem dX11_strengthOf_91 : decode cX11_strengthOf 91 = .ok (.iconst 1, 1) := by decide +kernel
theorem dX11_strengthOf_92 : decode cX11_strengthOf 92 = .ok (.if_icmp .ne 21, 3) := by decide +kernel
theorem dX11_strengthOf_95 : decode cX11_strengthOf 95 = .ok (.iload 4, 2) := by decide +kernel
theorem dX11_strengthOf_97 : decode cX11_strengthOf 97 = .ok (.aload_n 1, 1) := by decide +kernel
theorem dX11_strengthOf_98 : decode cX11_strengthOf 98 = .ok (.aload 6, 2) := by decide +kernel
theorem dX11_strengthOf_100 : decode cX11_strengthOf 100 = .ok (.aload 8, 2) := by decide +kernel
theorem dX11_strengthOf_102 : decode cX11_strengthOf 102 = .ok (.invokevirtual 199, 3) := by decide +kernel
theorem dX11_strengthOf_105 : decode cX11_strengthOf 105 = .ok (.invokestatic 212, 3) := by decide +kernel
theorem dX11_strengthOf_108 : decode cX11_strengthOf 108 = .ok (.invokestatic 330, 3) := by decide +kernel
theorem dX11_strengthOf_111 : decode cX11_strengthOf 111 = .ok (.istore 4, 2) := by decide +kernel
theorem dX11_strengthOf_113 : decode cX11_strengthOf 113 = .ok (.iinc 7 1, 3) := by decide +kernel
theorem dX11_strengthOf_116 : decode cX11_strengthOf 116 = .ok (.goto (-71), 3) := by decide +kernel
theorem dX11_strengthOf_119 : decode cX11_strengthOf 119 = .ok (.iinc 5 1, 3) := by decide +kernel
theorem dX11_strengthOf_122 : decode cX11_strengthOf 122 = .ok (.goto (-116), 3) := by decide +kernel
theorem dX11_strengthOf_125 : decode cX11_strengthOf 125 = .ok (.iload 4, 2) := by decide +kernel
theorem dX11_strengthOf_127 : decode cX11_strengthOf 127 = .ok (.ireturn, 1) := by decide +kernel
theorem dX11_weakest_0 : decode cX11_weakest 0 = .ok (.iconst (-1), 1) := by decide +kernel
theorem dX11_weakest_1 : decode cX11_weakest 1 = .ok (.istore_n 2, 1) := by decide +kernel
theorem dX11_weakest_2 : decode cX11_weakest 2 = .ok (.iconst 0, 1) := by decide +kernel
theorem dX11_weakest_3 : decode cX11_weakest 3 = .ok (.istore_n 3, 1) := by decide +kernel
theorem dX11_weakest_4 : decode cX11_weakest 4 = .ok (.iload_n 3, 1) := by decide +kernel
theorem dX11_weakest_5 : decode cX11_weakest 5 = .ok (.bipush 8, 2) := by decide +kernel
theorem dX11_weakest_7 : decode cX11_weakest 7 = .ok (.if_icmp .ge 72, 3) := by decide +kernel
theorem dX11_weakest_10 : decode cX11_weakest 10 = .ok (.iload_n 3, 1) := by decide +kernel
theorem dX11_weakest_11 : decode cX11_weakest 11 = .ok (.iconst 1, 1) := by decide +kernel
theorem dX11_weakest_12 : decode cX11_weakest 12 = .ok (.iadd, 1) := by decide +kernel
theorem dX11_weakest_13 : decode cX11_weakest 13 = .ok (.istore 4, 2) := by decide +kernel
theorem dX11_weakest_15 : decode cX11_weakest 15 = .ok (.iload 4, 2) := by decide +kernel
theorem dX11_weakest_17 : decode cX11_weakest 17 = .ok (.bipush 8, 2) := by decide +kernel
theorem dX11_weakest_19 : decode cX11_weakest 19 = .ok (.if_icmp .ge 54, 3) := by decide +kernel
theorem dX11_weakest_22 : decode cX11_weakest 22 = .ok (.aload_n 0, 1) := by decide +kernel
theorem dX11_weakest_23 : decode cX11_weakest 23 = .ok (.aload_n 1, 1) := by decide +kernel
theorem dX11_weakest_24 : decode cX11_weakest 24 = .ok (.iload_n 3, 1) := by decide +kernel
theorem dX11_weakest_25 : decode cX11_weakest 25 = .ok (.iload 4, 2) := by decide +kernel
theorem dX11_weakest_27 : decode cX11_weakest 27 = .ok (.invokevirtual 335, 3) := by decide +kernel
theorem dX11_weakest_30 : decode cX11_weakest 30 = .ok (.istore 5, 2) := by decide +kernel
theorem dX11_weakest_32 : decode cX11_weakest 32 = .ok (.iload 5, 2) := by decide +kernel
theorem dX11_weakest_34 : decode cX11_weakest 34 = .ok (.bipush 8, 2) := by decide +kernel
theorem dX11_weakest_36 : decode cX11_weakest 36 = .ok (.imul, 1) := by decide +kernel
theorem dX11_weakest_37 : decode cX11_weakest 37 = .ok (.iload_n 3, 1) := by decide +kernel
theorem dX11_weakest_38 : decode cX11_weakest 38 = .ok (.iadd, 1) := by decide +kernel
theorem dX11_weakest_39 : decode cX11_weakest 39 = .ok (.bipush 8, 2) := by decide +kernel
theorem dX11_weakest_41 : decode cX11_weakest 41 = .ok (.imul, 1) := by decide +kernel
theorem dX11_weakest_42 : decode cX11_weakest 42 = .ok (.iload 4, 2) := by decide +kernel
theorem dX11_weakest_44 : decode cX11_weakest 44 = .ok (.iadd, 1) := by decide +kernel
theorem dX11_weakest_45 : decode cX11_weakest 45 = .ok (.istore 6, 2) := by decide +kernel
theorem dX11_weakest_47 : decode cX11_weakest 47 = .ok (.iload 5, 2) := by decide +kernel
theorem dX11_weakest_49 : decode cX11_weakest 49 = .ok (.iconst (-1), 1) := by decide +kernel
theorem dX11_weakest_50 : decode cX11_weakest 50 = .ok (.if_icmp .eq 17, 3) := by decide +kernel
theorem dX11_weakest_53 : decode cX11_weakest 53 = .ok (.iload_n 2, 1) := by decide +kernel
theorem dX11_weakest_54 : decode cX11_weakest 54 = .ok (.iconst (-1), 1) := by decide +kernel
theorem dX11_weakest_55 : decode cX11_weakest 55 = .ok (.if_icmp .eq 9, 3) := by decide +kernel
theorem dX11_weakest_58 : decode cX11_weakest 58 = .ok (.iload 6, 2) := by decide +kernel
theorem dX11_weakest_60 : decode cX11_weakest 60 = .ok (.iload_n 2, 1) := by decide +kernel
theorem dX11_weakest_61 : decode cX11_weakest 61 = .ok (.if_icmp .ge 6, 3) := by decide +kernel
theorem dX11_weakest_64 : decode cX11_weakest 64 = .ok (.iload 6, 2) := by decide +kernel
theorem dX11_weakest_66 : decode cX11_weakest 66 = .ok (.istore_n 2, 1) := by decide +kernel
theorem dX11_weakest_67 : decode cX11_weakest 67 = .ok (.iinc 4 1, 3) := by decide +kernel
theorem dX11_weakest_70 : decode cX11_weakest 70 = .ok (.goto (-55), 3) := by decide +kernel
theorem dX11_weakest_73 : decode cX11_weakest 73 = .ok (.iinc 3 1, 3) := by decide +kernel
theorem dX11_weakest_76 : decode cX11_weakest 76 = .ok (.goto (-72), 3) := by decide +kernel
theorem dX11_weakest_79 : decode cX11_weakest 79 = .ok (.iload_n 2, 1) := by decide +kernel
theorem dX11_weakest_80 : decode cX11_weakest 80 = .ok (.ireturn, 1) := by decide +kernel
theorem dX11_makeGroups_0 : decode cX11_makeGroups 0 = .ok (.iconst 0, 1) := by decide +kernel
theorem dX11_makeGroups_1 : decode cX11_makeGroups 1 = .ok (.istore_n 2, 1) := by decide +kernel
theorem dX11_makeGroups_2 : decode cX11_makeGroups 2 = .ok (.iload_n 2, 1) := by decide +kernel
theorem dX11_makeGroups_3 : decode cX11_makeGroups 3 = .ok (.bipush 8, 2) := by decide +kernel
theorem dX11_makeGroups_5 : decode cX11_makeGroups 5 = .ok (.if_icmp .ge 19, 3) := by decide +kernel
theorem dX11_makeGroups_8 : decode cX11_makeGroups 8 = .ok (.aload_n 0, 1) := by decide +kernel
theorem dX11_makeGroups_9 : decode cX11_makeGroups 9 = .ok (.getfield 69, 3) := by decide +kernel
theorem dX11_makeGroups_12 : decode cX11_makeGroups 12 = .ok (.getfield 299, 3) := by decide +kernel
theorem dX11_makeGroups_15 : decode cX11_makeGroups 15 = .ok (.iload_n 2, 1) := by decide +kernel
theorem dX11_makeGroups_16 : decode cX11_makeGroups 16 = .ok (.iload_n 2, 1) := by decide +kernel
theorem dX11_makeGroups_17 : decode cX11_makeGroups 17 = .ok (.iastore, 1) := by decide +kernel
theorem dX11_makeGroups_18 : decode cX11_makeGroups 18 = .ok (.iinc 2 1, 3) := by decide +kernel
theorem dX11_makeGroups_21 : decode cX11_makeGroups 21 = .ok (.goto (-19), 3) := by decide +kernel
theorem dX11_makeGroups_24 : decode cX11_makeGroups 24 = .ok (.iconst 0, 1) := by decide +kernel
theorem dX11_makeGroups_25 : decode cX11_makeGroups 25 = .ok (.istore_n 2, 1) := by decide +kernel
theorem dX11_makeGroups_26 : decode cX11_makeGroups 26 = .ok (.iload_n 2, 1) := by decide +kernel
theorem dX11_makeGroups_27 : decode cX11_makeGroups 27 = .ok (.bipush 8, 2) := by decide +kernel
theorem dX11_makeGroups_29 : decode cX11_makeGroups 29 = .ok (.if_icmp .ge 82, 3) := by decide +kernel
theorem dX11_makeGroups_32 : decode cX11_makeGroups 32 = .ok (.iload_n 2, 1) := by decide +kernel
theorem dX11_makeGroups_33 : decode cX11_makeGroups 33 = .ok (.iconst 1, 1) := by decide +kernel
theorem dX11_makeGroups_34 : decode cX11_makeGroups 34 = .ok (.iadd, 1) := by decide +kernel
theorem dX11_makeGroups_35 : decode cX11_makeGroups 35 = .ok (.istore_n 3, 1) := by decide +kernel
theorem dX11_makeGroups_36 : decode cX11_makeGroups 36 = .ok (.iload_n 3, 1) := by decide +kernel
theorem dX11_makeGroups_37 : decode cX11_makeGroups 37 = .ok (.bipush 8, 2) := by decide +kernel
theorem dX11_makeGroups_39 : decode cX11_makeGroups 39 = .ok (.if_icmp .ge 66, 3) := by decide +kernel
theorem dX11_makeGroups_42 : decode cX11_makeGroups 42 = .ok (.aload_n 0, 1) := by decide +kernel
theorem dX11_makeGroups_43 : decode cX11_makeGroups 43 = .ok (.getfield 69, 3) := by decide +kernel
theorem dX11_makeGroups_46 : decode cX11_makeGroups 46 = .ok (.getfield 299, 3) := by decide +kernel
theorem dX11_makeGroups_49 : decode cX11_makeGroups 49 = .ok (.iload_n 2, 1) := by decide +kernel
theorem dX11_makeGroups_50 : decode cX11_makeGroups 50 = .ok (.iaload, 1) := by decide +kernel
theorem dX11_makeGroups_51 : decode cX11_makeGroups 51 = .ok (.aload_n 0, 1) := by decide +kernel
theorem dX11_makeGroups_52 : decode cX11_makeGroups 52 = .ok (.getfield 69, 3) := by decide +kernel
theorem dX11_makeGroups_55 : decode cX11_makeGroups 55 = .ok (.getfield 299, 3) := by decide +kernel
theorem dX11_makeGroups_58 : decode cX11_makeGroups 58 = .ok (.iload_n 3, 1) := by decide +kernel
theorem dX11_makeGroups_59 : decode cX11_makeGroups 59 = .ok (.iaload, 1) := by decide +kernel
theorem dX11_makeGroups_60 : decode cX11_makeGroups 60 = .ok (.if_icmp .eq 39, 3) := by decide +kernel
theorem dX11_makeGroups_63 : decode cX11_makeGroups 63 = .ok (.aload_n 0, 1) := by decide +kernel
theorem dX11_makeGroups_64 : decode cX11_makeGroups 64 = .ok (.aload_n 1, 1) := by decide +kernel
theorem dX11_makeGroups_65 : decode cX11_makeGroups 65 = .ok (.iload_n 2, 1) := by decide +kernel
theorem dX11_makeGroups_66 : decode cX11_makeGroups 66 = .ok (.iload_n 3, 1) := by decide +kernel
theorem dX11_makeGroups_67 : decode cX11_makeGroups 67 = .ok (.invokevirtual 335, 3) := by decide +kernel
theorem dX11_makeGroups_70 : decode cX11_makeGroups 70 = .ok (.iconst (-1), 1) := by decide +kernel
theorem dX11_makeGroups_71 : decode cX11_makeGroups 71 = .ok (.if_icmp .eq 28, 3) := by decide +kernel
theorem dX11_makeGroups_74 : decode cX11_makeGroups 74 = .ok (.aload_n 0, 1) := by decide +kernel
theorem dX11_makeGroups_75 : decode cX11_makeGroups 75 = .ok (.getfield 69, 3) := by decide +kernel
theorem dX11_makeGroups_78 : decode cX11_makeGroups 78 = .ok (.aload_n 0, 1) := by decide +kernel
theorem dX11_makeGroups_79 : decode cX11_makeGroups 79 = .ok (.getfield 69, 3) := by decide +kernel
theorem dX11_makeGroups_82 : decode cX11_makeGroups 82 = .ok (.getfield 299, 3) := by decide +kernel
theorem dX11_makeGroups_85 : decode cX11_makeGroups 85 = .ok (.iload_n 2, 1) := by decide +kernel
theorem dX11_makeGroups_86 : decode cX11_makeGroups 86 = .ok (.iaload, 1) := by decide +kernel
theorem dX11_makeGroups_87 : decode cX11_makeGroups 87 = .ok (.aload_n 0, 1) := by decide +kernel
theorem dX11_makeGroups_88 : decode cX11_makeGroups 88 = .ok (.getfield 69, 3) := by decide +kernel
theorem dX11_makeGroups_91 : decode cX11_makeGroups 91 = .ok (.getfield 299, 3) := by decide +kernel
theorem dX11_makeGroups_94 : decode cX11_makeGroups 94 = .ok (.iload_n 3, 1) := by decide +kernel
theorem dX11_makeGroups_95 : decode cX11_makeGroups 95 = .ok (.iaload, 1) := by decide +kernel
theorem dX11_makeGroups_96 : decode cX11_makeGroups 96 = .ok (.invokevirtual 339, 3) := by decide +kernel
theorem dX11_makeGroups_99 : decode cX11_makeGroups 99 = .ok (.iinc 3 1, 3) := by decide +kernel
theorem dX11_makeGroups_102 : decode cX11_makeGroups 102 = .ok (.goto (-66), 3) := by decide +kernel
theorem dX11_makeGroups_105 : decode cX11_makeGroups 105 = .ok (.iinc 2 1, 3) := by decide +kernel
theorem dX11_makeGroups_108 : decode cX11_makeGroups 108 = .ok (.goto (-82), 3) := by decide +kernel
theorem dX11_makeGroups_111 : decode cX11_makeGroups 111 = .ok (.return_, 1) := by decide +kernel
theorem dX11_groupCount_0 : decode cX11_groupCount 0 = .ok (.iconst 0, 1) := by decide +kernel
theorem dX11_groupCount_1 : decode cX11_groupCount 1 = .ok (.istore_n 1, 1) := by decide +kernel
theorem dX11_groupCount_2 : decode cX11_groupCount 2 = .ok (.iconst 0, 1) := by decide +kernel
theorem dX11_groupCount_3 : decode cX11_groupCount 3 = .ok (.istore_n 2, 1) := by decide +kernel
theorem dX11_groupCount_4 : decode cX11_groupCount 4 = .ok (.iload_n 2, 1) := by decide +kernel
theorem dX11_groupCount_5 : decode cX11_groupCount 5 = .ok (.bipush 8, 2) := by decide +kernel
theorem dX11_groupCount_7 : decode cX11_groupCount 7 = .ok (.if_icmp .ge 36, 3) := by decide +kernel
theorem dX11_groupCount_10 : decode cX11_groupCount 10 = .ok (.aload_n 0, 1) := by decide +kernel
theorem dX11_groupCount_11 : decode cX11_groupCount 11 = .ok (.getfield 39, 3) := by decide +kernel
theorem dX11_groupCount_14 : decode cX11_groupCount 14 = .ok (.iload_n 2, 1) := by decide +kernel
theorem dX11_groupCount_15 : decode cX11_groupCount 15 = .ok (.laload, 1) := by decide +kernel
theorem dX11_groupCount_16 : decode cX11_groupCount 16 = .ok (.lconst 0, 1) := by decide +kernel
theorem dX11_groupCount_17 : decode cX11_groupCount 17 = .ok (.lcmp, 1) := by decide +kernel
theorem dX11_groupCount_18 : decode cX11_groupCount 18 = .ok (.ifCond .eq 19, 3) := by decide +kernel
theorem dX11_groupCount_21 : decode cX11_groupCount 21 = .ok (.aload_n 0, 1) := by decide +kernel
theorem dX11_groupCount_22 : decode cX11_groupCount 22 = .ok (.getfield 69, 3) := by decide +kernel
theorem dX11_groupCount_25 : decode cX11_groupCount 25 = .ok (.getfield 299, 3) := by decide +kernel
theorem dX11_groupCount_28 : decode cX11_groupCount 28 = .ok (.iload_n 2, 1) := by decide +kernel
theorem dX11_groupCount_29 : decode cX11_groupCount 29 = .ok (.iaload, 1) := by decide +kernel
theorem dX11_groupCount_30 : decode cX11_groupCount 30 = .ok (.iload_n 2, 1) := by decide +kernel
theorem dX11_groupCount_31 : decode cX11_groupCount 31 = .ok (.if_icmp .ne 6, 3) := by decide +kernel
theorem dX11_groupCount_34 : decode cX11_groupCount 34 = .ok (.iinc 1 1, 3) := by decide +kernel
theorem dX11_groupCount_37 : decode cX11_groupCount 37 = .ok (.iinc 2 1, 3) := by decide +kernel
theorem dX11_groupCount_40 : decode cX11_groupCount 40 = .ok (.goto (-36), 3) := by decide +kernel
theorem dX11_groupCount_43 : decode cX11_groupCount 43 = .ok (.iload_n 1, 1) := by decide +kernel
theorem dX11_groupCount_44 : decode cX11_groupCount 44 = .ok (.ireturn, 1) := by decide +kernel
