theorem dX7_restores_18 : decode cX7_restores 18 = .ok (.iload_n 1, 1) := by decide +kernel
theorem dX7_restores_19 : decode cX7_restores 19 = .ok (.iaload, 1) := by decide +kernel
theorem dX7_restores_20 : decode cX7_restores 20 = .ok (.iastore, 1) := by decide +kernel
theorem dX7_restores_21 : decode cX7_restores 21 = .ok (.iinc 1 1, 3) := by decide +kernel
theorem dX7_restores_24 : decode cX7_restores 24 = .ok (.goto (-22), 3) := by decide +kernel
theorem dX7_restores_27 : decode cX7_restores 27 = .ok (.return_, 1) := by decide +kernel
theorem dX7_keeps_0 : decode cX7_keeps 0 = .ok (.aload_n 0, 1) := by decide +kernel
theorem dX7_keeps_1 : decode cX7_keeps 1 = .ok (.getfield 49, 3) := by decide +kernel
theorem dX7_keeps_4 : decode cX7_keeps 4 = .ok (.iconst 5, 1) := by decide +kernel
theorem dX7_keeps_5 : decode cX7_keeps 5 = .ok (.if_icmp .ne 44, 3) := by decide +kernel
theorem dX7_keeps_8 : decode cX7_keeps 8 = .ok (.iconst 0, 1) := by decide +kernel
theorem dX7_keeps_9 : decode cX7_keeps 9 = .ok (.istore_n 1, 1) := by decide +kernel
theorem dX7_keeps_10 : decode cX7_keeps 10 = .ok (.iload_n 1, 1) := by decide +kernel
theorem dX7_keeps_11 : decode cX7_keeps 11 = .ok (.sipush 516, 3) := by decide +kernel
theorem dX7_keeps_14 : decode cX7_keeps 14 = .ok (.if_icmp .ge 25, 3) := by decide +kernel
theorem dX7_keeps_17 : decode cX7_keeps 17 = .ok (.aload_n 0, 1) := by decide +kernel
theorem dX7_keeps_18 : decode cX7_keeps 18 = .ok (.getfield 13, 3) := by decide +kernel
theorem dX7_keeps_21 : decode cX7_keeps 21 = .ok (.iload_n 1, 1) := by decide +kernel
theorem dX7_keeps_22 : decode cX7_keeps 22 = .ok (.aload_n 0, 1) := by decide +kernel
theorem dX7_keeps_23 : decode cX7_keeps 23 = .ok (.getfield 13, 3) := by decide +kernel
theorem dX7_keeps_26 : decode cX7_keeps 26 = .ok (.iload_n 1, 1) := by decide +kernel
theorem dX7_keeps_27 : decode cX7_keeps 27 = .ok (.sipush 129, 3) := by decide +kernel
theorem dX7_keeps_30 : decode cX7_keeps 30 = .ok (.iadd, 1) := by decide +kernel
theorem dX7_keeps_31 : decode cX7_keeps 31 = .ok (.iaload, 1) := by decide +kernel
theorem dX7_keeps_32 : decode cX7_keeps 32 = .ok (.iastore, 1) := by decide +kernel
theorem dX7_keeps_33 : decode cX7_keeps 33 = .ok (.iinc 1 1, 3) := by decide +kernel
theorem dX7_keeps_36 : decode cX7_keeps 36 = .ok (.goto (-26), 3) := by decide +kernel
theorem dX7_keeps_39 : decode cX7_keeps 39 = .ok (.aload_n 0, 1) := by decide +kernel
theorem dX7_keeps_40 : decode cX7_keeps 40 = .ok (.dup, 1) := by decide +kernel
theorem dX7_keeps_41 : decode cX7_keeps 41 = .ok (.getfield 49, 3) := by decide +kernel
theorem dX7_keeps_44 : decode cX7_keeps 44 = .ok (.iconst 1, 1) := by decide +kernel
theorem dX7_keeps_45 : decode cX7_keeps 45 = .ok (.isub, 1) := by decide +kernel
theorem dX7_keeps_46 : decode cX7_keeps 46 = .ok (.putfield 49, 3) := by decide +kernel
theorem dX7_keeps_49 : decode cX7_keeps 49 = .ok (.iconst 0, 1) := by decide +kernel
theorem dX7_keeps_50 : decode cX7_keeps 50 = .ok (.istore_n 1, 1) := by decide +kernel
theorem dX7_keeps_51 : decode cX7_keeps 51 = .ok (.iload_n 1, 1) := by decide +kernel
theorem dX7_keeps_52 : decode cX7_keeps 52 = .ok (.sipush 129, 3) := by decide +kernel
theorem dX7_keeps_55 : decode cX7_keeps 55 = .ok (.if_icmp .ge 30, 3) := by decide +kernel
theorem dX7_keeps_58 : decode cX7_keeps 58 = .ok (.aload_n 0, 1) := by decide +kernel
theorem dX7_keeps_59 : decode cX7_keeps 59 = .ok (.getfield 13, 3) := by decide +kernel
theorem dX7_keeps_62 : decode cX7_keeps 62 = .ok (.sipush 129, 3) := by decide +kernel
theorem dX7_keeps_65 : decode cX7_keeps 65 = .ok (.aload_n 0, 1) := by decide +kernel
theorem dX7_keeps_66 : decode cX7_keeps 66 = .ok (.getfield 49, 3) := by decide +kernel
theorem dX7_keeps_69 : decode cX7_keeps 69 = .ok (.imul, 1) := by decide +kernel
theorem dX7_keeps_70 : decode cX7_keeps 70 = .ok (.iload_n 1, 1) := by decide +kernel
theorem dX7_keeps_71 : decode cX7_keeps 71 = .ok (.iadd, 1) := by decide +kernel
theorem dX7_keeps_72 : decode cX7_keeps 72 = .ok (.aload_n 0, 1) := by decide +kernel
theorem dX7_keeps_73 : decode cX7_keeps 73 = .ok (.getfield 16, 3) := by decide +kernel
theorem dX7_keeps_76 : decode cX7_keeps 76 = .ok (.iload_n 1, 1) := by decide +kernel
theorem dX7_keeps_77 : decode cX7_keeps 77 = .ok (.iaload, 1) := by decide +kernel
theorem dX7_keeps_78 : decode cX7_keeps 78 = .ok (.iastore, 1) := by decide +kernel
theorem dX7_keeps_79 : decode cX7_keeps 79 = .ok (.iinc 1 1, 3) := by decide +kernel
theorem dX7_keeps_82 : decode cX7_keeps 82 = .ok (.goto (-31), 3) := by decide +kernel
theorem dX7_keeps_85 : decode cX7_keeps 85 = .ok (.aload_n 0, 1) := by decide +kernel
theorem dX7_keeps_86 : decode cX7_keeps 86 = .ok (.dup, 1) := by decide +kernel
theorem dX7_keeps_87 : decode cX7_keeps 87 = .ok (.getfield 49, 3) := by decide +kernel
theorem dX7_keeps_90 : decode cX7_keeps 90 = .ok (.iconst 1, 1) := by decide +kernel
theorem dX7_keeps_91 : decode cX7_keeps 91 = .ok (.iadd, 1) := by decide +kernel
theorem dX7_keeps_92 : decode cX7_keeps 92 = .ok (.putfield 49, 3) := by decide +kernel
theorem dX7_keeps_95 : decode cX7_keeps 95 = .ok (.return_, 1) := by decide +kernel
theorem dX7_comes_0 : decode cX7_comes 0 = .ok (.iconst 1, 1) := by decide +kernel
theorem dX7_comes_1 : decode cX7_comes 1 = .ok (.iconst 4, 1) := by decide +kernel
theorem dX7_comes_2 : decode cX7_comes 2 = .ok (.aload_n 0, 1) := by decide +kernel
theorem dX7_comes_3 : decode cX7_comes 3 = .ok (.getfield 7, 3) := by decide +kernel
theorem dX7_comes_6 : decode cX7_comes 6 = .ok (.iconst 0, 1) := by decide +kernel
theorem dX7_comes_7 : decode cX7_comes 7 = .ok (.iaload, 1) := by decide +kernel
theorem dX7_comes_8 : decode cX7_comes 8 = .ok (.imul, 1) := by decide +kernel
theorem dX7_comes_9 : decode cX7_comes 9 = .ok (.iadd, 1) := by decide +kernel
theorem dX7_comes_10 : decode cX7_comes 10 = .ok (.istore 5, 2) := by decide +kernel
theorem dX7_comes_12 : decode cX7_comes 12 = .ok (.aload_n 0, 1) := by decide +kernel
theorem dX7_comes_13 : decode cX7_comes 13 = .ok (.getfield 7, 3) := by decide +kernel
theorem dX7_comes_16 : decode cX7_comes 16 = .ok (.iload 5, 2) := by decide +kernel
theorem dX7_comes_18 : decode cX7_comes 18 = .ok (.iload_n 1, 1) := by decide +kernel
theorem dX7_comes_19 : decode cX7_comes 19 = .ok (.iastore, 1) := by decide +kernel
theorem dX7_comes_20 : decode cX7_comes 20 = .ok (.aload_n 0, 1) := by decide +kernel
theorem dX7_comes_21 : decode cX7_comes 21 = .ok (.getfield 7, 3) := by decide +kernel
theorem dX7_comes_24 : decode cX7_comes 24 = .ok (.iload 5, 2) := by decide +kernel
theorem dX7_comes_26 : decode cX7_comes 26 = .ok (.iconst 1, 1) := by decide +kernel
theorem dX7_comes_27 : decode cX7_comes 27 = .ok (.iadd, 1) := by decide +kernel
theorem dX7_comes_28 : decode cX7_comes 28 = .ok (.iload_n 2, 1) := by decide +kernel
theorem dX7_comes_29 : decode cX7_comes 29 = .ok (.iastore, 1) := by decide +kernel
theorem dX7_comes_30 : decode cX7_comes 30 = .ok (.aload_n 0, 1) := by decide +kernel
theorem dX7_comes_31 : decode cX7_comes 31 = .ok (.getfield 7, 3) := by decide +kernel
theorem dX7_comes_34 : decode cX7_comes 34 = .ok (.iload 5, 2) := by decide +kernel
theorem dX7_comes_36 : decode cX7_comes 36 = .ok (.iconst 2, 1) := by decide +kernel
theorem dX7_comes_37 : decode cX7_comes 37 = .ok (.iadd, 1) := by decide +kernel
theorem dX7_comes_38 : decode cX7_comes 38 = .ok (.iload_n 3, 1) := by decide +kernel
theorem dX7_comes_39 : decode cX7_comes 39 = .ok (.iastore, 1) := by decide +kernel
theorem dX7_comes_40 : decode cX7_comes 40 = .ok (.aload_n 0, 1) := by decide +kernel
theorem dX7_comes_41 : decode cX7_comes 41 = .ok (.getfield 7, 3) := by decide +kernel
theorem dX7_comes_44 : decode cX7_comes 44 = .ok (.iload 5, 2) := by decide +kernel
theorem dX7_comes_46 : decode cX7_comes 46 = .ok (.iconst 3, 1) := by decide +kernel
theorem dX7_comes_47 : decode cX7_comes 47 = .ok (.iadd, 1) := by decide +kernel
theorem dX7_comes_48 : decode cX7_comes 48 = .ok (.iload 4, 2) := by decide +kernel
theorem dX7_comes_50 : decode cX7_comes 50 = .ok (.iastore, 1) := by decide +kernel
theorem dX7_comes_51 : decode cX7_comes 51 = .ok (.aload_n 0, 1) := by decide +kernel
theorem dX7_comes_52 : decode cX7_comes 52 = .ok (.getfield 7, 3) := by decide +kernel
theorem dX7_comes_55 : decode cX7_comes 55 = .ok (.iconst 0, 1) := by decide +kernel
theorem dX7_comes_56 : decode cX7_comes 56 = .ok (.dup2, 1) := by decide +kernel
theorem dX7_comes_57 : decode cX7_comes 57 = .ok (.iaload, 1) := by decide +kernel
theorem dX7_comes_58 : decode cX7_comes 58 = .ok (.iconst 1, 1) := by decide +kernel
theorem dX7_comes_59 : decode cX7_comes 59 = .ok (.iadd, 1) := by decide +kernel
theorem dX7_comes_60 : decode cX7_comes 60 = .ok (.iastore, 1) := by decide +kernel
theorem dX7_comes_61 : decode cX7_comes 61 = .ok (.return_, 1) := by decide +kernel
theorem dX7_plane_0 : decode cX7_plane 0 = .ok (.iload_n 1, 1) := by decide +kernel
theorem dX7_plane_1 : decode cX7_plane 1 = .ok (.iload_n 2, 1) := by decide +kernel
theorem dX7_plane_2 : decode cX7_plane 2 = .ok (.iload_n 3, 1) := by decide +kernel
theorem dX7_plane_3 : decode cX7_plane 3 = .ok (.invokestatic 53, 3) := by decide +kernel
theorem dX7_plane_6 : decode cX7_plane 6 = .ok (.ifCond .eq 14, 3) := by decide +kernel
theorem dX7_plane_9 : decode cX7_plane 9 = .ok (.iload 4, 2) := by decide +kernel
theorem dX7_plane_11 : decode cX7_plane 11 = .ok (.iconst 1, 1) := by decide +kernel
theorem dX7_plane_12 : decode cX7_plane 12 = .ok (.bipush 60, 2) := by decide +kernel
theorem dX7_plane_14 : decode cX7_plane 14 = .ok (.invokestatic 45, 3) := by decide +kernel
theorem dX7_plane_17 : decode cX7_plane 17 = .ok (.ifCond .ne 10, 3) := by decide +kernel
theorem dX7_plane_20 : decode cX7_plane 20 = .ok (.aload_n 0, 1) := by decide +kernel
theorem dX7_plane_21 : decode cX7_plane 21 = .ok (.bipush (-2), 2) := by decide +kernel
theorem dX7_plane_23 : decode cX7_plane 23 = .ok (.invokevirtual 56, 3) := by decide +kernel
theorem dX7_plane_26 : decode cX7_plane 26 = .ok (.ireturn, 1) := by decide +kernel
theorem dX7_plane_27 : decode cX7_plane 27 = .ok (.aload_n 0, 1) := by decide +kernel
theorem dX7_plane_28 : decode cX7_plane 28 = .ok (.getfield 7, 3) := by decide +kernel
theorem dX7_plane_31 : decode cX7_plane 31 = .ok (.iconst 0, 1) := by decide +kernel
theorem dX7_plane_32 : decode cX7_plane 32 = .ok (.iaload, 1) := by decide +kernel
theorem dX7_plane_33 : decode cX7_plane 33 = .ok (.bipush 32, 2) := by decide +kernel
theorem dX7_plane_35 : decode cX7_plane 35 = .ok (.if_icmp .ne 10, 3) := by decide +kernel
theorem dX7_plane_38 : decode cX7_plane 38 = .ok (.aload_n 0, 1) := by decide +kernel
theorem dX7_plane_39 : decode cX7_plane 39 = .ok (.bipush (-4), 2) := by decide +kernel
theorem dX7_plane_41 : decode cX7_plane 41 = .ok (.invokevirtual 56, 3) := by decide +kernel
theorem dX7_plane_44 : decode cX7_plane 44 = .ok (.ireturn, 1) := by decide +kernel
theorem dX7_plane_45 : decode cX7_plane 45 = .ok (.aload_n 0, 1) := by decide +kernel
theorem dX7_plane_46 : decode cX7_plane 46 = .ok (.invokevirtual 60, 3) := by decide +kernel
theorem dX7_plane_49 : decode cX7_plane 49 = .ok (.aload_n 0, 1) := by decide +kernel
theorem dX7_plane_50 : decode cX7_plane 50 = .ok (.invokevirtual 63, 3) := by decide +kernel
theorem dX7_plane_53 : decode cX7_plane 53 = .ok (.aload_n 0, 1) := by decide +kernel
theorem dX7_plane_54 : decode cX7_plane 54 = .ok (.iload_n 1, 1) := by decide +kernel
theorem dX7_plane_55 : decode cX7_plane 55 = .ok (.iload_n 2, 1) := by decide +kernel
theorem dX7_plane_56 : decode cX7_plane 56 = .ok (.iload_n 3, 1) := by decide +kernel
theorem dX7_plane_57 : decode cX7_plane 57 = .ok (.iload 4, 2) := by decide +kernel
theorem dX7_plane_59 : decode cX7_plane 59 = .ok (.invokevirtual 66, 3) := by decide +kernel
theorem dX7_plane_62 : decode cX7_plane 62 = .ok (.aload_n 0, 1) := by decide +kernel
theorem dX7_plane_63 : decode cX7_plane 63 = .ok (.getfield 7, 3) := by decide +kernel
theorem dX7_plane_66 : decode cX7_plane 66 = .ok (.iconst 0, 1) := by decide +kernel
theorem dX7_plane_67 : decode cX7_plane 67 = .ok (.iaload, 1) := by decide +kernel
theorem dX7_plane_68 : decode cX7_plane 68 = .ok (.iconst 1, 1) := by decide +kernel
theorem dX7_plane_69 : decode cX7_plane 69 = .ok (.isub, 1) := by decide +kernel
theorem dX7_plane_70 : decode cX7_plane 70 = .ok (.ireturn, 1) := by decide +kernel
theorem dX7_turns_0 : decode cX7_turns 0 = .ok (.aload_n 0, 1) := by decide +kernel
theorem dX7_turns_1 : decode cX7_turns 1 = .ok (.getfield 42, 3) := by decide +kernel
theorem dX7_turns_4 : decode cX7_turns 4 = .ok (.iconst 0, 1) := by decide +kernel
theorem dX7_turns_5 : decode cX7_turns 5 = .ok (.iload_n 1, 1) := by decide +kernel
theorem dX7_turns_6 : decode cX7_turns 6 = .ok (.iconst 3, 1) := by decide +kernel
theorem dX7_turns_7 : decode cX7_turns 7 = .ok (.if_icmp .ge 8, 3) := by decide +kernel
theorem dX7_turns_10 : decode cX7_turns 10 = .ok (.iload_n 2, 1) := by decide +kernel
theorem dX7_turns_11 : decode cX7_turns 11 = .ok (.ineg, 1) := by decide +kernel
theorem dX7_turns_12 : decode cX7_turns 12 = .ok (.goto 24, 3) := by decide +kernel
theorem dX7_turns_15 : decode cX7_turns 15 = .ok (.iload_n 1, 1) := by decide +kernel
theorem dX7_turns_16 : decode cX7_turns 16 = .ok (.iconst 3, 1) := by decide +kernel
theorem dX7_turns_17 : decode cX7_turns 17 = .ok (.if_icmp .ne 8, 3) := by decide +kernel
theorem dX7_turns_20 : decode cX7_turns 20 = .ok (.iload_n 3, 1) := by decide +kernel
theorem dX7_turns_21 : decode cX7_turns 21 = .ok (.ineg, 1) := by decide +kernel
theorem dX7_turns_22 : decode cX7_turns 22 = .ok (.goto 14, 3) := by decide +kernel
theorem dX7_turns_25 : decode cX7_turns 25 = .ok (.iload_n 1, 1) := by decide +kernel
theorem dX7_turns_26 : decode cX7_turns 26 = .ok (.iconst 4, 1) := by decide +kernel
theorem dX7_turns_27 : decode cX7_turns 27 = .ok (.if_icmp .ne 8, 3) := by decide +kernel
theorem dX7_turns_30 : decode cX7_turns 30 = .ok (.iload 4, 2) := by decide +kernel
theorem dX7_turns_32 : decode cX7_turns 32 = .ok (.goto 4, 3) := by decide +kernel
theorem dX7_turns_35 : decode cX7_turns 35 = .ok (.iload_n 3, 1) := by decide +kernel
theorem dX7_turns_36 : decode cX7_turns 36 = .ok (.iastore, 1) := by decide +kernel
theorem dX7_turns_37 : decode cX7_turns 37 = .ok (.aload_n 0, 1) := by decide +kernel
theorem dX7_turns_38 : decode cX7_turns 38 = .ok (.getfield 42, 3) := by decide +kernel
theorem dX7_turns_41 : decode cX7_turns 41 = .ok (.iconst 1, 1) := by decide +kernel
theorem dX7_turns_42 : decode cX7_turns 42 = .ok (.iload_n 1, 1) := by decide +kernel
theorem dX7_turns_43 : decode cX7_turns 43 = .ok (.ifCond .eq 8, 3) := by decide +kernel
theorem dX7_turns_46 : decode cX7_turns 46 = .ok (.iload_n 1, 1) := by decide +kernel
theorem dX7_turns_47 : decode cX7_turns 47 = .ok (.iconst 2, 1) := by decide +kernel
theorem dX7_turns_48 : decode cX7_turns 48 = .ok (.if_icmp .ne 8, 3) := by decide +kernel
theorem dX7_turns_51 : decode cX7_turns 51 = .ok (.iload_n 3, 1) := by decide +kernel
theorem dX7_turns_52 : decode cX7_turns 52 = .ok (.ineg, 1) := by decide +kernel
theorem dX7_turns_53 : decode cX7_turns 53 = .ok (.goto 13, 3) := by decide +kernel
theorem dX7_turns_56 : decode cX7_turns 56 = .ok (.iload_n 1, 1) := by decide +kernel
theorem dX7_turns_57 : decode cX7_turns 57 = .ok (.iconst 1, 1) := by decide +kernel
theorem dX7_turns_58 : decode cX7_turns 58 = .ok (.if_icmp .ne 7, 3) := by decide +kernel
theorem dX7_turns_61 : decode cX7_turns 61 = .ok (.iload_n 3, 1) := by decide +kernel
theorem dX7_turns_62 : decode cX7_turns 62 = .ok (.goto 4, 3) := by decide +kernel
theorem dX7_turns_65 : decode cX7_turns 65 = .ok (.iload_n 2, 1) := by decide +kernel
theorem dX7_turns_66 : decode cX7_turns 66 = .ok (.iastore, 1) := by decide +kernel
theorem dX7_turns_67 : decode cX7_turns 67 = .ok (.aload_n 0, 1) := by decide +kernel
theorem dX7_turns_68 : decode cX7_turns 68 = .ok (.getfield 42, 3) := by decide +kernel
theorem dX7_turns_71 : decode cX7_turns 71 = .ok (.iconst 2, 1) := by decide +kernel
theorem dX7_turns_72 : decode cX7_turns 72 = .ok (.iload_n 1, 1) := by decide +kernel
theorem dX7_turns_73 : decode cX7_turns 73 = .ok (.ifCond .ne 9, 3) := by decide +kernel
theorem dX7_turns_76 : decode cX7_turns 76 = .ok (.iload 4, 2) := by decide +kernel
theorem dX7_turns_78 : decode cX7_turns 78 = .ok (.ineg, 1) := by decide +kernel
theorem dX7_turns_79 : decode cX7_turns 79 = .ok (.goto 14, 3) := by decide +kernel
theorem dX7_turns_82 : decode cX7_turns 82 = .ok (.iload_n 1, 1) := by decide +kernel
theorem dX7_turns_83 : decode cX7_turns 83 = .ok (.iconst 4, 1) := by decide +kernel
theorem dX7_turns_84 : decode cX7_turns 84 = .ok (.if_icmp .ne 7, 3) := by decide +kernel
theorem dX7_turns_87 : decode cX7_turns 87 = .ok (.iload_n 3, 1) := by decide +kernel
theorem dX7_turns_88 : decode cX7_turns 88 = .ok (.goto 5, 3) := by decide +kernel
theorem dX7_turns_91 : decode cX7_turns 91 = .ok (.iload 4, 2) := by decide +kernel
theorem dX7_turns_93 : decode cX7_turns 93 = .ok (.iastore, 1) := by decide +kernel
theorem dX7_turns_94 : decode cX7_turns 94 = .ok (.return_, 1) := by decide +kernel
theorem dX7_laysFamily_0 : decode cX7_laysFamily 0 = .ok (.iconst 0, 1) := by decide +kernel
theorem dX7_laysFamily_1 : decode cX7_laysFamily 1 = .ok (.istore 5, 2) := by decide +kernel
theorem dX7_laysFamily_3 : decode cX7_laysFamily 3 = .ok (.iload 5, 2) := by decide +kernel
theorem dX7_laysFamily_5 : decode cX7_laysFamily 5 = .ok (.sipush 343, 3) := by decide +kernel
theorem dX7_laysFamily_8 : decode cX7_laysFamily 8 = .ok (.if_icmp .ge 44, 3) := by decide +kernel
theorem dX7_laysFamily_11 : decode cX7_laysFamily 11 = .ok (.aload_n 0, 1) := by decide +kernel
theorem dX7_laysFamily_12 : decode cX7_laysFamily 12 = .ok (.getfield 36, 3) := by decide +kernel
theorem dX7_laysFamily_15 : decode cX7_laysFamily 15 = .ok (.iload 5, 2) := by decide +kernel
theorem dX7_laysFamily_17 : decode cX7_laysFamily 17 = .ok (.iload 5, 2) := by decide +kernel
theorem dX7_laysFamily_19 : decode cX7_laysFamily 19 = .ok (.bipush 49, 2) := by decide +kernel
theorem dX7_laysFamily_21 : decode cX7_laysFamily 21 = .ok (.iload_n 2, 1) := by decide +kernel
theorem dX7_laysFamily_22 : decode cX7_laysFamily 22 = .ok (.iconst 3, 1) := by decide +kernel
theorem dX7_laysFamily_23 : decode cX7_laysFamily 23 = .ok (.iadd, 1) := by decide +kernel
theorem dX7_laysFamily_24 : decode cX7_laysFamily 24 = .ok (.imul, 1) := by decide +kernel
theorem dX7_laysFamily_25 : decode cX7_laysFamily 25 = .ok (.bipush 7, 2) := by decide +kernel
theorem dX7_laysFamily_27 : decode cX7_laysFamily 27 = .ok (.iload_n 3, 1) := by decide +kernel
theorem dX7_laysFamily_28 : decode cX7_laysFamily 28 = .ok (.iconst 3, 1) := by decide +kernel
theorem dX7_laysFamily_29 : decode cX7_laysFamily 29 = .ok (.iadd, 1) := by decide +kernel
theorem dX7_laysFamily_30 : decode cX7_laysFamily 30 = .ok (.imul, 1) := by decide +kernel
theorem dX7_laysFamily_31 : decode cX7_laysFamily 31 = .ok (.iadd, 1) := by decide +kernel
theorem dX7_laysFamily_32 : decode cX7_laysFamily 32 = .ok (.iload 4, 2) := by decide +kernel
theorem dX7_laysFamily_34 : decode cX7_laysFamily 34 = .ok (.iadd, 1) := by decide +kernel
theorem dX7_laysFamily_35 : decode cX7_laysFamily 35 = .ok (.iconst 3, 1) := by decide +kernel
theorem dX7_laysFamily_36 : decode cX7_laysFamily 36 = .ok (.iadd, 1) := by decide +kernel
theorem dX7_laysFamily_37 : decode cX7_laysFamily 37 = .ok (.if_icmp .ne 7, 3) := by decide +kernel
theorem dX7_laysFamily_40 : decode cX7_laysFamily 40 = .ok (.iconst 1, 1) := by decide +kernel
theorem dX7_laysFamily_41 : decode cX7_laysFamily 41 = .ok (.goto 4, 3) := by decide +kernel
theorem dX7_laysFamily_44 : decode cX7_laysFamily 44 = .ok (.iconst 0, 1) := by decide +kernel
theorem dX7_laysFamily_45 : decode cX7_laysFamily 45 = .ok (.bastore, 1) := by decide +kernel
theorem dX7_laysFamily_46 : decode cX7_laysFamily 46 = .ok (.iinc 5 1, 3) := by decide +kernel
theorem dX7_laysFamily_49 : decode cX7_laysFamily 49 = .ok (.goto (-46), 3) := by decide +kernel
theorem dX7_laysFamily_52 : decode cX7_laysFamily 52 = .ok (.iconst 1, 1) := by decide +kernel
theorem dX7_laysFamily_53 : decode cX7_laysFamily 53 = .ok (.istore 5, 2) := by decide +kernel
theorem dX7_laysFamily_55 : decode cX7_laysFamily 55 = .ok (.iconst 1, 1) := by decide +kernel
theorem dX7_laysFamily_56 : decode cX7_laysFamily 56 = .ok (.istore 6, 2) := by decide +kernel
theorem dX7_laysFamily_58 : decode cX7_laysFamily 58 = .ok (.iload 6, 2) := by decide +kernel
theorem dX7_laysFamily_60 : decode cX7_laysFamily 60 = .ok (.ifCond .eq 150, 3) := by decide +kernel
theorem dX7_laysFamily_63 : decode cX7_laysFamily 63 = .ok (.iconst 0, 1) := by decide +kernel
theorem dX7_laysFamily_64 : decode cX7_laysFamily 64 = .ok (.istore 6, 2) := by decide +kernel
theorem dX7_laysFamily_66 : decode cX7_laysFamily 66 = .ok (.iconst 0, 1) := by decide +kernel
theorem dX7_laysFamily_67 : decode cX7_laysFamily 67 = .ok (.istore 7, 2) := by decide +kernel
theorem dX7_laysFamily_69 : decode cX7_laysFamily 69 = .ok (.iload 7, 2) := by decide +kernel
theorem dX7_laysFamily_71 : decode cX7_laysFamily 71 = .ok (.sipush 343, 3) := by decide +kernel
theorem dX7_laysFamily_74 : decode cX7_laysFamily 74 = .ok (.if_icmp .ge 133, 3) := by decide +kernel
theorem dX7_laysFamily_77 : decode cX7_laysFamily 77 = .ok (.iconst 0, 1) := by decide +kernel
theorem dX7_laysFamily_78 : decode cX7_laysFamily 78 = .ok (.istore 8, 2) := by decide +kernel
theorem dX7_laysFamily_80 : decode cX7_laysFamily 80 = .ok (.iload 8, 2) := by decide +kernel
theorem dX7_laysFamily_82 : decode cX7_laysFamily 82 = .ok (.bipush 6, 2) := by decide +kernel
theorem dX7_laysFamily_84 : decode cX7_laysFamily 84 = .ok (.if_icmp .ge 117, 3) := by decide +kernel
theorem dX7_laysFamily_87 : decode cX7_laysFamily 87 = .ok (.aload_n 0, 1) := by decide +kernel
theorem dX7_laysFamily_88 : decode cX7_laysFamily 88 = .ok (.getfield 36, 3) := by decide +kernel
theorem dX7_laysFamily_91 : decode cX7_laysFamily 91 = .ok (.iload 7, 2) := by decide +kernel
theorem dX7_laysFamily_93 : decode cX7_laysFamily 93 = .ok (.baload, 1) := by decide +kernel
theorem dX7_laysFamily_94 : decode cX7_laysFamily 94 = .ok (.ifCond .eq 107, 3) := by decide +kernel
theorem dX7_laysFamily_97 : decode cX7_laysFamily 97 = .ok (.aload_n 0, 1) := by decide +kernel
theorem dX7_laysFamily_98 : decode cX7_laysFamily 98 = .ok (.iload 8, 2) := by decide +kernel
theorem dX7_laysFamily_100 : decode cX7_laysFamily 100 = .ok (.iload 7, 2) := by decide +kernel
theorem dX7_laysFamily_102 : decode cX7_laysFamily 102 = .ok (.bipush 49, 2) := by decide +kernel
theorem dX7_laysFamily_104 : decode cX7_laysFamily 104 = .ok (.idiv, 1) := by decide +kernel
theorem dX7_laysFamily_105 : decode cX7_laysFamily 105 = .ok (.iconst 3, 1) := by decide +kernel
theorem dX7_laysFamily_106 : decode cX7_laysFamily 106 = .ok (.isub, 1) := by decide +kernel
theorem dX7_laysFamily_107 : decode cX7_laysFamily 107 = .ok (.iload 7, 2) := by decide +kernel
theorem dX7_laysFamily_109 : decode cX7_laysFamily 109 = .ok (.bipush 7, 2) := by decide +kernel
theorem dX7_laysFamily_111 : decode cX7_laysFamily 111 = .ok (.idiv, 1) := by decide +kernel
theorem dX7_laysFamily_112 : decode cX7_laysFamily 112 = .ok (.bipush 7, 2) := by decide +kernel
theorem dX7_laysFamily_114 : decode cX7_laysFamily 114 = .ok (.irem, 1) := by decide +kernel
theorem dX7_laysFamily_115 : decode cX7_laysFamily 115 = .ok (.iconst 3, 1) := by decide +kernel
theorem dX7_laysFamily_116 : decode cX7_laysFamily 116 = .ok (.isub, 1) := by decide +kernel
theorem dX7_laysFamily_117 : decode cX7_laysFamily 117 = .ok (.iload 7, 2) := by decide +kernel
theorem dX7_laysFamily_119 : decode cX7_laysFamily 119 = .ok (.bipush 7, 2) := by decide +kernel
theorem dX7_laysFamily_121 : decode cX7_laysFamily 121 = .ok (.irem, 1) := by decide +kernel
theorem dX7_laysFamily_122 : decode cX7_laysFamily 122 = .ok (.iconst 3, 1) := by decide +kernel
theorem dX7_laysFamily_123 : decode cX7_laysFamily 123 = .ok (.isub, 1) := by decide +kernel
theorem dX7_laysFamily_124 : decode cX7_laysFamily 124 = .ok (.invokevirtual 70, 3) := by decide +kernel
theorem dX7_laysFamily_127 : decode cX7_laysFamily 127 = .ok (.bipush 49, 2) := by decide +kernel
theorem dX7_laysFamily_129 : decode cX7_laysFamily 129 = .ok (.aload_n 0, 1) := by decide +kernel
theorem dX7_laysFamily_130 : decode cX7_laysFamily 130 = .ok (.getfield 42, 3) := by decide +kernel
theorem dX7_laysFamily_133 : decode cX7_laysFamily 133 = .ok (.iconst 0, 1) := by decide +kernel
theorem dX7_laysFamily_134 : decode cX7_laysFamily 134 = .ok (.iaload, 1) := by decide +kernel
theorem dX7_laysFamily_135 : decode cX7_laysFamily 135 = .ok (.iconst 3, 1) := by decide +kernel
theorem dX7_laysFamily_136 : decode cX7_laysFamily 136 = .ok (.iadd, 1) := by decide +kernel
theorem dX7_laysFamily_137 : decode cX7_laysFamily 137 = .ok (.imul, 1) := by decide +kernel
theorem dX7_laysFamily_138 : decode cX7_laysFamily 138 = .ok (.bipush 7, 2) := by decide +kernel
theorem dX7_laysFamily_140 : decode cX7_laysFamily 140 = .ok (.aload_n 0, 1) := by decide +kernel
theorem dX7_laysFamily_141 : decode cX7_laysFamily 141 = .ok (.getfield 42, 3) := by decide +kernel
theorem dX7_laysFamily_144 : decode cX7_laysFamily 144 = .ok (.iconst 1, 1) := by decide +kernel
theorem dX7_laysFamily_145 : decode cX7_laysFamily 145 = .ok (.iaload, 1) := by decide +kernel
theorem dX7_laysFamily_146 : decode cX7_laysFamily 146 = .ok (.iconst 3, 1) := by decide +kernel
theorem dX7_laysFamily_147 : decode cX7_laysFamily 147 = .ok (.iadd, 1) := by decide +kernel
theorem dX7_laysFamily_148 : decode cX7_laysFamily 148 = .ok (.imul, 1) := by decide +kernel
theorem dX7_laysFamily_149 : decode cX7_laysFamily 149 = .ok (.iadd, 1) := by decide +kernel
theorem dX7_laysFamily_150 : decode cX7_laysFamily 150 = .ok (.aload_n 0, 1) := by decide +kernel
theorem dX7_laysFamily_151 : decode cX7_laysFamily 151 = .ok (.getfield 42, 3) := by decide +kernel
theorem dX7_laysFamily_154 : decode cX7_laysFamily 154 = .ok (.iconst 2, 1) := by decide +kernel
theorem dX7_laysFamily_155 : decode cX7_laysFamily 155 = .ok (.iaload, 1) := by decide +kernel
theorem dX7_laysFamily_156 : decode cX7_laysFamily 156 = .ok (.iadd, 1) := by decide +kernel
theorem dX7_laysFamily_157 : decode cX7_laysFamily 157 = .ok (.iconst 3, 1) := by decide +kernel
theorem dX7_laysFamily_158 : decode cX7_laysFamily 158 = .ok (.iadd, 1) := by decide +kernel
theorem dX7_laysFamily_159 : decode cX7_laysFamily 159 = .ok (.istore 9, 2) := by decide +kernel
theorem dX7_laysFamily_161 : decode cX7_laysFamily 161 = .ok (.iload_n 1, 1) := by decide +kernel
theorem dX7_laysFamily_162 : decode cX7_laysFamily 162 = .ok (.iload 8, 2) := by decide +kernel
theorem dX7_laysFamily_164 : decode cX7_laysFamily 164 = .ok (.ishr, 1) := by decide +kernel
theorem dX7_laysFamily_165 : decode cX7_laysFamily 165 = .ok (.iconst 1, 1) := by decide +kernel
theorem dX7_laysFamily_166 : decode cX7_laysFamily 166 = .ok (.iand, 1) := by decide +kernel
theorem dX7_laysFamily_167 : decode cX7_laysFamily 167 = .ok (.iconst 1, 1) := by decide +kernel
theorem dX7_laysFamily_168 : decode cX7_laysFamily 168 = .ok (.if_icmp .ne 27, 3) := by decide +kernel
theorem dX7_laysFamily_171 : decode cX7_laysFamily 171 = .ok (.aload_n 0, 1) := by decide +kernel
theorem dX7_laysFamily_172 : decode cX7_laysFamily 172 = .ok (.getfield 36, 3) := by decide +kernel
theorem dX7_laysFamily_175 : decode cX7_laysFamily 175 = .ok (.iload 9, 2) := by decide +kernel
theorem dX7_laysFamily_177 : decode cX7_laysFamily 177 = .ok (.baload, 1) := by decide +kernel
theorem dX7_laysFamily_178 : decode cX7_laysFamily 178 = .ok (.ifCond .ne 17, 3) := by decide +kernel
theorem dX7_laysFamily_181 : decode cX7_laysFamily 181 = .ok (.aload_n 0, 1) := by decide +kernel
theorem dX7_laysFamily_182 : decode cX7_laysFamily 182 = .ok (.getfield 36, 3) := by decide +kernel
theorem dX7_laysFamily_185 : decode cX7_laysFamily 185 = .ok (.iload 9, 2) := by decide +kernel
theorem dX7_laysFamily_187 : decode cX7_laysFamily 187 = .ok (.iconst 1, 1) := by decide +kernel
theorem dX7_laysFamily_188 : decode cX7_laysFamily 188 = .ok (.bastore, 1) := by decide +kernel
theorem dX7_laysFamily_189 : decode cX7_laysFamily 189 = .ok (.iinc 5 1, 3) := by decide +kernel
theorem dX7_laysFamily_192 : decode cX7_laysFamily 192 = .ok (.iconst 1, 1) := by decide +kernel
theorem dX7_laysFamily_193 : decode cX7_laysFamily 193 = .ok (.istore 6, 2) := by decide +kernel
theorem dX7_laysFamily_195 : decode cX7_laysFamily 195 = .ok (.iinc 8 1, 3) := by decide +kernel
theorem dX7_laysFamily_198 : decode cX7_laysFamily 198 = .ok (.goto (-118), 3) := by decide +kernel
theorem dX7_laysFamily_201 : decode cX7_laysFamily 201 = .ok (.iinc 7 1, 3) := by decide +kernel
theorem dX7_laysFamily_204 : decode cX7_laysFamily 204 = .ok (.goto (-135), 3) := by decide +kernel
theorem dX7_laysFamily_207 : decode cX7_laysFamily 207 = .ok (.goto (-149), 3) := by decide +kernel
theorem dX7_laysFamily_210 : decode cX7_laysFamily 210 = .ok (.iload 5, 2) := by decide +kernel
theorem dX7_laysFamily_212 : decode cX7_laysFamily 212 = .ok (.ireturn, 1) := by decide +kernel
theorem dX7_familyComes_0 : decode cX7_familyComes 0 = .ok (.iconst 0, 1) := by decide +kernel
theorem dX7_familyComes_1 : decode cX7_familyComes 1 = .ok (.istore_n 2, 1) := by decide +kernel
theorem dX7_familyComes_2 : decode cX7_familyComes 2 = .ok (.iload_n 2, 1) := by decide +kernel
theorem dX7_familyComes_3 : decode cX7_familyComes 3 = .ok (.sipush 343, 3) := by decide +kernel
theorem dX7_familyComes_6 : decode cX7_familyComes 6 = .ok (.if_icmp .ge 44, 3) := by decide +kernel
theorem dX7_familyComes_9 : decode cX7_familyComes 9 = .ok (.aload_n 0, 1) := by decide +kernel
theorem dX7_familyComes_10 : decode cX7_familyComes 10 = .ok (.getfield 36, 3) := by decide +kernel
theorem dX7_familyComes_13 : decode cX7_familyComes 13 = .ok (.iload_n 2, 1) := by decide +kernel
theorem dX7_familyComes_14 : decode cX7_familyComes 14 = .ok (.baload, 1) := by decide +kernel
theorem dX7_familyComes_15 : decode cX7_familyComes 15 = .ok (.ifCond .eq 29, 3) := by decide +kernel
theorem dX7_familyComes_18 : decode cX7_familyComes 18 = .ok (.aload_n 0, 1) := by decide +kernel
theorem dX7_familyComes_19 : decode cX7_familyComes 19 = .ok (.iload_n 2, 1) := by decide +kernel
theorem dX7_familyComes_20 : decode cX7_familyComes 20 = .ok (.bipush 49, 2) := by decide +kernel
theorem dX7_familyComes_22 : decode cX7_familyComes 22 = .ok (.idiv, 1) := by decide +kernel
theorem dX7_familyComes_23 : decode cX7_familyComes 23 = .ok (.iconst 3, 1) := by decide +kernel
theorem dX7_familyComes_24 : decode cX7_familyComes 24 = .ok (.isub, 1) := by decide +kernel
theorem dX7_familyComes_25 : decode cX7_familyComes 25 = .ok (.iload_n 2, 1) := by decide +kernel
theorem dX7_familyComes_26 : decode cX7_familyComes 26 = .ok (.bipush 7, 2) := by decide +kernel
theorem dX7_familyComes_28 : decode cX7_familyComes 28 = .ok (.idiv, 1) := by decide +kernel
theorem dX7_familyComes_29 : decode cX7_familyComes 29 = .ok (.bipush 7, 2) := by decide +kernel
theorem dX7_familyComes_31 : decode cX7_familyComes 31 = .ok (.irem, 1) := by decide +kernel
theorem dX7_familyComes_32 : decode cX7_familyComes 32 = .ok (.iconst 3, 1) := by decide +kernel
theorem dX7_familyComes_33 : decode cX7_familyComes 33 = .ok (.isub, 1) := by decide +kernel
theorem dX7_familyComes_34 : decode cX7_familyComes 34 = .ok (.iload_n 2, 1) := by decide +kernel
theorem dX7_familyComes_35 : decode cX7_familyComes 35 = .ok (.bipush 7, 2) := by decide +kernel
theorem dX7_familyComes_37 : decode cX7_familyComes 37 = .ok (.irem, 1) := by decide +kernel
theorem dX7_familyComes_38 : decode cX7_familyComes 38 = .ok (.iconst 3, 1) := by decide +kernel
theorem dX7_familyComes_39 : decode cX7_familyComes 39 = .ok (.isub, 1) := by decide +kernel
theorem dX7_familyComes_40 : decode cX7_familyComes 40 = .ok (.iload_n 1, 1) := by decide +kernel
theorem dX7_familyComes_41 : decode cX7_familyComes 41 = .ok (.invokevirtual 66, 3) := by decide +kernel
theorem dX7_familyComes_44 : decode cX7_familyComes 44 = .ok (.iinc 2 1, 3) := by decide +kernel
theorem dX7_familyComes_47 : decode cX7_familyComes 47 = .ok (.goto (-45), 3) := by decide +kernel
theorem dX7_familyComes_50 : decode cX7_familyComes 50 = .ok (.return_, 1) := by decide +kernel
theorem dX7_family_0 : decode cX7_family 0 = .ok (.iload_n 1, 1) := by decide +kernel
theorem dX7_family_1 : decode cX7_family 1 = .ok (.iconst 0, 1) := by decide +kernel
theorem dX7_family_2 : decode cX7_family 2 = .ok (.bipush 63, 2) := by decide +kernel
theorem dX7_family_4 : decode cX7_family 4 = .ok (.invokestatic 45, 3) := by decide +kernel
theorem dX7_family_7 : decode cX7_family 7 = .ok (.ifCond .eq 24, 3) := by decide +kernel
theorem dX7_family_10 : decode cX7_family 10 = .ok (.iload_n 2, 1) := by decide +kernel
theorem dX7_family_11 : decode cX7_family 11 = .ok (.iload_n 3, 1) := by decide +kernel
theorem dX7_family_12 : decode cX7_family 12 = .ok (.iload 4, 2) := by decide +kernel
theorem dX7_family_14 : decode cX7_family 14 = .ok (.invokestatic 53, 3) := by decide +kernel
theorem dX7_family_17 : decode cX7_family 17 = .ok (.ifCond .eq 14, 3) := by decide +kernel
theorem dX7_family_20 : decode cX7_family 20 = .ok (.iload 5, 2) := by decide +kernel
theorem dX7_family_22 : decode cX7_family 22 = .ok (.iconst 1, 1) := by decide +kernel
theorem dX7_family_23 : decode cX7_family 23 = .ok (.bipush 60, 2) := by decide +kernel
theorem dX7_family_25 : decode cX7_family 25 = .ok (.invokestatic 45, 3) := by decide +kernel
theorem dX7_family_28 : decode cX7_family 28 = .ok (.ifCond .ne 10, 3) := by decide +kernel
theorem dX7_family_31 : decode cX7_family 31 = .ok (.aload_n 0, 1) := by decide +kernel
theorem dX7_family_32 : decode cX7_family 32 = .ok (.bipush (-2), 2) := by decide +kernel
theorem dX7_family_34 : decode cX7_family 34 = .ok (.invokevirtual 56, 3) := by decide +kernel
theorem dX7_family_37 : decode cX7_family 37 = .ok (.ireturn, 1) := by decide +kernel
theorem dX7_family_38 : decode cX7_family 38 = .ok (.aload_n 0, 1) := by decide +kernel
theorem dX7_family_39 : decode cX7_family 39 = .ok (.iload_n 1, 1) := by decide +kernel
theorem dX7_family_40 : decode cX7_family 40 = .ok (.iload_n 2, 1) := by decide +kernel
theorem dX7_family_41 : decode cX7_family 41 = .ok (.iload_n 3, 1) := by decide +kernel
theorem dX7_family_42 : decode cX7_family 42 = .ok (.iload 4, 2) := by decide +kernel
theorem dX7_family_44 : decode cX7_family 44 = .ok (.invokevirtual 73, 3) := by decide +kernel
theorem dX7_family_47 : decode cX7_family 47 = .ok (.istore 6, 2) := by decide +kernel
theorem dX7_family_49 : decode cX7_family 49 = .ok (.aload_n 0, 1) := by decide +kernel
theorem dX7_family_50 : decode cX7_family 50 = .ok (.getfield 7, 3) := by decide +kernel
theorem dX7_family_53 : decode cX7_family 53 = .ok (.iconst 0, 1) := by decide +kernel
theorem dX7_family_54 : decode cX7_family 54 = .ok (.iaload, 1) := by decide +kernel
theorem dX7_family_55 : decode cX7_family 55 = .ok (.iload 6, 2) := by decide +kernel
theorem dX7_family_57 : decode cX7_family 57 = .ok (.iadd, 1) := by decide +kernel
theorem dX7_family_58 : decode cX7_family 58 = .ok (.bipush 32, 2) := by decide +kernel
theorem dX7_family_60 : decode cX7_family 60 = .ok (.if_icmp .le 10, 3) := by decide +kernel
theorem dX7_family_63 : decode cX7_family 63 = .ok (.aload_n 0, 1) := by decide +kernel
theorem dX7_family_64 : decode cX7_family 64 = .ok (.bipush (-4), 2) := by decide +kernel
theorem dX7_family_66 : decode cX7_family 66 = .ok (.invokevirtual 56, 3) := by decide +kernel
theorem dX7_family_69 : decode cX7_family 69 = .ok (.ireturn, 1) := by decide +kernel
theorem dX7_family_70 : decode cX7_family 70 = .ok (.aload_n 0, 1) := by decide +kernel
theorem dX7_family_71 : decode cX7_family 71 = .ok (.invokevirtual 60, 3) := by decide +kernel
theorem dX7_family_74 : decode cX7_family 74 = .ok (.aload_n 0, 1) := by decide +kernel
theorem dX7_family_75 : decode cX7_family 75 = .ok (.invokevirtual 63, 3) := by decide +kernel
theorem dX7_family_78 : decode cX7_family 78 = .ok (.aload_n 0, 1) := by decide +kernel
theorem dX7_family_79 : decode cX7_family 79 = .ok (.iload 5, 2) := by decide +kernel
theorem dX7_family_81 : decode cX7_family 81 = .ok (.invokevirtual 77, 3) := by decide +kernel
theorem dX7_family_84 : decode cX7_family 84 = .ok (.iload 6, 2) := by decide +kernel
theorem dX7_family_86 : decode cX7_family 86 = .ok (.ireturn, 1) := by decide +kernel
theorem dX7_off_0 : decode cX7_off 0 = .ok (.aload_n 0, 1) := by decide +kernel
theorem dX7_off_1 : decode cX7_off 1 = .ok (.iload_n 1, 1) := by decide +kernel
theorem dX7_off_2 : decode cX7_off 2 = .ok (.invokevirtual 81, 3) := by decide +kernel
theorem dX7_off_5 : decode cX7_off 5 = .ok (.ifCond .eq 13, 3) := by decide +kernel
theorem dX7_off_8 : decode cX7_off 8 = .ok (.iload_n 2, 1) := by decide +kernel
theorem dX7_off_9 : decode cX7_off 9 = .ok (.iconst 1, 1) := by decide +kernel
theorem dX7_off_10 : decode cX7_off 10 = .ok (.bipush 60, 2) := by decide +kernel
theorem dX7_off_12 : decode cX7_off 12 = .ok (.invokestatic 45, 3) := by decide +kernel
theorem dX7_off_15 : decode cX7_off 15 = .ok (.ifCond .ne 10, 3) := by decide +kernel
theorem dX7_off_18 : decode cX7_off 18 = .ok (.aload_n 0, 1) := by decide +kernel
theorem dX7_off_19 : decode cX7_off 19 = .ok (.bipush (-2), 2) := by decide +kernel
theorem dX7_off_21 : decode cX7_off 21 = .ok (.invokevirtual 56, 3) := by decide +kernel
theorem dX7_off_24 : decode cX7_off 24 = .ok (.ireturn, 1) := by decide +kernel
theorem dX7_off_25 : decode cX7_off 25 = .ok (.aload_n 0, 1) := by decide +kernel
theorem dX7_off_26 : decode cX7_off 26 = .ok (.invokevirtual 60, 3) := by decide +kernel
theorem dX7_off_29 : decode cX7_off 29 = .ok (.aload_n 0, 1) := by decide +kernel
theorem dX7_off_30 : decode cX7_off 30 = .ok (.invokevirtual 63, 3) := by decide +kernel
theorem dX7_off_33 : decode cX7_off 33 = .ok (.aload_n 0, 1) := by decide +kernel
theorem dX7_off_34 : decode cX7_off 34 = .ok (.iload_n 1, 1) := by decide +kernel
theorem dX7_off_35 : decode cX7_off 35 = .ok (.iconst 3, 1) := by decide +kernel
theorem dX7_off_36 : decode cX7_off 36 = .ok (.invokevirtual 85, 3) := by decide +kernel
theorem dX7_off_39 : decode cX7_off 39 = .ok (.istore_n 3, 1) := by decide +kernel
theorem dX7_off_40 : decode cX7_off 40 = .ok (.aload_n 0, 1) := by decide +kernel
theorem dX7_off_41 : decode cX7_off 41 = .ok (.getfield 7, 3) := by decide +kernel
theorem dX7_off_44 : decode cX7_off 44 = .ok (.iconst 4, 1) := by decide +kernel
theorem dX7_off_45 : decode cX7_off 45 = .ok (.iconst 4, 1) := by decide +kernel
theorem dX7_off_46 : decode cX7_off 46 = .ok (.iload_n 1, 1) := by decide +kernel
theorem dX7_off_47 : decode cX7_off 47 = .ok (.imul, 1) := by decide +kernel
theorem dX7_off_48 : decode cX7_off 48 = .ok (.iadd, 1) := by decide +kernel
theorem dX7_off_49 : decode cX7_off 49 = .ok (.iload_n 2, 1) := by decide +kernel
theorem dX7_off_50 : decode cX7_off 50 = .ok (.iastore, 1) := by decide +kernel
theorem dX7_off_51 : decode cX7_off 51 = .ok (.iload_n 3, 1) := by decide +kernel
theorem dX7_off_52 : decode cX7_off 52 = .ok (.ireturn, 1) := by decide +kernel
theorem dX7_goes_0 : decode cX7_goes 0 = .ok (.iconst 1, 1) := by decide +kernel
theorem dX7_goes_1 : decode cX7_goes 1 = .ok (.iconst 4, 1) := by decide +kernel
theorem dX7_goes_2 : decode cX7_goes 2 = .ok (.iload_n 1, 1) := by decide +kernel
theorem dX7_goes_3 : decode cX7_goes 3 = .ok (.imul, 1) := by decide +kernel
theorem dX7_goes_4 : decode cX7_goes 4 = .ok (.iadd, 1) := by decide +kernel
theorem dX7_goes_5 : decode cX7_goes 5 = .ok (.istore_n 2, 1) := by decide +kernel
theorem dX7_goes_6 : decode cX7_goes 6 = .ok (.iload_n 2, 1) := by decide +kernel
theorem dX7_goes_7 : decode cX7_goes 7 = .ok (.iconst 4, 1) := by decide +kernel
theorem dX7_goes_8 : decode cX7_goes 8 = .ok (.aload_n 0, 1) := by decide +kernel
theorem dX7_goes_9 : decode cX7_goes 9 = .ok (.getfield 7, 3) := by decide +kernel
theorem dX7_goes_12 : decode cX7_goes 12 = .ok (.iconst 0, 1) := by decide +kernel
theorem dX7_goes_13 : decode cX7_goes 13 = .ok (.iaload, 1) := by decide +kernel
theorem dX7_goes_14 : decode cX7_goes 14 = .ok (.imul, 1) := by decide +kernel
theorem dX7_goes_15 : decode cX7_goes 15 = .ok (.iconst 3, 1) := by decide +kernel
theorem dX7_goes_16 : decode cX7_goes 16 = .ok (.isub, 1) := by decide +kernel
theorem dX7_goes_17 : decode cX7_goes 17 = .ok (.if_icmp .ge 23, 3) := by decide +kernel
theorem dX7_goes_20 : decode cX7_goes 20 = .ok (.aload_n 0, 1) := by decide +kernel
theorem dX7_goes_21 : decode cX7_goes 21 = .ok (.getfield 7, 3) := by decide +kernel
theorem dX7_goes_24 : decode cX7_goes 24 = .ok (.iload_n 2, 1) := by decide +kernel
theorem dX7_goes_25 : decode cX7_goes 25 = .ok (.aload_n 0, 1) := by decide +kernel
theorem dX7_goes_26 : decode cX7_goes 26 = .ok (.getfield 7, 3) := by decide +kernel
theorem dX7_goes_29 : decode cX7_goes 29 = .ok (.iload_n 2, 1) := by decide +kernel
theorem dX7_goes_30 : decode cX7_goes 30 = .ok (.iconst 4, 1) := by decide +kernel
theorem dX7_goes_31 : decode cX7_goes 31 = .ok (.iadd, 1) := by decide +kernel
theorem dX7_goes_32 : decode cX7_goes 32 = .ok (.iaload, 1) := by decide +kernel
theorem dX7_goes_33 : decode cX7_goes 33 = .ok (.iastore, 1) := by decide +kernel
theorem dX7_goes_34 : decode cX7_goes 34 = .ok (.iinc 2 1, 3) := by decide +kernel
theorem dX7_goes_37 : decode cX7_goes 37 = .ok (.goto (-31), 3) := by decide +kernel
theorem dX7_goes_40 : decode cX7_goes 40 = .ok (.aload_n 0, 1) := by decide +kernel
theorem dX7_goes_41 : decode cX7_goes 41 = .ok (.getfield 7, 3) := by decide +kernel
theorem dX7_goes_44 : decode cX7_goes 44 = .ok (.iconst 0, 1) := by decide +kernel
theorem dX7_goes_45 : decode cX7_goes 45 = .ok (.dup2, 1) := by decide +kernel
theorem dX7_goes_46 : decode cX7_goes 46 = .ok (.iaload, 1) := by decide +kernel
theorem dX7_goes_47 : decode cX7_goes 47 = .ok (.iconst 1, 1) := by decide +kernel
theorem dX7_goes_48 : decode cX7_goes 48 = .ok (.isub, 1) := by decide +kernel
theorem dX7_goes_49 : decode cX7_goes 49 = .ok (.iastore, 1) := by decide +kernel
theorem dX7_goes_50 : decode cX7_goes 50 = .ok (.return_, 1) := by decide +kernel
theorem dX7_drop_0 : decode cX7_drop 0 = .ok (.aload_n 0, 1) := by decide +kernel
theorem dX7_drop_1 : decode cX7_drop 1 = .ok (.iload_n 1, 1) := by decide +kernel
theorem dX7_drop_2 : decode cX7_drop 2 = .ok (.invokevirtual 81, 3) := by decide +kernel
theorem dX7_drop_5 : decode cX7_drop 5 = .ok (.ifCond .eq 9, 3) := by decide +kernel
theorem dX7_drop_8 : decode cX7_drop 8 = .ok (.iload_n 1, 1) := by decide +kernel
theorem dX7_drop_9 : decode cX7_drop 9 = .ok (.bipush 6, 2) := by decide +kernel
theorem dX7_drop_11 : decode cX7_drop 11 = .ok (.if_icmp .ge 10, 3) := by decide +kernel
theorem dX7_drop_14 : decode cX7_drop 14 = .ok (.aload_n 0, 1) := by decide +kernel
theorem dX7_drop_15 : decode cX7_drop 15 = .ok (.bipush (-2), 2) := by decide +kernel
theorem dX7_drop_17 : decode cX7_drop 17 = .ok (.invokevirtual 56, 3) := by decide +kernel
theorem dX7_drop_20 : decode cX7_drop 20 = .ok (.ireturn, 1) := by decide +kernel
theorem dX7_drop_21 : decode cX7_drop 21 = .ok (.aload_n 0, 1) := by decide +kernel
theorem dX7_drop_22 : decode cX7_drop 22 = .ok (.invokevirtual 60, 3) := by decide +kernel
theorem dX7_drop_25 : decode cX7_drop 25 = .ok (.aload_n 0, 1) := by decide +kernel
theorem dX7_drop_26 : decode cX7_drop 26 = .ok (.invokevirtual 63, 3) := by decide +kernel
theorem dX7_drop_29 : decode cX7_drop 29 = .ok (.aload_n 0, 1) := by decide +kernel
theorem dX7_drop_30 : decode cX7_drop 30 = .ok (.iload_n 1, 1) := by decide +kernel
theorem dX7_drop_31 : decode cX7_drop 31 = .ok (.invokevirtual 89, 3) := by decide +kernel
theorem dX7_drop_34 : decode cX7_drop 34 = .ok (.aload_n 0, 1) := by decide +kernel
theorem dX7_drop_35 : decode cX7_drop 35 = .ok (.getfield 7, 3) := by decide +kernel
theorem dX7_drop_38 : decode cX7_drop 38 = .ok (.iconst 0, 1) := by decide +kernel
theorem dX7_drop_39 : decode cX7_drop 39 = .ok (.iaload, 1) := by decide +kernel
theorem dX7_drop_40 : decode cX7_drop 40 = .ok (.ireturn, 1) := by decide +kernel
theorem dX7_anew_0 : decode cX7_anew 0 = .ok (.aload_n 0, 1) := by decide +kernel
theorem dX7_anew_1 : decode cX7_anew 1 = .ok (.invokevirtual 60, 3) := by decide +kernel
theorem dX7_anew_4 : decode cX7_anew 4 = .ok (.aload_n 0, 1) := by decide +kernel
theorem dX7_anew_5 : decode cX7_anew 5 = .ok (.invokevirtual 63, 3) := by decide +kernel
theorem dX7_anew_8 : decode cX7_anew 8 = .ok (.aload_n 0, 1) := by decide +kernel
theorem dX7_anew_9 : decode cX7_anew 9 = .ok (.getfield 7, 3) := by decide +kernel
theorem dX7_anew_12 : decode cX7_anew 12 = .ok (.iconst 0, 1) := by decide +kernel
theorem dX7_anew_13 : decode cX7_anew 13 = .ok (.iaload, 1) := by decide +kernel
theorem dX7_anew_14 : decode cX7_anew 14 = .ok (.istore_n 1, 1) := by decide +kernel
theorem dX7_anew_15 : decode cX7_anew 15 = .ok (.aload_n 0, 1) := by decide +kernel
theorem dX7_anew_16 : decode cX7_anew 16 = .ok (.getfield 7, 3) := by decide +kernel
theorem dX7_anew_19 : decode cX7_anew 19 = .ok (.iconst 0, 1) := by decide +kernel
theorem dX7_anew_20 : decode cX7_anew 20 = .ok (.bipush 6, 2) := by decide +kernel
theorem dX7_anew_22 : decode cX7_anew 22 = .ok (.iastore, 1) := by decide +kernel
theorem dX7_anew_23 : decode cX7_anew 23 = .ok (.iconst 0, 1) := by decide +kernel
theorem dX7_anew_24 : decode cX7_anew 24 = .ok (.istore_n 2, 1) := by decide +kernel
theorem dX7_anew_25 : decode cX7_anew 25 = .ok (.iload_n 2, 1) := by decide +kernel
theorem dX7_anew_26 : decode cX7_anew 26 = .ok (.bipush 6, 2) := by decide +kernel
theorem dX7_anew_28 : decode cX7_anew 28 = .ok (.if_icmp .ge 21, 3) := by decide +kernel
theorem dX7_anew_31 : decode cX7_anew 31 = .ok (.aload_n 0, 1) := by decide +kernel
theorem dX7_anew_32 : decode cX7_anew 32 = .ok (.getfield 7, 3) := by decide +kernel
theorem dX7_anew_35 : decode cX7_anew 35 = .ok (.iconst 4, 1) := by decide +kernel
theorem dX7_anew_36 : decode cX7_anew 36 = .ok (.iconst 4, 1) := by decide +kernel
theorem dX7_anew_37 : decode cX7_anew 37 = .ok (.iload_n 2, 1) := by decide +kernel
theorem dX7_anew_38 : decode cX7_anew 38 = .ok (.imul, 1) := by decide +kernel
theorem dX7_anew_39 : decode cX7_anew 39 = .ok (.iadd, 1) := by decide +kernel
theorem dX7_anew_40 : decode cX7_anew 40 = .ok (.bipush 20, 2) := by decide +kernel
theorem dX7_anew_42 : decode cX7_anew 42 = .ok (.iastore, 1) := by decide +kernel
theorem dX7_anew_43 : decode cX7_anew 43 = .ok (.iinc 2 1, 3) := by decide +kernel
theorem dX7_anew_46 : decode cX7_anew 46 = .ok (.goto (-21), 3) := by decide +kernel
theorem dX7_anew_49 : decode cX7_anew 49 = .ok (.iload_n 1, 1) := by decide +kernel
theorem dX7_anew_50 : decode cX7_anew 50 = .ok (.ireturn, 1) := by decide +kernel
theorem dX7_draw_0 : decode cX7_draw 0 = .ok (.iload_n 1, 1) := by decide +kernel
theorem dX7_draw_1 : decode cX7_draw 1 = .ok (.iconst 0, 1) := by decide +kernel
theorem dX7_draw_2 : decode cX7_draw 2 = .ok (.ldc 92, 2) := by decide +kernel
theorem dX7_draw_4 : decode cX7_draw 4 = .ok (.invokestatic 45, 3) := by decide +kernel
theorem dX7_draw_7 : decode cX7_draw 7 = .ok (.ifCond .eq 13, 3) := by decide +kernel
theorem dX7_draw_10 : decode cX7_draw 10 = .ok (.iload_n 2, 1) := by decide +kernel
theorem dX7_draw_11 : decode cX7_draw 11 = .ok (.iconst 1, 1) := by decide +kernel
theorem dX7_draw_12 : decode cX7_draw 12 = .ok (.bipush 26, 2) := by decide +kernel
theorem dX7_draw_14 : decode cX7_draw 14 = .ok (.invokestatic 45, 3) := by decide +kernel
theorem dX7_draw_17 : decode cX7_draw 17 = .ok (.ifCond .ne 10, 3) := by decide +kernel
theorem dX7_draw_20 : decode cX7_draw 20 = .ok (.aload_n 0, 1) := by decide +kernel
theorem dX7_draw_21 : decode cX7_draw 21 = .ok (.bipush (-2), 2) := by decide +kernel
theorem dX7_draw_23 : decode cX7_draw 23 = .ok (.invokevirtual 56, 3) := by decide +kernel
theorem dX7_draw_26 : decode cX7_draw 26 = .ok (.ireturn, 1) := by decide +kernel
theorem dX7_draw_27 : decode cX7_draw 27 = .ok (.aload_n 0, 1) := by decide +kernel
theorem dX7_draw_28 : decode cX7_draw 28 = .ok (.invokevirtual 60, 3) := by decide +kernel
theorem dX7_draw_31 : decode cX7_draw 31 = .ok (.aload_n 0, 1) := by decide +kernel
theorem dX7_draw_32 : decode cX7_draw 32 = .ok (.invokevirtual 63, 3) := by decide +kernel
theorem dX7_draw_35 : decode cX7_draw 35 = .ok (.aload_n 0, 1) := by decide +kernel
theorem dX7_draw_36 : decode cX7_draw 36 = .ok (.getfield 7, 3) := by decide +kernel
theorem dX7_draw_39 : decode cX7_draw 39 = .ok (.iconst 0, 1) := by decide +kernel
theorem dX7_draw_40 : decode cX7_draw 40 = .ok (.bipush 6, 2) := by decide +kernel
theorem dX7_draw_42 : decode cX7_draw 42 = .ok (.iastore, 1) := by decide +kernel
theorem dX7_draw_43 : decode cX7_draw 43 = .ok (.iload_n 1, 1) := by decide +kernel
theorem dX7_draw_44 : decode cX7_draw 44 = .ok (.i2l, 1) := by decide +kernel
theorem dX7_draw_45 : decode cX7_draw 45 = .ok (.lstore_n 3, 1) := by decide +kernel
theorem dX7_draw_46 : decode cX7_draw 46 = .ok (.iconst 0, 1) := by decide +kernel
theorem dX7_draw_47 : decode cX7_draw 47 = .ok (.istore 5, 2) := by decide +kernel
theorem dX7_draw_49 : decode cX7_draw 49 = .ok (.iload 5, 2) := by decide +kernel
theorem dX7_draw_51 : decode cX7_draw 51 = .ok (.iload_n 2, 1) := by decide +kernel
theorem dX7_draw_52 : decode cX7_draw 52 = .ok (.if_icmp .ge 107, 3) := by decide +kernel
theorem dX7_draw_55 : decode cX7_draw 55 = .ok (.lload_n 3, 1) := by decide +kernel
theorem dX7_draw_56 : decode cX7_draw 56 = .ok (.ldc2_w 93, 3) := by decide +kernel
theorem dX7_draw_59 : decode cX7_draw 59 = .ok (.lmul, 1) := by decide +kernel
theorem dX7_draw_60 : decode cX7_draw 60 = .ok (.ldc2_w 95, 3) := by decide +kernel
theorem dX7_draw_63 : decode cX7_draw 63 = .ok (.ladd, 1) := by decide +kernel
theorem dX7_draw_64 : decode cX7_draw 64 = .ok (.ldc2_w 97, 3) := by decide +kernel
theorem dX7_draw_67 : decode cX7_draw 67 = .ok (.lrem, 1) := by decide +kernel
theorem dX7_draw_68 : decode cX7_draw 68 = .ok (.lstore_n 3, 1) := by decide +kernel
theorem dX7_draw_69 : decode cX7_draw 69 = .ok (.lload_n 3, 1) := by decide +kernel
theorem dX7_draw_70 : decode cX7_draw 70 = .ok (.ldc2_w 99, 3) := by decide +kernel
theorem dX7_draw_73 : decode cX7_draw 73 = .ok (.ldiv, 1) := by decide +kernel
theorem dX7_draw_74 : decode cX7_draw 74 = .ok (.ldc2_w 101, 3) := by decide +kernel
theorem dX7_draw_77 : decode cX7_draw 77 = .ok (.lrem, 1) := by decide +kernel
theorem dX7_draw_78 : decode cX7_draw 78 = .ok (.l2i, 1) := by decide +kernel
theorem dX7_draw_79 : decode cX7_draw 79 = .ok (.iconst 3, 1) := by decide +kernel
theorem dX7_draw_80 : decode cX7_draw 80 = .ok (.isub, 1) := by decide +kernel
theorem dX7_draw_81 : decode cX7_draw 81 = .ok (.istore 6, 2) := by decide +kernel
theorem dX7_draw_83 : decode cX7_draw 83 = .ok (.lload_n 3, 1) := by decide +kernel
theorem dX7_draw_84 : decode cX7_draw 84 = .ok (.ldc2_w 103, 3) := by decide +kernel
theorem dX7_draw_87 : decode cX7_draw 87 = .ok (.ldiv, 1) := by decide +kernel
theorem dX7_draw_88 : decode cX7_draw 88 = .ok (.ldc2_w 101, 3) := by decide +kernel
theorem dX7_draw_91 : decode cX7_draw 91 = .ok (.lrem, 1) := by decide +kernel
theorem dX7_draw_92 : decode cX7_draw 92 = .ok (.l2i, 1) := by decide +kernel
theorem dX7_draw_93 : decode cX7_draw 93 = .ok (.iconst 3, 1) := by decide +kernel
theorem dX7_draw_94 : decode cX7_draw 94 = .ok (.isub, 1) := by decide +kernel
theorem dX7_draw_95 : decode cX7_draw 95 = .ok (.istore 7, 2) := by decide +kernel
theorem dX7_draw_97 : decode cX7_draw 97 = .ok (.lload_n 3, 1) := by decide +kernel
theorem dX7_draw_98 : decode cX7_draw 98 = .ok (.ldc2_w 105, 3) := by decide +kernel
theorem dX7_draw_101 : decode cX7_draw 101 = .ok (.ldiv, 1) := by decide +kernel
theorem dX7_draw_102 : decode cX7_draw 102 = .ok (.ldc2_w 101, 3) := by decide +kernel
theorem dX7_draw_105 : decode cX7_draw 105 = .ok (.lrem, 1) := by decide +kernel
theorem dX7_draw_106 : decode cX7_draw 106 = .ok (.l2i, 1) := by decide +kernel
theorem dX7_draw_107 : decode cX7_draw 107 = .ok (.iconst 3, 1) := by decide +kernel
theorem dX7_draw_108 : decode cX7_draw 108 = .ok (.isub, 1) := by decide +kernel
theorem dX7_draw_109 : decode cX7_draw 109 = .ok (.istore 8, 2) := by decide +kernel
theorem dX7_draw_111 : decode cX7_draw 111 = .ok (.aload_n 0, 1) := by decide +kernel
theorem dX7_draw_112 : decode cX7_draw 112 = .ok (.iload 6, 2) := by decide +kernel
theorem dX7_draw_114 : decode cX7_draw 114 = .ok (.ifCond .ne 17, 3) := by decide +kernel
theorem dX7_draw_117 : decode cX7_draw 117 = .ok (.iload 7, 2) := by decide +kernel
theorem dX7_draw_119 : decode cX7_draw 119 = .ok (.ifCond .ne 12, 3) := by decide +kernel
theorem dX7_draw_122 : decode cX7_draw 122 = .ok (.iload 8, 2) := by decide +kernel
theorem dX7_draw_124 : decode cX7_draw 124 = .ok (.ifCond .ne 7, 3) := by decide +kernel
theorem dX7_draw_127 : decode cX7_draw 127 = .ok (.iconst 1, 1) := by decide +kernel
theorem dX7_draw_128 : decode cX7_draw 128 = .ok (.goto 5, 3) := by decide +kernel
theorem dX7_draw_131 : decode cX7_draw 131 = .ok (.iload 6, 2) := by decide +kernel
theorem dX7_draw_133 : decode cX7_draw 133 = .ok (.iload 7, 2) := by decide +kernel
theorem dX7_draw_135 : decode cX7_draw 135 = .ok (.iload 8, 2) := by decide +kernel
theorem dX7_draw_137 : decode cX7_draw 137 = .ok (.bipush 10, 2) := by decide +kernel
theorem dX7_draw_139 : decode cX7_draw 139 = .ok (.lload_n 3, 1) := by decide +kernel
theorem dX7_draw_140 : decode cX7_draw 140 = .ok (.ldc2_w 107, 3) := by decide +kernel
theorem dX7_draw_143 : decode cX7_draw 143 = .ok (.ldiv, 1) := by decide +kernel
theorem dX7_draw_144 : decode cX7_draw 144 = .ok (.ldc2_w 109, 3) := by decide +kernel
theorem dX7_draw_147 : decode cX7_draw 147 = .ok (.lrem, 1) := by decide +kernel
theorem dX7_draw_148 : decode cX7_draw 148 = .ok (.l2i, 1) := by decide +kernel
theorem dX7_draw_149 : decode cX7_draw 149 = .ok (.iadd, 1) := by decide +kernel
theorem dX7_draw_150 : decode cX7_draw 150 = .ok (.invokevirtual 66, 3) := by decide +kernel
theorem dX7_draw_153 : decode cX7_draw 153 = .ok (.iinc 5 1, 3) := by decide +kernel
theorem dX7_draw_156 : decode cX7_draw 156 = .ok (.goto (-107), 3) := by decide +kernel
theorem dX7_draw_159 : decode cX7_draw 159 = .ok (.aload_n 0, 1) := by decide +kernel
theorem dX7_draw_160 : decode cX7_draw 160 = .ok (.invokevirtual 111, 3) := by decide +kernel
theorem dX7_draw_163 : decode cX7_draw 163 = .ok (.aload_n 0, 1) := by decide +kernel
theorem dX7_draw_164 : decode cX7_draw 164 = .ok (.getfield 114, 3) := by decide +kernel
theorem dX7_draw_167 : decode cX7_draw 167 = .ok (.ireturn, 1) := by decide +kernel
theorem dX7_common_0 : decode cX7_common 0 = .ok (.iload_n 0, 1) := by decide +kernel
theorem dX7_common_1 : decode cX7_common 1 = .ok (.ifCond .ge 8, 3) := by decide +kernel
theorem dX7_common_4 : decode cX7_common 4 = .ok (.iload_n 0, 1) := by decide +kernel
theorem dX7_common_5 : decode cX7_common 5 = .ok (.ineg, 1) := by decide +kernel
theorem dX7_common_6 : decode cX7_common 6 = .ok (.goto 4, 3) := by decide +kernel
theorem dX7_common_9 : decode cX7_common 9 = .ok (.iload_n 0, 1) := by decide +kernel
theorem dX7_common_10 : decode cX7_common 10 = .ok (.istore_n 2, 1) := by decide +kernel
theorem dX7_common_11 : decode cX7_common 11 = .ok (.iload_n 1, 1) := by decide +kernel
theorem dX7_common_12 : decode cX7_common 12 = .ok (.ifCond .ge 8, 3) := by decide +kernel
theorem dX7_common_15 : decode cX7_common 15 = .ok (.iload_n 1, 1) := by decide +kernel
theorem dX7_common_16 : decode cX7_common 16 = .ok (.ineg, 1) := by decide +kernel
theorem dX7_common_17 : decode cX7_common 17 = .ok (.goto 4, 3) := by decide +kernel
theorem dX7_common_20 : decode cX7_common 20 = .ok (.iload_n 1, 1) := by decide +kernel
theorem dX7_common_21 : decode cX7_common 21 = .ok (.istore_n 3, 1) := by decide +kernel
theorem dX7_common_22 : decode cX7_common 22 = .ok (.iload_n 3, 1) := by decide +kernel
theorem dX7_common_23 : decode cX7_common 23 = .ok (.ifCond .eq 16, 3) := by decide +kernel
theorem dX7_common_26 : decode cX7_common 26 = .ok (.iload_n 2, 1) := by decide +kernel
theorem dX7_common_27 : decode cX7_common 27 = .ok (.iload_n 3, 1) := by decide +kernel
theorem dX7_common_28 : decode cX7_common 28 = .ok (.irem, 1) := by decide +kernel
theorem dX7_common_29 : decode cX7_common 29 = .ok (.istore 4, 2) := by decide +kernel
theorem dX7_common_31 : decode cX7_common 31 = .ok (.iload_n 3, 1) := by decide +kernel
theorem dX7_common_32 : decode cX7_common 32 = .ok (.istore_n 2, 1) := by decide +kernel
theorem dX7_common_33 : decode cX7_common 33 = .ok (.iload 4, 2) := by decide +kernel
theorem dX7_common_35 : decode cX7_common 35 = .ok (.istore_n 3, 1) := by decide +kernel
theorem dX7_common_36 : decode cX7_common 36 = .ok (.goto (-14), 3) := by decide +kernel
theorem dX7_common_39 : decode cX7_common 39 = .ok (.iload_n 2, 1) := by decide +kernel
theorem dX7_common_40 : decode cX7_common 40 = .ok (.ireturn, 1) := by decide +kernel
theorem dX7_determinant_0 : decode cX7_determinant 0 = .ok (.aload_n 0, 1) := by decide +kernel
theorem dX7_determinant_1 : decode cX7_determinant 1 = .ok (.getfield 7, 3) := by decide +kernel
theorem dX7_determinant_4 : decode cX7_determinant 4 = .ok (.astore 5, 2) := by decide +kernel
theorem dX7_determinant_6 : decode cX7_determinant 6 = .ok (.iconst 1, 1) := by decide +kernel
theorem dX7_determinant_7 : decode cX7_determinant 7 = .ok (.iconst 4, 1) := by decide +kernel
theorem dX7_determinant_8 : decode cX7_determinant 8 = .ok (.iload_n 1, 1) := by decide +kernel
theorem dX7_determinant_9 : decode cX7_determinant 9 = .ok (.imul, 1) := by decide +kernel
theorem dX7_determinant_10 : decode cX7_determinant 10 = .ok (.iadd, 1) := by decide +kernel
theorem dX7_determinant_11 : decode cX7_determinant 11 = .ok (.istore 6, 2) := by decide +kernel
theorem dX7_determinant_13 : decode cX7_determinant 13 = .ok (.iconst 1, 1) := by decide +kernel
theorem dX7_determinant_14 : decode cX7_determinant 14 = .ok (.iconst 4, 1) := by decide +kernel
theorem dX7_determinant_15 : decode cX7_determinant 15 = .ok (.iload_n 2, 1) := by decide +kernel
theorem dX7_determinant_16 : decode cX7_determinant 16 = .ok (.imul, 1) := by decide +kernel
theorem dX7_determinant_17 : decode cX7_determinant 17 = .ok (.iadd, 1) := by decide +kernel
theorem dX7_determinant_18 : decode cX7_determinant 18 = .ok (.istore 7, 2) := by decide +kernel
theorem dX7_determinant_20 : decode cX7_determinant 20 = .ok (.iconst 1, 1) := by decide +kernel
theorem dX7_determinant_21 : decode cX7_determinant 21 = .ok (.iconst 4, 1) := by decide +kernel
theorem dX7_determinant_22 : decode cX7_determinant 22 = .ok (.iload_n 3, 1) := by decide +kernel
theorem dX7_determinant_23 : decode cX7_determinant 23 = .ok (.imul, 1) := by decide +kernel
theorem dX7_determinant_24 : decode cX7_determinant 24 = .ok (.iadd, 1) := by decide +kernel
theorem dX7_determinant_25 : decode cX7_determinant 25 = .ok (.istore 8, 2) := by decide +kernel
theorem dX7_determinant_27 : decode cX7_determinant 27 = .ok (.iload 4, 2) := by decide +kernel
theorem dX7_determinant_29 : decode cX7_determinant 29 = .ok (.ifCond .ne 7, 3) := by decide +kernel
theorem dX7_determinant_32 : decode cX7_determinant 32 = .ok (.iconst 3, 1) := by decide +kernel
theorem dX7_determinant_33 : decode cX7_determinant 33 = .ok (.goto 4, 3) := by decide +kernel
theorem dX7_determinant_36 : decode cX7_determinant 36 = .ok (.iconst 0, 1) := by decide +kernel
theorem dX7_determinant_37 : decode cX7_determinant 37 = .ok (.istore 9, 2) := by decide +kernel
theorem dX7_determinant_39 : decode cX7_determinant 39 = .ok (.iload 4, 2) := by decide +kernel
theorem dX7_determinant_41 : decode cX7_determinant 41 = .ok (.iconst 1, 1) := by decide +kernel
theorem dX7_determinant_42 : decode cX7_determinant 42 = .ok (.if_icmp .ne 7, 3) := by decide +kernel
theorem dX7_determinant_45 : decode cX7_determinant 45 = .ok (.iconst 3, 1) := by decide +kernel
theorem dX7_determinant_46 : decode cX7_determinant 46 = .ok (.goto 4, 3) := by decide +kernel
theorem dX7_determinant_49 : decode cX7_determinant 49 = .ok (.iconst 1, 1) := by decide +kernel
theorem dX7_determinant_50 : decode cX7_determinant 50 = .ok (.istore 10, 2) := by decide +kernel
theorem dX7_determinant_52 : decode cX7_determinant 52 = .ok (.iload 4, 2) := by decide +kernel
theorem dX7_determinant_54 : decode cX7_determinant 54 = .ok (.iconst 2, 1) := by decide +kernel
theorem dX7_determinant_55 : decode cX7_determinant 55 = .ok (.if_icmp .ne 7, 3) := by decide +kernel
theorem dX7_determinant_58 : decode cX7_determinant 58 = .ok (.iconst 3, 1) := by decide +kernel
theorem dX7_determinant_59 : decode cX7_determinant 59 = .ok (.goto 4, 3) := by decide +kernel
theorem dX7_determinant_62 : decode cX7_determinant 62 = .ok (.iconst 2, 1) := by decide +kernel
theorem dX7_determinant_63 : decode cX7_determinant 63 = .ok (.istore 11, 2) := by decide +kernel
theorem dX7_determinant_65 : decode cX7_determinant 65 = .ok (.aload 5, 2) := by decide +kernel
theorem dX7_determinant_67 : decode cX7_determinant 67 = .ok (.iload 6, 2) := by decide +kernel
theorem dX7_determinant_69 : decode cX7_determinant 69 = .ok (.iload 9, 2) := by decide +kernel
theorem dX7_determinant_71 : decode cX7_determinant 71 = .ok (.iadd, 1) := by decide +kernel
theorem dX7_determinant_72 : decode cX7_determinant 72 = .ok (.iaload, 1) := by decide +kernel
theorem dX7_determinant_73 : decode cX7_determinant 73 = .ok (.aload 5, 2) := by decide +kernel
theorem dX7_determinant_75 : decode cX7_determinant 75 = .ok (.iload 7, 2) := by decide +kernel
theorem dX7_determinant_77 : decode cX7_determinant 77 = .ok (.iload 10, 2) := by decide +kernel
theorem dX7_determinant_79 : decode cX7_determinant 79 = .ok (.iadd, 1) := by decide +kernel
theorem dX7_determinant_80 : decode cX7_determinant 80 = .ok (.iaload, 1) := by decide +kernel
theorem dX7_determinant_81 : decode cX7_determinant 81 = .ok (.aload 5, 2) := by decide +kernel
theorem dX7_determinant_83 : decode cX7_determinant 83 = .ok (.iload 8, 2) := by decide +kernel
theorem dX7_determinant_85 : decode cX7_determinant 85 = .ok (.iload 11, 2) := by decide +kernel
theorem dX7_determinant_87 : decode cX7_determinant 87 = .ok (.iadd, 1) := by decide +kernel
theorem dX7_determinant_88 : decode cX7_determinant 88 = .ok (.iaload, 1) := by decide +kernel
theorem dX7_determinant_89 : decode cX7_determinant 89 = .ok (.imul, 1) := by decide +kernel
theorem dX7_determinant_90 : decode cX7_determinant 90 = .ok (.aload 5, 2) := by decide +kernel
theorem dX7_determinant_92 : decode cX7_determinant 92 = .ok (.iload 7, 2) := by decide +kernel
theorem dX7_determinant_94 : decode cX7_determinant 94 = .ok (.iload 11, 2) := by decide +kernel
theorem dX7_determinant_96 : decode cX7_determinant 96 = .ok (.iadd, 1) := by decide +kernel
theorem dX7_determinant_97 : decode cX7_determinant 97 = .ok (.iaload, 1) := by decide +kernel
theorem dX7_determinant_98 : decode cX7_determinant 98 = .ok (.aload 5, 2) := by decide +kernel
theorem dX7_determinant_100 : decode cX7_determinant 100 = .ok (.iload 8, 2) := by decide +kernel
theorem dX7_determinant_102 : decode cX7_determinant 102 = .ok (.iload 10, 2) := by decide +kernel
theorem dX7_determinant_104 : decode cX7_determinant 104 = .ok (.iadd, 1) := by decide +kernel
theorem dX7_determinant_105 : decode cX7_determinant 105 = .ok (.iaload, 1) := by decide +kernel
theorem dX7_determinant_106 : decode cX7_determinant 106 = .ok (.imul, 1) := by decide +kernel
theorem dX7_determinant_107 : decode cX7_determinant 107 = .ok (.isub, 1) := by decide +kernel
theorem dX7_determinant_108 : decode cX7_determinant 108 = .ok (.imul, 1) := by decide +kernel
theorem dX7_determinant_109 : decode cX7_determinant 109 = .ok (.aload 5, 2) := by decide +kernel
theorem dX7_determinant_111 : decode cX7_determinant 111 = .ok (.iload 6, 2) := by decide +kernel
theorem dX7_determinant_113 : decode cX7_determinant 113 = .ok (.iload 10, 2) := by decide +kernel
theorem dX7_determinant_115 : decode cX7_determinant 115 = .ok (.iadd, 1) := by decide +kernel
theorem dX7_determinant_116 : decode cX7_determinant 116 = .ok (.iaload, 1) := by decide +kernel
theorem dX7_determinant_117 : decode cX7_determinant 117 = .ok (.aload 5, 2) := by decide +kernel
theorem dX7_determinant_119 : decode cX7_determinant 119 = .ok (.iload 7, 2) := by decide +kernel
theorem dX7_determinant_121 : decode cX7_determinant 121 = .ok (.iload 9, 2) := by decide +kernel
theorem dX7_determinant_123 : decode cX7_determinant 123 = .ok (.iadd, 1) := by decide +kernel
theorem dX7_determinant_124 : decode cX7_determinant 124 = .ok (.iaload, 1) := by decide +kernel
theorem dX7_determinant_125 : decode cX7_determinant 125 = .ok (.aload 5, 2) := by decide +kernel
theorem dX7_determinant_127 : decode cX7_determinant 127 = .ok (.iload 8, 2) := by decide +kernel
theorem dX7_determinant_129 : decode cX7_determinant 129 = .ok (.iload 11, 2) := by decide +kernel
theorem dX7_determinant_131 : decode cX7_determinant 131 = .ok (.iadd, 1) := by decide +kernel
theorem dX7_determinant_132 : decode cX7_determinant 132 = .ok (.iaload, 1) := by decide +kernel
theorem dX7_determinant_133 : decode cX7_determinant 133 = .ok (.imul, 1) := by decide +kernel
theorem dX7_determinant_134 : decode cX7_determinant 134 = .ok (.aload 5, 2) := by decide +kernel
theorem dX7_determinant_136 : decode cX7_determinant 136 = .ok (.iload 7, 2) := by decide +kernel
theorem dX7_determinant_138 : decode cX7_determinant 138 = .ok (.iload 11, 2) := by decide +kernel
theorem dX7_determinant_140 : decode cX7_determinant 140 = .ok (.iadd, 1) := by decide +kernel
theorem dX7_determinant_141 : decode cX7_determinant 141 = .ok (.iaload, 1) := by decide +kernel
theorem dX7_determinant_142 : decode cX7_determinant 142 = .ok (.aload 5, 2) := by decide +kernel
theorem dX7_determinant_144 : decode cX7_determinant 144 = .ok (.iload 8, 2) := by decide +kernel
theorem dX7_determinant_146 : decode cX7_determinant 146 = .ok (.iload 9, 2) := by decide +kernel
theorem dX7_determinant_148 : decode cX7_determinant 148 = .ok (.iadd, 1) := by decide +kernel
theorem dX7_determinant_149 : decode cX7_determinant 149 = .ok (.iaload, 1) := by decide +kernel
theorem dX7_determinant_150 : decode cX7_determinant 150 = .ok (.imul, 1) := by decide +kernel
theorem dX7_determinant_151 : decode cX7_determinant 151 = .ok (.isub, 1) := by decide +kernel
theorem dX7_determinant_152 : decode cX7_determinant 152 = .ok (.imul, 1) := by decide +kernel
theorem dX7_determinant_153 : decode cX7_determinant 153 = .ok (.isub, 1) := by decide +kernel
theorem dX7_determinant_154 : decode cX7_determinant 154 = .ok (.aload 5, 2) := by decide +kernel
theorem dX7_determinant_156 : decode cX7_determinant 156 = .ok (.iload 6, 2) := by decide +kernel
theorem dX7_determinant_158 : decode cX7_determinant 158 = .ok (.iload 11, 2) := by decide +kernel
theorem dX7_determinant_160 : decode cX7_determinant 160 = .ok (.iadd, 1) := by decide +kernel
theorem dX7_determinant_161 : decode cX7_determinant 161 = .ok (.iaload, 1) := by decide +kernel
theorem dX7_determinant_162 : decode cX7_determinant 162 = .ok (.aload 5, 2) := by decide +kernel
theorem dX7_determinant_164 : decode cX7_determinant 164 = .ok (.iload 7, 2) := by decide +kernel
theorem dX7_determinant_166 : decode cX7_determinant 166 = .ok (.iload 9, 2) := by decide +kernel
theorem dX7_determinant_168 : decode cX7_determinant 168 = .ok (.iadd, 1) := by decide +kernel
theorem dX7_determinant_169 : decode cX7_determinant 169 = .ok (.iaload, 1) := by decide +kernel
theorem dX7_determinant_170 : decode cX7_determinant 170 = .ok (.aload 5, 2) := by decide +kernel
theorem dX7_determinant_172 : decode cX7_determinant 172 = .ok (.iload 8, 2) := by decide +kernel
theorem dX7_determinant_174 : decode cX7_determinant 174 = .ok (.iload 10, 2) := by decide +kernel
theorem dX7_determinant_176 : decode cX7_determinant 176 = .ok (.iadd, 1) := by decide +kernel
theorem dX7_determinant_177 : decode cX7_determinant 177 = .ok (.iaload, 1) := by decide +kernel
theorem dX7_determinant_178 : decode cX7_determinant 178 = .ok (.imul, 1) := by decide +kernel
theorem dX7_determinant_179 : decode cX7_determinant 179 = .ok (.aload 5, 2) := by decide +kernel
theorem dX7_determinant_181 : decode cX7_determinant 181 = .ok (.iload 7, 2) := by decide +kernel
theorem dX7_determinant_183 : decode cX7_determinant 183 = .ok (.iload 10, 2) := by decide +kernel
theorem dX7_determinant_185 : decode cX7_determinant 185 = .ok (.iadd, 1) := by decide +kernel
theorem dX7_determinant_186 : decode cX7_determinant 186 = .ok (.iaload, 1) := by decide +kernel
theorem dX7_determinant_187 : decode cX7_determinant 187 = .ok (.aload 5, 2) := by decide +kernel
theorem dX7_determinant_189 : decode cX7_determinant 189 = .ok (.iload 8, 2) := by decide +kernel
theorem dX7_determinant_191 : decode cX7_determinant 191 = .ok (.iload 9, 2) := by decide +kernel
theorem dX7_determinant_193 : decode cX7_determinant 193 = .ok (.iadd, 1) := by decide +kernel
theorem dX7_determinant_194 : decode cX7_determinant 194 = .ok (.iaload, 1) := by decide +kernel
theorem dX7_determinant_195 : decode cX7_determinant 195 = .ok (.imul, 1) := by decide +kernel
theorem dX7_determinant_196 : decode cX7_determinant 196 = .ok (.isub, 1) := by decide +kernel
theorem dX7_determinant_197 : decode cX7_determinant 197 = .ok (.imul, 1) := by decide +kernel
theorem dX7_determinant_198 : decode cX7_determinant 198 = .ok (.iadd, 1) := by decide +kernel
theorem dX7_determinant_199 : decode cX7_determinant 199 = .ok (.ireturn, 1) := by decide +kernel
theorem dX7_far_0 : decode cX7_far 0 = .ok (.aload_n 0, 1) := by decide +kernel
theorem dX7_far_1 : decode cX7_far 1 = .ok (.iload_n 1, 1) := by decide +kernel
theorem dX7_far_2 : decode cX7_far 2 = .ok (.iconst 0, 1) := by decide +kernel
theorem dX7_far_3 : decode cX7_far 3 = .ok (.invokevirtual 85, 3) := by decide +kernel
theorem dX7_far_6 : decode cX7_far 6 = .ok (.iload_n 2, 1) := by decide +kernel
theorem dX7_far_7 : decode cX7_far 7 = .ok (.imul, 1) := by decide +kernel
theorem dX7_far_8 : decode cX7_far 8 = .ok (.aload_n 0, 1) := by decide +kernel
theorem dX7_far_9 : decode cX7_far 9 = .ok (.iload_n 1, 1) := by decide +kernel
theorem dX7_far_10 : decode cX7_far 10 = .ok (.iconst 1, 1) := by decide +kernel
theorem dX7_far_11 : decode cX7_far 11 = .ok (.invokevirtual 85, 3) := by decide +kernel
theorem dX7_far_14 : decode cX7_far 14 = .ok (.iload_n 3, 1) := by decide +kernel
theorem dX7_far_15 : decode cX7_far 15 = .ok (.imul, 1) := by decide +kernel
theorem dX7_far_16 : decode cX7_far 16 = .ok (.iadd, 1) := by decide +kernel
theorem dX7_far_17 : decode cX7_far 17 = .ok (.aload_n 0, 1) := by decide +kernel
theorem dX7_far_18 : decode cX7_far 18 = .ok (.iload_n 1, 1) := by decide +kernel
theorem dX7_far_19 : decode cX7_far 19 = .ok (.iconst 2, 1) := by decide +kernel
theorem dX7_far_20 : decode cX7_far 20 = .ok (.invokevirtual 85, 3) := by decide +kernel
theorem dX7_far_23 : decode cX7_far 23 = .ok (.iload 4, 2) := by decide +kernel
theorem dX7_far_25 : decode cX7_far 25 = .ok (.imul, 1) := by decide +kernel
theorem dX7_far_26 : decode cX7_far 26 = .ok (.iadd, 1) := by decide +kernel
theorem dX7_far_27 : decode cX7_far 27 = .ok (.ireturn, 1) := by decide +kernel
theorem dX7_isCorner_0 : decode cX7_isCorner 0 = .ok (.iconst 0, 1) := by decide +kernel
theorem dX7_isCorner_1 : decode cX7_isCorner 1 = .ok (.istore 5, 2) := by decide +kernel
theorem dX7_isCorner_3 : decode cX7_isCorner 3 = .ok (.iload 5, 2) := by decide +kernel
theorem dX7_isCorner_5 : decode cX7_isCorner 5 = .ok (.aload_n 0, 1) := by decide +kernel
theorem dX7_isCorner_6 : decode cX7_isCorner 6 = .ok (.getfield 114, 3) := by decide +kernel
theorem dX7_isCorner_9 : decode cX7_isCorner 9 = .ok (.if_icmp .ge 70, 3) := by decide +kernel
theorem dX7_isCorner_12 : decode cX7_isCorner 12 = .ok (.aload_n 0, 1) := by decide +kernel
theorem dX7_isCorner_13 : decode cX7_isCorner 13 = .ok (.getfield 29, 3) := by decide +kernel
theorem dX7_isCorner_16 : decode cX7_isCorner 16 = .ok (.iconst 5, 1) := by decide +kernel
theorem dX7_isCorner_17 : decode cX7_isCorner 17 = .ok (.iload 5, 2) := by decide +kernel
theorem dX7_isCorner_19 : decode cX7_isCorner 19 = .ok (.imul, 1) := by decide +kernel
theorem dX7_isCorner_20 : decode cX7_isCorner 20 = .ok (.iaload, 1) := by decide +kernel
theorem dX7_isCorner_21 : decode cX7_isCorner 21 = .ok (.iload_n 1, 1) := by decide +kernel
theorem dX7_isCorner_22 : decode cX7_isCorner 22 = .ok (.if_icmp .ne 51, 3) := by decide +kernel
theorem dX7_isCorner_25 : decode cX7_isCorner 25 = .ok (.aload_n 0, 1) := by decide +kernel
theorem dX7_isCorner_26 : decode cX7_isCorner 26 = .ok (.getfield 29, 3) := by decide +kernel
theorem dX7_isCorner_29 : decode cX7_isCorner 29 = .ok (.iconst 5, 1) := by decide +kernel
theorem dX7_isCorner_30 : decode cX7_isCorner 30 = .ok (.iload 5, 2) := by decide +kernel
theorem dX7_isCorner_32 : decode cX7_isCorner 32 = .ok (.imul, 1) := by decide +kernel
theorem dX7_isCorner_33 : decode cX7_isCorner 33 = .ok (.iconst 1, 1) := by decide +kernel
theorem dX7_isCorner_34 : decode cX7_isCorner 34 = .ok (.iadd, 1) := by decide +kernel
theorem dX7_isCorner_35 : decode cX7_isCorner 35 = .ok (.iaload, 1) := by decide +kernel
theorem dX7_isCorner_36 : decode cX7_isCorner 36 = .ok (.iload_n 2, 1) := by decide +kernel
theorem dX7_isCorner_37 : decode cX7_isCorner 37 = .ok (.if_icmp .ne 36, 3) := by decide +kernel
theorem dX7_isCorner_40 : decode cX7_isCorner 40 = .ok (.aload_n 0, 1) := by decide +kernel
theorem dX7_isCorner_41 : decode cX7_isCorner 41 = .ok (.getfield 29, 3) := by decide +kernel
theorem dX7_isCorner_44 : decode cX7_isCorner 44 = .ok (.iconst 5, 1) := by decide +kernel
theorem dX7_isCorner_45 : decode cX7_isCorner 45 = .ok (.iload 5, 2) := by decide +kernel
theorem dX7_isCorner_47 : decode cX7_isCorner 47 = .ok (.imul, 1) := by decide +kernel
theorem dX7_isCorner_48 : decode cX7_isCorner 48 = .ok (.iconst 2, 1) := by decide +kernel
theorem dX7_isCorner_49 : decode cX7_isCorner 49 = .ok (.iadd, 1) := by decide +kernel
theorem dX7_isCorner_50 : decode cX7_isCorner 50 = .ok (.iaload, 1) := by decide +kernel
theorem dX7_isCorner_51 : decode cX7_isCorner 51 = .ok (.iload_n 3, 1) := by decide +kernel
theorem dX7_isCorner_52 : decode cX7_isCorner 52 = .ok (.if_icmp .ne 21, 3) := by decide +kernel
theorem dX7_isCorner_55 : decode cX7_isCorner 55 = .ok (.aload_n 0, 1) := by decide +kernel
theorem dX7_isCorner_56 : decode cX7_isCorner 56 = .ok (.getfield 29, 3) := by decide +kernel
theorem dX7_isCorner_59 : decode cX7_isCorner 59 = .ok (.iconst 5, 1) := by decide +kernel
theorem dX7_isCorner_60 : decode cX7_isCorner 60 = .ok (.iload 5, 2) := by decide +kernel
theorem dX7_isCorner_62 : decode cX7_isCorner 62 = .ok (.imul, 1) := by decide +kernel
theorem dX7_isCorner_63 : decode cX7_isCorner 63 = .ok (.iconst 3, 1) := by decide +kernel
theorem dX7_isCorner_64 : decode cX7_isCorner 64 = .ok (.iadd, 1) := by decide +kernel
theorem dX7_isCorner_65 : decode cX7_isCorner 65 = .ok (.iaload, 1) := by decide +kernel
theorem dX7_isCorner_66 : decode cX7_isCorner 66 = .ok (.iload 4, 2) := by decide +kernel
theorem dX7_isCorner_68 : decode cX7_isCorner 68 = .ok (.if_icmp .ne 5, 3) := by decide +kernel
theorem dX7_isCorner_71 : decode cX7_isCorner 71 = .ok (.iconst 1, 1) := by decide +kernel
theorem dX7_isCorner_72 : decode cX7_isCorner 72 = .ok (.ireturn, 1) := by decide +kernel
theorem dX7_isCorner_73 : decode cX7_isCorner 73 = .ok (.iinc 5 1, 3) := by decide +kernel
theorem dX7_isCorner_76 : decode cX7_isCorner 76 = .ok (.goto (-73), 3) := by decide +kernel
theorem dX7_isCorner_79 : decode cX7_isCorner 79 = .ok (.iconst 0, 1) := by decide +kernel
theorem dX7_isCorner_80 : decode cX7_isCorner 80 = .ok (.ireturn, 1) := by decide +kernel
theorem dX7_isAhead_0 : decode cX7_isAhead 0 = .ok (.iload_n 1, 1) := by decide +kernel
theorem dX7_isAhead_1 : decode cX7_isAhead 1 = .ok (.aload_n 0, 1) := by decide +kernel
theorem dX7_isAhead_2 : decode cX7_isAhead 2 = .ok (.getfield 29, 3) := by decide +kernel
theorem dX7_isAhead_5 : decode cX7_isAhead 5 = .ok (.iconst 5, 1) := by decide +kernel
theorem dX7_isAhead_6 : decode cX7_isAhead 6 = .ok (.iload 5, 2) := by decide +kernel
theorem dX7_isAhead_8 : decode cX7_isAhead 8 = .ok (.imul, 1) := by decide +kernel
theorem dX7_isAhead_9 : decode cX7_isAhead 9 = .ok (.iconst 3, 1) := by decide +kernel
theorem dX7_isAhead_10 : decode cX7_isAhead 10 = .ok (.iadd, 1) := by decide +kernel
theorem dX7_isAhead_11 : decode cX7_isAhead 11 = .ok (.iaload, 1) := by decide +kernel
theorem dX7_isAhead_12 : decode cX7_isAhead 12 = .ok (.imul, 1) := by decide +kernel
theorem dX7_isAhead_13 : decode cX7_isAhead 13 = .ok (.aload_n 0, 1) := by decide +kernel
theorem dX7_isAhead_14 : decode cX7_isAhead 14 = .ok (.getfield 29, 3) := by decide +kernel
theorem dX7_isAhead_17 : decode cX7_isAhead 17 = .ok (.iconst 5, 1) := by decide +kernel
theorem dX7_isAhead_18 : decode cX7_isAhead 18 = .ok (.iload 5, 2) := by decide +kernel
theorem dX7_isAhead_20 : decode cX7_isAhead 20 = .ok (.imul, 1) := by decide +kernel
theorem dX7_isAhead_21 : decode cX7_isAhead 21 = .ok (.iaload, 1) := by decide +kernel
theorem dX7_isAhead_22 : decode cX7_isAhead 22 = .ok (.iload 4, 2) := by decide +kernel
theorem dX7_isAhead_24 : decode cX7_isAhead 24 = .ok (.imul, 1) := by decide +kernel
theorem dX7_isAhead_25 : decode cX7_isAhead 25 = .ok (.isub, 1) := by decide +kernel
theorem dX7_isAhead_26 : decode cX7_isAhead 26 = .ok (.istore 6, 2) := by decide +kernel
theorem dX7_isAhead_28 : decode cX7_isAhead 28 = .ok (.iload_n 2, 1) := by decide +kernel
theorem dX7_isAhead_29 : decode cX7_isAhead 29 = .ok (.aload_n 0, 1) := by decide +kernel
theorem dX7_isAhead_30 : decode cX7_isAhead 30 = .ok (.getfield 29, 3) := by decide +kernel
theorem dX7_isAhead_33 : decode cX7_isAhead 33 = .ok (.iconst 5, 1) := by decide +kernel
theorem dX7_isAhead_34 : decode cX7_isAhead 34 = .ok (.iload 5, 2) := by decide +kernel
theorem dX7_isAhead_36 : decode cX7_isAhead 36 = .ok (.imul, 1) := by decide +kernel
theorem dX7_isAhead_37 : decode cX7_isAhead 37 = .ok (.iconst 3, 1) := by decide +kernel
theorem dX7_isAhead_38 : decode cX7_isAhead 38 = .ok (.iadd, 1) := by decide +kernel
theorem dX7_isAhead_39 : decode cX7_isAhead 39 = .ok (.iaload, 1) := by decide +kernel
theorem dX7_isAhead_40 : decode cX7_isAhead 40 = .ok (.imul, 1) := by decide +kernel
theorem dX7_isAhead_41 : decode cX7_isAhead 41 = .ok (.aload_n 0, 1) := by decide +kernel
theorem dX7_isAhead_42 : decode cX7_isAhead 42 = .ok (.getfield 29, 3) := by decide +kernel
theorem dX7_isAhead_45 : decode cX7_isAhead 45 = .ok (.iconst 5, 1) := by decide +kernel
theorem dX7_isAhead_46 : decode cX7_isAhead 46 = .ok (.iload 5, 2) := by decide +kernel
theorem dX7_isAhead_48 : decode cX7_isAhead 48 = .ok (.imul, 1) := by decide +kernel
theorem dX7_isAhead_49 : decode cX7_isAhead 49 = .ok (.iconst 1, 1) := by decide +kernel
theorem dX7_isAhead_50 : decode cX7_isAhead 50 = .ok (.iadd, 1) := by decide +kernel
theorem dX7_isAhead_51 : decode cX7_isAhead 51 = .ok (.iaload, 1) := by decide +kernel
theorem dX7_isAhead_52 : decode cX7_isAhead 52 = .ok (.iload 4, 2) := by decide +kernel
theorem dX7_isAhead_54 : decode cX7_isAhead 54 = .ok (.imul, 1) := by decide +kernel
theorem dX7_isAhead_55 : decode cX7_isAhead 55 = .ok (.isub, 1) := by decide +kernel
theorem dX7_isAhead_56 : decode cX7_isAhead 56 = .ok (.istore 7, 2) := by decide +kernel
theorem dX7_isAhead_58 : decode cX7_isAhead 58 = .ok (.iload_n 3, 1) := by decide +kernel
theorem dX7_isAhead_59 : decode cX7_isAhead 59 = .ok (.aload_n 0, 1) := by decide +kernel
theorem dX7_isAhead_60 : decode cX7_isAhead 60 = .ok (.getfield 29, 3) := by decide +kernel
