theorem dX6_symmetry_17 : decode cX6_symmetry 17 = .ok (.invokevirtual 188, 3) := by decide +kernel
theorem dX6_symmetry_20 : decode cX6_symmetry 20 = .ok (.ifCond .eq 9, 3) := by decide +kernel
theorem dX6_symmetry_23 : decode cX6_symmetry 23 = .ok (.iload_n 2, 1) := by decide +kernel
theorem dX6_symmetry_24 : decode cX6_symmetry 24 = .ok (.iconst 1, 1) := by decide +kernel
theorem dX6_symmetry_25 : decode cX6_symmetry 25 = .ok (.iload_n 3, 1) := by decide +kernel
theorem dX6_symmetry_26 : decode cX6_symmetry 26 = .ok (.ishl, 1) := by decide +kernel
theorem dX6_symmetry_27 : decode cX6_symmetry 27 = .ok (.ior, 1) := by decide +kernel
theorem dX6_symmetry_28 : decode cX6_symmetry 28 = .ok (.istore_n 2, 1) := by decide +kernel
theorem dX6_symmetry_29 : decode cX6_symmetry 29 = .ok (.iinc 3 1, 3) := by decide +kernel
theorem dX6_symmetry_32 : decode cX6_symmetry 32 = .ok (.goto (-23), 3) := by decide +kernel
theorem dX6_symmetry_35 : decode cX6_symmetry 35 = .ok (.iload_n 2, 1) := by decide +kernel
theorem dX6_symmetry_36 : decode cX6_symmetry 36 = .ok (.ireturn, 1) := by decide +kernel
theorem dX6_hides_0 : decode cX6_hides 0 = .ok (.iload_n 1, 1) := by decide +kernel
theorem dX6_hides_1 : decode cX6_hides 1 = .ok (.iload_n 2, 1) := by decide +kernel
theorem dX6_hides_2 : decode cX6_hides 2 = .ok (.iload_n 3, 1) := by decide +kernel
theorem dX6_hides_3 : decode cX6_hides 3 = .ok (.invokestatic 57, 3) := by decide +kernel
theorem dX6_hides_6 : decode cX6_hides 6 = .ok (.ifCond .eq 14, 3) := by decide +kernel
theorem dX6_hides_9 : decode cX6_hides 9 = .ok (.iload 4, 2) := by decide +kernel
theorem dX6_hides_11 : decode cX6_hides 11 = .ok (.ifCond .lt 9, 3) := by decide +kernel
theorem dX6_hides_14 : decode cX6_hides 14 = .ok (.iload 4, 2) := by decide +kernel
theorem dX6_hides_16 : decode cX6_hides 16 = .ok (.iconst 1, 1) := by decide +kernel
theorem dX6_hides_17 : decode cX6_hides 17 = .ok (.if_icmp .le 10, 3) := by decide +kernel
theorem dX6_hides_20 : decode cX6_hides 20 = .ok (.aload_n 0, 1) := by decide +kernel
theorem dX6_hides_21 : decode cX6_hides 21 = .ok (.bipush (-2), 2) := by decide +kernel
theorem dX6_hides_23 : decode cX6_hides 23 = .ok (.invokevirtual 65, 3) := by decide +kernel
theorem dX6_hides_26 : decode cX6_hides 26 = .ok (.ireturn, 1) := by decide +kernel
theorem dX6_hides_27 : decode cX6_hides 27 = .ok (.aload_n 0, 1) := by decide +kernel
theorem dX6_hides_28 : decode cX6_hides 28 = .ok (.getfield 12, 3) := by decide +kernel
theorem dX6_hides_31 : decode cX6_hides 31 = .ok (.getfield 69, 3) := by decide +kernel
theorem dX6_hides_34 : decode cX6_hides 34 = .ok (.bipush 32, 2) := by decide +kernel
theorem dX6_hides_36 : decode cX6_hides 36 = .ok (.if_icmp .lt 8, 3) := by decide +kernel
theorem dX6_hides_39 : decode cX6_hides 39 = .ok (.aload_n 0, 1) := by decide +kernel
theorem dX6_hides_40 : decode cX6_hides 40 = .ok (.invokevirtual 72, 3) := by decide +kernel
theorem dX6_hides_43 : decode cX6_hides 43 = .ok (.ireturn, 1) := by decide +kernel
theorem dX6_hides_44 : decode cX6_hides 44 = .ok (.aload_n 0, 1) := by decide +kernel
theorem dX6_hides_45 : decode cX6_hides 45 = .ok (.invokevirtual 116, 3) := by decide +kernel
theorem dX6_hides_48 : decode cX6_hides 48 = .ok (.astore 5, 2) := by decide +kernel
theorem dX6_hides_50 : decode cX6_hides 50 = .ok (.aload 5, 2) := by decide +kernel
theorem dX6_hides_52 : decode cX6_hides 52 = .ok (.iload_n 1, 1) := by decide +kernel
theorem dX6_hides_53 : decode cX6_hides 53 = .ok (.iload_n 2, 1) := by decide +kernel
theorem dX6_hides_54 : decode cX6_hides 54 = .ok (.iload_n 3, 1) := by decide +kernel
theorem dX6_hides_55 : decode cX6_hides 55 = .ok (.invokevirtual 178, 3) := by decide +kernel
theorem dX6_hides_58 : decode cX6_hides 58 = .ok (.istore 6, 2) := by decide +kernel
theorem dX6_hides_60 : decode cX6_hides 60 = .ok (.aload 5, 2) := by decide +kernel
theorem dX6_hides_62 : decode cX6_hides 62 = .ok (.iload 6, 2) := by decide +kernel
theorem dX6_hides_64 : decode cX6_hides 64 = .ok (.iload_n 1, 1) := by decide +kernel
theorem dX6_hides_65 : decode cX6_hides 65 = .ok (.iload_n 2, 1) := by decide +kernel
theorem dX6_hides_66 : decode cX6_hides 66 = .ok (.iload_n 3, 1) := by decide +kernel
theorem dX6_hides_67 : decode cX6_hides 67 = .ok (.invokevirtual 181, 3) := by decide +kernel
theorem dX6_hides_70 : decode cX6_hides 70 = .ok (.istore 7, 2) := by decide +kernel
theorem dX6_hides_72 : decode cX6_hides 72 = .ok (.iload 4, 2) := by decide +kernel
theorem dX6_hides_74 : decode cX6_hides 74 = .ok (.ifCond .ne 19, 3) := by decide +kernel
theorem dX6_hides_77 : decode cX6_hides 77 = .ok (.iload 7, 2) := by decide +kernel
theorem dX6_hides_79 : decode cX6_hides 79 = .ok (.aload 5, 2) := by decide +kernel
theorem dX6_hides_81 : decode cX6_hides 81 = .ok (.getfield 148, 3) := by decide +kernel
theorem dX6_hides_84 : decode cX6_hides 84 = .ok (.iload 6, 2) := by decide +kernel
theorem dX6_hides_86 : decode cX6_hides 86 = .ok (.iaload, 1) := by decide +kernel
theorem dX6_hides_87 : decode cX6_hides 87 = .ok (.invokestatic 191, 3) := by decide +kernel
theorem dX6_hides_90 : decode cX6_hides 90 = .ok (.goto 16, 3) := by decide +kernel
theorem dX6_hides_93 : decode cX6_hides 93 = .ok (.iload 7, 2) := by decide +kernel
theorem dX6_hides_95 : decode cX6_hides 95 = .ok (.aload 5, 2) := by decide +kernel
theorem dX6_hides_97 : decode cX6_hides 97 = .ok (.getfield 148, 3) := by decide +kernel
theorem dX6_hides_100 : decode cX6_hides 100 = .ok (.iload 6, 2) := by decide +kernel
theorem dX6_hides_102 : decode cX6_hides 102 = .ok (.iaload, 1) := by decide +kernel
theorem dX6_hides_103 : decode cX6_hides 103 = .ok (.invokestatic 194, 3) := by decide +kernel
theorem dX6_hides_106 : decode cX6_hides 106 = .ok (.ireturn, 1) := by decide +kernel
theorem dX6_spare_0 : decode cX6_spare 0 = .ok (.iload_n 1, 1) := by decide +kernel
theorem dX6_spare_1 : decode cX6_spare 1 = .ok (.ifCond .lt 8, 3) := by decide +kernel
theorem dX6_spare_4 : decode cX6_spare 4 = .ok (.iload_n 1, 1) := by decide +kernel
theorem dX6_spare_5 : decode cX6_spare 5 = .ok (.iconst 1, 1) := by decide +kernel
theorem dX6_spare_6 : decode cX6_spare 6 = .ok (.if_icmp .le 10, 3) := by decide +kernel
theorem dX6_spare_9 : decode cX6_spare 9 = .ok (.aload_n 0, 1) := by decide +kernel
theorem dX6_spare_10 : decode cX6_spare 10 = .ok (.bipush (-2), 2) := by decide +kernel
theorem dX6_spare_12 : decode cX6_spare 12 = .ok (.invokevirtual 65, 3) := by decide +kernel
theorem dX6_spare_15 : decode cX6_spare 15 = .ok (.ireturn, 1) := by decide +kernel
theorem dX6_spare_16 : decode cX6_spare 16 = .ok (.aload_n 0, 1) := by decide +kernel
theorem dX6_spare_17 : decode cX6_spare 17 = .ok (.getfield 12, 3) := by decide +kernel
theorem dX6_spare_20 : decode cX6_spare 20 = .ok (.getfield 69, 3) := by decide +kernel
theorem dX6_spare_23 : decode cX6_spare 23 = .ok (.bipush 6, 2) := by decide +kernel
theorem dX6_spare_25 : decode cX6_spare 25 = .ok (.if_icmp .gt 8, 3) := by decide +kernel
theorem dX6_spare_28 : decode cX6_spare 28 = .ok (.aload_n 0, 1) := by decide +kernel
theorem dX6_spare_29 : decode cX6_spare 29 = .ok (.invokevirtual 142, 3) := by decide +kernel
theorem dX6_spare_32 : decode cX6_spare 32 = .ok (.ireturn, 1) := by decide +kernel
theorem dX6_spare_33 : decode cX6_spare 33 = .ok (.aload_n 0, 1) := by decide +kernel
theorem dX6_spare_34 : decode cX6_spare 34 = .ok (.getfield 197, 3) := by decide +kernel
theorem dX6_spare_37 : decode cX6_spare 37 = .ok (.ifCond .ne 7, 3) := by decide +kernel
theorem dX6_spare_40 : decode cX6_spare 40 = .ok (.aload_n 0, 1) := by decide +kernel
theorem dX6_spare_41 : decode cX6_spare 41 = .ok (.invokevirtual 201, 3) := by decide +kernel
theorem dX6_spare_44 : decode cX6_spare 44 = .ok (.iload_n 1, 1) := by decide +kernel
theorem dX6_spare_45 : decode cX6_spare 45 = .ok (.ifCond .ne 10, 3) := by decide +kernel
theorem dX6_spare_48 : decode cX6_spare 48 = .ok (.aload_n 0, 1) := by decide +kernel
theorem dX6_spare_49 : decode cX6_spare 49 = .ok (.getfield 204, 3) := by decide +kernel
theorem dX6_spare_52 : decode cX6_spare 52 = .ok (.goto 7, 3) := by decide +kernel
theorem dX6_spare_55 : decode cX6_spare 55 = .ok (.aload_n 0, 1) := by decide +kernel
theorem dX6_spare_56 : decode cX6_spare 56 = .ok (.getfield 207, 3) := by decide +kernel
theorem dX6_spare_59 : decode cX6_spare 59 = .ok (.ireturn, 1) := by decide +kernel
theorem dX6_type_0 : decode cX6_type 0 = .ok (.iload_n 1, 1) := by decide +kernel
theorem dX6_type_1 : decode cX6_type 1 = .ok (.ifCond .lt 9, 3) := by decide +kernel
theorem dX6_type_4 : decode cX6_type 4 = .ok (.iload_n 1, 1) := by decide +kernel
theorem dX6_type_5 : decode cX6_type 5 = .ok (.bipush 127, 2) := by decide +kernel
theorem dX6_type_7 : decode cX6_type 7 = .ok (.if_icmp .le 10, 3) := by decide +kernel
theorem dX6_type_10 : decode cX6_type 10 = .ok (.aload_n 0, 1) := by decide +kernel
theorem dX6_type_11 : decode cX6_type 11 = .ok (.bipush (-2), 2) := by decide +kernel
theorem dX6_type_13 : decode cX6_type 13 = .ok (.invokevirtual 65, 3) := by decide +kernel
theorem dX6_type_16 : decode cX6_type 16 = .ok (.ireturn, 1) := by decide +kernel
theorem dX6_type_17 : decode cX6_type 17 = .ok (.aload_n 0, 1) := by decide +kernel
theorem dX6_type_18 : decode cX6_type 18 = .ok (.getfield 46, 3) := by decide +kernel
theorem dX6_type_21 : decode cX6_type 21 = .ok (.getfield 210, 3) := by decide +kernel
theorem dX6_type_24 : decode cX6_type 24 = .ok (.bipush 120, 2) := by decide +kernel
theorem dX6_type_26 : decode cX6_type 26 = .ok (.if_icmp .lt 8, 3) := by decide +kernel
theorem dX6_type_29 : decode cX6_type 29 = .ok (.aload_n 0, 1) := by decide +kernel
theorem dX6_type_30 : decode cX6_type 30 = .ok (.invokevirtual 72, 3) := by decide +kernel
theorem dX6_type_33 : decode cX6_type 33 = .ok (.ireturn, 1) := by decide +kernel
theorem dX6_type_34 : decode cX6_type 34 = .ok (.aload_n 0, 1) := by decide +kernel
theorem dX6_type_35 : decode cX6_type 35 = .ok (.getfield 46, 3) := by decide +kernel
theorem dX6_type_38 : decode cX6_type 38 = .ok (.getfield 213, 3) := by decide +kernel
theorem dX6_type_41 : decode cX6_type 41 = .ok (.aload_n 0, 1) := by decide +kernel
theorem dX6_type_42 : decode cX6_type 42 = .ok (.getfield 46, 3) := by decide +kernel
theorem dX6_type_45 : decode cX6_type 45 = .ok (.getfield 210, 3) := by decide +kernel
theorem dX6_type_48 : decode cX6_type 48 = .ok (.iload_n 1, 1) := by decide +kernel
theorem dX6_type_49 : decode cX6_type 49 = .ok (.i2b, 1) := by decide +kernel
theorem dX6_type_50 : decode cX6_type 50 = .ok (.bastore, 1) := by decide +kernel
theorem dX6_type_51 : decode cX6_type 51 = .ok (.aload_n 0, 1) := by decide +kernel
theorem dX6_type_52 : decode cX6_type 52 = .ok (.getfield 46, 3) := by decide +kernel
theorem dX6_type_55 : decode cX6_type 55 = .ok (.dup, 1) := by decide +kernel
theorem dX6_type_56 : decode cX6_type 56 = .ok (.getfield 210, 3) := by decide +kernel
theorem dX6_type_59 : decode cX6_type 59 = .ok (.iconst 1, 1) := by decide +kernel
theorem dX6_type_60 : decode cX6_type 60 = .ok (.iadd, 1) := by decide +kernel
theorem dX6_type_61 : decode cX6_type 61 = .ok (.putfield 210, 3) := by decide +kernel
theorem dX6_type_64 : decode cX6_type 64 = .ok (.aload_n 0, 1) := by decide +kernel
theorem dX6_type_65 : decode cX6_type 65 = .ok (.getfield 46, 3) := by decide +kernel
theorem dX6_type_68 : decode cX6_type 68 = .ok (.getfield 210, 3) := by decide +kernel
theorem dX6_type_71 : decode cX6_type 71 = .ok (.ireturn, 1) := by decide +kernel
theorem dX6_clear_0 : decode cX6_clear 0 = .ok (.aload_n 0, 1) := by decide +kernel
theorem dX6_clear_1 : decode cX6_clear 1 = .ok (.getfield 46, 3) := by decide +kernel
theorem dX6_clear_4 : decode cX6_clear 4 = .ok (.getfield 210, 3) := by decide +kernel
theorem dX6_clear_7 : decode cX6_clear 7 = .ok (.istore_n 1, 1) := by decide +kernel
theorem dX6_clear_8 : decode cX6_clear 8 = .ok (.aload_n 0, 1) := by decide +kernel
theorem dX6_clear_9 : decode cX6_clear 9 = .ok (.getfield 46, 3) := by decide +kernel
theorem dX6_clear_12 : decode cX6_clear 12 = .ok (.iconst 0, 1) := by decide +kernel
theorem dX6_clear_13 : decode cX6_clear 13 = .ok (.putfield 210, 3) := by decide +kernel
theorem dX6_clear_16 : decode cX6_clear 16 = .ok (.iload_n 1, 1) := by decide +kernel
theorem dX6_clear_17 : decode cX6_clear 17 = .ok (.ireturn, 1) := by decide +kernel
theorem dX6_reads_0 : decode cX6_reads 0 = .ok (.aload_n 0, 1) := by decide +kernel
theorem dX6_reads_1 : decode cX6_reads 1 = .ok (.getfield 16, 3) := by decide +kernel
theorem dX6_reads_4 : decode cX6_reads 4 = .ok (.aload_n 0, 1) := by decide +kernel
theorem dX6_reads_5 : decode cX6_reads 5 = .ok (.getfield 12, 3) := by decide +kernel
theorem dX6_reads_8 : decode cX6_reads 8 = .ok (.invokevirtual 217, 3) := by decide +kernel
theorem dX6_reads_11 : decode cX6_reads 11 = .ok (.aload_n 0, 1) := by decide +kernel
theorem dX6_reads_12 : decode cX6_reads 12 = .ok (.getfield 46, 3) := by decide +kernel
theorem dX6_reads_15 : decode cX6_reads 15 = .ok (.aload_n 0, 1) := by decide +kernel
theorem dX6_reads_16 : decode cX6_reads 16 = .ok (.getfield 16, 3) := by decide +kernel
theorem dX6_reads_19 : decode cX6_reads 19 = .ok (.aload_n 0, 1) := by decide +kernel
theorem dX6_reads_20 : decode cX6_reads 20 = .ok (.getfield 39, 3) := by decide +kernel
theorem dX6_reads_23 : decode cX6_reads 23 = .ok (.invokevirtual 221, 3) := by decide +kernel
theorem dX6_reads_26 : decode cX6_reads 26 = .ok (.ifCond .ne 14, 3) := by decide +kernel
theorem dX6_reads_29 : decode cX6_reads 29 = .ok (.bipush (-10), 2) := by decide +kernel
theorem dX6_reads_31 : decode cX6_reads 31 = .ok (.aload_n 0, 1) := by decide +kernel
theorem dX6_reads_32 : decode cX6_reads 32 = .ok (.getfield 46, 3) := by decide +kernel
theorem dX6_reads_35 : decode cX6_reads 35 = .ok (.getfield 225, 3) := by decide +kernel
theorem dX6_reads_38 : decode cX6_reads 38 = .ok (.isub, 1) := by decide +kernel
theorem dX6_reads_39 : decode cX6_reads 39 = .ok (.ireturn, 1) := by decide +kernel
theorem dX6_reads_40 : decode cX6_reads 40 = .ok (.aload_n 0, 1) := by decide +kernel
theorem dX6_reads_41 : decode cX6_reads 41 = .ok (.getfield 16, 3) := by decide +kernel
theorem dX6_reads_44 : decode cX6_reads 44 = .ok (.getfield 69, 3) := by decide +kernel
theorem dX6_reads_47 : decode cX6_reads 47 = .ok (.aload_n 0, 1) := by decide +kernel
theorem dX6_reads_48 : decode cX6_reads 48 = .ok (.getfield 12, 3) := by decide +kernel
theorem dX6_reads_51 : decode cX6_reads 51 = .ok (.getfield 69, 3) := by decide +kernel
theorem dX6_reads_54 : decode cX6_reads 54 = .ok (.isub, 1) := by decide +kernel
theorem dX6_reads_55 : decode cX6_reads 55 = .ok (.istore_n 1, 1) := by decide +kernel
theorem dX6_reads_56 : decode cX6_reads 56 = .ok (.aload_n 0, 1) := by decide +kernel
theorem dX6_reads_57 : decode cX6_reads 57 = .ok (.invokevirtual 76, 3) := by decide +kernel
theorem dX6_reads_60 : decode cX6_reads 60 = .ok (.aload_n 0, 1) := by decide +kernel
theorem dX6_reads_61 : decode cX6_reads 61 = .ok (.getfield 12, 3) := by decide +kernel
theorem dX6_reads_64 : decode cX6_reads 64 = .ok (.aload_n 0, 1) := by decide +kernel
theorem dX6_reads_65 : decode cX6_reads 65 = .ok (.getfield 16, 3) := by decide +kernel
theorem dX6_reads_68 : decode cX6_reads 68 = .ok (.invokevirtual 217, 3) := by decide +kernel
theorem dX6_reads_71 : decode cX6_reads 71 = .ok (.iload_n 1, 1) := by decide +kernel
theorem dX6_reads_72 : decode cX6_reads 72 = .ok (.ireturn, 1) := by decide +kernel
theorem dX6_back_0 : decode cX6_back 0 = .ok (.aload_n 0, 1) := by decide +kernel
theorem dX6_back_1 : decode cX6_back 1 = .ok (.getfield 22, 3) := by decide +kernel
theorem dX6_back_4 : decode cX6_back 4 = .ok (.getfield 228, 3) := by decide +kernel
theorem dX6_back_7 : decode cX6_back 7 = .ok (.ifCond .gt 8, 3) := by decide +kernel
theorem dX6_back_10 : decode cX6_back 10 = .ok (.aload_n 0, 1) := by decide +kernel
theorem dX6_back_11 : decode cX6_back 11 = .ok (.invokevirtual 142, 3) := by decide +kernel
theorem dX6_back_14 : decode cX6_back 14 = .ok (.ireturn, 1) := by decide +kernel
theorem dX6_back_15 : decode cX6_back 15 = .ok (.aload_n 0, 1) := by decide +kernel
theorem dX6_back_16 : decode cX6_back 16 = .ok (.getfield 22, 3) := by decide +kernel
theorem dX6_back_19 : decode cX6_back 19 = .ok (.aload_n 0, 1) := by decide +kernel
theorem dX6_back_20 : decode cX6_back 20 = .ok (.getfield 12, 3) := by decide +kernel
theorem dX6_back_23 : decode cX6_back 23 = .ok (.invokevirtual 229, 3) := by decide +kernel
theorem dX6_back_26 : decode cX6_back 26 = .ok (.aload_n 0, 1) := by decide +kernel
theorem dX6_back_27 : decode cX6_back 27 = .ok (.invokevirtual 232, 3) := by decide +kernel
theorem dX6_back_30 : decode cX6_back 30 = .ok (.aload_n 0, 1) := by decide +kernel
theorem dX6_back_31 : decode cX6_back 31 = .ok (.getfield 22, 3) := by decide +kernel
theorem dX6_back_34 : decode cX6_back 34 = .ok (.getfield 228, 3) := by decide +kernel
theorem dX6_back_37 : decode cX6_back 37 = .ok (.ireturn, 1) := by decide +kernel
theorem dX6_told_0 : decode cX6_told 0 = .ok (.iload_n 1, 1) := by decide +kernel
theorem dX6_told_1 : decode cX6_told 1 = .ok (.ifCond .lt 8, 3) := by decide +kernel
theorem dX6_told_4 : decode cX6_told 4 = .ok (.iload_n 1, 1) := by decide +kernel
theorem dX6_told_5 : decode cX6_told 5 = .ok (.iconst 5, 1) := by decide +kernel
theorem dX6_told_6 : decode cX6_told 6 = .ok (.if_icmp .le 10, 3) := by decide +kernel
theorem dX6_told_9 : decode cX6_told 9 = .ok (.aload_n 0, 1) := by decide +kernel
theorem dX6_told_10 : decode cX6_told 10 = .ok (.bipush (-2), 2) := by decide +kernel
theorem dX6_told_12 : decode cX6_told 12 = .ok (.invokevirtual 65, 3) := by decide +kernel
theorem dX6_told_15 : decode cX6_told 15 = .ok (.ireturn, 1) := by decide +kernel
theorem dX6_told_16 : decode cX6_told 16 = .ok (.aload_n 0, 1) := by decide +kernel
theorem dX6_told_17 : decode cX6_told 17 = .ok (.iload_n 1, 1) := by decide +kernel
theorem dX6_told_18 : decode cX6_told 18 = .ok (.invokevirtual 235, 3) := by decide +kernel
theorem dX6_told_21 : decode cX6_told 21 = .ok (.ireturn, 1) := by decide +kernel
theorem dX6_digest_0 : decode cX6_digest 0 = .ok (.aload_n 0, 1) := by decide +kernel
theorem dX6_digest_1 : decode cX6_digest 1 = .ok (.invokevirtual 116, 3) := by decide +kernel
theorem dX6_digest_4 : decode cX6_digest 4 = .ok (.astore_n 1, 1) := by decide +kernel
theorem dX6_digest_5 : decode cX6_digest 5 = .ok (.ldc2_w 238, 3) := by decide +kernel
theorem dX6_digest_8 : decode cX6_digest 8 = .ok (.lstore_n 2, 1) := by decide +kernel
theorem dX6_digest_9 : decode cX6_digest 9 = .ok (.iconst 0, 1) := by decide +kernel
theorem dX6_digest_10 : decode cX6_digest 10 = .ok (.istore 4, 2) := by decide +kernel
theorem dX6_digest_12 : decode cX6_digest 12 = .ok (.iload 4, 2) := by decide +kernel
theorem dX6_digest_14 : decode cX6_digest 14 = .ok (.iconst 5, 1) := by decide +kernel
theorem dX6_digest_15 : decode cX6_digest 15 = .ok (.if_icmp .gt 23, 3) := by decide +kernel
theorem dX6_digest_18 : decode cX6_digest 18 = .ok (.ldc2_w 240, 3) := by decide +kernel
theorem dX6_digest_21 : decode cX6_digest 21 = .ok (.lload_n 2, 1) := by decide +kernel
theorem dX6_digest_22 : decode cX6_digest 22 = .ok (.lmul, 1) := by decide +kernel
theorem dX6_digest_23 : decode cX6_digest 23 = .ok (.aload_n 0, 1) := by decide +kernel
theorem dX6_digest_24 : decode cX6_digest 24 = .ok (.iload 4, 2) := by decide +kernel
theorem dX6_digest_26 : decode cX6_digest 26 = .ok (.invokevirtual 235, 3) := by decide +kernel
theorem dX6_digest_29 : decode cX6_digest 29 = .ok (.i2l, 1) := by decide +kernel
theorem dX6_digest_30 : decode cX6_digest 30 = .ok (.ladd, 1) := by decide +kernel
theorem dX6_digest_31 : decode cX6_digest 31 = .ok (.lstore_n 2, 1) := by decide +kernel
theorem dX6_digest_32 : decode cX6_digest 32 = .ok (.iinc 4 1, 3) := by decide +kernel
theorem dX6_digest_35 : decode cX6_digest 35 = .ok (.goto (-23), 3) := by decide +kernel
theorem dX6_digest_38 : decode cX6_digest 38 = .ok (.iconst 0, 1) := by decide +kernel
theorem dX6_digest_39 : decode cX6_digest 39 = .ok (.istore 4, 2) := by decide +kernel
theorem dX6_digest_41 : decode cX6_digest 41 = .ok (.iload 4, 2) := by decide +kernel
theorem dX6_digest_43 : decode cX6_digest 43 = .ok (.aload_n 0, 1) := by decide +kernel
theorem dX6_digest_44 : decode cX6_digest 44 = .ok (.getfield 12, 3) := by decide +kernel
theorem dX6_digest_47 : decode cX6_digest 47 = .ok (.getfield 69, 3) := by decide +kernel
theorem dX6_digest_50 : decode cX6_digest 50 = .ok (.if_icmp .ge 40, 3) := by decide +kernel
theorem dX6_digest_53 : decode cX6_digest 53 = .ok (.iconst 0, 1) := by decide +kernel
theorem dX6_digest_54 : decode cX6_digest 54 = .ok (.istore 5, 2) := by decide +kernel
theorem dX6_digest_56 : decode cX6_digest 56 = .ok (.iload 5, 2) := by decide +kernel
theorem dX6_digest_58 : decode cX6_digest 58 = .ok (.iconst 4, 1) := by decide +kernel
theorem dX6_digest_59 : decode cX6_digest 59 = .ok (.if_icmp .gt 25, 3) := by decide +kernel
theorem dX6_digest_62 : decode cX6_digest 62 = .ok (.ldc2_w 240, 3) := by decide +kernel
theorem dX6_digest_65 : decode cX6_digest 65 = .ok (.lload_n 2, 1) := by decide +kernel
theorem dX6_digest_66 : decode cX6_digest 66 = .ok (.lmul, 1) := by decide +kernel
theorem dX6_digest_67 : decode cX6_digest 67 = .ok (.aload_n 0, 1) := by decide +kernel
theorem dX6_digest_68 : decode cX6_digest 68 = .ok (.iload 4, 2) := by decide +kernel
theorem dX6_digest_70 : decode cX6_digest 70 = .ok (.iload 5, 2) := by decide +kernel
theorem dX6_digest_72 : decode cX6_digest 72 = .ok (.invokevirtual 123, 3) := by decide +kernel
theorem dX6_digest_75 : decode cX6_digest 75 = .ok (.i2l, 1) := by decide +kernel
theorem dX6_digest_76 : decode cX6_digest 76 = .ok (.ladd, 1) := by decide +kernel
theorem dX6_digest_77 : decode cX6_digest 77 = .ok (.lstore_n 2, 1) := by decide +kernel
theorem dX6_digest_78 : decode cX6_digest 78 = .ok (.iinc 5 1, 3) := by decide +kernel
theorem dX6_digest_81 : decode cX6_digest 81 = .ok (.goto (-25), 3) := by decide +kernel
theorem dX6_digest_84 : decode cX6_digest 84 = .ok (.iinc 4 1, 3) := by decide +kernel
theorem dX6_digest_87 : decode cX6_digest 87 = .ok (.goto (-46), 3) := by decide +kernel
theorem dX6_digest_90 : decode cX6_digest 90 = .ok (.ldc2_w 240, 3) := by decide +kernel
theorem dX6_digest_93 : decode cX6_digest 93 = .ok (.lload_n 2, 1) := by decide +kernel
theorem dX6_digest_94 : decode cX6_digest 94 = .ok (.lmul, 1) := by decide +kernel
theorem dX6_digest_95 : decode cX6_digest 95 = .ok (.aload_n 1, 1) := by decide +kernel
theorem dX6_digest_96 : decode cX6_digest 96 = .ok (.invokevirtual 130, 3) := by decide +kernel
theorem dX6_digest_99 : decode cX6_digest 99 = .ok (.i2l, 1) := by decide +kernel
theorem dX6_digest_100 : decode cX6_digest 100 = .ok (.ladd, 1) := by decide +kernel
theorem dX6_digest_101 : decode cX6_digest 101 = .ok (.lstore_n 2, 1) := by decide +kernel
theorem dX6_digest_102 : decode cX6_digest 102 = .ok (.ldc2_w 240, 3) := by decide +kernel
theorem dX6_digest_105 : decode cX6_digest 105 = .ok (.lload_n 2, 1) := by decide +kernel
theorem dX6_digest_106 : decode cX6_digest 106 = .ok (.lmul, 1) := by decide +kernel
theorem dX6_digest_107 : decode cX6_digest 107 = .ok (.aload_n 1, 1) := by decide +kernel
theorem dX6_digest_108 : decode cX6_digest 108 = .ok (.getfield 120, 3) := by decide +kernel
theorem dX6_digest_111 : decode cX6_digest 111 = .ok (.i2l, 1) := by decide +kernel
theorem dX6_digest_112 : decode cX6_digest 112 = .ok (.ladd, 1) := by decide +kernel
theorem dX6_digest_113 : decode cX6_digest 113 = .ok (.lstore_n 2, 1) := by decide +kernel
theorem dX6_digest_114 : decode cX6_digest 114 = .ok (.ldc2_w 240, 3) := by decide +kernel
theorem dX6_digest_117 : decode cX6_digest 117 = .ok (.lload_n 2, 1) := by decide +kernel
theorem dX6_digest_118 : decode cX6_digest 118 = .ok (.lmul, 1) := by decide +kernel
theorem dX6_digest_119 : decode cX6_digest 119 = .ok (.aload_n 1, 1) := by decide +kernel
theorem dX6_digest_120 : decode cX6_digest 120 = .ok (.invokevirtual 133, 3) := by decide +kernel
theorem dX6_digest_123 : decode cX6_digest 123 = .ok (.i2l, 1) := by decide +kernel
theorem dX6_digest_124 : decode cX6_digest 124 = .ok (.ladd, 1) := by decide +kernel
theorem dX6_digest_125 : decode cX6_digest 125 = .ok (.lstore_n 2, 1) := by decide +kernel
theorem dX6_digest_126 : decode cX6_digest 126 = .ok (.ldc2_w 240, 3) := by decide +kernel
theorem dX6_digest_129 : decode cX6_digest 129 = .ok (.lload_n 2, 1) := by decide +kernel
theorem dX6_digest_130 : decode cX6_digest 130 = .ok (.lmul, 1) := by decide +kernel
theorem dX6_digest_131 : decode cX6_digest 131 = .ok (.aload_n 0, 1) := by decide +kernel
theorem dX6_digest_132 : decode cX6_digest 132 = .ok (.getfield 165, 3) := by decide +kernel
theorem dX6_digest_135 : decode cX6_digest 135 = .ok (.i2l, 1) := by decide +kernel
theorem dX6_digest_136 : decode cX6_digest 136 = .ok (.ladd, 1) := by decide +kernel
theorem dX6_digest_137 : decode cX6_digest 137 = .ok (.lstore_n 2, 1) := by decide +kernel
theorem dX6_digest_138 : decode cX6_digest 138 = .ok (.ldc2_w 240, 3) := by decide +kernel
theorem dX6_digest_141 : decode cX6_digest 141 = .ok (.lload_n 2, 1) := by decide +kernel
theorem dX6_digest_142 : decode cX6_digest 142 = .ok (.lmul, 1) := by decide +kernel
theorem dX6_digest_143 : decode cX6_digest 143 = .ok (.aload_n 0, 1) := by decide +kernel
theorem dX6_digest_144 : decode cX6_digest 144 = .ok (.getfield 53, 3) := by decide +kernel
theorem dX6_digest_147 : decode cX6_digest 147 = .ok (.i2l, 1) := by decide +kernel
theorem dX6_digest_148 : decode cX6_digest 148 = .ok (.ladd, 1) := by decide +kernel
theorem dX6_digest_149 : decode cX6_digest 149 = .ok (.lstore_n 2, 1) := by decide +kernel
theorem dX6_digest_150 : decode cX6_digest 150 = .ok (.aload_n 1, 1) := by decide +kernel
theorem dX6_digest_151 : decode cX6_digest 151 = .ok (.lload_n 2, 1) := by decide +kernel
theorem dX6_digest_152 : decode cX6_digest 152 = .ok (.invokevirtual 242, 3) := by decide +kernel
theorem dX6_digest_155 : decode cX6_digest 155 = .ok (.lreturn, 1) := by decide +kernel
theorem dX6_isSign_0 : decode cX6_isSign 0 = .ok (.iload_n 0, 1) := by decide +kernel
theorem dX6_isSign_1 : decode cX6_isSign 1 = .ok (.invokestatic 246, 3) := by decide +kernel
theorem dX6_isSign_4 : decode cX6_isSign 4 = .ok (.ifCond .eq 33, 3) := by decide +kernel
theorem dX6_isSign_7 : decode cX6_isSign 7 = .ok (.iload_n 1, 1) := by decide +kernel
theorem dX6_isSign_8 : decode cX6_isSign 8 = .ok (.invokestatic 246, 3) := by decide +kernel
theorem dX6_isSign_11 : decode cX6_isSign 11 = .ok (.ifCond .eq 26, 3) := by decide +kernel
theorem dX6_isSign_14 : decode cX6_isSign 14 = .ok (.iload_n 2, 1) := by decide +kernel
theorem dX6_isSign_15 : decode cX6_isSign 15 = .ok (.invokestatic 246, 3) := by decide +kernel
theorem dX6_isSign_18 : decode cX6_isSign 18 = .ok (.ifCond .eq 19, 3) := by decide +kernel
theorem dX6_isSign_21 : decode cX6_isSign 21 = .ok (.iload_n 0, 1) := by decide +kernel
theorem dX6_isSign_22 : decode cX6_isSign 22 = .ok (.ifCond .ne 11, 3) := by decide +kernel
theorem dX6_isSign_25 : decode cX6_isSign 25 = .ok (.iload_n 1, 1) := by decide +kernel
theorem dX6_isSign_26 : decode cX6_isSign 26 = .ok (.ifCond .ne 7, 3) := by decide +kernel
theorem dX6_isSign_29 : decode cX6_isSign 29 = .ok (.iload_n 2, 1) := by decide +kernel
theorem dX6_isSign_30 : decode cX6_isSign 30 = .ok (.ifCond .eq 7, 3) := by decide +kernel
theorem dX6_isSign_33 : decode cX6_isSign 33 = .ok (.iconst 1, 1) := by decide +kernel
theorem dX6_isSign_34 : decode cX6_isSign 34 = .ok (.goto 4, 3) := by decide +kernel
theorem dX6_isSign_37 : decode cX6_isSign 37 = .ok (.iconst 0, 1) := by decide +kernel
theorem dX6_isSign_38 : decode cX6_isSign 38 = .ok (.ireturn, 1) := by decide +kernel
theorem dX6_isSignNumber_0 : decode cX6_isSignNumber 0 = .ok (.iload_n 0, 1) := by decide +kernel
theorem dX6_isSignNumber_1 : decode cX6_isSignNumber 1 = .ok (.bipush (-3), 2) := by decide +kernel
theorem dX6_isSignNumber_3 : decode cX6_isSignNumber 3 = .ok (.if_icmp .lt 12, 3) := by decide +kernel
theorem dX6_isSignNumber_6 : decode cX6_isSignNumber 6 = .ok (.iload_n 0, 1) := by decide +kernel
theorem dX6_isSignNumber_7 : decode cX6_isSignNumber 7 = .ok (.iconst 3, 1) := by decide +kernel
theorem dX6_isSignNumber_8 : decode cX6_isSignNumber 8 = .ok (.if_icmp .gt 7, 3) := by decide +kernel
theorem dX6_isSignNumber_11 : decode cX6_isSignNumber 11 = .ok (.iconst 1, 1) := by decide +kernel
theorem dX6_isSignNumber_12 : decode cX6_isSignNumber 12 = .ok (.goto 4, 3) := by decide +kernel
theorem dX6_isSignNumber_15 : decode cX6_isSignNumber 15 = .ok (.iconst 0, 1) := by decide +kernel
theorem dX6_isSignNumber_16 : decode cX6_isSignNumber 16 = .ok (.ireturn, 1) := by decide +kernel
theorem dX6_isOff_0 : decode cX6_isOff 0 = .ok (.iload_n 0, 1) := by decide +kernel
theorem dX6_isOff_1 : decode cX6_isOff 1 = .ok (.iconst 1, 1) := by decide +kernel
theorem dX6_isOff_2 : decode cX6_isOff 2 = .ok (.if_icmp .lt 13, 3) := by decide +kernel
theorem dX6_isOff_5 : decode cX6_isOff 5 = .ok (.iload_n 0, 1) := by decide +kernel
theorem dX6_isOff_6 : decode cX6_isOff 6 = .ok (.bipush 60, 2) := by decide +kernel
theorem dX6_isOff_8 : decode cX6_isOff 8 = .ok (.if_icmp .gt 7, 3) := by decide +kernel
theorem dX6_isOff_11 : decode cX6_isOff 11 = .ok (.iconst 1, 1) := by decide +kernel
theorem dX6_isOff_12 : decode cX6_isOff 12 = .ok (.goto 4, 3) := by decide +kernel
theorem dX6_isOff_15 : decode cX6_isOff 15 = .ok (.iconst 0, 1) := by decide +kernel
theorem dX6_isOff_16 : decode cX6_isOff 16 = .ok (.ireturn, 1) := by decide +kernel
theorem dX6_isTurnSet_0 : decode cX6_isTurnSet 0 = .ok (.iload_n 0, 1) := by decide +kernel
theorem dX6_isTurnSet_1 : decode cX6_isTurnSet 1 = .ok (.ifCond .lt 13, 3) := by decide +kernel
theorem dX6_isTurnSet_4 : decode cX6_isTurnSet 4 = .ok (.iload_n 0, 1) := by decide +kernel
theorem dX6_isTurnSet_5 : decode cX6_isTurnSet 5 = .ok (.bipush 63, 2) := by decide +kernel
theorem dX6_isTurnSet_7 : decode cX6_isTurnSet 7 = .ok (.if_icmp .gt 7, 3) := by decide +kernel
theorem dX6_isTurnSet_10 : decode cX6_isTurnSet 10 = .ok (.iconst 1, 1) := by decide +kernel
theorem dX6_isTurnSet_11 : decode cX6_isTurnSet 11 = .ok (.goto 4, 3) := by decide +kernel
theorem dX6_isTurnSet_14 : decode cX6_isTurnSet 14 = .ok (.iconst 0, 1) := by decide +kernel
theorem dX6_isTurnSet_15 : decode cX6_isTurnSet 15 = .ok (.ireturn, 1) := by decide +kernel
theorem dX6_isPlane_0 : decode cX6_isPlane 0 = .ok (.iload_n 1, 1) := by decide +kernel
theorem dX6_isPlane_1 : decode cX6_isPlane 1 = .ok (.ifCond .lt 18, 3) := by decide +kernel
theorem dX6_isPlane_4 : decode cX6_isPlane 4 = .ok (.iload_n 1, 1) := by decide +kernel
theorem dX6_isPlane_5 : decode cX6_isPlane 5 = .ok (.aload_n 0, 1) := by decide +kernel
theorem dX6_isPlane_6 : decode cX6_isPlane 6 = .ok (.getfield 12, 3) := by decide +kernel
theorem dX6_isPlane_9 : decode cX6_isPlane 9 = .ok (.getfield 69, 3) := by decide +kernel
theorem dX6_isPlane_12 : decode cX6_isPlane 12 = .ok (.if_icmp .ge 7, 3) := by decide +kernel
theorem dX6_isPlane_15 : decode cX6_isPlane 15 = .ok (.iconst 1, 1) := by decide +kernel
theorem dX6_isPlane_16 : decode cX6_isPlane 16 = .ok (.goto 4, 3) := by decide +kernel
theorem dX6_isPlane_19 : decode cX6_isPlane 19 = .ok (.iconst 0, 1) := by decide +kernel
theorem dX6_isPlane_20 : decode cX6_isPlane 20 = .ok (.ireturn, 1) := by decide +kernel
theorem dX6_refuseBad_0 : decode cX6_refuseBad 0 = .ok (.aload_n 0, 1) := by decide +kernel
theorem dX6_refuseBad_1 : decode cX6_refuseBad 1 = .ok (.dup, 1) := by decide +kernel
theorem dX6_refuseBad_2 : decode cX6_refuseBad 2 = .ok (.getfield 249, 3) := by decide +kernel
theorem dX6_refuseBad_5 : decode cX6_refuseBad 5 = .ok (.iconst 1, 1) := by decide +kernel
theorem dX6_refuseBad_6 : decode cX6_refuseBad 6 = .ok (.iadd, 1) := by decide +kernel
theorem dX6_refuseBad_7 : decode cX6_refuseBad 7 = .ok (.putfield 249, 3) := by decide +kernel
theorem dX6_refuseBad_10 : decode cX6_refuseBad 10 = .ok (.iload_n 1, 1) := by decide +kernel
theorem dX6_refuseBad_11 : decode cX6_refuseBad 11 = .ok (.ireturn, 1) := by decide +kernel
theorem dX6_refuseNo_0 : decode cX6_refuseNo 0 = .ok (.aload_n 0, 1) := by decide +kernel
theorem dX6_refuseNo_1 : decode cX6_refuseNo 1 = .ok (.dup, 1) := by decide +kernel
theorem dX6_refuseNo_2 : decode cX6_refuseNo 2 = .ok (.getfield 252, 3) := by decide +kernel
theorem dX6_refuseNo_5 : decode cX6_refuseNo 5 = .ok (.iconst 1, 1) := by decide +kernel
theorem dX6_refuseNo_6 : decode cX6_refuseNo 6 = .ok (.iadd, 1) := by decide +kernel
theorem dX6_refuseNo_7 : decode cX6_refuseNo 7 = .ok (.putfield 252, 3) := by decide +kernel
theorem dX6_refuseNo_10 : decode cX6_refuseNo 10 = .ok (.bipush (-3), 2) := by decide +kernel
theorem dX6_refuseNo_12 : decode cX6_refuseNo 12 = .ok (.ireturn, 1) := by decide +kernel
theorem dX6_refuseFull_0 : decode cX6_refuseFull 0 = .ok (.aload_n 0, 1) := by decide +kernel
theorem dX6_refuseFull_1 : decode cX6_refuseFull 1 = .ok (.dup, 1) := by decide +kernel
theorem dX6_refuseFull_2 : decode cX6_refuseFull 2 = .ok (.getfield 255, 3) := by decide +kernel
theorem dX6_refuseFull_5 : decode cX6_refuseFull 5 = .ok (.iconst 1, 1) := by decide +kernel
theorem dX6_refuseFull_6 : decode cX6_refuseFull 6 = .ok (.iadd, 1) := by decide +kernel
theorem dX6_refuseFull_7 : decode cX6_refuseFull 7 = .ok (.putfield 255, 3) := by decide +kernel
theorem dX6_refuseFull_10 : decode cX6_refuseFull 10 = .ok (.bipush (-4), 2) := by decide +kernel
theorem dX6_refuseFull_12 : decode cX6_refuseFull 12 = .ok (.ireturn, 1) := by decide +kernel
theorem dX6_leaveState_0 : decode cX6_leaveState 0 = .ok (.aload_n 0, 1) := by decide +kernel
theorem dX6_leaveState_1 : decode cX6_leaveState 1 = .ok (.getfield 22, 3) := by decide +kernel
theorem dX6_leaveState_4 : decode cX6_leaveState 4 = .ok (.aload_n 0, 1) := by decide +kernel
theorem dX6_leaveState_5 : decode cX6_leaveState 5 = .ok (.getfield 12, 3) := by decide +kernel
theorem dX6_leaveState_8 : decode cX6_leaveState 8 = .ok (.invokevirtual 258, 3) := by decide +kernel
theorem dX6_leaveState_11 : decode cX6_leaveState 11 = .ok (.aload_n 0, 1) := by decide +kernel
theorem dX6_leaveState_12 : decode cX6_leaveState 12 = .ok (.invokevirtual 232, 3) := by decide +kernel
theorem dX6_leaveState_15 : decode cX6_leaveState 15 = .ok (.return_, 1) := by decide +kernel
theorem dX6_forgetCrystal_0 : decode cX6_forgetCrystal 0 = .ok (.aload_n 0, 1) := by decide +kernel
theorem dX6_forgetCrystal_1 : decode cX6_forgetCrystal 1 = .ok (.iconst 0, 1) := by decide +kernel
theorem dX6_forgetCrystal_2 : decode cX6_forgetCrystal 2 = .ok (.putfield 261, 3) := by decide +kernel
theorem dX6_forgetCrystal_5 : decode cX6_forgetCrystal 5 = .ok (.aload_n 0, 1) := by decide +kernel
theorem dX6_forgetCrystal_6 : decode cX6_forgetCrystal 6 = .ok (.iconst 0, 1) := by decide +kernel
theorem dX6_forgetCrystal_7 : decode cX6_forgetCrystal 7 = .ok (.putfield 197, 3) := by decide +kernel
theorem dX6_forgetCrystal_10 : decode cX6_forgetCrystal 10 = .ok (.return_, 1) := by decide +kernel
theorem dX6_crystal_0 : decode cX6_crystal 0 = .ok (.aload_n 0, 1) := by decide +kernel
theorem dX6_crystal_1 : decode cX6_crystal 1 = .ok (.getfield 261, 3) := by decide +kernel
theorem dX6_crystal_4 : decode cX6_crystal 4 = .ok (.ifCond .ne 31, 3) := by decide +kernel
theorem dX6_crystal_7 : decode cX6_crystal 7 = .ok (.aload_n 0, 1) := by decide +kernel
theorem dX6_crystal_8 : decode cX6_crystal 8 = .ok (.getfield 29, 3) := by decide +kernel
theorem dX6_crystal_11 : decode cX6_crystal 11 = .ok (.aload_n 0, 1) := by decide +kernel
theorem dX6_crystal_12 : decode cX6_crystal 12 = .ok (.getfield 12, 3) := by decide +kernel
theorem dX6_crystal_15 : decode cX6_crystal 15 = .ok (.iconst (-1), 1) := by decide +kernel
theorem dX6_crystal_16 : decode cX6_crystal 16 = .ok (.invokevirtual 264, 3) := by decide +kernel
theorem dX6_crystal_19 : decode cX6_crystal 19 = .ok (.aload_n 0, 1) := by decide +kernel
theorem dX6_crystal_20 : decode cX6_crystal 20 = .ok (.getfield 29, 3) := by decide +kernel
theorem dX6_crystal_23 : decode cX6_crystal 23 = .ok (.aload_n 0, 1) := by decide +kernel
theorem dX6_crystal_24 : decode cX6_crystal 24 = .ok (.getfield 12, 3) := by decide +kernel
theorem dX6_crystal_27 : decode cX6_crystal 27 = .ok (.invokevirtual 268, 3) := by decide +kernel
theorem dX6_crystal_30 : decode cX6_crystal 30 = .ok (.aload_n 0, 1) := by decide +kernel
theorem dX6_crystal_31 : decode cX6_crystal 31 = .ok (.iconst 1, 1) := by decide +kernel
theorem dX6_crystal_32 : decode cX6_crystal 32 = .ok (.putfield 261, 3) := by decide +kernel
theorem dX6_crystal_35 : decode cX6_crystal 35 = .ok (.aload_n 0, 1) := by decide +kernel
theorem dX6_crystal_36 : decode cX6_crystal 36 = .ok (.getfield 29, 3) := by decide +kernel
theorem dX6_crystal_39 : decode cX6_crystal 39 = .ok (.areturn, 1) := by decide +kernel
theorem dX6_putDrawn_0 : decode cX6_putDrawn 0 = .ok (.lload_n 1, 1) := by decide +kernel
theorem dX6_putDrawn_1 : decode cX6_putDrawn 1 = .ok (.ldc2_w 271, 3) := by decide +kernel
theorem dX6_putDrawn_4 : decode cX6_putDrawn 4 = .ok (.ldiv, 1) := by decide +kernel
theorem dX6_putDrawn_5 : decode cX6_putDrawn 5 = .ok (.ldc2_w 273, 3) := by decide +kernel
theorem dX6_putDrawn_8 : decode cX6_putDrawn 8 = .ok (.lrem, 1) := by decide +kernel
theorem dX6_putDrawn_9 : decode cX6_putDrawn 9 = .ok (.l2i, 1) := by decide +kernel
theorem dX6_putDrawn_10 : decode cX6_putDrawn 10 = .ok (.iconst 3, 1) := by decide +kernel
theorem dX6_putDrawn_11 : decode cX6_putDrawn 11 = .ok (.isub, 1) := by decide +kernel
theorem dX6_putDrawn_12 : decode cX6_putDrawn 12 = .ok (.istore_n 3, 1) := by decide +kernel
theorem dX6_putDrawn_13 : decode cX6_putDrawn 13 = .ok (.lload_n 1, 1) := by decide +kernel
theorem dX6_putDrawn_14 : decode cX6_putDrawn 14 = .ok (.ldc2_w 275, 3) := by decide +kernel
theorem dX6_putDrawn_17 : decode cX6_putDrawn 17 = .ok (.ldiv, 1) := by decide +kernel
theorem dX6_putDrawn_18 : decode cX6_putDrawn 18 = .ok (.ldc2_w 273, 3) := by decide +kernel
theorem dX6_putDrawn_21 : decode cX6_putDrawn 21 = .ok (.lrem, 1) := by decide +kernel
theorem dX6_putDrawn_22 : decode cX6_putDrawn 22 = .ok (.l2i, 1) := by decide +kernel
theorem dX6_putDrawn_23 : decode cX6_putDrawn 23 = .ok (.iconst 3, 1) := by decide +kernel
theorem dX6_putDrawn_24 : decode cX6_putDrawn 24 = .ok (.isub, 1) := by decide +kernel
theorem dX6_putDrawn_25 : decode cX6_putDrawn 25 = .ok (.istore 4, 2) := by decide +kernel
theorem dX6_putDrawn_27 : decode cX6_putDrawn 27 = .ok (.lload_n 1, 1) := by decide +kernel
theorem dX6_putDrawn_28 : decode cX6_putDrawn 28 = .ok (.ldc2_w 277, 3) := by decide +kernel
theorem dX6_putDrawn_31 : decode cX6_putDrawn 31 = .ok (.ldiv, 1) := by decide +kernel
theorem dX6_putDrawn_32 : decode cX6_putDrawn 32 = .ok (.ldc2_w 273, 3) := by decide +kernel
theorem dX6_putDrawn_35 : decode cX6_putDrawn 35 = .ok (.lrem, 1) := by decide +kernel
theorem dX6_putDrawn_36 : decode cX6_putDrawn 36 = .ok (.l2i, 1) := by decide +kernel
theorem dX6_putDrawn_37 : decode cX6_putDrawn 37 = .ok (.iconst 3, 1) := by decide +kernel
theorem dX6_putDrawn_38 : decode cX6_putDrawn 38 = .ok (.isub, 1) := by decide +kernel
theorem dX6_putDrawn_39 : decode cX6_putDrawn 39 = .ok (.istore 5, 2) := by decide +kernel
theorem dX6_putDrawn_41 : decode cX6_putDrawn 41 = .ok (.iload_n 3, 1) := by decide +kernel
theorem dX6_putDrawn_42 : decode cX6_putDrawn 42 = .ok (.ifCond .ne 15, 3) := by decide +kernel
theorem dX6_putDrawn_45 : decode cX6_putDrawn 45 = .ok (.iload 4, 2) := by decide +kernel
theorem dX6_putDrawn_47 : decode cX6_putDrawn 47 = .ok (.ifCond .ne 10, 3) := by decide +kernel
theorem dX6_putDrawn_50 : decode cX6_putDrawn 50 = .ok (.iload 5, 2) := by decide +kernel
theorem dX6_putDrawn_52 : decode cX6_putDrawn 52 = .ok (.ifCond .ne 5, 3) := by decide +kernel
theorem dX6_putDrawn_55 : decode cX6_putDrawn 55 = .ok (.iconst 1, 1) := by decide +kernel
theorem dX6_putDrawn_56 : decode cX6_putDrawn 56 = .ok (.istore_n 3, 1) := by decide +kernel
theorem dX6_putDrawn_57 : decode cX6_putDrawn 57 = .ok (.aload_n 0, 1) := by decide +kernel
theorem dX6_putDrawn_58 : decode cX6_putDrawn 58 = .ok (.getfield 12, 3) := by decide +kernel
theorem dX6_putDrawn_61 : decode cX6_putDrawn 61 = .ok (.iload_n 3, 1) := by decide +kernel
theorem dX6_putDrawn_62 : decode cX6_putDrawn 62 = .ok (.iload 4, 2) := by decide +kernel
theorem dX6_putDrawn_64 : decode cX6_putDrawn 64 = .ok (.iload 5, 2) := by decide +kernel
theorem dX6_putDrawn_66 : decode cX6_putDrawn 66 = .ok (.bipush 10, 2) := by decide +kernel
theorem dX6_putDrawn_68 : decode cX6_putDrawn 68 = .ok (.lload_n 1, 1) := by decide +kernel
theorem dX6_putDrawn_69 : decode cX6_putDrawn 69 = .ok (.ldc2_w 279, 3) := by decide +kernel
theorem dX6_putDrawn_72 : decode cX6_putDrawn 72 = .ok (.ldiv, 1) := by decide +kernel
theorem dX6_putDrawn_73 : decode cX6_putDrawn 73 = .ok (.ldc2_w 240, 3) := by decide +kernel
theorem dX6_putDrawn_76 : decode cX6_putDrawn 76 = .ok (.lrem, 1) := by decide +kernel
theorem dX6_putDrawn_77 : decode cX6_putDrawn 77 = .ok (.l2i, 1) := by decide +kernel
theorem dX6_putDrawn_78 : decode cX6_putDrawn 78 = .ok (.iadd, 1) := by decide +kernel
theorem dX6_putDrawn_79 : decode cX6_putDrawn 79 = .ok (.invokevirtual 79, 3) := by decide +kernel
theorem dX6_putDrawn_82 : decode cX6_putDrawn 82 = .ok (.return_, 1) := by decide +kernel
theorem dX6_ofPlane_0 : decode cX6_ofPlane 0 = .ok (.iload_n 2, 1) := by decide +kernel
theorem dX6_ofPlane_1 : decode cX6_ofPlane 1 = .ok (.tableswitch 106 0 5 #[39, 49, 59, 69, 79, 96], 39) := by decide +kernel
theorem dX6_ofPlane_40 : decode cX6_ofPlane 40 = .ok (.aload_n 0, 1) := by decide +kernel
theorem dX6_ofPlane_41 : decode cX6_ofPlane 41 = .ok (.getfield 12, 3) := by decide +kernel
theorem dX6_ofPlane_44 : decode cX6_ofPlane 44 = .ok (.getfield 281, 3) := by decide +kernel
theorem dX6_ofPlane_47 : decode cX6_ofPlane 47 = .ok (.iload_n 1, 1) := by decide +kernel
theorem dX6_ofPlane_48 : decode cX6_ofPlane 48 = .ok (.iaload, 1) := by decide +kernel
theorem dX6_ofPlane_49 : decode cX6_ofPlane 49 = .ok (.ireturn, 1) := by decide +kernel
theorem dX6_ofPlane_50 : decode cX6_ofPlane 50 = .ok (.aload_n 0, 1) := by decide +kernel
theorem dX6_ofPlane_51 : decode cX6_ofPlane 51 = .ok (.getfield 12, 3) := by decide +kernel
theorem dX6_ofPlane_54 : decode cX6_ofPlane 54 = .ok (.getfield 284, 3) := by decide +kernel
theorem dX6_ofPlane_57 : decode cX6_ofPlane 57 = .ok (.iload_n 1, 1) := by decide +kernel
theorem dX6_ofPlane_58 : decode cX6_ofPlane 58 = .ok (.iaload, 1) := by decide +kernel
theorem dX6_ofPlane_59 : decode cX6_ofPlane 59 = .ok (.ireturn, 1) := by decide +kernel
theorem dX6_ofPlane_60 : decode cX6_ofPlane 60 = .ok (.aload_n 0, 1) := by decide +kernel
theorem dX6_ofPlane_61 : decode cX6_ofPlane 61 = .ok (.getfield 12, 3) := by decide +kernel
theorem dX6_ofPlane_64 : decode cX6_ofPlane 64 = .ok (.getfield 287, 3) := by decide +kernel
theorem dX6_ofPlane_67 : decode cX6_ofPlane 67 = .ok (.iload_n 1, 1) := by decide +kernel
theorem dX6_ofPlane_68 : decode cX6_ofPlane 68 = .ok (.iaload, 1) := by decide +kernel
theorem dX6_ofPlane_69 : decode cX6_ofPlane 69 = .ok (.ireturn, 1) := by decide +kernel
theorem dX6_ofPlane_70 : decode cX6_ofPlane 70 = .ok (.aload_n 0, 1) := by decide +kernel
theorem dX6_ofPlane_71 : decode cX6_ofPlane 71 = .ok (.getfield 12, 3) := by decide +kernel
theorem dX6_ofPlane_74 : decode cX6_ofPlane 74 = .ok (.getfield 97, 3) := by decide +kernel
theorem dX6_ofPlane_77 : decode cX6_ofPlane 77 = .ok (.iload_n 1, 1) := by decide +kernel
theorem dX6_ofPlane_78 : decode cX6_ofPlane 78 = .ok (.iaload, 1) := by decide +kernel
theorem dX6_ofPlane_79 : decode cX6_ofPlane 79 = .ok (.ireturn, 1) := by decide +kernel
theorem dX6_ofPlane_80 : decode cX6_ofPlane 80 = .ok (.aload_n 0, 1) := by decide +kernel
theorem dX6_ofPlane_81 : decode cX6_ofPlane 81 = .ok (.invokevirtual 116, 3) := by decide +kernel
theorem dX6_ofPlane_84 : decode cX6_ofPlane 84 = .ok (.iload_n 1, 1) := by decide +kernel
theorem dX6_ofPlane_85 : decode cX6_ofPlane 85 = .ok (.invokevirtual 171, 3) := by decide +kernel
theorem dX6_ofPlane_88 : decode cX6_ofPlane 88 = .ok (.ifCond .eq 7, 3) := by decide +kernel
theorem dX6_ofPlane_91 : decode cX6_ofPlane 91 = .ok (.iconst 1, 1) := by decide +kernel
theorem dX6_ofPlane_92 : decode cX6_ofPlane 92 = .ok (.goto 4, 3) := by decide +kernel
theorem dX6_ofPlane_95 : decode cX6_ofPlane 95 = .ok (.iconst 0, 1) := by decide +kernel
theorem dX6_ofPlane_96 : decode cX6_ofPlane 96 = .ok (.ireturn, 1) := by decide +kernel
theorem dX6_ofPlane_97 : decode cX6_ofPlane 97 = .ok (.aload_n 0, 1) := by decide +kernel
theorem dX6_ofPlane_98 : decode cX6_ofPlane 98 = .ok (.invokevirtual 116, 3) := by decide +kernel
theorem dX6_ofPlane_101 : decode cX6_ofPlane 101 = .ok (.getfield 290, 3) := by decide +kernel
theorem dX6_ofPlane_104 : decode cX6_ofPlane 104 = .ok (.iload_n 1, 1) := by decide +kernel
theorem dX6_ofPlane_105 : decode cX6_ofPlane 105 = .ok (.iaload, 1) := by decide +kernel
theorem dX6_ofPlane_106 : decode cX6_ofPlane 106 = .ok (.ireturn, 1) := by decide +kernel
theorem dX6_ofPlane_107 : decode cX6_ofPlane 107 = .ok (.aload_n 0, 1) := by decide +kernel
theorem dX6_ofPlane_108 : decode cX6_ofPlane 108 = .ok (.invokevirtual 116, 3) := by decide +kernel
theorem dX6_ofPlane_111 : decode cX6_ofPlane 111 = .ok (.iload_n 1, 1) := by decide +kernel
theorem dX6_ofPlane_112 : decode cX6_ofPlane 112 = .ok (.invokevirtual 293, 3) := by decide +kernel
theorem dX6_ofPlane_115 : decode cX6_ofPlane 115 = .ok (.ireturn, 1) := by decide +kernel
theorem dX6_howMany_0 : decode cX6_howMany 0 = .ok (.iload_n 1, 1) := by decide +kernel
theorem dX6_howMany_1 : decode cX6_howMany 1 = .ok (.tableswitch 66 0 4 #[35, 40, 45, 50, 58], 35) := by decide +kernel
theorem dX6_howMany_36 : decode cX6_howMany 36 = .ok (.aload_n 0, 1) := by decide +kernel
theorem dX6_howMany_37 : decode cX6_howMany 37 = .ok (.getfield 249, 3) := by decide +kernel
theorem dX6_howMany_40 : decode cX6_howMany 40 = .ok (.ireturn, 1) := by decide +kernel
theorem dX6_howMany_41 : decode cX6_howMany 41 = .ok (.aload_n 0, 1) := by decide +kernel
theorem dX6_howMany_42 : decode cX6_howMany 42 = .ok (.getfield 252, 3) := by decide +kernel
theorem dX6_howMany_45 : decode cX6_howMany 45 = .ok (.ireturn, 1) := by decide +kernel
theorem dX6_howMany_46 : decode cX6_howMany 46 = .ok (.aload_n 0, 1) := by decide +kernel
theorem dX6_howMany_47 : decode cX6_howMany 47 = .ok (.getfield 255, 3) := by decide +kernel
theorem dX6_howMany_50 : decode cX6_howMany 50 = .ok (.ireturn, 1) := by decide +kernel
theorem dX6_howMany_51 : decode cX6_howMany 51 = .ok (.aload_n 0, 1) := by decide +kernel
theorem dX6_howMany_52 : decode cX6_howMany 52 = .ok (.getfield 46, 3) := by decide +kernel
theorem dX6_howMany_55 : decode cX6_howMany 55 = .ok (.getfield 210, 3) := by decide +kernel
theorem dX6_howMany_58 : decode cX6_howMany 58 = .ok (.ireturn, 1) := by decide +kernel
theorem dX6_howMany_59 : decode cX6_howMany 59 = .ok (.aload_n 0, 1) := by decide +kernel
theorem dX6_howMany_60 : decode cX6_howMany 60 = .ok (.getfield 12, 3) := by decide +kernel
theorem dX6_howMany_63 : decode cX6_howMany 63 = .ok (.getfield 69, 3) := by decide +kernel
theorem dX6_howMany_66 : decode cX6_howMany 66 = .ok (.ireturn, 1) := by decide +kernel
theorem dX6_howMany_67 : decode cX6_howMany 67 = .ok (.aload_n 0, 1) := by decide +kernel
theorem dX6_howMany_68 : decode cX6_howMany 68 = .ok (.getfield 22, 3) := by decide +kernel
theorem dX6_howMany_71 : decode cX6_howMany 71 = .ok (.getfield 228, 3) := by decide +kernel
theorem dX6_howMany_74 : decode cX6_howMany 74 = .ok (.ireturn, 1) := by decide +kernel
theorem dX6_setFraction_0 : decode cX6_setFraction 0 = .ok (.iload_n 1, 1) := by decide +kernel
theorem dX6_setFraction_1 : decode cX6_setFraction 1 = .ok (.iload_n 2, 1) := by decide +kernel
theorem dX6_setFraction_2 : decode cX6_setFraction 2 = .ok (.invokestatic 296, 3) := by decide +kernel
theorem dX6_setFraction_5 : decode cX6_setFraction 5 = .ok (.istore_n 3, 1) := by decide +kernel
theorem dX6_setFraction_6 : decode cX6_setFraction 6 = .ok (.iload_n 3, 1) := by decide +kernel
theorem dX6_setFraction_7 : decode cX6_setFraction 7 = .ok (.ifCond .le 17, 3) := by decide +kernel
theorem dX6_setFraction_10 : decode cX6_setFraction 10 = .ok (.aload_n 0, 1) := by decide +kernel
theorem dX6_setFraction_11 : decode cX6_setFraction 11 = .ok (.iload_n 1, 1) := by decide +kernel
theorem dX6_setFraction_12 : decode cX6_setFraction 12 = .ok (.iload_n 3, 1) := by decide +kernel
theorem dX6_setFraction_13 : decode cX6_setFraction 13 = .ok (.idiv, 1) := by decide +kernel
theorem dX6_setFraction_14 : decode cX6_setFraction 14 = .ok (.putfield 165, 3) := by decide +kernel
theorem dX6_setFraction_17 : decode cX6_setFraction 17 = .ok (.aload_n 0, 1) := by decide +kernel
theorem dX6_setFraction_18 : decode cX6_setFraction 18 = .ok (.iload_n 2, 1) := by decide +kernel
theorem dX6_setFraction_19 : decode cX6_setFraction 19 = .ok (.iload_n 3, 1) := by decide +kernel
theorem dX6_setFraction_20 : decode cX6_setFraction 20 = .ok (.idiv, 1) := by decide +kernel
theorem dX6_setFraction_21 : decode cX6_setFraction 21 = .ok (.putfield 53, 3) := by decide +kernel
theorem dX6_setFraction_24 : decode cX6_setFraction 24 = .ok (.return_, 1) := by decide +kernel
theorem dX6_leastBeyond_0 : decode cX6_leastBeyond 0 = .ok (.iload_n 1, 1) := by decide +kernel
theorem dX6_leastBeyond_1 : decode cX6_leastBeyond 1 = .ok (.ifCond .le 11, 3) := by decide +kernel
theorem dX6_leastBeyond_4 : decode cX6_leastBeyond 4 = .ok (.iload_n 0, 1) := by decide +kernel
theorem dX6_leastBeyond_5 : decode cX6_leastBeyond 5 = .ok (.iload_n 1, 1) := by decide +kernel
theorem dX6_leastBeyond_6 : decode cX6_leastBeyond 6 = .ok (.idiv, 1) := by decide +kernel
theorem dX6_leastBeyond_7 : decode cX6_leastBeyond 7 = .ok (.iconst 1, 1) := by decide +kernel
theorem dX6_leastBeyond_8 : decode cX6_leastBeyond 8 = .ok (.iadd, 1) := by decide +kernel
theorem dX6_leastBeyond_9 : decode cX6_leastBeyond 9 = .ok (.goto 5, 3) := by decide +kernel
theorem dX6_leastBeyond_12 : decode cX6_leastBeyond 12 = .ok (.bipush 61, 2) := by decide +kernel
theorem dX6_leastBeyond_14 : decode cX6_leastBeyond 14 = .ok (.istore_n 2, 1) := by decide +kernel
theorem dX6_leastBeyond_15 : decode cX6_leastBeyond 15 = .ok (.iload_n 2, 1) := by decide +kernel
theorem dX6_leastBeyond_16 : decode cX6_leastBeyond 16 = .ok (.bipush 60, 2) := by decide +kernel
theorem dX6_leastBeyond_18 : decode cX6_leastBeyond 18 = .ok (.if_icmp .gt 7, 3) := by decide +kernel
theorem dX6_leastBeyond_21 : decode cX6_leastBeyond 21 = .ok (.iload_n 2, 1) := by decide +kernel
theorem dX6_leastBeyond_22 : decode cX6_leastBeyond 22 = .ok (.goto 4, 3) := by decide +kernel
theorem dX6_leastBeyond_25 : decode cX6_leastBeyond 25 = .ok (.iconst (-1), 1) := by decide +kernel
theorem dX6_leastBeyond_26 : decode cX6_leastBeyond 26 = .ok (.ireturn, 1) := by decide +kernel
theorem dX6_offsWithin_0 : decode cX6_offsWithin 0 = .ok (.iload_n 1, 1) := by decide +kernel
theorem dX6_offsWithin_1 : decode cX6_offsWithin 1 = .ok (.ifCond .le 16, 3) := by decide +kernel
theorem dX6_offsWithin_4 : decode cX6_offsWithin 4 = .ok (.bipush 60, 2) := by decide +kernel
theorem dX6_offsWithin_6 : decode cX6_offsWithin 6 = .ok (.iload_n 0, 1) := by decide +kernel
theorem dX6_offsWithin_7 : decode cX6_offsWithin 7 = .ok (.iconst 1, 1) := by decide +kernel
theorem dX6_offsWithin_8 : decode cX6_offsWithin 8 = .ok (.isub, 1) := by decide +kernel
theorem dX6_offsWithin_9 : decode cX6_offsWithin 9 = .ok (.iload_n 1, 1) := by decide +kernel
theorem dX6_offsWithin_10 : decode cX6_offsWithin 10 = .ok (.idiv, 1) := by decide +kernel
theorem dX6_offsWithin_11 : decode cX6_offsWithin 11 = .ok (.invokestatic 299, 3) := by decide +kernel
theorem dX6_offsWithin_14 : decode cX6_offsWithin 14 = .ok (.goto 4, 3) := by decide +kernel
theorem dX6_offsWithin_17 : decode cX6_offsWithin 17 = .ok (.iconst 0, 1) := by decide +kernel
theorem dX6_offsWithin_18 : decode cX6_offsWithin 18 = .ok (.ireturn, 1) := by decide +kernel
theorem dX6_findSpare_0 : decode cX6_findSpare 0 = .ok (.aload_n 0, 1) := by decide +kernel
theorem dX6_findSpare_1 : decode cX6_findSpare 1 = .ok (.invokevirtual 116, 3) := by decide +kernel
theorem dX6_findSpare_4 : decode cX6_findSpare 4 = .ok (.astore_n 1, 1) := by decide +kernel
theorem dX6_findSpare_5 : decode cX6_findSpare 5 = .ok (.aload_n 0, 1) := by decide +kernel
theorem dX6_findSpare_6 : decode cX6_findSpare 6 = .ok (.iconst (-1), 1) := by decide +kernel
theorem dX6_findSpare_7 : decode cX6_findSpare 7 = .ok (.putfield 204, 3) := by decide +kernel
theorem dX6_findSpare_10 : decode cX6_findSpare 10 = .ok (.aload_n 0, 1) := by decide +kernel
theorem dX6_findSpare_11 : decode cX6_findSpare 11 = .ok (.iconst (-1), 1) := by decide +kernel
theorem dX6_findSpare_12 : decode cX6_findSpare 12 = .ok (.putfield 207, 3) := by decide +kernel
theorem dX6_findSpare_15 : decode cX6_findSpare 15 = .ok (.bipush 6, 2) := by decide +kernel
theorem dX6_findSpare_17 : decode cX6_findSpare 17 = .ok (.istore_n 2, 1) := by decide +kernel
theorem dX6_findSpare_18 : decode cX6_findSpare 18 = .ok (.iload_n 2, 1) := by decide +kernel
theorem dX6_findSpare_19 : decode cX6_findSpare 19 = .ok (.aload_n 0, 1) := by decide +kernel
theorem dX6_findSpare_20 : decode cX6_findSpare 20 = .ok (.getfield 12, 3) := by decide +kernel
theorem dX6_findSpare_23 : decode cX6_findSpare 23 = .ok (.getfield 69, 3) := by decide +kernel
theorem dX6_findSpare_26 : decode cX6_findSpare 26 = .ok (.if_icmp .ge 34, 3) := by decide +kernel
theorem dX6_findSpare_29 : decode cX6_findSpare 29 = .ok (.aload_n 0, 1) := by decide +kernel
theorem dX6_findSpare_30 : decode cX6_findSpare 30 = .ok (.iload_n 2, 1) := by decide +kernel
theorem dX6_findSpare_31 : decode cX6_findSpare 31 = .ok (.aload_n 1, 1) := by decide +kernel
theorem dX6_findSpare_32 : decode cX6_findSpare 32 = .ok (.invokevirtual 304, 3) := by decide +kernel
theorem dX6_findSpare_35 : decode cX6_findSpare 35 = .ok (.istore_n 3, 1) := by decide +kernel
theorem dX6_findSpare_36 : decode cX6_findSpare 36 = .ok (.iload_n 3, 1) := by decide +kernel
theorem dX6_findSpare_37 : decode cX6_findSpare 37 = .ok (.aload_n 0, 1) := by decide +kernel
theorem dX6_findSpare_38 : decode cX6_findSpare 38 = .ok (.getfield 207, 3) := by decide +kernel
theorem dX6_findSpare_41 : decode cX6_findSpare 41 = .ok (.if_icmp .le 13, 3) := by decide +kernel
theorem dX6_findSpare_44 : decode cX6_findSpare 44 = .ok (.aload_n 0, 1) := by decide +kernel
theorem dX6_findSpare_45 : decode cX6_findSpare 45 = .ok (.iload_n 3, 1) := by decide +kernel
theorem dX6_findSpare_46 : decode cX6_findSpare 46 = .ok (.putfield 207, 3) := by decide +kernel
theorem dX6_findSpare_49 : decode cX6_findSpare 49 = .ok (.aload_n 0, 1) := by decide +kernel
theorem dX6_findSpare_50 : decode cX6_findSpare 50 = .ok (.iload_n 2, 1) := by decide +kernel
theorem dX6_findSpare_51 : decode cX6_findSpare 51 = .ok (.putfield 204, 3) := by decide +kernel
theorem dX6_findSpare_54 : decode cX6_findSpare 54 = .ok (.iinc 2 1, 3) := by decide +kernel
theorem dX6_findSpare_57 : decode cX6_findSpare 57 = .ok (.goto (-39), 3) := by decide +kernel
theorem dX6_findSpare_60 : decode cX6_findSpare 60 = .ok (.aload_n 0, 1) := by decide +kernel
theorem dX6_findSpare_61 : decode cX6_findSpare 61 = .ok (.iconst 1, 1) := by decide +kernel
theorem dX6_findSpare_62 : decode cX6_findSpare 62 = .ok (.putfield 197, 3) := by decide +kernel
theorem dX6_findSpare_65 : decode cX6_findSpare 65 = .ok (.return_, 1) := by decide +kernel
theorem dX6_cornersWithout_0 : decode cX6_cornersWithout 0 = .ok (.aload_n 2, 1) := by decide +kernel
theorem dX6_cornersWithout_1 : decode cX6_cornersWithout 1 = .ok (.iload_n 1, 1) := by decide +kernel
theorem dX6_cornersWithout_2 : decode cX6_cornersWithout 2 = .ok (.invokevirtual 171, 3) := by decide +kernel
theorem dX6_cornersWithout_5 : decode cX6_cornersWithout 5 = .ok (.ifCond .ne 8, 3) := by decide +kernel
theorem dX6_cornersWithout_8 : decode cX6_cornersWithout 8 = .ok (.aload_n 2, 1) := by decide +kernel
theorem dX6_cornersWithout_9 : decode cX6_cornersWithout 9 = .ok (.getfield 120, 3) := by decide +kernel
theorem dX6_cornersWithout_12 : decode cX6_cornersWithout 12 = .ok (.ireturn, 1) := by decide +kernel
theorem dX6_cornersWithout_13 : decode cX6_cornersWithout 13 = .ok (.aload_n 0, 1) := by decide +kernel
theorem dX6_cornersWithout_14 : decode cX6_cornersWithout 14 = .ok (.getfield 33, 3) := by decide +kernel
theorem dX6_cornersWithout_17 : decode cX6_cornersWithout 17 = .ok (.aload_n 0, 1) := by decide +kernel
theorem dX6_cornersWithout_18 : decode cX6_cornersWithout 18 = .ok (.getfield 12, 3) := by decide +kernel
theorem dX6_cornersWithout_21 : decode cX6_cornersWithout 21 = .ok (.iload_n 1, 1) := by decide +kernel
theorem dX6_cornersWithout_22 : decode cX6_cornersWithout 22 = .ok (.invokevirtual 264, 3) := by decide +kernel
theorem dX6_cornersWithout_25 : decode cX6_cornersWithout 25 = .ok (.aload_n 0, 1) := by decide +kernel
theorem dX6_cornersWithout_26 : decode cX6_cornersWithout 26 = .ok (.getfield 33, 3) := by decide +kernel
theorem dX6_cornersWithout_29 : decode cX6_cornersWithout 29 = .ok (.getfield 120, 3) := by decide +kernel
theorem dX6_cornersWithout_32 : decode cX6_cornersWithout 32 = .ok (.ireturn, 1) := by decide +kernel
theorem dX6_turned_0 : decode cX6_turned 0 = .ok (.iconst 3, 1) := by decide +kernel
theorem dX6_turned_1 : decode cX6_turned 1 = .ok (.iload_n 0, 1) := by decide +kernel
theorem dX6_turned_2 : decode cX6_turned 2 = .ok (.imul, 1) := by decide +kernel
theorem dX6_turned_3 : decode cX6_turned 3 = .ok (.iload_n 1, 1) := by decide +kernel
theorem dX6_turned_4 : decode cX6_turned 4 = .ok (.iadd, 1) := by decide +kernel
theorem dX6_turned_5 : decode cX6_turned 5 = .ok (.istore 5, 2) := by decide +kernel
theorem dX6_turned_7 : decode cX6_turned 7 = .ok (.iload 5, 2) := by decide +kernel
theorem dX6_turned_9 : decode cX6_turned 9 = .ok (.ifCond .lt 12, 3) := by decide +kernel
theorem dX6_turned_12 : decode cX6_turned 12 = .ok (.iload 5, 2) := by decide +kernel
theorem dX6_turned_14 : decode cX6_turned 14 = .ok (.getstatic 308, 3) := by decide +kernel
theorem dX6_turned_17 : decode cX6_turned 17 = .ok (.arraylength, 1) := by decide +kernel
theorem dX6_turned_18 : decode cX6_turned 18 = .ok (.if_icmp .lt 5, 3) := by decide +kernel
theorem dX6_turned_21 : decode cX6_turned 21 = .ok (.iconst 0, 1) := by decide +kernel
theorem dX6_turned_22 : decode cX6_turned 22 = .ok (.ireturn, 1) := by decide +kernel
theorem dX6_turned_23 : decode cX6_turned 23 = .ok (.getstatic 308, 3) := by decide +kernel
theorem dX6_turned_26 : decode cX6_turned 26 = .ok (.iload 5, 2) := by decide +kernel
theorem dX6_turned_28 : decode cX6_turned 28 = .ok (.iaload, 1) := by decide +kernel
theorem dX6_turned_29 : decode cX6_turned 29 = .ok (.istore 6, 2) := by decide +kernel
theorem dX6_turned_31 : decode cX6_turned 31 = .ok (.iload 6, 2) := by decide +kernel
theorem dX6_turned_33 : decode cX6_turned 33 = .ok (.ifCond .ne 7, 3) := by decide +kernel
theorem dX6_turned_36 : decode cX6_turned 36 = .ok (.iload_n 2, 1) := by decide +kernel
theorem dX6_turned_37 : decode cX6_turned 37 = .ok (.goto 15, 3) := by decide +kernel
theorem dX6_turned_40 : decode cX6_turned 40 = .ok (.iload 6, 2) := by decide +kernel
theorem dX6_turned_42 : decode cX6_turned 42 = .ok (.iconst 1, 1) := by decide +kernel
theorem dX6_turned_43 : decode cX6_turned 43 = .ok (.if_icmp .ne 7, 3) := by decide +kernel
theorem dX6_turned_46 : decode cX6_turned 46 = .ok (.iload_n 3, 1) := by decide +kernel
theorem dX6_turned_47 : decode cX6_turned 47 = .ok (.goto 5, 3) := by decide +kernel
theorem dX6_turned_50 : decode cX6_turned 50 = .ok (.iload 4, 2) := by decide +kernel
theorem dX6_turned_52 : decode cX6_turned 52 = .ok (.istore 7, 2) := by decide +kernel
theorem dX6_turned_54 : decode cX6_turned 54 = .ok (.getstatic 311, 3) := by decide +kernel
theorem dX6_turned_57 : decode cX6_turned 57 = .ok (.iload 5, 2) := by decide +kernel
theorem dX6_turned_59 : decode cX6_turned 59 = .ok (.iaload, 1) := by decide +kernel
theorem dX6_turned_60 : decode cX6_turned 60 = .ok (.iload 7, 2) := by decide +kernel
theorem dX6_turned_62 : decode cX6_turned 62 = .ok (.imul, 1) := by decide +kernel
theorem dX6_turned_63 : decode cX6_turned 63 = .ok (.ireturn, 1) := by decide +kernel
theorem dX6_commonDivisor_0 : decode cX6_commonDivisor 0 = .ok (.iload_n 0, 1) := by decide +kernel
theorem dX6_commonDivisor_1 : decode cX6_commonDivisor 1 = .ok (.invokestatic 314, 3) := by decide +kernel
theorem dX6_commonDivisor_4 : decode cX6_commonDivisor 4 = .ok (.istore_n 2, 1) := by decide +kernel
theorem dX6_commonDivisor_5 : decode cX6_commonDivisor 5 = .ok (.iload_n 1, 1) := by decide +kernel
theorem dX6_commonDivisor_6 : decode cX6_commonDivisor 6 = .ok (.invokestatic 314, 3) := by decide +kernel
theorem dX6_commonDivisor_9 : decode cX6_commonDivisor 9 = .ok (.istore_n 3, 1) := by decide +kernel
theorem dX6_commonDivisor_10 : decode cX6_commonDivisor 10 = .ok (.iconst 0, 1) := by decide +kernel
theorem dX6_commonDivisor_11 : decode cX6_commonDivisor 11 = .ok (.istore 4, 2) := by decide +kernel
theorem dX6_commonDivisor_13 : decode cX6_commonDivisor 13 = .ok (.iload 4, 2) := by decide +kernel
theorem dX6_commonDivisor_15 : decode cX6_commonDivisor 15 = .ok (.bipush 64, 2) := by decide +kernel
theorem dX6_commonDivisor_17 : decode cX6_commonDivisor 17 = .ok (.if_icmp .ge 23, 3) := by decide +kernel
theorem dX6_commonDivisor_20 : decode cX6_commonDivisor 20 = .ok (.iload_n 3, 1) := by decide +kernel
theorem dX6_commonDivisor_21 : decode cX6_commonDivisor 21 = .ok (.ifCond .eq 19, 3) := by decide +kernel
theorem dX6_commonDivisor_24 : decode cX6_commonDivisor 24 = .ok (.iload_n 2, 1) := by decide +kernel
theorem dX6_commonDivisor_25 : decode cX6_commonDivisor 25 = .ok (.iload_n 3, 1) := by decide +kernel
theorem dX6_commonDivisor_26 : decode cX6_commonDivisor 26 = .ok (.irem, 1) := by decide +kernel
theorem dX6_commonDivisor_27 : decode cX6_commonDivisor 27 = .ok (.istore 5, 2) := by decide +kernel
theorem dX6_commonDivisor_29 : decode cX6_commonDivisor 29 = .ok (.iload_n 3, 1) := by decide +kernel
theorem dX6_commonDivisor_30 : decode cX6_commonDivisor 30 = .ok (.istore_n 2, 1) := by decide +kernel
theorem dX6_commonDivisor_31 : decode cX6_commonDivisor 31 = .ok (.iload 5, 2) := by decide +kernel
theorem dX6_commonDivisor_33 : decode cX6_commonDivisor 33 = .ok (.istore_n 3, 1) := by decide +kernel
theorem dX6_commonDivisor_34 : decode cX6_commonDivisor 34 = .ok (.iinc 4 1, 3) := by decide +kernel
theorem dX6_commonDivisor_37 : decode cX6_commonDivisor 37 = .ok (.goto (-24), 3) := by decide +kernel
theorem dX6_commonDivisor_40 : decode cX6_commonDivisor 40 = .ok (.iload_n 2, 1) := by decide +kernel
theorem dX6_commonDivisor_41 : decode cX6_commonDivisor 41 = .ok (.ireturn, 1) := by decide +kernel
theorem dX7_init_0 : decode cX7_init 0 = .ok (.aload_n 0, 1) := by decide +kernel
theorem dX7_init_1 : decode cX7_init 1 = .ok (.invokespecial 1, 3) := by decide +kernel
theorem dX7_init_4 : decode cX7_init 4 = .ok (.aload_n 0, 1) := by decide +kernel
theorem dX7_init_5 : decode cX7_init 5 = .ok (.sipush 129, 3) := by decide +kernel
theorem dX7_init_8 : decode cX7_init 8 = .ok (.newarray .int, 2) := by decide +kernel
theorem dX7_init_10 : decode cX7_init 10 = .ok (.putfield 7, 3) := by decide +kernel
theorem dX7_init_13 : decode cX7_init 13 = .ok (.aload_n 0, 1) := by decide +kernel
theorem dX7_init_14 : decode cX7_init 14 = .ok (.sipush 645, 3) := by decide +kernel
theorem dX7_init_17 : decode cX7_init 17 = .ok (.newarray .int, 2) := by decide +kernel
theorem dX7_init_19 : decode cX7_init 19 = .ok (.putfield 13, 3) := by decide +kernel
theorem dX7_init_22 : decode cX7_init 22 = .ok (.aload_n 0, 1) := by decide +kernel
theorem dX7_init_23 : decode cX7_init 23 = .ok (.sipush 129, 3) := by decide +kernel
theorem dX7_init_26 : decode cX7_init 26 = .ok (.newarray .int, 2) := by decide +kernel
theorem dX7_init_28 : decode cX7_init 28 = .ok (.putfield 16, 3) := by decide +kernel
theorem dX7_init_31 : decode cX7_init 31 = .ok (.aload_n 0, 1) := by decide +kernel
theorem dX7_init_32 : decode cX7_init 32 = .ok (.iconst 3, 1) := by decide +kernel
theorem dX7_init_33 : decode cX7_init 33 = .ok (.newarray .int, 2) := by decide +kernel
theorem dX7_init_35 : decode cX7_init 35 = .ok (.putfield 19, 3) := by decide +kernel
theorem dX7_init_38 : decode cX7_init 38 = .ok (.aload_n 0, 1) := by decide +kernel
theorem dX7_init_39 : decode cX7_init 39 = .ok (.bipush 120, 2) := by decide +kernel
theorem dX7_init_41 : decode cX7_init 41 = .ok (.newarray .int, 2) := by decide +kernel
theorem dX7_init_43 : decode cX7_init 43 = .ok (.putfield 22, 3) := by decide +kernel
theorem dX7_init_46 : decode cX7_init 46 = .ok (.aload_n 0, 1) := by decide +kernel
theorem dX7_init_47 : decode cX7_init 47 = .ok (.lconst 1, 1) := by decide +kernel
theorem dX7_init_48 : decode cX7_init 48 = .ok (.putfield 25, 3) := by decide +kernel
theorem dX7_init_51 : decode cX7_init 51 = .ok (.aload_n 0, 1) := by decide +kernel
theorem dX7_init_52 : decode cX7_init 52 = .ok (.sipush 320, 3) := by decide +kernel
theorem dX7_init_55 : decode cX7_init 55 = .ok (.newarray .int, 2) := by decide +kernel
theorem dX7_init_57 : decode cX7_init 57 = .ok (.putfield 29, 3) := by decide +kernel
theorem dX7_init_60 : decode cX7_init 60 = .ok (.aload_n 0, 1) := by decide +kernel
theorem dX7_init_61 : decode cX7_init 61 = .ok (.bipush 32, 2) := by decide +kernel
theorem dX7_init_63 : decode cX7_init 63 = .ok (.newarray .boolean, 2) := by decide +kernel
theorem dX7_init_65 : decode cX7_init 65 = .ok (.putfield 32, 3) := by decide +kernel
theorem dX7_init_68 : decode cX7_init 68 = .ok (.aload_n 0, 1) := by decide +kernel
theorem dX7_init_69 : decode cX7_init 69 = .ok (.sipush 343, 3) := by decide +kernel
theorem dX7_init_72 : decode cX7_init 72 = .ok (.newarray .boolean, 2) := by decide +kernel
theorem dX7_init_74 : decode cX7_init 74 = .ok (.putfield 36, 3) := by decide +kernel
theorem dX7_init_77 : decode cX7_init 77 = .ok (.aload_n 0, 1) := by decide +kernel
theorem dX7_init_78 : decode cX7_init 78 = .ok (.iconst 3, 1) := by decide +kernel
theorem dX7_init_79 : decode cX7_init 79 = .ok (.newarray .int, 2) := by decide +kernel
theorem dX7_init_81 : decode cX7_init 81 = .ok (.putfield 39, 3) := by decide +kernel
theorem dX7_init_84 : decode cX7_init 84 = .ok (.aload_n 0, 1) := by decide +kernel
theorem dX7_init_85 : decode cX7_init 85 = .ok (.iconst 3, 1) := by decide +kernel
theorem dX7_init_86 : decode cX7_init 86 = .ok (.newarray .int, 2) := by decide +kernel
theorem dX7_init_88 : decode cX7_init 88 = .ok (.putfield 42, 3) := by decide +kernel
theorem dX7_init_91 : decode cX7_init 91 = .ok (.aload_n 0, 1) := by decide +kernel
theorem dX7_init_92 : decode cX7_init 92 = .ok (.getfield 7, 3) := by decide +kernel
theorem dX7_init_95 : decode cX7_init 95 = .ok (.iconst 0, 1) := by decide +kernel
theorem dX7_init_96 : decode cX7_init 96 = .ok (.bipush 6, 2) := by decide +kernel
theorem dX7_init_98 : decode cX7_init 98 = .ok (.iastore, 1) := by decide +kernel
theorem dX7_init_99 : decode cX7_init 99 = .ok (.iconst 0, 1) := by decide +kernel
theorem dX7_init_100 : decode cX7_init 100 = .ok (.istore_n 1, 1) := by decide +kernel
theorem dX7_init_101 : decode cX7_init 101 = .ok (.iload_n 1, 1) := by decide +kernel
theorem dX7_init_102 : decode cX7_init 102 = .ok (.bipush 6, 2) := by decide +kernel
theorem dX7_init_104 : decode cX7_init 104 = .ok (.if_icmp .ge 68, 3) := by decide +kernel
theorem dX7_init_107 : decode cX7_init 107 = .ok (.iconst 0, 1) := by decide +kernel
theorem dX7_init_108 : decode cX7_init 108 = .ok (.istore_n 2, 1) := by decide +kernel
theorem dX7_init_109 : decode cX7_init 109 = .ok (.iload_n 2, 1) := by decide +kernel
theorem dX7_init_110 : decode cX7_init 110 = .ok (.iconst 3, 1) := by decide +kernel
theorem dX7_init_111 : decode cX7_init 111 = .ok (.if_icmp .ge 43, 3) := by decide +kernel
theorem dX7_init_114 : decode cX7_init 114 = .ok (.aload_n 0, 1) := by decide +kernel
theorem dX7_init_115 : decode cX7_init 115 = .ok (.getfield 7, 3) := by decide +kernel
theorem dX7_init_118 : decode cX7_init 118 = .ok (.iconst 1, 1) := by decide +kernel
theorem dX7_init_119 : decode cX7_init 119 = .ok (.iconst 4, 1) := by decide +kernel
theorem dX7_init_120 : decode cX7_init 120 = .ok (.iload_n 1, 1) := by decide +kernel
theorem dX7_init_121 : decode cX7_init 121 = .ok (.imul, 1) := by decide +kernel
theorem dX7_init_122 : decode cX7_init 122 = .ok (.iadd, 1) := by decide +kernel
theorem dX7_init_123 : decode cX7_init 123 = .ok (.iload_n 2, 1) := by decide +kernel
theorem dX7_init_124 : decode cX7_init 124 = .ok (.iadd, 1) := by decide +kernel
theorem dX7_init_125 : decode cX7_init 125 = .ok (.iload_n 1, 1) := by decide +kernel
theorem dX7_init_126 : decode cX7_init 126 = .ok (.iconst 2, 1) := by decide +kernel
theorem dX7_init_127 : decode cX7_init 127 = .ok (.idiv, 1) := by decide +kernel
theorem dX7_init_128 : decode cX7_init 128 = .ok (.iload_n 2, 1) := by decide +kernel
theorem dX7_init_129 : decode cX7_init 129 = .ok (.if_icmp .ne 17, 3) := by decide +kernel
theorem dX7_init_132 : decode cX7_init 132 = .ok (.iload_n 1, 1) := by decide +kernel
theorem dX7_init_133 : decode cX7_init 133 = .ok (.iconst 2, 1) := by decide +kernel
theorem dX7_init_134 : decode cX7_init 134 = .ok (.irem, 1) := by decide +kernel
theorem dX7_init_135 : decode cX7_init 135 = .ok (.ifCond .ne 7, 3) := by decide +kernel
theorem dX7_init_138 : decode cX7_init 138 = .ok (.iconst 1, 1) := by decide +kernel
theorem dX7_init_139 : decode cX7_init 139 = .ok (.goto 8, 3) := by decide +kernel
theorem dX7_init_142 : decode cX7_init 142 = .ok (.iconst (-1), 1) := by decide +kernel
theorem dX7_init_143 : decode cX7_init 143 = .ok (.goto 4, 3) := by decide +kernel
theorem dX7_init_146 : decode cX7_init 146 = .ok (.iconst 0, 1) := by decide +kernel
theorem dX7_init_147 : decode cX7_init 147 = .ok (.iastore, 1) := by decide +kernel
theorem dX7_init_148 : decode cX7_init 148 = .ok (.iinc 2 1, 3) := by decide +kernel
theorem dX7_init_151 : decode cX7_init 151 = .ok (.goto (-42), 3) := by decide +kernel
theorem dX7_init_154 : decode cX7_init 154 = .ok (.aload_n 0, 1) := by decide +kernel
theorem dX7_init_155 : decode cX7_init 155 = .ok (.getfield 7, 3) := by decide +kernel
theorem dX7_init_158 : decode cX7_init 158 = .ok (.iconst 4, 1) := by decide +kernel
theorem dX7_init_159 : decode cX7_init 159 = .ok (.iconst 4, 1) := by decide +kernel
theorem dX7_init_160 : decode cX7_init 160 = .ok (.iload_n 1, 1) := by decide +kernel
theorem dX7_init_161 : decode cX7_init 161 = .ok (.imul, 1) := by decide +kernel
theorem dX7_init_162 : decode cX7_init 162 = .ok (.iadd, 1) := by decide +kernel
theorem dX7_init_163 : decode cX7_init 163 = .ok (.bipush 20, 2) := by decide +kernel
theorem dX7_init_165 : decode cX7_init 165 = .ok (.iastore, 1) := by decide +kernel
theorem dX7_init_166 : decode cX7_init 166 = .ok (.iinc 1 1, 3) := by decide +kernel
theorem dX7_init_169 : decode cX7_init 169 = .ok (.goto (-68), 3) := by decide +kernel
theorem dX7_init_172 : decode cX7_init 172 = .ok (.return_, 1) := by decide +kernel
theorem dX7_in_0 : decode cX7_in 0 = .ok (.iload_n 0, 1) := by decide +kernel
theorem dX7_in_1 : decode cX7_in 1 = .ok (.iload_n 1, 1) := by decide +kernel
theorem dX7_in_2 : decode cX7_in 2 = .ok (.if_icmp .lt 12, 3) := by decide +kernel
theorem dX7_in_5 : decode cX7_in 5 = .ok (.iload_n 0, 1) := by decide +kernel
theorem dX7_in_6 : decode cX7_in 6 = .ok (.iload_n 2, 1) := by decide +kernel
theorem dX7_in_7 : decode cX7_in 7 = .ok (.if_icmp .gt 7, 3) := by decide +kernel
theorem dX7_in_10 : decode cX7_in 10 = .ok (.iconst 1, 1) := by decide +kernel
theorem dX7_in_11 : decode cX7_in 11 = .ok (.goto 4, 3) := by decide +kernel
theorem dX7_in_14 : decode cX7_in 14 = .ok (.iconst 0, 1) := by decide +kernel
theorem dX7_in_15 : decode cX7_in 15 = .ok (.ireturn, 1) := by decide +kernel
theorem dX7_refuses_0 : decode cX7_refuses 0 = .ok (.aload_n 0, 1) := by decide +kernel
theorem dX7_refuses_1 : decode cX7_refuses 1 = .ok (.getfield 19, 3) := by decide +kernel
theorem dX7_refuses_4 : decode cX7_refuses 4 = .ok (.bipush (-2), 2) := by decide +kernel
theorem dX7_refuses_6 : decode cX7_refuses 6 = .ok (.iload_n 1, 1) := by decide +kernel
theorem dX7_refuses_7 : decode cX7_refuses 7 = .ok (.isub, 1) := by decide +kernel
theorem dX7_refuses_8 : decode cX7_refuses 8 = .ok (.dup2, 1) := by decide +kernel
theorem dX7_refuses_9 : decode cX7_refuses 9 = .ok (.iaload, 1) := by decide +kernel
theorem dX7_refuses_10 : decode cX7_refuses 10 = .ok (.iconst 1, 1) := by decide +kernel
theorem dX7_refuses_11 : decode cX7_refuses 11 = .ok (.iadd, 1) := by decide +kernel
theorem dX7_refuses_12 : decode cX7_refuses 12 = .ok (.iastore, 1) := by decide +kernel
theorem dX7_refuses_13 : decode cX7_refuses 13 = .ok (.iload_n 1, 1) := by decide +kernel
theorem dX7_refuses_14 : decode cX7_refuses 14 = .ok (.ireturn, 1) := by decide +kernel
theorem dX7_bad_0 : decode cX7_bad 0 = .ok (.aload_n 0, 1) := by decide +kernel
theorem dX7_bad_1 : decode cX7_bad 1 = .ok (.getfield 19, 3) := by decide +kernel
theorem dX7_bad_4 : decode cX7_bad 4 = .ok (.iconst 0, 1) := by decide +kernel
theorem dX7_bad_5 : decode cX7_bad 5 = .ok (.dup2, 1) := by decide +kernel
theorem dX7_bad_6 : decode cX7_bad 6 = .ok (.iaload, 1) := by decide +kernel
theorem dX7_bad_7 : decode cX7_bad 7 = .ok (.iconst 1, 1) := by decide +kernel
theorem dX7_bad_8 : decode cX7_bad 8 = .ok (.iadd, 1) := by decide +kernel
theorem dX7_bad_9 : decode cX7_bad 9 = .ok (.iastore, 1) := by decide +kernel
theorem dX7_bad_10 : decode cX7_bad 10 = .ok (.iload_n 1, 1) := by decide +kernel
theorem dX7_bad_11 : decode cX7_bad 11 = .ok (.ireturn, 1) := by decide +kernel
theorem dX7_isPlane_0 : decode cX7_isPlane 0 = .ok (.iload_n 1, 1) := by decide +kernel
theorem dX7_isPlane_1 : decode cX7_isPlane 1 = .ok (.iconst 0, 1) := by decide +kernel
theorem dX7_isPlane_2 : decode cX7_isPlane 2 = .ok (.aload_n 0, 1) := by decide +kernel
theorem dX7_isPlane_3 : decode cX7_isPlane 3 = .ok (.getfield 7, 3) := by decide +kernel
theorem dX7_isPlane_6 : decode cX7_isPlane 6 = .ok (.iconst 0, 1) := by decide +kernel
theorem dX7_isPlane_7 : decode cX7_isPlane 7 = .ok (.iaload, 1) := by decide +kernel
theorem dX7_isPlane_8 : decode cX7_isPlane 8 = .ok (.iconst 1, 1) := by decide +kernel
theorem dX7_isPlane_9 : decode cX7_isPlane 9 = .ok (.isub, 1) := by decide +kernel
theorem dX7_isPlane_10 : decode cX7_isPlane 10 = .ok (.invokestatic 45, 3) := by decide +kernel
theorem dX7_isPlane_13 : decode cX7_isPlane 13 = .ok (.ireturn, 1) := by decide +kernel
theorem dX7_isSign_0 : decode cX7_isSign 0 = .ok (.iload_n 0, 1) := by decide +kernel
theorem dX7_isSign_1 : decode cX7_isSign 1 = .ok (.bipush (-3), 2) := by decide +kernel
theorem dX7_isSign_3 : decode cX7_isSign 3 = .ok (.iconst 3, 1) := by decide +kernel
theorem dX7_isSign_4 : decode cX7_isSign 4 = .ok (.invokestatic 45, 3) := by decide +kernel
theorem dX7_isSign_7 : decode cX7_isSign 7 = .ok (.ifCond .eq 39, 3) := by decide +kernel
theorem dX7_isSign_10 : decode cX7_isSign 10 = .ok (.iload_n 1, 1) := by decide +kernel
theorem dX7_isSign_11 : decode cX7_isSign 11 = .ok (.bipush (-3), 2) := by decide +kernel
theorem dX7_isSign_13 : decode cX7_isSign 13 = .ok (.iconst 3, 1) := by decide +kernel
theorem dX7_isSign_14 : decode cX7_isSign 14 = .ok (.invokestatic 45, 3) := by decide +kernel
theorem dX7_isSign_17 : decode cX7_isSign 17 = .ok (.ifCond .eq 29, 3) := by decide +kernel
theorem dX7_isSign_20 : decode cX7_isSign 20 = .ok (.iload_n 2, 1) := by decide +kernel
theorem dX7_isSign_21 : decode cX7_isSign 21 = .ok (.bipush (-3), 2) := by decide +kernel
theorem dX7_isSign_23 : decode cX7_isSign 23 = .ok (.iconst 3, 1) := by decide +kernel
theorem dX7_isSign_24 : decode cX7_isSign 24 = .ok (.invokestatic 45, 3) := by decide +kernel
theorem dX7_isSign_27 : decode cX7_isSign 27 = .ok (.ifCond .eq 19, 3) := by decide +kernel
theorem dX7_isSign_30 : decode cX7_isSign 30 = .ok (.iload_n 0, 1) := by decide +kernel
theorem dX7_isSign_31 : decode cX7_isSign 31 = .ok (.ifCond .ne 11, 3) := by decide +kernel
theorem dX7_isSign_34 : decode cX7_isSign 34 = .ok (.iload_n 1, 1) := by decide +kernel
theorem dX7_isSign_35 : decode cX7_isSign 35 = .ok (.ifCond .ne 7, 3) := by decide +kernel
theorem dX7_isSign_38 : decode cX7_isSign 38 = .ok (.iload_n 2, 1) := by decide +kernel
theorem dX7_isSign_39 : decode cX7_isSign 39 = .ok (.ifCond .eq 7, 3) := by decide +kernel
theorem dX7_isSign_42 : decode cX7_isSign 42 = .ok (.iconst 1, 1) := by decide +kernel
theorem dX7_isSign_43 : decode cX7_isSign 43 = .ok (.goto 4, 3) := by decide +kernel
theorem dX7_isSign_46 : decode cX7_isSign 46 = .ok (.iconst 0, 1) := by decide +kernel
theorem dX7_isSign_47 : decode cX7_isSign 47 = .ok (.ireturn, 1) := by decide +kernel
theorem dX7_get_0 : decode cX7_get 0 = .ok (.aload_n 0, 1) := by decide +kernel
theorem dX7_get_1 : decode cX7_get 1 = .ok (.getfield 7, 3) := by decide +kernel
theorem dX7_get_4 : decode cX7_get 4 = .ok (.iconst 1, 1) := by decide +kernel
theorem dX7_get_5 : decode cX7_get 5 = .ok (.iconst 4, 1) := by decide +kernel
theorem dX7_get_6 : decode cX7_get 6 = .ok (.iload_n 1, 1) := by decide +kernel
theorem dX7_get_7 : decode cX7_get 7 = .ok (.imul, 1) := by decide +kernel
theorem dX7_get_8 : decode cX7_get 8 = .ok (.iadd, 1) := by decide +kernel
theorem dX7_get_9 : decode cX7_get 9 = .ok (.iload_n 2, 1) := by decide +kernel
theorem dX7_get_10 : decode cX7_get 10 = .ok (.iadd, 1) := by decide +kernel
theorem dX7_get_11 : decode cX7_get 11 = .ok (.iaload, 1) := by decide +kernel
theorem dX7_get_12 : decode cX7_get 12 = .ok (.ireturn, 1) := by decide +kernel
theorem dX7_aside_0 : decode cX7_aside 0 = .ok (.iconst 0, 1) := by decide +kernel
theorem dX7_aside_1 : decode cX7_aside 1 = .ok (.istore_n 1, 1) := by decide +kernel
theorem dX7_aside_2 : decode cX7_aside 2 = .ok (.iload_n 1, 1) := by decide +kernel
theorem dX7_aside_3 : decode cX7_aside 3 = .ok (.sipush 129, 3) := by decide +kernel
theorem dX7_aside_6 : decode cX7_aside 6 = .ok (.if_icmp .ge 21, 3) := by decide +kernel
theorem dX7_aside_9 : decode cX7_aside 9 = .ok (.aload_n 0, 1) := by decide +kernel
theorem dX7_aside_10 : decode cX7_aside 10 = .ok (.getfield 16, 3) := by decide +kernel
theorem dX7_aside_13 : decode cX7_aside 13 = .ok (.iload_n 1, 1) := by decide +kernel
theorem dX7_aside_14 : decode cX7_aside 14 = .ok (.aload_n 0, 1) := by decide +kernel
theorem dX7_aside_15 : decode cX7_aside 15 = .ok (.getfield 7, 3) := by decide +kernel
theorem dX7_aside_18 : decode cX7_aside 18 = .ok (.iload_n 1, 1) := by decide +kernel
theorem dX7_aside_19 : decode cX7_aside 19 = .ok (.iaload, 1) := by decide +kernel
theorem dX7_aside_20 : decode cX7_aside 20 = .ok (.iastore, 1) := by decide +kernel
theorem dX7_aside_21 : decode cX7_aside 21 = .ok (.iinc 1 1, 3) := by decide +kernel
theorem dX7_aside_24 : decode cX7_aside 24 = .ok (.goto (-22), 3) := by decide +kernel
theorem dX7_aside_27 : decode cX7_aside 27 = .ok (.return_, 1) := by decide +kernel
theorem dX7_restores_0 : decode cX7_restores 0 = .ok (.iconst 0, 1) := by decide +kernel
theorem dX7_restores_1 : decode cX7_restores 1 = .ok (.istore_n 1, 1) := by decide +kernel
theorem dX7_restores_2 : decode cX7_restores 2 = .ok (.iload_n 1, 1) := by decide +kernel
theorem dX7_restores_3 : decode cX7_restores 3 = .ok (.sipush 129, 3) := by decide +kernel
theorem dX7_restores_6 : decode cX7_restores 6 = .ok (.if_icmp .ge 21, 3) := by decide +kernel
theorem dX7_restores_9 : decode cX7_restores 9 = .ok (.aload_n 0, 1) := by decide +kernel
theorem dX7_restores_10 : decode cX7_restores 10 = .ok (.getfield 7, 3) := by decide +kernel
theorem dX7_restores_13 : decode cX7_restores 13 = .ok (.iload_n 1, 1) := by decide +kernel
theorem dX7_restores_14 : decode cX7_restores 14 = .ok (.aload_n 0, 1) := by decide +kernel
theorem dX7_restores_15 : decode cX7_restores 15 = .ok (.getfield 16, 3) := by decide +kernel
