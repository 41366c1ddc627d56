theorem dX3_init_7 : decode cX3_init 7 = .ok (.newarray .byte, 2) := by decide +kernel
theorem dX3_init_9 : decode cX3_init 9 = .ok (.putfield 9, 3) := by decide +kernel
theorem dX3_init_12 : decode cX3_init 12 = .ok (.return_, 1) := by decide +kernel
theorem dX3_readAll_0 : decode cX3_readAll 0 = .ok (.aload_n 0, 1) := by decide +kernel
theorem dX3_readAll_1 : decode cX3_readAll 1 = .ok (.iconst 0, 1) := by decide +kernel
theorem dX3_readAll_2 : decode cX3_readAll 2 = .ok (.putfield 15, 3) := by decide +kernel
theorem dX3_readAll_5 : decode cX3_readAll 5 = .ok (.iconst 0, 1) := by decide +kernel
theorem dX3_readAll_6 : decode cX3_readAll 6 = .ok (.istore_n 3, 1) := by decide +kernel
theorem dX3_readAll_7 : decode cX3_readAll 7 = .ok (.iload_n 3, 1) := by decide +kernel
theorem dX3_readAll_8 : decode cX3_readAll 8 = .ok (.bipush 120, 2) := by decide +kernel
theorem dX3_readAll_10 : decode cX3_readAll 10 = .ok (.if_icmp .ge 30, 3) := by decide +kernel
theorem dX3_readAll_13 : decode cX3_readAll 13 = .ok (.aload_n 0, 1) := by decide +kernel
theorem dX3_readAll_14 : decode cX3_readAll 14 = .ok (.aload_n 1, 1) := by decide +kernel
theorem dX3_readAll_15 : decode cX3_readAll 15 = .ok (.aload_n 2, 1) := by decide +kernel
theorem dX3_readAll_16 : decode cX3_readAll 16 = .ok (.invokevirtual 19, 3) := by decide +kernel
theorem dX3_readAll_19 : decode cX3_readAll 19 = .ok (.ifCond .ne 5, 3) := by decide +kernel
theorem dX3_readAll_22 : decode cX3_readAll 22 = .ok (.iconst 0, 1) := by decide +kernel
theorem dX3_readAll_23 : decode cX3_readAll 23 = .ok (.ireturn, 1) := by decide +kernel
theorem dX3_readAll_24 : decode cX3_readAll 24 = .ok (.aload_n 0, 1) := by decide +kernel
theorem dX3_readAll_25 : decode cX3_readAll 25 = .ok (.invokevirtual 23, 3) := by decide +kernel
theorem dX3_readAll_28 : decode cX3_readAll 28 = .ok (.iconst (-1), 1) := by decide +kernel
theorem dX3_readAll_29 : decode cX3_readAll 29 = .ok (.if_icmp .ne 5, 3) := by decide +kernel
theorem dX3_readAll_32 : decode cX3_readAll 32 = .ok (.iconst 1, 1) := by decide +kernel
theorem dX3_readAll_33 : decode cX3_readAll 33 = .ok (.ireturn, 1) := by decide +kernel
theorem dX3_readAll_34 : decode cX3_readAll 34 = .ok (.iinc 3 1, 3) := by decide +kernel
theorem dX3_readAll_37 : decode cX3_readAll 37 = .ok (.goto (-30), 3) := by decide +kernel
theorem dX3_readAll_40 : decode cX3_readAll 40 = .ok (.iconst 0, 1) := by decide +kernel
theorem dX3_readAll_41 : decode cX3_readAll 41 = .ok (.ireturn, 1) := by decide +kernel
theorem dX3_readOne_0 : decode cX3_readOne 0 = .ok (.aload_n 0, 1) := by decide +kernel
theorem dX3_readOne_1 : decode cX3_readOne 1 = .ok (.iconst 0, 1) := by decide +kernel
theorem dX3_readOne_2 : decode cX3_readOne 2 = .ok (.putfield 27, 3) := by decide +kernel
theorem dX3_readOne_5 : decode cX3_readOne 5 = .ok (.aload_n 0, 1) := by decide +kernel
theorem dX3_readOne_6 : decode cX3_readOne 6 = .ok (.invokevirtual 30, 3) := by decide +kernel
theorem dX3_readOne_9 : decode cX3_readOne 9 = .ok (.ifCond .eq 12, 3) := by decide +kernel
theorem dX3_readOne_12 : decode cX3_readOne 12 = .ok (.aload_n 0, 1) := by decide +kernel
theorem dX3_readOne_13 : decode cX3_readOne 13 = .ok (.invokevirtual 34, 3) := by decide +kernel
theorem dX3_readOne_16 : decode cX3_readOne 16 = .ok (.ifCond .ne 5, 3) := by decide +kernel
theorem dX3_readOne_19 : decode cX3_readOne 19 = .ok (.iconst 0, 1) := by decide +kernel
theorem dX3_readOne_20 : decode cX3_readOne 20 = .ok (.ireturn, 1) := by decide +kernel
theorem dX3_readOne_21 : decode cX3_readOne 21 = .ok (.aload_n 0, 1) := by decide +kernel
theorem dX3_readOne_22 : decode cX3_readOne 22 = .ok (.invokevirtual 37, 3) := by decide +kernel
theorem dX3_readOne_25 : decode cX3_readOne 25 = .ok (.ifCond .eq 23, 3) := by decide +kernel
theorem dX3_readOne_28 : decode cX3_readOne 28 = .ok (.aload_n 0, 1) := by decide +kernel
theorem dX3_readOne_29 : decode cX3_readOne 29 = .ok (.invokevirtual 40, 3) := by decide +kernel
theorem dX3_readOne_32 : decode cX3_readOne 32 = .ok (.ifCond .eq 16, 3) := by decide +kernel
theorem dX3_readOne_35 : decode cX3_readOne 35 = .ok (.aload_n 0, 1) := by decide +kernel
theorem dX3_readOne_36 : decode cX3_readOne 36 = .ok (.aload_n 1, 1) := by decide +kernel
theorem dX3_readOne_37 : decode cX3_readOne 37 = .ok (.aload_n 2, 1) := by decide +kernel
theorem dX3_readOne_38 : decode cX3_readOne 38 = .ok (.invokevirtual 43, 3) := by decide +kernel
theorem dX3_readOne_41 : decode cX3_readOne 41 = .ok (.ifCond .eq 7, 3) := by decide +kernel
theorem dX3_readOne_44 : decode cX3_readOne 44 = .ok (.iconst 1, 1) := by decide +kernel
theorem dX3_readOne_45 : decode cX3_readOne 45 = .ok (.goto 4, 3) := by decide +kernel
theorem dX3_readOne_48 : decode cX3_readOne 48 = .ok (.iconst 0, 1) := by decide +kernel
theorem dX3_readOne_49 : decode cX3_readOne 49 = .ok (.ireturn, 1) := by decide +kernel
theorem dX3_isColonAhead_0 : decode cX3_isColonAhead 0 = .ok (.aload_n 0, 1) := by decide +kernel
theorem dX3_isColonAhead_1 : decode cX3_isColonAhead 1 = .ok (.getfield 15, 3) := by decide +kernel
theorem dX3_isColonAhead_4 : decode cX3_isColonAhead 4 = .ok (.istore_n 1, 1) := by decide +kernel
theorem dX3_isColonAhead_5 : decode cX3_isColonAhead 5 = .ok (.iload_n 1, 1) := by decide +kernel
theorem dX3_isColonAhead_6 : decode cX3_isColonAhead 6 = .ok (.aload_n 0, 1) := by decide +kernel
theorem dX3_isColonAhead_7 : decode cX3_isColonAhead 7 = .ok (.getfield 46, 3) := by decide +kernel
theorem dX3_isColonAhead_10 : decode cX3_isColonAhead 10 = .ok (.if_icmp .ge 33, 3) := by decide +kernel
theorem dX3_isColonAhead_13 : decode cX3_isColonAhead 13 = .ok (.aload_n 0, 1) := by decide +kernel
theorem dX3_isColonAhead_14 : decode cX3_isColonAhead 14 = .ok (.getfield 9, 3) := by decide +kernel
theorem dX3_isColonAhead_17 : decode cX3_isColonAhead 17 = .ok (.iload_n 1, 1) := by decide +kernel
theorem dX3_isColonAhead_18 : decode cX3_isColonAhead 18 = .ok (.baload, 1) := by decide +kernel
theorem dX3_isColonAhead_19 : decode cX3_isColonAhead 19 = .ok (.bipush 59, 2) := by decide +kernel
theorem dX3_isColonAhead_21 : decode cX3_isColonAhead 21 = .ok (.if_icmp .eq 22, 3) := by decide +kernel
theorem dX3_isColonAhead_24 : decode cX3_isColonAhead 24 = .ok (.aload_n 0, 1) := by decide +kernel
theorem dX3_isColonAhead_25 : decode cX3_isColonAhead 25 = .ok (.getfield 9, 3) := by decide +kernel
theorem dX3_isColonAhead_28 : decode cX3_isColonAhead 28 = .ok (.iload_n 1, 1) := by decide +kernel
theorem dX3_isColonAhead_29 : decode cX3_isColonAhead 29 = .ok (.baload, 1) := by decide +kernel
theorem dX3_isColonAhead_30 : decode cX3_isColonAhead 30 = .ok (.bipush 58, 2) := by decide +kernel
theorem dX3_isColonAhead_32 : decode cX3_isColonAhead 32 = .ok (.if_icmp .ne 5, 3) := by decide +kernel
theorem dX3_isColonAhead_35 : decode cX3_isColonAhead 35 = .ok (.iconst 1, 1) := by decide +kernel
theorem dX3_isColonAhead_36 : decode cX3_isColonAhead 36 = .ok (.ireturn, 1) := by decide +kernel
theorem dX3_isColonAhead_37 : decode cX3_isColonAhead 37 = .ok (.iinc 1 1, 3) := by decide +kernel
theorem dX3_isColonAhead_40 : decode cX3_isColonAhead 40 = .ok (.goto (-35), 3) := by decide +kernel
theorem dX3_isColonAhead_43 : decode cX3_isColonAhead 43 = .ok (.iconst 0, 1) := by decide +kernel
theorem dX3_isColonAhead_44 : decode cX3_isColonAhead 44 = .ok (.ireturn, 1) := by decide +kernel
theorem dX3_look_0 : decode cX3_look 0 = .ok (.aload_n 0, 1) := by decide +kernel
theorem dX3_look_1 : decode cX3_look 1 = .ok (.getfield 15, 3) := by decide +kernel
theorem dX3_look_4 : decode cX3_look 4 = .ok (.aload_n 0, 1) := by decide +kernel
theorem dX3_look_5 : decode cX3_look 5 = .ok (.getfield 46, 3) := by decide +kernel
theorem dX3_look_8 : decode cX3_look 8 = .ok (.if_icmp .ge 30, 3) := by decide +kernel
theorem dX3_look_11 : decode cX3_look 11 = .ok (.aload_n 0, 1) := by decide +kernel
theorem dX3_look_12 : decode cX3_look 12 = .ok (.getfield 9, 3) := by decide +kernel
theorem dX3_look_15 : decode cX3_look 15 = .ok (.aload_n 0, 1) := by decide +kernel
theorem dX3_look_16 : decode cX3_look 16 = .ok (.getfield 15, 3) := by decide +kernel
theorem dX3_look_19 : decode cX3_look 19 = .ok (.baload, 1) := by decide +kernel
theorem dX3_look_20 : decode cX3_look 20 = .ok (.bipush 32, 2) := by decide +kernel
theorem dX3_look_22 : decode cX3_look 22 = .ok (.if_icmp .ne 16, 3) := by decide +kernel
theorem dX3_look_25 : decode cX3_look 25 = .ok (.aload_n 0, 1) := by decide +kernel
theorem dX3_look_26 : decode cX3_look 26 = .ok (.dup, 1) := by decide +kernel
theorem dX3_look_27 : decode cX3_look 27 = .ok (.getfield 15, 3) := by decide +kernel
theorem dX3_look_30 : decode cX3_look 30 = .ok (.iconst 1, 1) := by decide +kernel
theorem dX3_look_31 : decode cX3_look 31 = .ok (.iadd, 1) := by decide +kernel
theorem dX3_look_32 : decode cX3_look 32 = .ok (.putfield 15, 3) := by decide +kernel
theorem dX3_look_35 : decode cX3_look 35 = .ok (.goto (-35), 3) := by decide +kernel
theorem dX3_look_38 : decode cX3_look 38 = .ok (.aload_n 0, 1) := by decide +kernel
theorem dX3_look_39 : decode cX3_look 39 = .ok (.getfield 15, 3) := by decide +kernel
theorem dX3_look_42 : decode cX3_look 42 = .ok (.aload_n 0, 1) := by decide +kernel
theorem dX3_look_43 : decode cX3_look 43 = .ok (.getfield 46, 3) := by decide +kernel
theorem dX3_look_46 : decode cX3_look 46 = .ok (.if_icmp .ge 15, 3) := by decide +kernel
theorem dX3_look_49 : decode cX3_look 49 = .ok (.aload_n 0, 1) := by decide +kernel
theorem dX3_look_50 : decode cX3_look 50 = .ok (.getfield 9, 3) := by decide +kernel
theorem dX3_look_53 : decode cX3_look 53 = .ok (.aload_n 0, 1) := by decide +kernel
theorem dX3_look_54 : decode cX3_look 54 = .ok (.getfield 15, 3) := by decide +kernel
theorem dX3_look_57 : decode cX3_look 57 = .ok (.baload, 1) := by decide +kernel
theorem dX3_look_58 : decode cX3_look 58 = .ok (.goto 4, 3) := by decide +kernel
theorem dX3_look_61 : decode cX3_look 61 = .ok (.iconst (-1), 1) := by decide +kernel
theorem dX3_look_62 : decode cX3_look 62 = .ok (.ireturn, 1) := by decide +kernel
theorem dX3_readTurns_0 : decode cX3_readTurns 0 = .ok (.iconst 0, 1) := by decide +kernel
theorem dX3_readTurns_1 : decode cX3_readTurns 1 = .ok (.istore_n 1, 1) := by decide +kernel
theorem dX3_readTurns_2 : decode cX3_readTurns 2 = .ok (.iload_n 1, 1) := by decide +kernel
theorem dX3_readTurns_3 : decode cX3_readTurns 3 = .ok (.bipush 120, 2) := by decide +kernel
theorem dX3_readTurns_5 : decode cX3_readTurns 5 = .ok (.if_icmp .ge 78, 3) := by decide +kernel
theorem dX3_readTurns_8 : decode cX3_readTurns 8 = .ok (.aload_n 0, 1) := by decide +kernel
theorem dX3_readTurns_9 : decode cX3_readTurns 9 = .ok (.invokevirtual 23, 3) := by decide +kernel
theorem dX3_readTurns_12 : decode cX3_readTurns 12 = .ok (.istore_n 2, 1) := by decide +kernel
theorem dX3_readTurns_13 : decode cX3_readTurns 13 = .ok (.iload_n 2, 1) := by decide +kernel
theorem dX3_readTurns_14 : decode cX3_readTurns 14 = .ok (.bipush 58, 2) := by decide +kernel
theorem dX3_readTurns_16 : decode cX3_readTurns 16 = .ok (.if_icmp .ne 22, 3) := by decide +kernel
theorem dX3_readTurns_19 : decode cX3_readTurns 19 = .ok (.aload_n 0, 1) := by decide +kernel
theorem dX3_readTurns_20 : decode cX3_readTurns 20 = .ok (.getfield 27, 3) := by decide +kernel
theorem dX3_readTurns_23 : decode cX3_readTurns 23 = .ok (.ifCond .eq 15, 3) := by decide +kernel
theorem dX3_readTurns_26 : decode cX3_readTurns 26 = .ok (.aload_n 0, 1) := by decide +kernel
theorem dX3_readTurns_27 : decode cX3_readTurns 27 = .ok (.dup, 1) := by decide +kernel
theorem dX3_readTurns_28 : decode cX3_readTurns 28 = .ok (.getfield 15, 3) := by decide +kernel
theorem dX3_readTurns_31 : decode cX3_readTurns 31 = .ok (.iconst 1, 1) := by decide +kernel
theorem dX3_readTurns_32 : decode cX3_readTurns 32 = .ok (.iadd, 1) := by decide +kernel
theorem dX3_readTurns_33 : decode cX3_readTurns 33 = .ok (.putfield 15, 3) := by decide +kernel
theorem dX3_readTurns_36 : decode cX3_readTurns 36 = .ok (.iconst 1, 1) := by decide +kernel
theorem dX3_readTurns_37 : decode cX3_readTurns 37 = .ok (.ireturn, 1) := by decide +kernel
theorem dX3_readTurns_38 : decode cX3_readTurns 38 = .ok (.iload_n 2, 1) := by decide +kernel
theorem dX3_readTurns_39 : decode cX3_readTurns 39 = .ok (.bipush 48, 2) := by decide +kernel
theorem dX3_readTurns_41 : decode cX3_readTurns 41 = .ok (.if_icmp .lt 9, 3) := by decide +kernel
theorem dX3_readTurns_44 : decode cX3_readTurns 44 = .ok (.iload_n 2, 1) := by decide +kernel
theorem dX3_readTurns_45 : decode cX3_readTurns 45 = .ok (.bipush 53, 2) := by decide +kernel
theorem dX3_readTurns_47 : decode cX3_readTurns 47 = .ok (.if_icmp .le 5, 3) := by decide +kernel
theorem dX3_readTurns_50 : decode cX3_readTurns 50 = .ok (.iconst 0, 1) := by decide +kernel
theorem dX3_readTurns_51 : decode cX3_readTurns 51 = .ok (.ireturn, 1) := by decide +kernel
theorem dX3_readTurns_52 : decode cX3_readTurns 52 = .ok (.aload_n 0, 1) := by decide +kernel
theorem dX3_readTurns_53 : decode cX3_readTurns 53 = .ok (.dup, 1) := by decide +kernel
theorem dX3_readTurns_54 : decode cX3_readTurns 54 = .ok (.getfield 27, 3) := by decide +kernel
theorem dX3_readTurns_57 : decode cX3_readTurns 57 = .ok (.iconst 1, 1) := by decide +kernel
theorem dX3_readTurns_58 : decode cX3_readTurns 58 = .ok (.iload_n 2, 1) := by decide +kernel
theorem dX3_readTurns_59 : decode cX3_readTurns 59 = .ok (.bipush 48, 2) := by decide +kernel
theorem dX3_readTurns_61 : decode cX3_readTurns 61 = .ok (.isub, 1) := by decide +kernel
theorem dX3_readTurns_62 : decode cX3_readTurns 62 = .ok (.ishl, 1) := by decide +kernel
theorem dX3_readTurns_63 : decode cX3_readTurns 63 = .ok (.ior, 1) := by decide +kernel
theorem dX3_readTurns_64 : decode cX3_readTurns 64 = .ok (.putfield 27, 3) := by decide +kernel
theorem dX3_readTurns_67 : decode cX3_readTurns 67 = .ok (.aload_n 0, 1) := by decide +kernel
theorem dX3_readTurns_68 : decode cX3_readTurns 68 = .ok (.dup, 1) := by decide +kernel
theorem dX3_readTurns_69 : decode cX3_readTurns 69 = .ok (.getfield 15, 3) := by decide +kernel
theorem dX3_readTurns_72 : decode cX3_readTurns 72 = .ok (.iconst 1, 1) := by decide +kernel
theorem dX3_readTurns_73 : decode cX3_readTurns 73 = .ok (.iadd, 1) := by decide +kernel
theorem dX3_readTurns_74 : decode cX3_readTurns 74 = .ok (.putfield 15, 3) := by decide +kernel
theorem dX3_readTurns_77 : decode cX3_readTurns 77 = .ok (.iinc 1 1, 3) := by decide +kernel
theorem dX3_readTurns_80 : decode cX3_readTurns 80 = .ok (.goto (-78), 3) := by decide +kernel
theorem dX3_readTurns_83 : decode cX3_readTurns 83 = .ok (.iconst 0, 1) := by decide +kernel
theorem dX3_readTurns_84 : decode cX3_readTurns 84 = .ok (.ireturn, 1) := by decide +kernel
theorem dX3_readSign_0 : decode cX3_readSign 0 = .ok (.aload_n 0, 1) := by decide +kernel
theorem dX3_readSign_1 : decode cX3_readSign 1 = .ok (.invokevirtual 49, 3) := by decide +kernel
theorem dX3_readSign_4 : decode cX3_readSign 4 = .ok (.ifCond .ne 5, 3) := by decide +kernel
theorem dX3_readSign_7 : decode cX3_readSign 7 = .ok (.iconst 0, 1) := by decide +kernel
theorem dX3_readSign_8 : decode cX3_readSign 8 = .ok (.ireturn, 1) := by decide +kernel
theorem dX3_readSign_9 : decode cX3_readSign 9 = .ok (.aload_n 0, 1) := by decide +kernel
theorem dX3_readSign_10 : decode cX3_readSign 10 = .ok (.aload_n 0, 1) := by decide +kernel
theorem dX3_readSign_11 : decode cX3_readSign 11 = .ok (.getfield 52, 3) := by decide +kernel
theorem dX3_readSign_14 : decode cX3_readSign 14 = .ok (.putfield 55, 3) := by decide +kernel
theorem dX3_readSign_17 : decode cX3_readSign 17 = .ok (.aload_n 0, 1) := by decide +kernel
theorem dX3_readSign_18 : decode cX3_readSign 18 = .ok (.invokevirtual 49, 3) := by decide +kernel
theorem dX3_readSign_21 : decode cX3_readSign 21 = .ok (.ifCond .ne 5, 3) := by decide +kernel
theorem dX3_readSign_24 : decode cX3_readSign 24 = .ok (.iconst 0, 1) := by decide +kernel
theorem dX3_readSign_25 : decode cX3_readSign 25 = .ok (.ireturn, 1) := by decide +kernel
theorem dX3_readSign_26 : decode cX3_readSign 26 = .ok (.aload_n 0, 1) := by decide +kernel
theorem dX3_readSign_27 : decode cX3_readSign 27 = .ok (.aload_n 0, 1) := by decide +kernel
theorem dX3_readSign_28 : decode cX3_readSign 28 = .ok (.getfield 52, 3) := by decide +kernel
theorem dX3_readSign_31 : decode cX3_readSign 31 = .ok (.putfield 58, 3) := by decide +kernel
theorem dX3_readSign_34 : decode cX3_readSign 34 = .ok (.aload_n 0, 1) := by decide +kernel
theorem dX3_readSign_35 : decode cX3_readSign 35 = .ok (.invokevirtual 49, 3) := by decide +kernel
theorem dX3_readSign_38 : decode cX3_readSign 38 = .ok (.ifCond .ne 5, 3) := by decide +kernel
theorem dX3_readSign_41 : decode cX3_readSign 41 = .ok (.iconst 0, 1) := by decide +kernel
theorem dX3_readSign_42 : decode cX3_readSign 42 = .ok (.ireturn, 1) := by decide +kernel
theorem dX3_readSign_43 : decode cX3_readSign 43 = .ok (.aload_n 0, 1) := by decide +kernel
theorem dX3_readSign_44 : decode cX3_readSign 44 = .ok (.aload_n 0, 1) := by decide +kernel
theorem dX3_readSign_45 : decode cX3_readSign 45 = .ok (.getfield 52, 3) := by decide +kernel
theorem dX3_readSign_48 : decode cX3_readSign 48 = .ok (.putfield 61, 3) := by decide +kernel
theorem dX3_readSign_51 : decode cX3_readSign 51 = .ok (.aload_n 0, 1) := by decide +kernel
theorem dX3_readSign_52 : decode cX3_readSign 52 = .ok (.invokevirtual 23, 3) := by decide +kernel
theorem dX3_readSign_55 : decode cX3_readSign 55 = .ok (.bipush 47, 2) := by decide +kernel
theorem dX3_readSign_57 : decode cX3_readSign 57 = .ok (.if_icmp .ne 21, 3) := by decide +kernel
theorem dX3_readSign_60 : decode cX3_readSign 60 = .ok (.aload_n 0, 1) := by decide +kernel
theorem dX3_readSign_61 : decode cX3_readSign 61 = .ok (.getfield 55, 3) := by decide +kernel
theorem dX3_readSign_64 : decode cX3_readSign 64 = .ok (.aload_n 0, 1) := by decide +kernel
theorem dX3_readSign_65 : decode cX3_readSign 65 = .ok (.getfield 58, 3) := by decide +kernel
theorem dX3_readSign_68 : decode cX3_readSign 68 = .ok (.aload_n 0, 1) := by decide +kernel
theorem dX3_readSign_69 : decode cX3_readSign 69 = .ok (.getfield 61, 3) := by decide +kernel
theorem dX3_readSign_72 : decode cX3_readSign 72 = .ok (.invokestatic 64, 3) := by decide +kernel
theorem dX3_readSign_75 : decode cX3_readSign 75 = .ok (.ifCond .ne 5, 3) := by decide +kernel
theorem dX3_readSign_78 : decode cX3_readSign 78 = .ok (.iconst 0, 1) := by decide +kernel
theorem dX3_readSign_79 : decode cX3_readSign 79 = .ok (.ireturn, 1) := by decide +kernel
theorem dX3_readSign_80 : decode cX3_readSign 80 = .ok (.aload_n 0, 1) := by decide +kernel
theorem dX3_readSign_81 : decode cX3_readSign 81 = .ok (.dup, 1) := by decide +kernel
theorem dX3_readSign_82 : decode cX3_readSign 82 = .ok (.getfield 15, 3) := by decide +kernel
theorem dX3_readSign_85 : decode cX3_readSign 85 = .ok (.iconst 1, 1) := by decide +kernel
theorem dX3_readSign_86 : decode cX3_readSign 86 = .ok (.iadd, 1) := by decide +kernel
theorem dX3_readSign_87 : decode cX3_readSign 87 = .ok (.putfield 15, 3) := by decide +kernel
theorem dX3_readSign_90 : decode cX3_readSign 90 = .ok (.iconst 1, 1) := by decide +kernel
theorem dX3_readSign_91 : decode cX3_readSign 91 = .ok (.ireturn, 1) := by decide +kernel
theorem dX3_readFigure_0 : decode cX3_readFigure 0 = .ok (.aload_n 0, 1) := by decide +kernel
theorem dX3_readFigure_1 : decode cX3_readFigure 1 = .ok (.invokevirtual 23, 3) := by decide +kernel
theorem dX3_readFigure_4 : decode cX3_readFigure 4 = .ok (.istore_n 1, 1) := by decide +kernel
theorem dX3_readFigure_5 : decode cX3_readFigure 5 = .ok (.iload_n 1, 1) := by decide +kernel
theorem dX3_readFigure_6 : decode cX3_readFigure 6 = .ok (.bipush 45, 2) := by decide +kernel
theorem dX3_readFigure_8 : decode cX3_readFigure 8 = .ok (.if_icmp .ne 7, 3) := by decide +kernel
theorem dX3_readFigure_11 : decode cX3_readFigure 11 = .ok (.iconst 1, 1) := by decide +kernel
theorem dX3_readFigure_12 : decode cX3_readFigure 12 = .ok (.goto 4, 3) := by decide +kernel
theorem dX3_readFigure_15 : decode cX3_readFigure 15 = .ok (.iconst 0, 1) := by decide +kernel
theorem dX3_readFigure_16 : decode cX3_readFigure 16 = .ok (.istore_n 2, 1) := by decide +kernel
theorem dX3_readFigure_17 : decode cX3_readFigure 17 = .ok (.iload_n 2, 1) := by decide +kernel
theorem dX3_readFigure_18 : decode cX3_readFigure 18 = .ok (.ifCond .eq 18, 3) := by decide +kernel
theorem dX3_readFigure_21 : decode cX3_readFigure 21 = .ok (.aload_n 0, 1) := by decide +kernel
theorem dX3_readFigure_22 : decode cX3_readFigure 22 = .ok (.dup, 1) := by decide +kernel
theorem dX3_readFigure_23 : decode cX3_readFigure 23 = .ok (.getfield 15, 3) := by decide +kernel
theorem dX3_readFigure_26 : decode cX3_readFigure 26 = .ok (.iconst 1, 1) := by decide +kernel
theorem dX3_readFigure_27 : decode cX3_readFigure 27 = .ok (.iadd, 1) := by decide +kernel
theorem dX3_readFigure_28 : decode cX3_readFigure 28 = .ok (.putfield 15, 3) := by decide +kernel
theorem dX3_readFigure_31 : decode cX3_readFigure 31 = .ok (.aload_n 0, 1) := by decide +kernel
theorem dX3_readFigure_32 : decode cX3_readFigure 32 = .ok (.invokevirtual 23, 3) := by decide +kernel
theorem dX3_readFigure_35 : decode cX3_readFigure 35 = .ok (.istore_n 1, 1) := by decide +kernel
theorem dX3_readFigure_36 : decode cX3_readFigure 36 = .ok (.iload_n 1, 1) := by decide +kernel
theorem dX3_readFigure_37 : decode cX3_readFigure 37 = .ok (.bipush 48, 2) := by decide +kernel
theorem dX3_readFigure_39 : decode cX3_readFigure 39 = .ok (.if_icmp .lt 9, 3) := by decide +kernel
theorem dX3_readFigure_42 : decode cX3_readFigure 42 = .ok (.iload_n 1, 1) := by decide +kernel
theorem dX3_readFigure_43 : decode cX3_readFigure 43 = .ok (.bipush 51, 2) := by decide +kernel
theorem dX3_readFigure_45 : decode cX3_readFigure 45 = .ok (.if_icmp .le 5, 3) := by decide +kernel
theorem dX3_readFigure_48 : decode cX3_readFigure 48 = .ok (.iconst 0, 1) := by decide +kernel
theorem dX3_readFigure_49 : decode cX3_readFigure 49 = .ok (.ireturn, 1) := by decide +kernel
theorem dX3_readFigure_50 : decode cX3_readFigure 50 = .ok (.aload_n 0, 1) := by decide +kernel
theorem dX3_readFigure_51 : decode cX3_readFigure 51 = .ok (.iload_n 2, 1) := by decide +kernel
theorem dX3_readFigure_52 : decode cX3_readFigure 52 = .ok (.ifCond .eq 10, 3) := by decide +kernel
theorem dX3_readFigure_55 : decode cX3_readFigure 55 = .ok (.bipush 48, 2) := by decide +kernel
theorem dX3_readFigure_57 : decode cX3_readFigure 57 = .ok (.iload_n 1, 1) := by decide +kernel
theorem dX3_readFigure_58 : decode cX3_readFigure 58 = .ok (.isub, 1) := by decide +kernel
theorem dX3_readFigure_59 : decode cX3_readFigure 59 = .ok (.goto 7, 3) := by decide +kernel
theorem dX3_readFigure_62 : decode cX3_readFigure 62 = .ok (.iload_n 1, 1) := by decide +kernel
theorem dX3_readFigure_63 : decode cX3_readFigure 63 = .ok (.bipush 48, 2) := by decide +kernel
theorem dX3_readFigure_65 : decode cX3_readFigure 65 = .ok (.isub, 1) := by decide +kernel
theorem dX3_readFigure_66 : decode cX3_readFigure 66 = .ok (.putfield 52, 3) := by decide +kernel
theorem dX3_readFigure_69 : decode cX3_readFigure 69 = .ok (.aload_n 0, 1) := by decide +kernel
theorem dX3_readFigure_70 : decode cX3_readFigure 70 = .ok (.dup, 1) := by decide +kernel
theorem dX3_readFigure_71 : decode cX3_readFigure 71 = .ok (.getfield 15, 3) := by decide +kernel
theorem dX3_readFigure_74 : decode cX3_readFigure 74 = .ok (.iconst 1, 1) := by decide +kernel
theorem dX3_readFigure_75 : decode cX3_readFigure 75 = .ok (.iadd, 1) := by decide +kernel
theorem dX3_readFigure_76 : decode cX3_readFigure 76 = .ok (.putfield 15, 3) := by decide +kernel
theorem dX3_readFigure_79 : decode cX3_readFigure 79 = .ok (.iconst 1, 1) := by decide +kernel
theorem dX3_readFigure_80 : decode cX3_readFigure 80 = .ok (.ireturn, 1) := by decide +kernel
theorem dX3_readOff_0 : decode cX3_readOff 0 = .ok (.aload_n 0, 1) := by decide +kernel
theorem dX3_readOff_1 : decode cX3_readOff 1 = .ok (.invokevirtual 23, 3) := by decide +kernel
theorem dX3_readOff_4 : decode cX3_readOff 4 = .ok (.pop, 1) := by decide +kernel
theorem dX3_readOff_5 : decode cX3_readOff 5 = .ok (.aload_n 0, 1) := by decide +kernel
theorem dX3_readOff_6 : decode cX3_readOff 6 = .ok (.getfield 15, 3) := by decide +kernel
theorem dX3_readOff_9 : decode cX3_readOff 9 = .ok (.istore_n 1, 1) := by decide +kernel
theorem dX3_readOff_10 : decode cX3_readOff 10 = .ok (.aload_n 0, 1) := by decide +kernel
theorem dX3_readOff_11 : decode cX3_readOff 11 = .ok (.iconst 0, 1) := by decide +kernel
theorem dX3_readOff_12 : decode cX3_readOff 12 = .ok (.putfield 68, 3) := by decide +kernel
theorem dX3_readOff_15 : decode cX3_readOff 15 = .ok (.aload_n 0, 1) := by decide +kernel
theorem dX3_readOff_16 : decode cX3_readOff 16 = .ok (.getfield 15, 3) := by decide +kernel
theorem dX3_readOff_19 : decode cX3_readOff 19 = .ok (.aload_n 0, 1) := by decide +kernel
theorem dX3_readOff_20 : decode cX3_readOff 20 = .ok (.getfield 46, 3) := by decide +kernel
theorem dX3_readOff_23 : decode cX3_readOff 23 = .ok (.if_icmp .ge 82, 3) := by decide +kernel
theorem dX3_readOff_26 : decode cX3_readOff 26 = .ok (.aload_n 0, 1) := by decide +kernel
theorem dX3_readOff_27 : decode cX3_readOff 27 = .ok (.getfield 9, 3) := by decide +kernel
theorem dX3_readOff_30 : decode cX3_readOff 30 = .ok (.aload_n 0, 1) := by decide +kernel
theorem dX3_readOff_31 : decode cX3_readOff 31 = .ok (.getfield 15, 3) := by decide +kernel
theorem dX3_readOff_34 : decode cX3_readOff 34 = .ok (.baload, 1) := by decide +kernel
theorem dX3_readOff_35 : decode cX3_readOff 35 = .ok (.bipush 48, 2) := by decide +kernel
theorem dX3_readOff_37 : decode cX3_readOff 37 = .ok (.if_icmp .lt 68, 3) := by decide +kernel
theorem dX3_readOff_40 : decode cX3_readOff 40 = .ok (.aload_n 0, 1) := by decide +kernel
theorem dX3_readOff_41 : decode cX3_readOff 41 = .ok (.getfield 9, 3) := by decide +kernel
theorem dX3_readOff_44 : decode cX3_readOff 44 = .ok (.aload_n 0, 1) := by decide +kernel
theorem dX3_readOff_45 : decode cX3_readOff 45 = .ok (.getfield 15, 3) := by decide +kernel
theorem dX3_readOff_48 : decode cX3_readOff 48 = .ok (.baload, 1) := by decide +kernel
theorem dX3_readOff_49 : decode cX3_readOff 49 = .ok (.bipush 57, 2) := by decide +kernel
theorem dX3_readOff_51 : decode cX3_readOff 51 = .ok (.if_icmp .gt 54, 3) := by decide +kernel
theorem dX3_readOff_54 : decode cX3_readOff 54 = .ok (.aload_n 0, 1) := by decide +kernel
theorem dX3_readOff_55 : decode cX3_readOff 55 = .ok (.aload_n 0, 1) := by decide +kernel
theorem dX3_readOff_56 : decode cX3_readOff 56 = .ok (.getfield 15, 3) := by decide +kernel
theorem dX3_readOff_59 : decode cX3_readOff 59 = .ok (.iload_n 1, 1) := by decide +kernel
theorem dX3_readOff_60 : decode cX3_readOff 60 = .ok (.isub, 1) := by decide +kernel
theorem dX3_readOff_61 : decode cX3_readOff 61 = .ok (.iconst 2, 1) := by decide +kernel
theorem dX3_readOff_62 : decode cX3_readOff 62 = .ok (.if_icmp .ge 26, 3) := by decide +kernel
theorem dX3_readOff_65 : decode cX3_readOff 65 = .ok (.bipush 10, 2) := by decide +kernel
theorem dX3_readOff_67 : decode cX3_readOff 67 = .ok (.aload_n 0, 1) := by decide +kernel
theorem dX3_readOff_68 : decode cX3_readOff 68 = .ok (.getfield 68, 3) := by decide +kernel
theorem dX3_readOff_71 : decode cX3_readOff 71 = .ok (.imul, 1) := by decide +kernel
theorem dX3_readOff_72 : decode cX3_readOff 72 = .ok (.aload_n 0, 1) := by decide +kernel
theorem dX3_readOff_73 : decode cX3_readOff 73 = .ok (.getfield 9, 3) := by decide +kernel
theorem dX3_readOff_76 : decode cX3_readOff 76 = .ok (.aload_n 0, 1) := by decide +kernel
theorem dX3_readOff_77 : decode cX3_readOff 77 = .ok (.getfield 15, 3) := by decide +kernel
theorem dX3_readOff_80 : decode cX3_readOff 80 = .ok (.baload, 1) := by decide +kernel
theorem dX3_readOff_81 : decode cX3_readOff 81 = .ok (.iadd, 1) := by decide +kernel
theorem dX3_readOff_82 : decode cX3_readOff 82 = .ok (.bipush 48, 2) := by decide +kernel
theorem dX3_readOff_84 : decode cX3_readOff 84 = .ok (.isub, 1) := by decide +kernel
theorem dX3_readOff_85 : decode cX3_readOff 85 = .ok (.goto 4, 3) := by decide +kernel
theorem dX3_readOff_88 : decode cX3_readOff 88 = .ok (.iconst 0, 1) := by decide +kernel
theorem dX3_readOff_89 : decode cX3_readOff 89 = .ok (.putfield 68, 3) := by decide +kernel
theorem dX3_readOff_92 : decode cX3_readOff 92 = .ok (.aload_n 0, 1) := by decide +kernel
theorem dX3_readOff_93 : decode cX3_readOff 93 = .ok (.dup, 1) := by decide +kernel
theorem dX3_readOff_94 : decode cX3_readOff 94 = .ok (.getfield 15, 3) := by decide +kernel
theorem dX3_readOff_97 : decode cX3_readOff 97 = .ok (.iconst 1, 1) := by decide +kernel
theorem dX3_readOff_98 : decode cX3_readOff 98 = .ok (.iadd, 1) := by decide +kernel
theorem dX3_readOff_99 : decode cX3_readOff 99 = .ok (.putfield 15, 3) := by decide +kernel
theorem dX3_readOff_102 : decode cX3_readOff 102 = .ok (.goto (-87), 3) := by decide +kernel
theorem dX3_readOff_105 : decode cX3_readOff 105 = .ok (.aload_n 0, 1) := by decide +kernel
theorem dX3_readOff_106 : decode cX3_readOff 106 = .ok (.getfield 15, 3) := by decide +kernel
theorem dX3_readOff_109 : decode cX3_readOff 109 = .ok (.iload_n 1, 1) := by decide +kernel
theorem dX3_readOff_110 : decode cX3_readOff 110 = .ok (.isub, 1) := by decide +kernel
theorem dX3_readOff_111 : decode cX3_readOff 111 = .ok (.iconst 2, 1) := by decide +kernel
theorem dX3_readOff_112 : decode cX3_readOff 112 = .ok (.if_icmp .gt 13, 3) := by decide +kernel
theorem dX3_readOff_115 : decode cX3_readOff 115 = .ok (.aload_n 0, 1) := by decide +kernel
theorem dX3_readOff_116 : decode cX3_readOff 116 = .ok (.getfield 68, 3) := by decide +kernel
theorem dX3_readOff_119 : decode cX3_readOff 119 = .ok (.invokestatic 71, 3) := by decide +kernel
theorem dX3_readOff_122 : decode cX3_readOff 122 = .ok (.ifCond .ne 10, 3) := by decide +kernel
theorem dX3_readOff_125 : decode cX3_readOff 125 = .ok (.aload_n 0, 1) := by decide +kernel
theorem dX3_readOff_126 : decode cX3_readOff 126 = .ok (.iload_n 1, 1) := by decide +kernel
theorem dX3_readOff_127 : decode cX3_readOff 127 = .ok (.putfield 15, 3) := by decide +kernel
theorem dX3_readOff_130 : decode cX3_readOff 130 = .ok (.iconst 0, 1) := by decide +kernel
theorem dX3_readOff_131 : decode cX3_readOff 131 = .ok (.ireturn, 1) := by decide +kernel
theorem dX3_readOff_132 : decode cX3_readOff 132 = .ok (.iconst 1, 1) := by decide +kernel
theorem dX3_readOff_133 : decode cX3_readOff 133 = .ok (.ireturn, 1) := by decide +kernel
theorem dX3_endOne_0 : decode cX3_endOne 0 = .ok (.aload_n 0, 1) := by decide +kernel
theorem dX3_endOne_1 : decode cX3_endOne 1 = .ok (.invokevirtual 23, 3) := by decide +kernel
theorem dX3_endOne_4 : decode cX3_endOne 4 = .ok (.bipush 59, 2) := by decide +kernel
theorem dX3_endOne_6 : decode cX3_endOne 6 = .ok (.if_icmp .eq 5, 3) := by decide +kernel
theorem dX3_endOne_9 : decode cX3_endOne 9 = .ok (.iconst 0, 1) := by decide +kernel
theorem dX3_endOne_10 : decode cX3_endOne 10 = .ok (.ireturn, 1) := by decide +kernel
theorem dX3_endOne_11 : decode cX3_endOne 11 = .ok (.aload_n 2, 1) := by decide +kernel
theorem dX3_endOne_12 : decode cX3_endOne 12 = .ok (.aload_n 0, 1) := by decide +kernel
theorem dX3_endOne_13 : decode cX3_endOne 13 = .ok (.getfield 27, 3) := by decide +kernel
theorem dX3_endOne_16 : decode cX3_endOne 16 = .ok (.aload_n 0, 1) := by decide +kernel
theorem dX3_endOne_17 : decode cX3_endOne 17 = .ok (.getfield 55, 3) := by decide +kernel
theorem dX3_endOne_20 : decode cX3_endOne 20 = .ok (.aload_n 0, 1) := by decide +kernel
theorem dX3_endOne_21 : decode cX3_endOne 21 = .ok (.getfield 58, 3) := by decide +kernel
theorem dX3_endOne_24 : decode cX3_endOne 24 = .ok (.aload_n 0, 1) := by decide +kernel
theorem dX3_endOne_25 : decode cX3_endOne 25 = .ok (.getfield 61, 3) := by decide +kernel
theorem dX3_endOne_28 : decode cX3_endOne 28 = .ok (.invokevirtual 75, 3) := by decide +kernel
theorem dX3_endOne_31 : decode cX3_endOne 31 = .ok (.aload_n 1, 1) := by decide +kernel
theorem dX3_endOne_32 : decode cX3_endOne 32 = .ok (.getfield 81, 3) := by decide +kernel
theorem dX3_endOne_35 : decode cX3_endOne 35 = .ok (.aload_n 2, 1) := by decide +kernel
theorem dX3_endOne_36 : decode cX3_endOne 36 = .ok (.getfield 86, 3) := by decide +kernel
theorem dX3_endOne_39 : decode cX3_endOne 39 = .ok (.iadd, 1) := by decide +kernel
theorem dX3_endOne_40 : decode cX3_endOne 40 = .ok (.bipush 32, 2) := by decide +kernel
theorem dX3_endOne_42 : decode cX3_endOne 42 = .ok (.if_icmp .le 5, 3) := by decide +kernel
theorem dX3_endOne_45 : decode cX3_endOne 45 = .ok (.iconst 0, 1) := by decide +kernel
theorem dX3_endOne_46 : decode cX3_endOne 46 = .ok (.ireturn, 1) := by decide +kernel
theorem dX3_endOne_47 : decode cX3_endOne 47 = .ok (.aload_n 1, 1) := by decide +kernel
theorem dX3_endOne_48 : decode cX3_endOne 48 = .ok (.aload_n 2, 1) := by decide +kernel
theorem dX3_endOne_49 : decode cX3_endOne 49 = .ok (.aload_n 0, 1) := by decide +kernel
theorem dX3_endOne_50 : decode cX3_endOne 50 = .ok (.getfield 68, 3) := by decide +kernel
theorem dX3_endOne_53 : decode cX3_endOne 53 = .ok (.invokevirtual 87, 3) := by decide +kernel
theorem dX3_endOne_56 : decode cX3_endOne 56 = .ok (.aload_n 0, 1) := by decide +kernel
theorem dX3_endOne_57 : decode cX3_endOne 57 = .ok (.dup, 1) := by decide +kernel
theorem dX3_endOne_58 : decode cX3_endOne 58 = .ok (.getfield 15, 3) := by decide +kernel
theorem dX3_endOne_61 : decode cX3_endOne 61 = .ok (.iconst 1, 1) := by decide +kernel
theorem dX3_endOne_62 : decode cX3_endOne 62 = .ok (.iadd, 1) := by decide +kernel
theorem dX3_endOne_63 : decode cX3_endOne 63 = .ok (.putfield 15, 3) := by decide +kernel
theorem dX3_endOne_66 : decode cX3_endOne 66 = .ok (.iconst 1, 1) := by decide +kernel
theorem dX3_endOne_67 : decode cX3_endOne 67 = .ok (.ireturn, 1) := by decide +kernel
theorem dX4_init_0 : decode cX4_init 0 = .ok (.aload_n 0, 1) := by decide +kernel
theorem dX4_init_1 : decode cX4_init 1 = .ok (.invokespecial 3, 3) := by decide +kernel
theorem dX4_init_4 : decode cX4_init 4 = .ok (.aload_n 0, 1) := by decide +kernel
theorem dX4_init_5 : decode cX4_init 5 = .ok (.bipush 60, 2) := by decide +kernel
theorem dX4_init_7 : decode cX4_init 7 = .ok (.newarray .int, 2) := by decide +kernel
theorem dX4_init_9 : decode cX4_init 9 = .ok (.putfield 9, 3) := by decide +kernel
theorem dX4_init_12 : decode cX4_init 12 = .ok (.aload_n 0, 1) := by decide +kernel
theorem dX4_init_13 : decode cX4_init 13 = .ok (.bipush 60, 2) := by decide +kernel
theorem dX4_init_15 : decode cX4_init 15 = .ok (.newarray .int, 2) := by decide +kernel
theorem dX4_init_17 : decode cX4_init 17 = .ok (.putfield 15, 3) := by decide +kernel
theorem dX4_init_20 : decode cX4_init 20 = .ok (.aload_n 0, 1) := by decide +kernel
theorem dX4_init_21 : decode cX4_init 21 = .ok (.bipush 60, 2) := by decide +kernel
theorem dX4_init_23 : decode cX4_init 23 = .ok (.newarray .int, 2) := by decide +kernel
theorem dX4_init_25 : decode cX4_init 25 = .ok (.putfield 18, 3) := by decide +kernel
theorem dX4_init_28 : decode cX4_init 28 = .ok (.aload_n 0, 1) := by decide +kernel
theorem dX4_init_29 : decode cX4_init 29 = .ok (.bipush 60, 2) := by decide +kernel
theorem dX4_init_31 : decode cX4_init 31 = .ok (.newarray .int, 2) := by decide +kernel
theorem dX4_init_33 : decode cX4_init 33 = .ok (.putfield 21, 3) := by decide +kernel
theorem dX4_init_36 : decode cX4_init 36 = .ok (.aload_n 0, 1) := by decide +kernel
theorem dX4_init_37 : decode cX4_init 37 = .ok (.bipush 60, 2) := by decide +kernel
theorem dX4_init_39 : decode cX4_init 39 = .ok (.newarray .int, 2) := by decide +kernel
theorem dX4_init_41 : decode cX4_init 41 = .ok (.putfield 24, 3) := by decide +kernel
theorem dX4_init_44 : decode cX4_init 44 = .ok (.aload_n 0, 1) := by decide +kernel
theorem dX4_init_45 : decode cX4_init 45 = .ok (.bipush 32, 2) := by decide +kernel
theorem dX4_init_47 : decode cX4_init 47 = .ok (.newarray .int, 2) := by decide +kernel
theorem dX4_init_49 : decode cX4_init 49 = .ok (.putfield 27, 3) := by decide +kernel
theorem dX4_init_52 : decode cX4_init 52 = .ok (.aload_n 0, 1) := by decide +kernel
theorem dX4_init_53 : decode cX4_init 53 = .ok (.new 30, 3) := by decide +kernel
theorem dX4_init_56 : decode cX4_init 56 = .ok (.dup, 1) := by decide +kernel
theorem dX4_init_57 : decode cX4_init 57 = .ok (.invokespecial 32, 3) := by decide +kernel
theorem dX4_init_60 : decode cX4_init 60 = .ok (.putfield 33, 3) := by decide +kernel
theorem dX4_init_63 : decode cX4_init 63 = .ok (.return_, 1) := by decide +kernel
theorem dX4_cut_0 : decode cX4_cut 0 = .ok (.aload_n 0, 1) := by decide +kernel
theorem dX4_cut_1 : decode cX4_cut 1 = .ok (.iconst 0, 1) := by decide +kernel
theorem dX4_cut_2 : decode cX4_cut 2 = .ok (.putfield 37, 3) := by decide +kernel
theorem dX4_cut_5 : decode cX4_cut 5 = .ok (.iconst 0, 1) := by decide +kernel
theorem dX4_cut_6 : decode cX4_cut 6 = .ok (.istore_n 3, 1) := by decide +kernel
theorem dX4_cut_7 : decode cX4_cut 7 = .ok (.iload_n 3, 1) := by decide +kernel
theorem dX4_cut_8 : decode cX4_cut 8 = .ok (.aload_n 1, 1) := by decide +kernel
theorem dX4_cut_9 : decode cX4_cut 9 = .ok (.getfield 41, 3) := by decide +kernel
theorem dX4_cut_12 : decode cX4_cut 12 = .ok (.if_icmp .ge 102, 3) := by decide +kernel
theorem dX4_cut_15 : decode cX4_cut 15 = .ok (.iload_n 3, 1) := by decide +kernel
theorem dX4_cut_16 : decode cX4_cut 16 = .ok (.iconst 1, 1) := by decide +kernel
theorem dX4_cut_17 : decode cX4_cut 17 = .ok (.iadd, 1) := by decide +kernel
theorem dX4_cut_18 : decode cX4_cut 18 = .ok (.istore 4, 2) := by decide +kernel
theorem dX4_cut_20 : decode cX4_cut 20 = .ok (.iload 4, 2) := by decide +kernel
theorem dX4_cut_22 : decode cX4_cut 22 = .ok (.aload_n 1, 1) := by decide +kernel
theorem dX4_cut_23 : decode cX4_cut 23 = .ok (.getfield 41, 3) := by decide +kernel
theorem dX4_cut_26 : decode cX4_cut 26 = .ok (.if_icmp .ge 82, 3) := by decide +kernel
theorem dX4_cut_29 : decode cX4_cut 29 = .ok (.iload_n 3, 1) := by decide +kernel
theorem dX4_cut_30 : decode cX4_cut 30 = .ok (.iload_n 2, 1) := by decide +kernel
theorem dX4_cut_31 : decode cX4_cut 31 = .ok (.if_icmp .eq 71, 3) := by decide +kernel
theorem dX4_cut_34 : decode cX4_cut 34 = .ok (.iload 4, 2) := by decide +kernel
theorem dX4_cut_36 : decode cX4_cut 36 = .ok (.iload_n 2, 1) := by decide +kernel
theorem dX4_cut_37 : decode cX4_cut 37 = .ok (.if_icmp .eq 65, 3) := by decide +kernel
theorem dX4_cut_40 : decode cX4_cut 40 = .ok (.aload_n 0, 1) := by decide +kernel
theorem dX4_cut_41 : decode cX4_cut 41 = .ok (.getfield 33, 3) := by decide +kernel
theorem dX4_cut_44 : decode cX4_cut 44 = .ok (.aload_n 1, 1) := by decide +kernel
theorem dX4_cut_45 : decode cX4_cut 45 = .ok (.iload_n 3, 1) := by decide +kernel
theorem dX4_cut_46 : decode cX4_cut 46 = .ok (.iload 4, 2) := by decide +kernel
theorem dX4_cut_48 : decode cX4_cut 48 = .ok (.invokevirtual 46, 3) := by decide +kernel
theorem dX4_cut_51 : decode cX4_cut 51 = .ok (.ifCond .eq 51, 3) := by decide +kernel
theorem dX4_cut_54 : decode cX4_cut 54 = .ok (.aload_n 0, 1) := by decide +kernel
theorem dX4_cut_55 : decode cX4_cut 55 = .ok (.getfield 33, 3) := by decide +kernel
theorem dX4_cut_58 : decode cX4_cut 58 = .ok (.aload_n 1, 1) := by decide +kernel
theorem dX4_cut_59 : decode cX4_cut 59 = .ok (.iload_n 2, 1) := by decide +kernel
theorem dX4_cut_60 : decode cX4_cut 60 = .ok (.invokevirtual 50, 3) := by decide +kernel
theorem dX4_cut_63 : decode cX4_cut 63 = .ok (.ifCond .eq 39, 3) := by decide +kernel
theorem dX4_cut_66 : decode cX4_cut 66 = .ok (.aload_n 0, 1) := by decide +kernel
theorem dX4_cut_67 : decode cX4_cut 67 = .ok (.aload_n 0, 1) := by decide +kernel
theorem dX4_cut_68 : decode cX4_cut 68 = .ok (.getfield 33, 3) := by decide +kernel
theorem dX4_cut_71 : decode cX4_cut 71 = .ok (.getfield 54, 3) := by decide +kernel
theorem dX4_cut_74 : decode cX4_cut 74 = .ok (.aload_n 0, 1) := by decide +kernel
theorem dX4_cut_75 : decode cX4_cut 75 = .ok (.getfield 33, 3) := by decide +kernel
theorem dX4_cut_78 : decode cX4_cut 78 = .ok (.getfield 57, 3) := by decide +kernel
theorem dX4_cut_81 : decode cX4_cut 81 = .ok (.invokevirtual 60, 3) := by decide +kernel
theorem dX4_cut_84 : decode cX4_cut 84 = .ok (.aload_n 0, 1) := by decide +kernel
theorem dX4_cut_85 : decode cX4_cut 85 = .ok (.aload_n 0, 1) := by decide +kernel
theorem dX4_cut_86 : decode cX4_cut 86 = .ok (.getfield 33, 3) := by decide +kernel
theorem dX4_cut_89 : decode cX4_cut 89 = .ok (.getfield 64, 3) := by decide +kernel
theorem dX4_cut_92 : decode cX4_cut 92 = .ok (.aload_n 0, 1) := by decide +kernel
theorem dX4_cut_93 : decode cX4_cut 93 = .ok (.getfield 33, 3) := by decide +kernel
theorem dX4_cut_96 : decode cX4_cut 96 = .ok (.getfield 67, 3) := by decide +kernel
theorem dX4_cut_99 : decode cX4_cut 99 = .ok (.invokevirtual 60, 3) := by decide +kernel
theorem dX4_cut_102 : decode cX4_cut 102 = .ok (.iinc 4 1, 3) := by decide +kernel
theorem dX4_cut_105 : decode cX4_cut 105 = .ok (.goto (-85), 3) := by decide +kernel
theorem dX4_cut_108 : decode cX4_cut 108 = .ok (.iinc 3 1, 3) := by decide +kernel
theorem dX4_cut_111 : decode cX4_cut 111 = .ok (.goto (-104), 3) := by decide +kernel
theorem dX4_cut_114 : decode cX4_cut 114 = .ok (.return_, 1) := by decide +kernel
theorem dX4_keepPoint_0 : decode cX4_keepPoint 0 = .ok (.aload_n 0, 1) := by decide +kernel
theorem dX4_keepPoint_1 : decode cX4_keepPoint 1 = .ok (.getfield 33, 3) := by decide +kernel
theorem dX4_keepPoint_4 : decode cX4_keepPoint 4 = .ok (.getfield 70, 3) := by decide +kernel
theorem dX4_keepPoint_7 : decode cX4_keepPoint 7 = .ok (.iload_n 2, 1) := by decide +kernel
theorem dX4_keepPoint_8 : decode cX4_keepPoint 8 = .ok (.imul, 1) := by decide +kernel
theorem dX4_keepPoint_9 : decode cX4_keepPoint 9 = .ok (.aload_n 0, 1) := by decide +kernel
theorem dX4_keepPoint_10 : decode cX4_keepPoint 10 = .ok (.getfield 33, 3) := by decide +kernel
theorem dX4_keepPoint_13 : decode cX4_keepPoint 13 = .ok (.getfield 73, 3) := by decide +kernel
theorem dX4_keepPoint_16 : decode cX4_keepPoint 16 = .ok (.iload_n 1, 1) := by decide +kernel
theorem dX4_keepPoint_17 : decode cX4_keepPoint 17 = .ok (.imul, 1) := by decide +kernel
theorem dX4_keepPoint_18 : decode cX4_keepPoint 18 = .ok (.iadd, 1) := by decide +kernel
theorem dX4_keepPoint_19 : decode cX4_keepPoint 19 = .ok (.istore_n 3, 1) := by decide +kernel
theorem dX4_keepPoint_20 : decode cX4_keepPoint 20 = .ok (.aload_n 0, 1) := by decide +kernel
theorem dX4_keepPoint_21 : decode cX4_keepPoint 21 = .ok (.getfield 33, 3) := by decide +kernel
theorem dX4_keepPoint_24 : decode cX4_keepPoint 24 = .ok (.getfield 76, 3) := by decide +kernel
theorem dX4_keepPoint_27 : decode cX4_keepPoint 27 = .ok (.iload_n 2, 1) := by decide +kernel
theorem dX4_keepPoint_28 : decode cX4_keepPoint 28 = .ok (.imul, 1) := by decide +kernel
theorem dX4_keepPoint_29 : decode cX4_keepPoint 29 = .ok (.aload_n 0, 1) := by decide +kernel
theorem dX4_keepPoint_30 : decode cX4_keepPoint 30 = .ok (.getfield 33, 3) := by decide +kernel
theorem dX4_keepPoint_33 : decode cX4_keepPoint 33 = .ok (.getfield 79, 3) := by decide +kernel
theorem dX4_keepPoint_36 : decode cX4_keepPoint 36 = .ok (.iload_n 1, 1) := by decide +kernel
theorem dX4_keepPoint_37 : decode cX4_keepPoint 37 = .ok (.imul, 1) := by decide +kernel
theorem dX4_keepPoint_38 : decode cX4_keepPoint 38 = .ok (.iadd, 1) := by decide +kernel
theorem dX4_keepPoint_39 : decode cX4_keepPoint 39 = .ok (.istore 4, 2) := by decide +kernel
theorem dX4_keepPoint_41 : decode cX4_keepPoint 41 = .ok (.aload_n 0, 1) := by decide +kernel
theorem dX4_keepPoint_42 : decode cX4_keepPoint 42 = .ok (.getfield 33, 3) := by decide +kernel
theorem dX4_keepPoint_45 : decode cX4_keepPoint 45 = .ok (.getfield 82, 3) := by decide +kernel
theorem dX4_keepPoint_48 : decode cX4_keepPoint 48 = .ok (.iload_n 2, 1) := by decide +kernel
theorem dX4_keepPoint_49 : decode cX4_keepPoint 49 = .ok (.imul, 1) := by decide +kernel
theorem dX4_keepPoint_50 : decode cX4_keepPoint 50 = .ok (.aload_n 0, 1) := by decide +kernel
theorem dX4_keepPoint_51 : decode cX4_keepPoint 51 = .ok (.getfield 33, 3) := by decide +kernel
theorem dX4_keepPoint_54 : decode cX4_keepPoint 54 = .ok (.getfield 85, 3) := by decide +kernel
theorem dX4_keepPoint_57 : decode cX4_keepPoint 57 = .ok (.iload_n 1, 1) := by decide +kernel
theorem dX4_keepPoint_58 : decode cX4_keepPoint 58 = .ok (.imul, 1) := by decide +kernel
theorem dX4_keepPoint_59 : decode cX4_keepPoint 59 = .ok (.iadd, 1) := by decide +kernel
theorem dX4_keepPoint_60 : decode cX4_keepPoint 60 = .ok (.istore 5, 2) := by decide +kernel
theorem dX4_keepPoint_62 : decode cX4_keepPoint 62 = .ok (.aload_n 0, 1) := by decide +kernel
theorem dX4_keepPoint_63 : decode cX4_keepPoint 63 = .ok (.getfield 33, 3) := by decide +kernel
theorem dX4_keepPoint_66 : decode cX4_keepPoint 66 = .ok (.getfield 88, 3) := by decide +kernel
theorem dX4_keepPoint_69 : decode cX4_keepPoint 69 = .ok (.iload_n 2, 1) := by decide +kernel
theorem dX4_keepPoint_70 : decode cX4_keepPoint 70 = .ok (.imul, 1) := by decide +kernel
theorem dX4_keepPoint_71 : decode cX4_keepPoint 71 = .ok (.istore 6, 2) := by decide +kernel
theorem dX4_keepPoint_73 : decode cX4_keepPoint 73 = .ok (.iload_n 3, 1) := by decide +kernel
theorem dX4_keepPoint_74 : decode cX4_keepPoint 74 = .ok (.iload 4, 2) := by decide +kernel
theorem dX4_keepPoint_76 : decode cX4_keepPoint 76 = .ok (.invokestatic 91, 3) := by decide +kernel
theorem dX4_keepPoint_79 : decode cX4_keepPoint 79 = .ok (.iload 5, 2) := by decide +kernel
theorem dX4_keepPoint_81 : decode cX4_keepPoint 81 = .ok (.iload 6, 2) := by decide +kernel
theorem dX4_keepPoint_83 : decode cX4_keepPoint 83 = .ok (.invokestatic 91, 3) := by decide +kernel
theorem dX4_keepPoint_86 : decode cX4_keepPoint 86 = .ok (.invokestatic 91, 3) := by decide +kernel
theorem dX4_keepPoint_89 : decode cX4_keepPoint 89 = .ok (.istore 7, 2) := by decide +kernel
theorem dX4_keepPoint_91 : decode cX4_keepPoint 91 = .ok (.iload 6, 2) := by decide +kernel
theorem dX4_keepPoint_93 : decode cX4_keepPoint 93 = .ok (.ifCond .le 8, 3) := by decide +kernel
theorem dX4_keepPoint_96 : decode cX4_keepPoint 96 = .ok (.iload 7, 2) := by decide +kernel
theorem dX4_keepPoint_98 : decode cX4_keepPoint 98 = .ok (.ifCond .gt 4, 3) := by decide +kernel
theorem dX4_keepPoint_101 : decode cX4_keepPoint 101 = .ok (.return_, 1) := by decide +kernel
theorem dX4_keepPoint_102 : decode cX4_keepPoint 102 = .ok (.iload_n 3, 1) := by decide +kernel
theorem dX4_keepPoint_103 : decode cX4_keepPoint 103 = .ok (.iload 7, 2) := by decide +kernel
theorem dX4_keepPoint_105 : decode cX4_keepPoint 105 = .ok (.idiv, 1) := by decide +kernel
theorem dX4_keepPoint_106 : decode cX4_keepPoint 106 = .ok (.istore_n 3, 1) := by decide +kernel
theorem dX4_keepPoint_107 : decode cX4_keepPoint 107 = .ok (.iload 4, 2) := by decide +kernel
theorem dX4_keepPoint_109 : decode cX4_keepPoint 109 = .ok (.iload 7, 2) := by decide +kernel
theorem dX4_keepPoint_111 : decode cX4_keepPoint 111 = .ok (.idiv, 1) := by decide +kernel
theorem dX4_keepPoint_112 : decode cX4_keepPoint 112 = .ok (.istore 4, 2) := by decide +kernel
theorem dX4_keepPoint_114 : decode cX4_keepPoint 114 = .ok (.iload 5, 2) := by decide +kernel
theorem dX4_keepPoint_116 : decode cX4_keepPoint 116 = .ok (.iload 7, 2) := by decide +kernel
theorem dX4_keepPoint_118 : decode cX4_keepPoint 118 = .ok (.idiv, 1) := by decide +kernel
theorem dX4_keepPoint_119 : decode cX4_keepPoint 119 = .ok (.istore 5, 2) := by decide +kernel
theorem dX4_keepPoint_121 : decode cX4_keepPoint 121 = .ok (.iload 6, 2) := by decide +kernel
theorem dX4_keepPoint_123 : decode cX4_keepPoint 123 = .ok (.iload 7, 2) := by decide +kernel
theorem dX4_keepPoint_125 : decode cX4_keepPoint 125 = .ok (.idiv, 1) := by decide +kernel
theorem dX4_keepPoint_126 : decode cX4_keepPoint 126 = .ok (.istore 6, 2) := by decide +kernel
theorem dX4_keepPoint_128 : decode cX4_keepPoint 128 = .ok (.aload_n 0, 1) := by decide +kernel
theorem dX4_keepPoint_129 : decode cX4_keepPoint 129 = .ok (.iload_n 3, 1) := by decide +kernel
theorem dX4_keepPoint_130 : decode cX4_keepPoint 130 = .ok (.iload 4, 2) := by decide +kernel
theorem dX4_keepPoint_132 : decode cX4_keepPoint 132 = .ok (.iload 5, 2) := by decide +kernel
theorem dX4_keepPoint_134 : decode cX4_keepPoint 134 = .ok (.iload 6, 2) := by decide +kernel
theorem dX4_keepPoint_136 : decode cX4_keepPoint 136 = .ok (.invokevirtual 95, 3) := by decide +kernel
theorem dX4_keepPoint_139 : decode cX4_keepPoint 139 = .ok (.istore 8, 2) := by decide +kernel
theorem dX4_keepPoint_141 : decode cX4_keepPoint 141 = .ok (.iload 8, 2) := by decide +kernel
theorem dX4_keepPoint_143 : decode cX4_keepPoint 143 = .ok (.aload_n 0, 1) := by decide +kernel
theorem dX4_keepPoint_144 : decode cX4_keepPoint 144 = .ok (.getfield 37, 3) := by decide +kernel
theorem dX4_keepPoint_147 : decode cX4_keepPoint 147 = .ok (.if_icmp .ge 19, 3) := by decide +kernel
theorem dX4_keepPoint_150 : decode cX4_keepPoint 150 = .ok (.aload_n 0, 1) := by decide +kernel
theorem dX4_keepPoint_151 : decode cX4_keepPoint 151 = .ok (.iload 8, 2) := by decide +kernel
theorem dX4_keepPoint_153 : decode cX4_keepPoint 153 = .ok (.iload_n 3, 1) := by decide +kernel
theorem dX4_keepPoint_154 : decode cX4_keepPoint 154 = .ok (.iload 4, 2) := by decide +kernel
theorem dX4_keepPoint_156 : decode cX4_keepPoint 156 = .ok (.iload 5, 2) := by decide +kernel
theorem dX4_keepPoint_158 : decode cX4_keepPoint 158 = .ok (.iload 6, 2) := by decide +kernel
theorem dX4_keepPoint_160 : decode cX4_keepPoint 160 = .ok (.invokevirtual 99, 3) := by decide +kernel
theorem dX4_keepPoint_163 : decode cX4_keepPoint 163 = .ok (.ifCond .eq 16, 3) := by decide +kernel
theorem dX4_keepPoint_166 : decode cX4_keepPoint 166 = .ok (.aload_n 0, 1) := by decide +kernel
theorem dX4_keepPoint_167 : decode cX4_keepPoint 167 = .ok (.iload 8, 2) := by decide +kernel
theorem dX4_keepPoint_169 : decode cX4_keepPoint 169 = .ok (.iload_n 3, 1) := by decide +kernel
theorem dX4_keepPoint_170 : decode cX4_keepPoint 170 = .ok (.iload 4, 2) := by decide +kernel
theorem dX4_keepPoint_172 : decode cX4_keepPoint 172 = .ok (.iload 5, 2) := by decide +kernel
theorem dX4_keepPoint_174 : decode cX4_keepPoint 174 = .ok (.iload 6, 2) := by decide +kernel
theorem dX4_keepPoint_176 : decode cX4_keepPoint 176 = .ok (.invokevirtual 103, 3) := by decide +kernel
theorem dX4_keepPoint_179 : decode cX4_keepPoint 179 = .ok (.return_, 1) := by decide +kernel
theorem dX4_putCorner_0 : decode cX4_putCorner 0 = .ok (.aload_n 0, 1) := by decide +kernel
theorem dX4_putCorner_1 : decode cX4_putCorner 1 = .ok (.getfield 37, 3) := by decide +kernel
theorem dX4_putCorner_4 : decode cX4_putCorner 4 = .ok (.bipush 60, 2) := by decide +kernel
theorem dX4_putCorner_6 : decode cX4_putCorner 6 = .ok (.if_icmp .lt 4, 3) := by decide +kernel
theorem dX4_putCorner_9 : decode cX4_putCorner 9 = .ok (.return_, 1) := by decide +kernel
theorem dX4_putCorner_10 : decode cX4_putCorner 10 = .ok (.aload_n 0, 1) := by decide +kernel
theorem dX4_putCorner_11 : decode cX4_putCorner 11 = .ok (.getfield 37, 3) := by decide +kernel
theorem dX4_putCorner_14 : decode cX4_putCorner 14 = .ok (.istore 6, 2) := by decide +kernel
theorem dX4_putCorner_16 : decode cX4_putCorner 16 = .ok (.iload 6, 2) := by decide +kernel
theorem dX4_putCorner_18 : decode cX4_putCorner 18 = .ok (.iload_n 1, 1) := by decide +kernel
theorem dX4_putCorner_19 : decode cX4_putCorner 19 = .ok (.if_icmp .le 73, 3) := by decide +kernel
theorem dX4_putCorner_22 : decode cX4_putCorner 22 = .ok (.aload_n 0, 1) := by decide +kernel
theorem dX4_putCorner_23 : decode cX4_putCorner 23 = .ok (.getfield 9, 3) := by decide +kernel
theorem dX4_putCorner_26 : decode cX4_putCorner 26 = .ok (.iload 6, 2) := by decide +kernel
theorem dX4_putCorner_28 : decode cX4_putCorner 28 = .ok (.aload_n 0, 1) := by decide +kernel
theorem dX4_putCorner_29 : decode cX4_putCorner 29 = .ok (.getfield 9, 3) := by decide +kernel
theorem dX4_putCorner_32 : decode cX4_putCorner 32 = .ok (.iload 6, 2) := by decide +kernel
theorem dX4_putCorner_34 : decode cX4_putCorner 34 = .ok (.iconst 1, 1) := by decide +kernel
theorem dX4_putCorner_35 : decode cX4_putCorner 35 = .ok (.isub, 1) := by decide +kernel
theorem dX4_putCorner_36 : decode cX4_putCorner 36 = .ok (.iaload, 1) := by decide +kernel
theorem dX4_putCorner_37 : decode cX4_putCorner 37 = .ok (.iastore, 1) := by decide +kernel
theorem dX4_putCorner_38 : decode cX4_putCorner 38 = .ok (.aload_n 0, 1) := by decide +kernel
theorem dX4_putCorner_39 : decode cX4_putCorner 39 = .ok (.getfield 15, 3) := by decide +kernel
theorem dX4_putCorner_42 : decode cX4_putCorner 42 = .ok (.iload 6, 2) := by decide +kernel
theorem dX4_putCorner_44 : decode cX4_putCorner 44 = .ok (.aload_n 0, 1) := by decide +kernel
theorem dX4_putCorner_45 : decode cX4_putCorner 45 = .ok (.getfield 15, 3) := by decide +kernel
theorem dX4_putCorner_48 : decode cX4_putCorner 48 = .ok (.iload 6, 2) := by decide +kernel
theorem dX4_putCorner_50 : decode cX4_putCorner 50 = .ok (.iconst 1, 1) := by decide +kernel
theorem dX4_putCorner_51 : decode cX4_putCorner 51 = .ok (.isub, 1) := by decide +kernel
theorem dX4_putCorner_52 : decode cX4_putCorner 52 = .ok (.iaload, 1) := by decide +kernel
theorem dX4_putCorner_53 : decode cX4_putCorner 53 = .ok (.iastore, 1) := by decide +kernel
theorem dX4_putCorner_54 : decode cX4_putCorner 54 = .ok (.aload_n 0, 1) := by decide +kernel
theorem dX4_putCorner_55 : decode cX4_putCorner 55 = .ok (.getfield 18, 3) := by decide +kernel
theorem dX4_putCorner_58 : decode cX4_putCorner 58 = .ok (.iload 6, 2) := by decide +kernel
theorem dX4_putCorner_60 : decode cX4_putCorner 60 = .ok (.aload_n 0, 1) := by decide +kernel
theorem dX4_putCorner_61 : decode cX4_putCorner 61 = .ok (.getfield 18, 3) := by decide +kernel
theorem dX4_putCorner_64 : decode cX4_putCorner 64 = .ok (.iload 6, 2) := by decide +kernel
theorem dX4_putCorner_66 : decode cX4_putCorner 66 = .ok (.iconst 1, 1) := by decide +kernel
theorem dX4_putCorner_67 : decode cX4_putCorner 67 = .ok (.isub, 1) := by decide +kernel
theorem dX4_putCorner_68 : decode cX4_putCorner 68 = .ok (.iaload, 1) := by decide +kernel
theorem dX4_putCorner_69 : decode cX4_putCorner 69 = .ok (.iastore, 1) := by decide +kernel
theorem dX4_putCorner_70 : decode cX4_putCorner 70 = .ok (.aload_n 0, 1) := by decide +kernel
theorem dX4_putCorner_71 : decode cX4_putCorner 71 = .ok (.getfield 21, 3) := by decide +kernel
theorem dX4_putCorner_74 : decode cX4_putCorner 74 = .ok (.iload 6, 2) := by decide +kernel
theorem dX4_putCorner_76 : decode cX4_putCorner 76 = .ok (.aload_n 0, 1) := by decide +kernel
theorem dX4_putCorner_77 : decode cX4_putCorner 77 = .ok (.getfield 21, 3) := by decide +kernel
theorem dX4_putCorner_80 : decode cX4_putCorner 80 = .ok (.iload 6, 2) := by decide +kernel
theorem dX4_putCorner_82 : decode cX4_putCorner 82 = .ok (.iconst 1, 1) := by decide +kernel
theorem dX4_putCorner_83 : decode cX4_putCorner 83 = .ok (.isub, 1) := by decide +kernel
theorem dX4_putCorner_84 : decode cX4_putCorner 84 = .ok (.iaload, 1) := by decide +kernel
theorem dX4_putCorner_85 : decode cX4_putCorner 85 = .ok (.iastore, 1) := by decide +kernel
theorem dX4_putCorner_86 : decode cX4_putCorner 86 = .ok (.iinc 6 (-1), 3) := by decide +kernel
theorem dX4_putCorner_89 : decode cX4_putCorner 89 = .ok (.goto (-73), 3) := by decide +kernel
theorem dX4_putCorner_92 : decode cX4_putCorner 92 = .ok (.aload_n 0, 1) := by decide +kernel
theorem dX4_putCorner_93 : decode cX4_putCorner 93 = .ok (.getfield 9, 3) := by decide +kernel
theorem dX4_putCorner_96 : decode cX4_putCorner 96 = .ok (.iload_n 1, 1) := by decide +kernel
theorem dX4_putCorner_97 : decode cX4_putCorner 97 = .ok (.iload_n 2, 1) := by decide +kernel
theorem dX4_putCorner_98 : decode cX4_putCorner 98 = .ok (.iastore, 1) := by decide +kernel
theorem dX4_putCorner_99 : decode cX4_putCorner 99 = .ok (.aload_n 0, 1) := by decide +kernel
theorem dX4_putCorner_100 : decode cX4_putCorner 100 = .ok (.getfield 15, 3) := by decide +kernel
theorem dX4_putCorner_103 : decode cX4_putCorner 103 = .ok (.iload_n 1, 1) := by decide +kernel
theorem dX4_putCorner_104 : decode cX4_putCorner 104 = .ok (.iload_n 3, 1) := by decide +kernel
theorem dX4_putCorner_105 : decode cX4_putCorner 105 = .ok (.iastore, 1) := by decide +kernel
theorem dX4_putCorner_106 : decode cX4_putCorner 106 = .ok (.aload_n 0, 1) := by decide +kernel
theorem dX4_putCorner_107 : decode cX4_putCorner 107 = .ok (.getfield 18, 3) := by decide +kernel
theorem dX4_putCorner_110 : decode cX4_putCorner 110 = .ok (.iload_n 1, 1) := by decide +kernel
theorem dX4_putCorner_111 : decode cX4_putCorner 111 = .ok (.iload 4, 2) := by decide +kernel
theorem dX4_putCorner_113 : decode cX4_putCorner 113 = .ok (.iastore, 1) := by decide +kernel
theorem dX4_putCorner_114 : decode cX4_putCorner 114 = .ok (.aload_n 0, 1) := by decide +kernel
theorem dX4_putCorner_115 : decode cX4_putCorner 115 = .ok (.getfield 21, 3) := by decide +kernel
theorem dX4_putCorner_118 : decode cX4_putCorner 118 = .ok (.iload_n 1, 1) := by decide +kernel
theorem dX4_putCorner_119 : decode cX4_putCorner 119 = .ok (.iload 5, 2) := by decide +kernel
theorem dX4_putCorner_121 : decode cX4_putCorner 121 = .ok (.iastore, 1) := by decide +kernel
theorem dX4_putCorner_122 : decode cX4_putCorner 122 = .ok (.aload_n 0, 1) := by decide +kernel
theorem dX4_putCorner_123 : decode cX4_putCorner 123 = .ok (.dup, 1) := by decide +kernel
theorem dX4_putCorner_124 : decode cX4_putCorner 124 = .ok (.getfield 37, 3) := by decide +kernel
theorem dX4_putCorner_127 : decode cX4_putCorner 127 = .ok (.iconst 1, 1) := by decide +kernel
theorem dX4_putCorner_128 : decode cX4_putCorner 128 = .ok (.iadd, 1) := by decide +kernel
theorem dX4_putCorner_129 : decode cX4_putCorner 129 = .ok (.putfield 37, 3) := by decide +kernel
theorem dX4_putCorner_132 : decode cX4_putCorner 132 = .ok (.return_, 1) := by decide +kernel
theorem dX4_placeOf_0 : decode cX4_placeOf 0 = .ok (.iconst 0, 1) := by decide +kernel
theorem dX4_placeOf_1 : decode cX4_placeOf 1 = .ok (.istore 5, 2) := by decide +kernel
theorem dX4_placeOf_3 : decode cX4_placeOf 3 = .ok (.aload_n 0, 1) := by decide +kernel
theorem dX4_placeOf_4 : decode cX4_placeOf 4 = .ok (.getfield 37, 3) := by decide +kernel
theorem dX4_placeOf_7 : decode cX4_placeOf 7 = .ok (.istore 6, 2) := by decide +kernel
theorem dX4_placeOf_9 : decode cX4_placeOf 9 = .ok (.iconst 0, 1) := by decide +kernel
theorem dX4_placeOf_10 : decode cX4_placeOf 10 = .ok (.istore 7, 2) := by decide +kernel
theorem dX4_placeOf_12 : decode cX4_placeOf 12 = .ok (.iload 7, 2) := by decide +kernel
theorem dX4_placeOf_14 : decode cX4_placeOf 14 = .ok (.bipush 60, 2) := by decide +kernel
theorem dX4_placeOf_16 : decode cX4_placeOf 16 = .ok (.if_icmp .ge 52, 3) := by decide +kernel
theorem dX4_placeOf_19 : decode cX4_placeOf 19 = .ok (.iload 5, 2) := by decide +kernel
theorem dX4_placeOf_21 : decode cX4_placeOf 21 = .ok (.iload 6, 2) := by decide +kernel
theorem dX4_placeOf_23 : decode cX4_placeOf 23 = .ok (.if_icmp .ge 45, 3) := by decide +kernel
theorem dX4_placeOf_26 : decode cX4_placeOf 26 = .ok (.iload 5, 2) := by decide +kernel
theorem dX4_placeOf_28 : decode cX4_placeOf 28 = .ok (.iload 6, 2) := by decide +kernel
theorem dX4_placeOf_30 : decode cX4_placeOf 30 = .ok (.iadd, 1) := by decide +kernel
theorem dX4_placeOf_31 : decode cX4_placeOf 31 = .ok (.iconst 2, 1) := by decide +kernel
theorem dX4_placeOf_32 : decode cX4_placeOf 32 = .ok (.idiv, 1) := by decide +kernel
theorem dX4_placeOf_33 : decode cX4_placeOf 33 = .ok (.istore 8, 2) := by decide +kernel
theorem dX4_placeOf_35 : decode cX4_placeOf 35 = .ok (.aload_n 0, 1) := by decide +kernel
theorem dX4_placeOf_36 : decode cX4_placeOf 36 = .ok (.iload 8, 2) := by decide +kernel
theorem dX4_placeOf_38 : decode cX4_placeOf 38 = .ok (.iload_n 1, 1) := by decide +kernel
theorem dX4_placeOf_39 : decode cX4_placeOf 39 = .ok (.iload_n 2, 1) := by decide +kernel
theorem dX4_placeOf_40 : decode cX4_placeOf 40 = .ok (.iload_n 3, 1) := by decide +kernel
theorem dX4_placeOf_41 : decode cX4_placeOf 41 = .ok (.iload 4, 2) := by decide +kernel
theorem dX4_placeOf_43 : decode cX4_placeOf 43 = .ok (.invokevirtual 99, 3) := by decide +kernel
theorem dX4_placeOf_46 : decode cX4_placeOf 46 = .ok (.ifCond .ge 12, 3) := by decide +kernel
theorem dX4_placeOf_49 : decode cX4_placeOf 49 = .ok (.iload 8, 2) := by decide +kernel
theorem dX4_placeOf_51 : decode cX4_placeOf 51 = .ok (.iconst 1, 1) := by decide +kernel
theorem dX4_placeOf_52 : decode cX4_placeOf 52 = .ok (.iadd, 1) := by decide +kernel
theorem dX4_placeOf_53 : decode cX4_placeOf 53 = .ok (.istore 5, 2) := by decide +kernel
theorem dX4_placeOf_55 : decode cX4_placeOf 55 = .ok (.goto 7, 3) := by decide +kernel
theorem dX4_placeOf_58 : decode cX4_placeOf 58 = .ok (.iload 8, 2) := by decide +kernel
theorem dX4_placeOf_60 : decode cX4_placeOf 60 = .ok (.istore 6, 2) := by decide +kernel
theorem dX4_placeOf_62 : decode cX4_placeOf 62 = .ok (.iinc 7 1, 3) := by decide +kernel
theorem dX4_placeOf_65 : decode cX4_placeOf 65 = .ok (.goto (-53), 3) := by decide +kernel
theorem dX4_placeOf_68 : decode cX4_placeOf 68 = .ok (.iload 5, 2) := by decide +kernel
theorem dX4_placeOf_70 : decode cX4_placeOf 70 = .ok (.ireturn, 1) := by decide +kernel
theorem dX4_order_0 : decode cX4_order 0 = .ok (.aload_n 0, 1) := by decide +kernel
theorem dX4_order_1 : decode cX4_order 1 = .ok (.getfield 9, 3) := by decide +kernel
theorem dX4_order_4 : decode cX4_order 4 = .ok (.iload_n 1, 1) := by decide +kernel
theorem dX4_order_5 : decode cX4_order 5 = .ok (.iaload, 1) := by decide +kernel
theorem dX4_order_6 : decode cX4_order 6 = .ok (.iload 5, 2) := by decide +kernel
theorem dX4_order_8 : decode cX4_order 8 = .ok (.imul, 1) := by decide +kernel
theorem dX4_order_9 : decode cX4_order 9 = .ok (.iload_n 2, 1) := by decide +kernel
theorem dX4_order_10 : decode cX4_order 10 = .ok (.aload_n 0, 1) := by decide +kernel
theorem dX4_order_11 : decode cX4_order 11 = .ok (.getfield 21, 3) := by decide +kernel
theorem dX4_order_14 : decode cX4_order 14 = .ok (.iload_n 1, 1) := by decide +kernel
theorem dX4_order_15 : decode cX4_order 15 = .ok (.iaload, 1) := by decide +kernel
theorem dX4_order_16 : decode cX4_order 16 = .ok (.imul, 1) := by decide +kernel
theorem dX4_order_17 : decode cX4_order 17 = .ok (.isub, 1) := by decide +kernel
theorem dX4_order_18 : decode cX4_order 18 = .ok (.istore 6, 2) := by decide +kernel
theorem dX4_order_20 : decode cX4_order 20 = .ok (.aload_n 0, 1) := by decide +kernel
theorem dX4_order_21 : decode cX4_order 21 = .ok (.getfield 15, 3) := by decide +kernel
theorem dX4_order_24 : decode cX4_order 24 = .ok (.iload_n 1, 1) := by decide +kernel
theorem dX4_order_25 : decode cX4_order 25 = .ok (.iaload, 1) := by decide +kernel
theorem dX4_order_26 : decode cX4_order 26 = .ok (.iload 5, 2) := by decide +kernel
theorem dX4_order_28 : decode cX4_order 28 = .ok (.imul, 1) := by decide +kernel
theorem dX4_order_29 : decode cX4_order 29 = .ok (.iload_n 3, 1) := by decide +kernel
theorem dX4_order_30 : decode cX4_order 30 = .ok (.aload_n 0, 1) := by decide +kernel
theorem dX4_order_31 : decode cX4_order 31 = .ok (.getfield 21, 3) := by decide +kernel
theorem dX4_order_34 : decode cX4_order 34 = .ok (.iload_n 1, 1) := by decide +kernel
theorem dX4_order_35 : decode cX4_order 35 = .ok (.iaload, 1) := by decide +kernel
theorem dX4_order_36 : decode cX4_order 36 = .ok (.imul, 1) := by decide +kernel
theorem dX4_order_37 : decode cX4_order 37 = .ok (.isub, 1) := by decide +kernel
theorem dX4_order_38 : decode cX4_order 38 = .ok (.istore 7, 2) := by decide +kernel
theorem dX4_order_40 : decode cX4_order 40 = .ok (.aload_n 0, 1) := by decide +kernel
theorem dX4_order_41 : decode cX4_order 41 = .ok (.getfield 18, 3) := by decide +kernel
theorem dX4_order_44 : decode cX4_order 44 = .ok (.iload_n 1, 1) := by decide +kernel
theorem dX4_order_45 : decode cX4_order 45 = .ok (.iaload, 1) := by decide +kernel
theorem dX4_order_46 : decode cX4_order 46 = .ok (.iload 5, 2) := by decide +kernel
theorem dX4_order_48 : decode cX4_order 48 = .ok (.imul, 1) := by decide +kernel
theorem dX4_order_49 : decode cX4_order 49 = .ok (.iload 4, 2) := by decide +kernel
theorem dX4_order_51 : decode cX4_order 51 = .ok (.aload_n 0, 1) := by decide +kernel
theorem dX4_order_52 : decode cX4_order 52 = .ok (.getfield 21, 3) := by decide +kernel
theorem dX4_order_55 : decode cX4_order 55 = .ok (.iload_n 1, 1) := by decide +kernel
theorem dX4_order_56 : decode cX4_order 56 = .ok (.iaload, 1) := by decide +kernel
theorem dX4_order_57 : decode cX4_order 57 = .ok (.imul, 1) := by decide +kernel
theorem dX4_order_58 : decode cX4_order 58 = .ok (.isub, 1) := by decide +kernel
theorem dX4_order_59 : decode cX4_order 59 = .ok (.istore 8, 2) := by decide +kernel
theorem dX4_order_61 : decode cX4_order 61 = .ok (.iload 6, 2) := by decide +kernel
theorem dX4_order_63 : decode cX4_order 63 = .ok (.ifCond .eq 8, 3) := by decide +kernel
theorem dX4_order_66 : decode cX4_order 66 = .ok (.iload 6, 2) := by decide +kernel
theorem dX4_order_68 : decode cX4_order 68 = .ok (.goto 15, 3) := by decide +kernel
theorem dX4_order_71 : decode cX4_order 71 = .ok (.iload 7, 2) := by decide +kernel
theorem dX4_order_73 : decode cX4_order 73 = .ok (.ifCond .eq 8, 3) := by decide +kernel
theorem dX4_order_76 : decode cX4_order 76 = .ok (.iload 7, 2) := by decide +kernel
theorem dX4_order_78 : decode cX4_order 78 = .ok (.goto 5, 3) := by decide +kernel
theorem dX4_order_81 : decode cX4_order 81 = .ok (.iload 8, 2) := by decide +kernel
theorem dX4_order_83 : decode cX4_order 83 = .ok (.ireturn, 1) := by decide +kernel
theorem dX4_look_0 : decode cX4_look 0 = .ok (.aload_n 0, 1) := by decide +kernel
theorem dX4_look_1 : decode cX4_look 1 = .ok (.getfield 24, 3) := by decide +kernel
theorem dX4_look_4 : decode cX4_look 4 = .ok (.iconst 0, 1) := by decide +kernel
theorem dX4_look_5 : decode cX4_look 5 = .ok (.invokestatic 107, 3) := by decide +kernel
theorem dX4_look_8 : decode cX4_look 8 = .ok (.aload_n 0, 1) := by decide +kernel
theorem dX4_look_9 : decode cX4_look 9 = .ok (.iconst 0, 1) := by decide +kernel
theorem dX4_look_10 : decode cX4_look 10 = .ok (.putfield 113, 3) := by decide +kernel
theorem dX4_look_13 : decode cX4_look 13 = .ok (.iconst 0, 1) := by decide +kernel
theorem dX4_look_14 : decode cX4_look 14 = .ok (.istore_n 2, 1) := by decide +kernel
theorem dX4_look_15 : decode cX4_look 15 = .ok (.iload_n 2, 1) := by decide +kernel
theorem dX4_look_16 : decode cX4_look 16 = .ok (.aload_n 1, 1) := by decide +kernel
theorem dX4_look_17 : decode cX4_look 17 = .ok (.getfield 41, 3) := by decide +kernel
theorem dX4_look_20 : decode cX4_look 20 = .ok (.if_icmp .ge 51, 3) := by decide +kernel
theorem dX4_look_23 : decode cX4_look 23 = .ok (.aload_n 0, 1) := by decide +kernel
theorem dX4_look_24 : decode cX4_look 24 = .ok (.getfield 27, 3) := by decide +kernel
theorem dX4_look_27 : decode cX4_look 27 = .ok (.iload_n 2, 1) := by decide +kernel
theorem dX4_look_28 : decode cX4_look 28 = .ok (.aload_n 0, 1) := by decide +kernel
theorem dX4_look_29 : decode cX4_look 29 = .ok (.aload_n 1, 1) := by decide +kernel
theorem dX4_look_30 : decode cX4_look 30 = .ok (.iload_n 2, 1) := by decide +kernel
theorem dX4_look_31 : decode cX4_look 31 = .ok (.invokevirtual 116, 3) := by decide +kernel
theorem dX4_look_34 : decode cX4_look 34 = .ok (.iastore, 1) := by decide +kernel
theorem dX4_look_35 : decode cX4_look 35 = .ok (.aload_n 0, 1) := by decide +kernel
theorem dX4_look_36 : decode cX4_look 36 = .ok (.getfield 27, 3) := by decide +kernel
theorem dX4_look_39 : decode cX4_look 39 = .ok (.iload_n 2, 1) := by decide +kernel
theorem dX4_look_40 : decode cX4_look 40 = .ok (.iaload, 1) := by decide +kernel
theorem dX4_look_41 : decode cX4_look 41 = .ok (.iconst 3, 1) := by decide +kernel
theorem dX4_look_42 : decode cX4_look 42 = .ok (.if_icmp .lt 23, 3) := by decide +kernel
theorem dX4_look_45 : decode cX4_look 45 = .ok (.aload_n 1, 1) := by decide +kernel
theorem dX4_look_46 : decode cX4_look 46 = .ok (.iload_n 2, 1) := by decide +kernel
theorem dX4_look_47 : decode cX4_look 47 = .ok (.invokevirtual 120, 3) := by decide +kernel
theorem dX4_look_50 : decode cX4_look 50 = .ok (.ifCond .ne 15, 3) := by decide +kernel
theorem dX4_look_53 : decode cX4_look 53 = .ok (.aload_n 0, 1) := by decide +kernel
theorem dX4_look_54 : decode cX4_look 54 = .ok (.dup, 1) := by decide +kernel
theorem dX4_look_55 : decode cX4_look 55 = .ok (.getfield 113, 3) := by decide +kernel
theorem dX4_look_58 : decode cX4_look 58 = .ok (.iconst 1, 1) := by decide +kernel
theorem dX4_look_59 : decode cX4_look 59 = .ok (.iload_n 2, 1) := by decide +kernel
theorem dX4_look_60 : decode cX4_look 60 = .ok (.ishl, 1) := by decide +kernel
theorem dX4_look_61 : decode cX4_look 61 = .ok (.ior, 1) := by decide +kernel
theorem dX4_look_62 : decode cX4_look 62 = .ok (.putfield 113, 3) := by decide +kernel
theorem dX4_look_65 : decode cX4_look 65 = .ok (.iinc 2 1, 3) := by decide +kernel
theorem dX4_look_68 : decode cX4_look 68 = .ok (.goto (-53), 3) := by decide +kernel
theorem dX4_look_71 : decode cX4_look 71 = .ok (.return_, 1) := by decide +kernel
theorem dX4_markCornersOn_0 : decode cX4_markCornersOn 0 = .ok (.iconst 0, 1) := by decide +kernel
theorem dX4_markCornersOn_1 : decode cX4_markCornersOn 1 = .ok (.istore_n 3, 1) := by decide +kernel
theorem dX4_markCornersOn_2 : decode cX4_markCornersOn 2 = .ok (.iconst 0, 1) := by decide +kernel
theorem dX4_markCornersOn_3 : decode cX4_markCornersOn 3 = .ok (.istore 4, 2) := by decide +kernel
theorem dX4_markCornersOn_5 : decode cX4_markCornersOn 5 = .ok (.iload 4, 2) := by decide +kernel
theorem dX4_markCornersOn_7 : decode cX4_markCornersOn 7 = .ok (.aload_n 0, 1) := by decide +kernel
theorem dX4_markCornersOn_8 : decode cX4_markCornersOn 8 = .ok (.getfield 37, 3) := by decide +kernel
theorem dX4_markCornersOn_11 : decode cX4_markCornersOn 11 = .ok (.if_icmp .ge 66, 3) := by decide +kernel
theorem dX4_markCornersOn_14 : decode cX4_markCornersOn 14 = .ok (.aload_n 0, 1) := by decide +kernel
theorem dX4_markCornersOn_15 : decode cX4_markCornersOn 15 = .ok (.iload 4, 2) := by decide +kernel
theorem dX4_markCornersOn_17 : decode cX4_markCornersOn 17 = .ok (.aload_n 1, 1) := by decide +kernel
theorem dX4_markCornersOn_18 : decode cX4_markCornersOn 18 = .ok (.getfield 124, 3) := by decide +kernel
theorem dX4_markCornersOn_21 : decode cX4_markCornersOn 21 = .ok (.iload_n 2, 1) := by decide +kernel
theorem dX4_markCornersOn_22 : decode cX4_markCornersOn 22 = .ok (.iaload, 1) := by decide +kernel
theorem dX4_markCornersOn_23 : decode cX4_markCornersOn 23 = .ok (.aload_n 1, 1) := by decide +kernel
theorem dX4_markCornersOn_24 : decode cX4_markCornersOn 24 = .ok (.getfield 127, 3) := by decide +kernel
theorem dX4_markCornersOn_27 : decode cX4_markCornersOn 27 = .ok (.iload_n 2, 1) := by decide +kernel
theorem dX4_markCornersOn_28 : decode cX4_markCornersOn 28 = .ok (.iaload, 1) := by decide +kernel
theorem dX4_markCornersOn_29 : decode cX4_markCornersOn 29 = .ok (.aload_n 1, 1) := by decide +kernel
theorem dX4_markCornersOn_30 : decode cX4_markCornersOn 30 = .ok (.getfield 130, 3) := by decide +kernel
theorem dX4_markCornersOn_33 : decode cX4_markCornersOn 33 = .ok (.iload_n 2, 1) := by decide +kernel
theorem dX4_markCornersOn_34 : decode cX4_markCornersOn 34 = .ok (.iaload, 1) := by decide +kernel
theorem dX4_markCornersOn_35 : decode cX4_markCornersOn 35 = .ok (.invokevirtual 133, 3) := by decide +kernel
theorem dX4_markCornersOn_38 : decode cX4_markCornersOn 38 = .ok (.aload_n 1, 1) := by decide +kernel
theorem dX4_markCornersOn_39 : decode cX4_markCornersOn 39 = .ok (.getfield 136, 3) := by decide +kernel
theorem dX4_markCornersOn_42 : decode cX4_markCornersOn 42 = .ok (.iload_n 2, 1) := by decide +kernel
theorem dX4_markCornersOn_43 : decode cX4_markCornersOn 43 = .ok (.iaload, 1) := by decide +kernel
theorem dX4_markCornersOn_44 : decode cX4_markCornersOn 44 = .ok (.aload_n 0, 1) := by decide +kernel
theorem dX4_markCornersOn_45 : decode cX4_markCornersOn 45 = .ok (.getfield 21, 3) := by decide +kernel
theorem dX4_markCornersOn_48 : decode cX4_markCornersOn 48 = .ok (.iload 4, 2) := by decide +kernel
theorem dX4_markCornersOn_50 : decode cX4_markCornersOn 50 = .ok (.iaload, 1) := by decide +kernel
theorem dX4_markCornersOn_51 : decode cX4_markCornersOn 51 = .ok (.imul, 1) := by decide +kernel
theorem dX4_markCornersOn_52 : decode cX4_markCornersOn 52 = .ok (.if_icmp .ne 19, 3) := by decide +kernel
theorem dX4_markCornersOn_55 : decode cX4_markCornersOn 55 = .ok (.aload_n 0, 1) := by decide +kernel
theorem dX4_markCornersOn_56 : decode cX4_markCornersOn 56 = .ok (.getfield 24, 3) := by decide +kernel
theorem dX4_markCornersOn_59 : decode cX4_markCornersOn 59 = .ok (.iload 4, 2) := by decide +kernel
theorem dX4_markCornersOn_61 : decode cX4_markCornersOn 61 = .ok (.dup2, 1) := by decide +kernel
theorem dX4_markCornersOn_62 : decode cX4_markCornersOn 62 = .ok (.iaload, 1) := by decide +kernel
theorem dX4_markCornersOn_63 : decode cX4_markCornersOn 63 = .ok (.iconst 1, 1) := by decide +kernel
theorem dX4_markCornersOn_64 : decode cX4_markCornersOn 64 = .ok (.iload_n 2, 1) := by decide +kernel
theorem dX4_markCornersOn_65 : decode cX4_markCornersOn 65 = .ok (.ishl, 1) := by decide +kernel
theorem dX4_markCornersOn_66 : decode cX4_markCornersOn 66 = .ok (.ior, 1) := by decide +kernel
theorem dX4_markCornersOn_67 : decode cX4_markCornersOn 67 = .ok (.iastore, 1) := by decide +kernel
theorem dX4_markCornersOn_68 : decode cX4_markCornersOn 68 = .ok (.iinc 3 1, 3) := by decide +kernel
theorem dX4_markCornersOn_71 : decode cX4_markCornersOn 71 = .ok (.iinc 4 1, 3) := by decide +kernel
theorem dX4_markCornersOn_74 : decode cX4_markCornersOn 74 = .ok (.goto (-69), 3) := by decide +kernel
theorem dX4_markCornersOn_77 : decode cX4_markCornersOn 77 = .ok (.iload_n 3, 1) := by decide +kernel
theorem dX4_markCornersOn_78 : decode cX4_markCornersOn 78 = .ok (.ireturn, 1) := by decide +kernel
theorem dX4_along_0 : decode cX4_along 0 = .ok (.iload_n 2, 1) := by decide +kernel
theorem dX4_along_1 : decode cX4_along 1 = .ok (.aload_n 0, 1) := by decide +kernel
theorem dX4_along_2 : decode cX4_along 2 = .ok (.getfield 9, 3) := by decide +kernel
theorem dX4_along_5 : decode cX4_along 5 = .ok (.iload_n 1, 1) := by decide +kernel
theorem dX4_along_6 : decode cX4_along 6 = .ok (.iaload, 1) := by decide +kernel
theorem dX4_along_7 : decode cX4_along 7 = .ok (.imul, 1) := by decide +kernel
theorem dX4_along_8 : decode cX4_along 8 = .ok (.iload_n 3, 1) := by decide +kernel
theorem dX4_along_9 : decode cX4_along 9 = .ok (.aload_n 0, 1) := by decide +kernel
theorem dX4_along_10 : decode cX4_along 10 = .ok (.getfield 15, 3) := by decide +kernel
theorem dX4_along_13 : decode cX4_along 13 = .ok (.iload_n 1, 1) := by decide +kernel
theorem dX4_along_14 : decode cX4_along 14 = .ok (.iaload, 1) := by decide +kernel
theorem dX4_along_15 : decode cX4_along 15 = .ok (.imul, 1) := by decide +kernel
theorem dX4_along_16 : decode cX4_along 16 = .ok (.iadd, 1) := by decide +kernel
theorem dX4_along_17 : decode cX4_along 17 = .ok (.iload 4, 2) := by decide +kernel
theorem dX4_along_19 : decode cX4_along 19 = .ok (.aload_n 0, 1) := by decide +kernel
theorem dX4_along_20 : decode cX4_along 20 = .ok (.getfield 18, 3) := by decide +kernel
theorem dX4_along_23 : decode cX4_along 23 = .ok (.iload_n 1, 1) := by decide +kernel
theorem dX4_along_24 : decode cX4_along 24 = .ok (.iaload, 1) := by decide +kernel
theorem dX4_along_25 : decode cX4_along 25 = .ok (.imul, 1) := by decide +kernel
theorem dX4_along_26 : decode cX4_along 26 = .ok (.iadd, 1) := by decide +kernel
theorem dX4_along_27 : decode cX4_along 27 = .ok (.ireturn, 1) := by decide +kernel
theorem dX4_coordinate_0 : decode cX4_coordinate 0 = .ok (.iload_n 2, 1) := by decide +kernel
theorem dX4_coordinate_1 : decode cX4_coordinate 1 = .ok (.ifCond .ne 12, 3) := by decide +kernel
theorem dX4_coordinate_4 : decode cX4_coordinate 4 = .ok (.aload_n 0, 1) := by decide +kernel
theorem dX4_coordinate_5 : decode cX4_coordinate 5 = .ok (.getfield 9, 3) := by decide +kernel
theorem dX4_coordinate_8 : decode cX4_coordinate 8 = .ok (.iload_n 1, 1) := by decide +kernel
theorem dX4_coordinate_9 : decode cX4_coordinate 9 = .ok (.iaload, 1) := by decide +kernel
theorem dX4_coordinate_10 : decode cX4_coordinate 10 = .ok (.goto 23, 3) := by decide +kernel
theorem dX4_coordinate_13 : decode cX4_coordinate 13 = .ok (.iload_n 2, 1) := by decide +kernel
theorem dX4_coordinate_14 : decode cX4_coordinate 14 = .ok (.iconst 1, 1) := by decide +kernel
theorem dX4_coordinate_15 : decode cX4_coordinate 15 = .ok (.if_icmp .ne 12, 3) := by decide +kernel
theorem dX4_coordinate_18 : decode cX4_coordinate 18 = .ok (.aload_n 0, 1) := by decide +kernel
theorem dX4_coordinate_19 : decode cX4_coordinate 19 = .ok (.getfield 15, 3) := by decide +kernel
theorem dX4_coordinate_22 : decode cX4_coordinate 22 = .ok (.iload_n 1, 1) := by decide +kernel
theorem dX4_coordinate_23 : decode cX4_coordinate 23 = .ok (.iaload, 1) := by decide +kernel
theorem dX4_coordinate_24 : decode cX4_coordinate 24 = .ok (.goto 9, 3) := by decide +kernel
theorem dX4_coordinate_27 : decode cX4_coordinate 27 = .ok (.aload_n 0, 1) := by decide +kernel
theorem dX4_coordinate_28 : decode cX4_coordinate 28 = .ok (.getfield 18, 3) := by decide +kernel
theorem dX4_coordinate_31 : decode cX4_coordinate 31 = .ok (.iload_n 1, 1) := by decide +kernel
theorem dX4_coordinate_32 : decode cX4_coordinate 32 = .ok (.iaload, 1) := by decide +kernel
theorem dX4_coordinate_33 : decode cX4_coordinate 33 = .ok (.ireturn, 1) := by decide +kernel
theorem dX4_isShown_0 : decode cX4_isShown 0 = .ok (.aload_n 0, 1) := by decide +kernel
theorem dX4_isShown_1 : decode cX4_isShown 1 = .ok (.getfield 113, 3) := by decide +kernel
theorem dX4_isShown_4 : decode cX4_isShown 4 = .ok (.iload_n 1, 1) := by decide +kernel
theorem dX4_isShown_5 : decode cX4_isShown 5 = .ok (.iushr, 1) := by decide +kernel
theorem dX4_isShown_6 : decode cX4_isShown 6 = .ok (.iconst 1, 1) := by decide +kernel
theorem dX4_isShown_7 : decode cX4_isShown 7 = .ok (.iand, 1) := by decide +kernel
theorem dX4_isShown_8 : decode cX4_isShown 8 = .ok (.iconst 1, 1) := by decide +kernel
theorem dX4_isShown_9 : decode cX4_isShown 9 = .ok (.if_icmp .ne 7, 3) := by decide +kernel
theorem dX4_isShown_12 : decode cX4_isShown 12 = .ok (.iconst 1, 1) := by decide +kernel
theorem dX4_isShown_13 : decode cX4_isShown 13 = .ok (.goto 4, 3) := by decide +kernel
theorem dX4_isShown_16 : decode cX4_isShown 16 = .ok (.iconst 0, 1) := by decide +kernel
theorem dX4_isShown_17 : decode cX4_isShown 17 = .ok (.ireturn, 1) := by decide +kernel
theorem dX4_showing_0 : decode cX4_showing 0 = .ok (.aload_n 0, 1) := by decide +kernel
theorem dX4_showing_1 : decode cX4_showing 1 = .ok (.getfield 113, 3) := by decide +kernel
theorem dX4_showing_4 : decode cX4_showing 4 = .ok (.invokestatic 139, 3) := by decide +kernel
theorem dX4_showing_7 : decode cX4_showing 7 = .ok (.ireturn, 1) := by decide +kernel
theorem dX4_edges_0 : decode cX4_edges 0 = .ok (.aload_n 0, 1) := by decide +kernel
theorem dX4_edges_1 : decode cX4_edges 1 = .ok (.getfield 37, 3) := by decide +kernel
theorem dX4_edges_4 : decode cX4_edges 4 = .ok (.aload_n 0, 1) := by decide +kernel
theorem dX4_edges_5 : decode cX4_edges 5 = .ok (.invokevirtual 145, 3) := by decide +kernel
theorem dX4_edges_8 : decode cX4_edges 8 = .ok (.iadd, 1) := by decide +kernel
theorem dX4_edges_9 : decode cX4_edges 9 = .ok (.iconst 2, 1) := by decide +kernel
theorem dX4_edges_10 : decode cX4_edges 10 = .ok (.isub, 1) := by decide +kernel
theorem dX4_edges_11 : decode cX4_edges 11 = .ok (.ireturn, 1) := by decide +kernel
theorem dX4_edgesOn_0 : decode cX4_edgesOn 0 = .ok (.aload_n 0, 1) := by decide +kernel
theorem dX4_edgesOn_1 : decode cX4_edgesOn 1 = .ok (.iload_n 1, 1) := by decide +kernel
theorem dX4_edgesOn_2 : decode cX4_edgesOn 2 = .ok (.invokevirtual 149, 3) := by decide +kernel
theorem dX4_edgesOn_5 : decode cX4_edgesOn 5 = .ok (.ifCond .eq 12, 3) := by decide +kernel
theorem dX4_edgesOn_8 : decode cX4_edgesOn 8 = .ok (.aload_n 0, 1) := by decide +kernel
theorem dX4_edgesOn_9 : decode cX4_edgesOn 9 = .ok (.getfield 27, 3) := by decide +kernel
theorem dX4_edgesOn_12 : decode cX4_edgesOn 12 = .ok (.iload_n 1, 1) := by decide +kernel
theorem dX4_edgesOn_13 : decode cX4_edgesOn 13 = .ok (.iaload, 1) := by decide +kernel
theorem dX4_edgesOn_14 : decode cX4_edgesOn 14 = .ok (.goto 4, 3) := by decide +kernel
theorem dX4_edgesOn_17 : decode cX4_edgesOn 17 = .ok (.iconst 0, 1) := by decide +kernel
theorem dX4_edgesOn_18 : decode cX4_edgesOn 18 = .ok (.ireturn, 1) := by decide +kernel
theorem dX4_mostCornersOnPlane_0 : decode cX4_mostCornersOnPlane 0 = .ok (.iconst 0, 1) := by decide +kernel
theorem dX4_mostCornersOnPlane_1 : decode cX4_mostCornersOnPlane 1 = .ok (.istore_n 2, 1) := by decide +kernel
theorem dX4_mostCornersOnPlane_2 : decode cX4_mostCornersOnPlane 2 = .ok (.iconst 0, 1) := by decide +kernel
theorem dX4_mostCornersOnPlane_3 : decode cX4_mostCornersOnPlane 3 = .ok (.istore_n 3, 1) := by decide +kernel
theorem dX4_mostCornersOnPlane_4 : decode cX4_mostCornersOnPlane 4 = .ok (.iload_n 3, 1) := by decide +kernel
theorem dX4_mostCornersOnPlane_5 : decode cX4_mostCornersOnPlane 5 = .ok (.iload_n 1, 1) := by decide +kernel
theorem dX4_mostCornersOnPlane_6 : decode cX4_mostCornersOnPlane 6 = .ok (.if_icmp .ge 28, 3) := by decide +kernel
