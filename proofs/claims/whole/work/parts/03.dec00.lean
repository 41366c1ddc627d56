theorem dX0_init_0 : decode cX0_init 0 = .ok (.aload_n 0, 1) := by decide +kernel
theorem dX0_init_1 : decode cX0_init 1 = .ok (.invokespecial 3, 3) := by decide +kernel
theorem dX0_init_4 : decode cX0_init 4 = .ok (.aload_n 0, 1) := by decide +kernel
theorem dX0_init_5 : decode cX0_init 5 = .ok (.sipush 667, 3) := by decide +kernel
theorem dX0_init_8 : decode cX0_init 8 = .ok (.newarray .byte, 2) := by decide +kernel
theorem dX0_init_10 : decode cX0_init 10 = .ok (.putfield 9, 3) := by decide +kernel
theorem dX0_init_13 : decode cX0_init 13 = .ok (.aload_n 0, 1) := by decide +kernel
theorem dX0_init_14 : decode cX0_init 14 = .ok (.bipush 48, 2) := by decide +kernel
theorem dX0_init_16 : decode cX0_init 16 = .ok (.newarray .int, 2) := by decide +kernel
theorem dX0_init_18 : decode cX0_init 18 = .ok (.putfield 15, 3) := by decide +kernel
theorem dX0_init_21 : decode cX0_init 21 = .ok (.return_, 1) := by decide +kernel
theorem dX0_gather_0 : decode cX0_gather 0 = .ok (.aload_n 0, 1) := by decide +kernel
theorem dX0_gather_1 : decode cX0_gather 1 = .ok (.getfield 9, 3) := by decide +kernel
theorem dX0_gather_4 : decode cX0_gather 4 = .ok (.iconst 0, 1) := by decide +kernel
theorem dX0_gather_5 : decode cX0_gather 5 = .ok (.invokestatic 19, 3) := by decide +kernel
theorem dX0_gather_8 : decode cX0_gather 8 = .ok (.aload_n 0, 1) := by decide +kernel
theorem dX0_gather_9 : decode cX0_gather 9 = .ok (.iconst 0, 1) := by decide +kernel
theorem dX0_gather_10 : decode cX0_gather 10 = .ok (.putfield 25, 3) := by decide +kernel
theorem dX0_gather_13 : decode cX0_gather 13 = .ok (.aload_n 0, 1) := by decide +kernel
theorem dX0_gather_14 : decode cX0_gather 14 = .ok (.iload_n 2, 1) := by decide +kernel
theorem dX0_gather_15 : decode cX0_gather 15 = .ok (.iload_n 3, 1) := by decide +kernel
theorem dX0_gather_16 : decode cX0_gather 16 = .ok (.iload 4, 2) := by decide +kernel
theorem dX0_gather_18 : decode cX0_gather 18 = .ok (.invokevirtual 29, 3) := by decide +kernel
theorem dX0_gather_21 : decode cX0_gather 21 = .ok (.iconst 0, 1) := by decide +kernel
theorem dX0_gather_22 : decode cX0_gather 22 = .ok (.istore 5, 2) := by decide +kernel
theorem dX0_gather_24 : decode cX0_gather 24 = .ok (.iload 5, 2) := by decide +kernel
theorem dX0_gather_26 : decode cX0_gather 26 = .ok (.aload_n 0, 1) := by decide +kernel
theorem dX0_gather_27 : decode cX0_gather 27 = .ok (.getfield 25, 3) := by decide +kernel
theorem dX0_gather_30 : decode cX0_gather 30 = .ok (.if_icmp .ge 28, 3) := by decide +kernel
theorem dX0_gather_33 : decode cX0_gather 33 = .ok (.iload 5, 2) := by decide +kernel
theorem dX0_gather_35 : decode cX0_gather 35 = .ok (.bipush 48, 2) := by decide +kernel
theorem dX0_gather_37 : decode cX0_gather 37 = .ok (.if_icmp .ge 21, 3) := by decide +kernel
theorem dX0_gather_40 : decode cX0_gather 40 = .ok (.aload_n 0, 1) := by decide +kernel
theorem dX0_gather_41 : decode cX0_gather 41 = .ok (.iload_n 1, 1) := by decide +kernel
theorem dX0_gather_42 : decode cX0_gather 42 = .ok (.aload_n 0, 1) := by decide +kernel
theorem dX0_gather_43 : decode cX0_gather 43 = .ok (.getfield 15, 3) := by decide +kernel
theorem dX0_gather_46 : decode cX0_gather 46 = .ok (.iload 5, 2) := by decide +kernel
theorem dX0_gather_48 : decode cX0_gather 48 = .ok (.iaload, 1) := by decide +kernel
theorem dX0_gather_49 : decode cX0_gather 49 = .ok (.invokevirtual 33, 3) := by decide +kernel
theorem dX0_gather_52 : decode cX0_gather 52 = .ok (.iinc 5 1, 3) := by decide +kernel
theorem dX0_gather_55 : decode cX0_gather 55 = .ok (.goto (-31), 3) := by decide +kernel
theorem dX0_gather_58 : decode cX0_gather 58 = .ok (.aload_n 0, 1) := by decide +kernel
theorem dX0_gather_59 : decode cX0_gather 59 = .ok (.invokevirtual 37, 3) := by decide +kernel
theorem dX0_gather_62 : decode cX0_gather 62 = .ok (.return_, 1) := by decide +kernel
theorem dX0_noteTurned_0 : decode cX0_noteTurned 0 = .ok (.iload_n 2, 1) := by decide +kernel
theorem dX0_noteTurned_1 : decode cX0_noteTurned 1 = .ok (.bipush 100, 2) := by decide +kernel
theorem dX0_noteTurned_3 : decode cX0_noteTurned 3 = .ok (.idiv, 1) := by decide +kernel
theorem dX0_noteTurned_4 : decode cX0_noteTurned 4 = .ok (.iconst 3, 1) := by decide +kernel
theorem dX0_noteTurned_5 : decode cX0_noteTurned 5 = .ok (.isub, 1) := by decide +kernel
theorem dX0_noteTurned_6 : decode cX0_noteTurned 6 = .ok (.istore_n 3, 1) := by decide +kernel
theorem dX0_noteTurned_7 : decode cX0_noteTurned 7 = .ok (.iload_n 2, 1) := by decide +kernel
theorem dX0_noteTurned_8 : decode cX0_noteTurned 8 = .ok (.bipush 10, 2) := by decide +kernel
theorem dX0_noteTurned_10 : decode cX0_noteTurned 10 = .ok (.idiv, 1) := by decide +kernel
theorem dX0_noteTurned_11 : decode cX0_noteTurned 11 = .ok (.bipush 10, 2) := by decide +kernel
theorem dX0_noteTurned_13 : decode cX0_noteTurned 13 = .ok (.irem, 1) := by decide +kernel
theorem dX0_noteTurned_14 : decode cX0_noteTurned 14 = .ok (.iconst 3, 1) := by decide +kernel
theorem dX0_noteTurned_15 : decode cX0_noteTurned 15 = .ok (.isub, 1) := by decide +kernel
theorem dX0_noteTurned_16 : decode cX0_noteTurned 16 = .ok (.istore 4, 2) := by decide +kernel
theorem dX0_noteTurned_18 : decode cX0_noteTurned 18 = .ok (.iload_n 2, 1) := by decide +kernel
theorem dX0_noteTurned_19 : decode cX0_noteTurned 19 = .ok (.bipush 10, 2) := by decide +kernel
theorem dX0_noteTurned_21 : decode cX0_noteTurned 21 = .ok (.irem, 1) := by decide +kernel
theorem dX0_noteTurned_22 : decode cX0_noteTurned 22 = .ok (.iconst 3, 1) := by decide +kernel
theorem dX0_noteTurned_23 : decode cX0_noteTurned 23 = .ok (.isub, 1) := by decide +kernel
theorem dX0_noteTurned_24 : decode cX0_noteTurned 24 = .ok (.istore 5, 2) := by decide +kernel
theorem dX0_noteTurned_26 : decode cX0_noteTurned 26 = .ok (.iconst 0, 1) := by decide +kernel
theorem dX0_noteTurned_27 : decode cX0_noteTurned 27 = .ok (.istore 6, 2) := by decide +kernel
theorem dX0_noteTurned_29 : decode cX0_noteTurned 29 = .ok (.iload 6, 2) := by decide +kernel
theorem dX0_noteTurned_31 : decode cX0_noteTurned 31 = .ok (.bipush 6, 2) := by decide +kernel
theorem dX0_noteTurned_33 : decode cX0_noteTurned 33 = .ok (.if_icmp .ge 56, 3) := by decide +kernel
theorem dX0_noteTurned_36 : decode cX0_noteTurned 36 = .ok (.iload_n 1, 1) := by decide +kernel
theorem dX0_noteTurned_37 : decode cX0_noteTurned 37 = .ok (.iload 6, 2) := by decide +kernel
theorem dX0_noteTurned_39 : decode cX0_noteTurned 39 = .ok (.ishr, 1) := by decide +kernel
theorem dX0_noteTurned_40 : decode cX0_noteTurned 40 = .ok (.iconst 1, 1) := by decide +kernel
theorem dX0_noteTurned_41 : decode cX0_noteTurned 41 = .ok (.iand, 1) := by decide +kernel
theorem dX0_noteTurned_42 : decode cX0_noteTurned 42 = .ok (.iconst 1, 1) := by decide +kernel
theorem dX0_noteTurned_43 : decode cX0_noteTurned 43 = .ok (.if_icmp .ne 40, 3) := by decide +kernel
theorem dX0_noteTurned_46 : decode cX0_noteTurned 46 = .ok (.aload_n 0, 1) := by decide +kernel
theorem dX0_noteTurned_47 : decode cX0_noteTurned 47 = .ok (.iload 6, 2) := by decide +kernel
theorem dX0_noteTurned_49 : decode cX0_noteTurned 49 = .ok (.iconst 0, 1) := by decide +kernel
theorem dX0_noteTurned_50 : decode cX0_noteTurned 50 = .ok (.iload_n 3, 1) := by decide +kernel
theorem dX0_noteTurned_51 : decode cX0_noteTurned 51 = .ok (.iload 4, 2) := by decide +kernel
theorem dX0_noteTurned_53 : decode cX0_noteTurned 53 = .ok (.iload 5, 2) := by decide +kernel
theorem dX0_noteTurned_55 : decode cX0_noteTurned 55 = .ok (.invokestatic 40, 3) := by decide +kernel
theorem dX0_noteTurned_58 : decode cX0_noteTurned 58 = .ok (.iload 6, 2) := by decide +kernel
theorem dX0_noteTurned_60 : decode cX0_noteTurned 60 = .ok (.iconst 1, 1) := by decide +kernel
theorem dX0_noteTurned_61 : decode cX0_noteTurned 61 = .ok (.iload_n 3, 1) := by decide +kernel
theorem dX0_noteTurned_62 : decode cX0_noteTurned 62 = .ok (.iload 4, 2) := by decide +kernel
theorem dX0_noteTurned_64 : decode cX0_noteTurned 64 = .ok (.iload 5, 2) := by decide +kernel
theorem dX0_noteTurned_66 : decode cX0_noteTurned 66 = .ok (.invokestatic 40, 3) := by decide +kernel
theorem dX0_noteTurned_69 : decode cX0_noteTurned 69 = .ok (.iload 6, 2) := by decide +kernel
theorem dX0_noteTurned_71 : decode cX0_noteTurned 71 = .ok (.iconst 2, 1) := by decide +kernel
theorem dX0_noteTurned_72 : decode cX0_noteTurned 72 = .ok (.iload_n 3, 1) := by decide +kernel
theorem dX0_noteTurned_73 : decode cX0_noteTurned 73 = .ok (.iload 4, 2) := by decide +kernel
theorem dX0_noteTurned_75 : decode cX0_noteTurned 75 = .ok (.iload 5, 2) := by decide +kernel
theorem dX0_noteTurned_77 : decode cX0_noteTurned 77 = .ok (.invokestatic 40, 3) := by decide +kernel
theorem dX0_noteTurned_80 : decode cX0_noteTurned 80 = .ok (.invokevirtual 29, 3) := by decide +kernel
theorem dX0_noteTurned_83 : decode cX0_noteTurned 83 = .ok (.iinc 6 1, 3) := by decide +kernel
theorem dX0_noteTurned_86 : decode cX0_noteTurned 86 = .ok (.goto (-57), 3) := by decide +kernel
theorem dX0_noteTurned_89 : decode cX0_noteTurned 89 = .ok (.return_, 1) := by decide +kernel
theorem dX0_note_0 : decode cX0_note 0 = .ok (.bipush 100, 2) := by decide +kernel
theorem dX0_note_2 : decode cX0_note 2 = .ok (.iload_n 1, 1) := by decide +kernel
theorem dX0_note_3 : decode cX0_note 3 = .ok (.iconst 3, 1) := by decide +kernel
theorem dX0_note_4 : decode cX0_note 4 = .ok (.iadd, 1) := by decide +kernel
theorem dX0_note_5 : decode cX0_note 5 = .ok (.imul, 1) := by decide +kernel
theorem dX0_note_6 : decode cX0_note 6 = .ok (.bipush 10, 2) := by decide +kernel
theorem dX0_note_8 : decode cX0_note 8 = .ok (.iload_n 2, 1) := by decide +kernel
theorem dX0_note_9 : decode cX0_note 9 = .ok (.iconst 3, 1) := by decide +kernel
theorem dX0_note_10 : decode cX0_note 10 = .ok (.iadd, 1) := by decide +kernel
theorem dX0_note_11 : decode cX0_note 11 = .ok (.imul, 1) := by decide +kernel
theorem dX0_note_12 : decode cX0_note 12 = .ok (.iadd, 1) := by decide +kernel
theorem dX0_note_13 : decode cX0_note 13 = .ok (.iload_n 3, 1) := by decide +kernel
theorem dX0_note_14 : decode cX0_note 14 = .ok (.iadd, 1) := by decide +kernel
theorem dX0_note_15 : decode cX0_note 15 = .ok (.iconst 3, 1) := by decide +kernel
theorem dX0_note_16 : decode cX0_note 16 = .ok (.iadd, 1) := by decide +kernel
theorem dX0_note_17 : decode cX0_note 17 = .ok (.istore 4, 2) := by decide +kernel
theorem dX0_note_19 : decode cX0_note 19 = .ok (.iload 4, 2) := by decide +kernel
theorem dX0_note_21 : decode cX0_note 21 = .ok (.ifCond .lt 59, 3) := by decide +kernel
theorem dX0_note_24 : decode cX0_note 24 = .ok (.iload 4, 2) := by decide +kernel
theorem dX0_note_26 : decode cX0_note 26 = .ok (.sipush 667, 3) := by decide +kernel
theorem dX0_note_29 : decode cX0_note 29 = .ok (.if_icmp .ge 51, 3) := by decide +kernel
theorem dX0_note_32 : decode cX0_note 32 = .ok (.aload_n 0, 1) := by decide +kernel
theorem dX0_note_33 : decode cX0_note 33 = .ok (.getfield 9, 3) := by decide +kernel
theorem dX0_note_36 : decode cX0_note 36 = .ok (.iload 4, 2) := by decide +kernel
theorem dX0_note_38 : decode cX0_note 38 = .ok (.baload, 1) := by decide +kernel
theorem dX0_note_39 : decode cX0_note 39 = .ok (.ifCond .ne 41, 3) := by decide +kernel
theorem dX0_note_42 : decode cX0_note 42 = .ok (.aload_n 0, 1) := by decide +kernel
theorem dX0_note_43 : decode cX0_note 43 = .ok (.getfield 25, 3) := by decide +kernel
theorem dX0_note_46 : decode cX0_note 46 = .ok (.bipush 48, 2) := by decide +kernel
theorem dX0_note_48 : decode cX0_note 48 = .ok (.if_icmp .ge 32, 3) := by decide +kernel
theorem dX0_note_51 : decode cX0_note 51 = .ok (.aload_n 0, 1) := by decide +kernel
theorem dX0_note_52 : decode cX0_note 52 = .ok (.getfield 9, 3) := by decide +kernel
theorem dX0_note_55 : decode cX0_note 55 = .ok (.iload 4, 2) := by decide +kernel
theorem dX0_note_57 : decode cX0_note 57 = .ok (.iconst 1, 1) := by decide +kernel
theorem dX0_note_58 : decode cX0_note 58 = .ok (.bastore, 1) := by decide +kernel
theorem dX0_note_59 : decode cX0_note 59 = .ok (.aload_n 0, 1) := by decide +kernel
theorem dX0_note_60 : decode cX0_note 60 = .ok (.getfield 15, 3) := by decide +kernel
theorem dX0_note_63 : decode cX0_note 63 = .ok (.aload_n 0, 1) := by decide +kernel
theorem dX0_note_64 : decode cX0_note 64 = .ok (.getfield 25, 3) := by decide +kernel
theorem dX0_note_67 : decode cX0_note 67 = .ok (.iload 4, 2) := by decide +kernel
theorem dX0_note_69 : decode cX0_note 69 = .ok (.iastore, 1) := by decide +kernel
theorem dX0_note_70 : decode cX0_note 70 = .ok (.aload_n 0, 1) := by decide +kernel
theorem dX0_note_71 : decode cX0_note 71 = .ok (.dup, 1) := by decide +kernel
theorem dX0_note_72 : decode cX0_note 72 = .ok (.getfield 25, 3) := by decide +kernel
theorem dX0_note_75 : decode cX0_note 75 = .ok (.iconst 1, 1) := by decide +kernel
theorem dX0_note_76 : decode cX0_note 76 = .ok (.iadd, 1) := by decide +kernel
theorem dX0_note_77 : decode cX0_note 77 = .ok (.putfield 25, 3) := by decide +kernel
theorem dX0_note_80 : decode cX0_note 80 = .ok (.return_, 1) := by decide +kernel
theorem dX0_putInOrder_0 : decode cX0_putInOrder 0 = .ok (.iconst 0, 1) := by decide +kernel
theorem dX0_putInOrder_1 : decode cX0_putInOrder 1 = .ok (.istore_n 1, 1) := by decide +kernel
theorem dX0_putInOrder_2 : decode cX0_putInOrder 2 = .ok (.iconst 0, 1) := by decide +kernel
theorem dX0_putInOrder_3 : decode cX0_putInOrder 3 = .ok (.istore_n 2, 1) := by decide +kernel
theorem dX0_putInOrder_4 : decode cX0_putInOrder 4 = .ok (.iload_n 2, 1) := by decide +kernel
theorem dX0_putInOrder_5 : decode cX0_putInOrder 5 = .ok (.sipush 667, 3) := by decide +kernel
theorem dX0_putInOrder_8 : decode cX0_putInOrder 8 = .ok (.if_icmp .ge 36, 3) := by decide +kernel
theorem dX0_putInOrder_11 : decode cX0_putInOrder 11 = .ok (.iload_n 1, 1) := by decide +kernel
theorem dX0_putInOrder_12 : decode cX0_putInOrder 12 = .ok (.aload_n 0, 1) := by decide +kernel
theorem dX0_putInOrder_13 : decode cX0_putInOrder 13 = .ok (.getfield 25, 3) := by decide +kernel
theorem dX0_putInOrder_16 : decode cX0_putInOrder 16 = .ok (.if_icmp .ge 28, 3) := by decide +kernel
theorem dX0_putInOrder_19 : decode cX0_putInOrder 19 = .ok (.aload_n 0, 1) := by decide +kernel
theorem dX0_putInOrder_20 : decode cX0_putInOrder 20 = .ok (.getfield 9, 3) := by decide +kernel
theorem dX0_putInOrder_23 : decode cX0_putInOrder 23 = .ok (.iload_n 2, 1) := by decide +kernel
theorem dX0_putInOrder_24 : decode cX0_putInOrder 24 = .ok (.baload, 1) := by decide +kernel
theorem dX0_putInOrder_25 : decode cX0_putInOrder 25 = .ok (.ifCond .eq 13, 3) := by decide +kernel
theorem dX0_putInOrder_28 : decode cX0_putInOrder 28 = .ok (.aload_n 0, 1) := by decide +kernel
theorem dX0_putInOrder_29 : decode cX0_putInOrder 29 = .ok (.getfield 15, 3) := by decide +kernel
theorem dX0_putInOrder_32 : decode cX0_putInOrder 32 = .ok (.iload_n 1, 1) := by decide +kernel
theorem dX0_putInOrder_33 : decode cX0_putInOrder 33 = .ok (.iload_n 2, 1) := by decide +kernel
theorem dX0_putInOrder_34 : decode cX0_putInOrder 34 = .ok (.iastore, 1) := by decide +kernel
theorem dX0_putInOrder_35 : decode cX0_putInOrder 35 = .ok (.iinc 1 1, 3) := by decide +kernel
theorem dX0_putInOrder_38 : decode cX0_putInOrder 38 = .ok (.iinc 2 1, 3) := by decide +kernel
theorem dX0_putInOrder_41 : decode cX0_putInOrder 41 = .ok (.goto (-37), 3) := by decide +kernel
theorem dX0_putInOrder_44 : decode cX0_putInOrder 44 = .ok (.return_, 1) := by decide +kernel
theorem dX1_init_0 : decode cX1_init 0 = .ok (.aload_n 0, 1) := by decide +kernel
theorem dX1_init_1 : decode cX1_init 1 = .ok (.invokespecial 1, 3) := by decide +kernel
theorem dX1_init_4 : decode cX1_init 4 = .ok (.return_, 1) := by decide +kernel
theorem dX1_lay_0 : decode cX1_lay 0 = .ok (.aload_n 1, 1) := by decide +kernel
theorem dX1_lay_1 : decode cX1_lay 1 = .ok (.getfield 7, 3) := by decide +kernel
theorem dX1_lay_4 : decode cX1_lay 4 = .ok (.iload_n 2, 1) := by decide +kernel
theorem dX1_lay_5 : decode cX1_lay 5 = .ok (.iaload, 1) := by decide +kernel
theorem dX1_lay_6 : decode cX1_lay 6 = .ok (.istore 4, 2) := by decide +kernel
theorem dX1_lay_8 : decode cX1_lay 8 = .ok (.aload_n 1, 1) := by decide +kernel
theorem dX1_lay_9 : decode cX1_lay 9 = .ok (.getfield 13, 3) := by decide +kernel
theorem dX1_lay_12 : decode cX1_lay 12 = .ok (.iload_n 2, 1) := by decide +kernel
theorem dX1_lay_13 : decode cX1_lay 13 = .ok (.iaload, 1) := by decide +kernel
theorem dX1_lay_14 : decode cX1_lay 14 = .ok (.istore 5, 2) := by decide +kernel
theorem dX1_lay_16 : decode cX1_lay 16 = .ok (.aload_n 1, 1) := by decide +kernel
theorem dX1_lay_17 : decode cX1_lay 17 = .ok (.getfield 16, 3) := by decide +kernel
theorem dX1_lay_20 : decode cX1_lay 20 = .ok (.iload_n 2, 1) := by decide +kernel
theorem dX1_lay_21 : decode cX1_lay 21 = .ok (.iaload, 1) := by decide +kernel
theorem dX1_lay_22 : decode cX1_lay 22 = .ok (.istore 6, 2) := by decide +kernel
theorem dX1_lay_24 : decode cX1_lay 24 = .ok (.aload_n 1, 1) := by decide +kernel
theorem dX1_lay_25 : decode cX1_lay 25 = .ok (.getfield 19, 3) := by decide +kernel
theorem dX1_lay_28 : decode cX1_lay 28 = .ok (.iload_n 2, 1) := by decide +kernel
theorem dX1_lay_29 : decode cX1_lay 29 = .ok (.iaload, 1) := by decide +kernel
theorem dX1_lay_30 : decode cX1_lay 30 = .ok (.istore 7, 2) := by decide +kernel
theorem dX1_lay_32 : decode cX1_lay 32 = .ok (.aload_n 1, 1) := by decide +kernel
theorem dX1_lay_33 : decode cX1_lay 33 = .ok (.getfield 7, 3) := by decide +kernel
theorem dX1_lay_36 : decode cX1_lay 36 = .ok (.iload_n 3, 1) := by decide +kernel
theorem dX1_lay_37 : decode cX1_lay 37 = .ok (.iaload, 1) := by decide +kernel
theorem dX1_lay_38 : decode cX1_lay 38 = .ok (.istore 8, 2) := by decide +kernel
theorem dX1_lay_40 : decode cX1_lay 40 = .ok (.aload_n 1, 1) := by decide +kernel
theorem dX1_lay_41 : decode cX1_lay 41 = .ok (.getfield 13, 3) := by decide +kernel
theorem dX1_lay_44 : decode cX1_lay 44 = .ok (.iload_n 3, 1) := by decide +kernel
theorem dX1_lay_45 : decode cX1_lay 45 = .ok (.iaload, 1) := by decide +kernel
theorem dX1_lay_46 : decode cX1_lay 46 = .ok (.istore 9, 2) := by decide +kernel
theorem dX1_lay_48 : decode cX1_lay 48 = .ok (.aload_n 1, 1) := by decide +kernel
theorem dX1_lay_49 : decode cX1_lay 49 = .ok (.getfield 16, 3) := by decide +kernel
theorem dX1_lay_52 : decode cX1_lay 52 = .ok (.iload_n 3, 1) := by decide +kernel
theorem dX1_lay_53 : decode cX1_lay 53 = .ok (.iaload, 1) := by decide +kernel
theorem dX1_lay_54 : decode cX1_lay 54 = .ok (.istore 10, 2) := by decide +kernel
theorem dX1_lay_56 : decode cX1_lay 56 = .ok (.aload_n 1, 1) := by decide +kernel
theorem dX1_lay_57 : decode cX1_lay 57 = .ok (.getfield 19, 3) := by decide +kernel
theorem dX1_lay_60 : decode cX1_lay 60 = .ok (.iload_n 3, 1) := by decide +kernel
theorem dX1_lay_61 : decode cX1_lay 61 = .ok (.iaload, 1) := by decide +kernel
theorem dX1_lay_62 : decode cX1_lay 62 = .ok (.istore 11, 2) := by decide +kernel
theorem dX1_lay_64 : decode cX1_lay 64 = .ok (.aload_n 0, 1) := by decide +kernel
theorem dX1_lay_65 : decode cX1_lay 65 = .ok (.iload 5, 2) := by decide +kernel
theorem dX1_lay_67 : decode cX1_lay 67 = .ok (.iload 10, 2) := by decide +kernel
theorem dX1_lay_69 : decode cX1_lay 69 = .ok (.imul, 1) := by decide +kernel
theorem dX1_lay_70 : decode cX1_lay 70 = .ok (.iload 6, 2) := by decide +kernel
theorem dX1_lay_72 : decode cX1_lay 72 = .ok (.iload 9, 2) := by decide +kernel
theorem dX1_lay_74 : decode cX1_lay 74 = .ok (.imul, 1) := by decide +kernel
theorem dX1_lay_75 : decode cX1_lay 75 = .ok (.isub, 1) := by decide +kernel
theorem dX1_lay_76 : decode cX1_lay 76 = .ok (.putfield 22, 3) := by decide +kernel
theorem dX1_lay_79 : decode cX1_lay 79 = .ok (.aload_n 0, 1) := by decide +kernel
theorem dX1_lay_80 : decode cX1_lay 80 = .ok (.iload 6, 2) := by decide +kernel
theorem dX1_lay_82 : decode cX1_lay 82 = .ok (.iload 8, 2) := by decide +kernel
theorem dX1_lay_84 : decode cX1_lay 84 = .ok (.imul, 1) := by decide +kernel
theorem dX1_lay_85 : decode cX1_lay 85 = .ok (.iload 4, 2) := by decide +kernel
theorem dX1_lay_87 : decode cX1_lay 87 = .ok (.iload 10, 2) := by decide +kernel
theorem dX1_lay_89 : decode cX1_lay 89 = .ok (.imul, 1) := by decide +kernel
theorem dX1_lay_90 : decode cX1_lay 90 = .ok (.isub, 1) := by decide +kernel
theorem dX1_lay_91 : decode cX1_lay 91 = .ok (.putfield 28, 3) := by decide +kernel
theorem dX1_lay_94 : decode cX1_lay 94 = .ok (.aload_n 0, 1) := by decide +kernel
theorem dX1_lay_95 : decode cX1_lay 95 = .ok (.iload 4, 2) := by decide +kernel
theorem dX1_lay_97 : decode cX1_lay 97 = .ok (.iload 9, 2) := by decide +kernel
theorem dX1_lay_99 : decode cX1_lay 99 = .ok (.imul, 1) := by decide +kernel
theorem dX1_lay_100 : decode cX1_lay 100 = .ok (.iload 5, 2) := by decide +kernel
theorem dX1_lay_102 : decode cX1_lay 102 = .ok (.iload 8, 2) := by decide +kernel
theorem dX1_lay_104 : decode cX1_lay 104 = .ok (.imul, 1) := by decide +kernel
theorem dX1_lay_105 : decode cX1_lay 105 = .ok (.isub, 1) := by decide +kernel
theorem dX1_lay_106 : decode cX1_lay 106 = .ok (.putfield 31, 3) := by decide +kernel
theorem dX1_lay_109 : decode cX1_lay 109 = .ok (.aload_n 0, 1) := by decide +kernel
theorem dX1_lay_110 : decode cX1_lay 110 = .ok (.aload_n 0, 1) := by decide +kernel
theorem dX1_lay_111 : decode cX1_lay 111 = .ok (.getfield 22, 3) := by decide +kernel
theorem dX1_lay_114 : decode cX1_lay 114 = .ok (.aload_n 0, 1) := by decide +kernel
theorem dX1_lay_115 : decode cX1_lay 115 = .ok (.getfield 22, 3) := by decide +kernel
theorem dX1_lay_118 : decode cX1_lay 118 = .ok (.imul, 1) := by decide +kernel
theorem dX1_lay_119 : decode cX1_lay 119 = .ok (.aload_n 0, 1) := by decide +kernel
theorem dX1_lay_120 : decode cX1_lay 120 = .ok (.getfield 28, 3) := by decide +kernel
theorem dX1_lay_123 : decode cX1_lay 123 = .ok (.aload_n 0, 1) := by decide +kernel
theorem dX1_lay_124 : decode cX1_lay 124 = .ok (.getfield 28, 3) := by decide +kernel
theorem dX1_lay_127 : decode cX1_lay 127 = .ok (.imul, 1) := by decide +kernel
theorem dX1_lay_128 : decode cX1_lay 128 = .ok (.iadd, 1) := by decide +kernel
theorem dX1_lay_129 : decode cX1_lay 129 = .ok (.aload_n 0, 1) := by decide +kernel
theorem dX1_lay_130 : decode cX1_lay 130 = .ok (.getfield 31, 3) := by decide +kernel
theorem dX1_lay_133 : decode cX1_lay 133 = .ok (.aload_n 0, 1) := by decide +kernel
theorem dX1_lay_134 : decode cX1_lay 134 = .ok (.getfield 31, 3) := by decide +kernel
theorem dX1_lay_137 : decode cX1_lay 137 = .ok (.imul, 1) := by decide +kernel
theorem dX1_lay_138 : decode cX1_lay 138 = .ok (.iadd, 1) := by decide +kernel
theorem dX1_lay_139 : decode cX1_lay 139 = .ok (.putfield 34, 3) := by decide +kernel
theorem dX1_lay_142 : decode cX1_lay 142 = .ok (.aload_n 0, 1) := by decide +kernel
theorem dX1_lay_143 : decode cX1_lay 143 = .ok (.getfield 34, 3) := by decide +kernel
theorem dX1_lay_146 : decode cX1_lay 146 = .ok (.ifCond .ne 5, 3) := by decide +kernel
theorem dX1_lay_149 : decode cX1_lay 149 = .ok (.iconst 0, 1) := by decide +kernel
theorem dX1_lay_150 : decode cX1_lay 150 = .ok (.ireturn, 1) := by decide +kernel
theorem dX1_lay_151 : decode cX1_lay 151 = .ok (.aload_n 0, 1) := by decide +kernel
theorem dX1_lay_152 : decode cX1_lay 152 = .ok (.iload 7, 2) := by decide +kernel
theorem dX1_lay_154 : decode cX1_lay 154 = .ok (.iload 9, 2) := by decide +kernel
theorem dX1_lay_156 : decode cX1_lay 156 = .ok (.aload_n 0, 1) := by decide +kernel
theorem dX1_lay_157 : decode cX1_lay 157 = .ok (.getfield 31, 3) := by decide +kernel
theorem dX1_lay_160 : decode cX1_lay 160 = .ok (.imul, 1) := by decide +kernel
theorem dX1_lay_161 : decode cX1_lay 161 = .ok (.iload 10, 2) := by decide +kernel
theorem dX1_lay_163 : decode cX1_lay 163 = .ok (.aload_n 0, 1) := by decide +kernel
theorem dX1_lay_164 : decode cX1_lay 164 = .ok (.getfield 28, 3) := by decide +kernel
theorem dX1_lay_167 : decode cX1_lay 167 = .ok (.imul, 1) := by decide +kernel
theorem dX1_lay_168 : decode cX1_lay 168 = .ok (.isub, 1) := by decide +kernel
theorem dX1_lay_169 : decode cX1_lay 169 = .ok (.imul, 1) := by decide +kernel
theorem dX1_lay_170 : decode cX1_lay 170 = .ok (.iload 11, 2) := by decide +kernel
theorem dX1_lay_172 : decode cX1_lay 172 = .ok (.aload_n 0, 1) := by decide +kernel
theorem dX1_lay_173 : decode cX1_lay 173 = .ok (.getfield 28, 3) := by decide +kernel
theorem dX1_lay_176 : decode cX1_lay 176 = .ok (.iload 6, 2) := by decide +kernel
theorem dX1_lay_178 : decode cX1_lay 178 = .ok (.imul, 1) := by decide +kernel
theorem dX1_lay_179 : decode cX1_lay 179 = .ok (.aload_n 0, 1) := by decide +kernel
theorem dX1_lay_180 : decode cX1_lay 180 = .ok (.getfield 31, 3) := by decide +kernel
theorem dX1_lay_183 : decode cX1_lay 183 = .ok (.iload 5, 2) := by decide +kernel
theorem dX1_lay_185 : decode cX1_lay 185 = .ok (.imul, 1) := by decide +kernel
theorem dX1_lay_186 : decode cX1_lay 186 = .ok (.isub, 1) := by decide +kernel
theorem dX1_lay_187 : decode cX1_lay 187 = .ok (.imul, 1) := by decide +kernel
theorem dX1_lay_188 : decode cX1_lay 188 = .ok (.iadd, 1) := by decide +kernel
theorem dX1_lay_189 : decode cX1_lay 189 = .ok (.putfield 37, 3) := by decide +kernel
theorem dX1_lay_192 : decode cX1_lay 192 = .ok (.aload_n 0, 1) := by decide +kernel
theorem dX1_lay_193 : decode cX1_lay 193 = .ok (.iload 7, 2) := by decide +kernel
theorem dX1_lay_195 : decode cX1_lay 195 = .ok (.iload 10, 2) := by decide +kernel
theorem dX1_lay_197 : decode cX1_lay 197 = .ok (.aload_n 0, 1) := by decide +kernel
theorem dX1_lay_198 : decode cX1_lay 198 = .ok (.getfield 22, 3) := by decide +kernel
theorem dX1_lay_201 : decode cX1_lay 201 = .ok (.imul, 1) := by decide +kernel
theorem dX1_lay_202 : decode cX1_lay 202 = .ok (.iload 8, 2) := by decide +kernel
theorem dX1_lay_204 : decode cX1_lay 204 = .ok (.aload_n 0, 1) := by decide +kernel
theorem dX1_lay_205 : decode cX1_lay 205 = .ok (.getfield 31, 3) := by decide +kernel
theorem dX1_lay_208 : decode cX1_lay 208 = .ok (.imul, 1) := by decide +kernel
theorem dX1_lay_209 : decode cX1_lay 209 = .ok (.isub, 1) := by decide +kernel
theorem dX1_lay_210 : decode cX1_lay 210 = .ok (.imul, 1) := by decide +kernel
theorem dX1_lay_211 : decode cX1_lay 211 = .ok (.iload 11, 2) := by decide +kernel
theorem dX1_lay_213 : decode cX1_lay 213 = .ok (.aload_n 0, 1) := by decide +kernel
theorem dX1_lay_214 : decode cX1_lay 214 = .ok (.getfield 31, 3) := by decide +kernel
theorem dX1_lay_217 : decode cX1_lay 217 = .ok (.iload 4, 2) := by decide +kernel
theorem dX1_lay_219 : decode cX1_lay 219 = .ok (.imul, 1) := by decide +kernel
theorem dX1_lay_220 : decode cX1_lay 220 = .ok (.aload_n 0, 1) := by decide +kernel
theorem dX1_lay_221 : decode cX1_lay 221 = .ok (.getfield 22, 3) := by decide +kernel
theorem dX1_lay_224 : decode cX1_lay 224 = .ok (.iload 6, 2) := by decide +kernel
theorem dX1_lay_226 : decode cX1_lay 226 = .ok (.imul, 1) := by decide +kernel
theorem dX1_lay_227 : decode cX1_lay 227 = .ok (.isub, 1) := by decide +kernel
theorem dX1_lay_228 : decode cX1_lay 228 = .ok (.imul, 1) := by decide +kernel
theorem dX1_lay_229 : decode cX1_lay 229 = .ok (.iadd, 1) := by decide +kernel
theorem dX1_lay_230 : decode cX1_lay 230 = .ok (.putfield 40, 3) := by decide +kernel
theorem dX1_lay_233 : decode cX1_lay 233 = .ok (.aload_n 0, 1) := by decide +kernel
theorem dX1_lay_234 : decode cX1_lay 234 = .ok (.iload 7, 2) := by decide +kernel
theorem dX1_lay_236 : decode cX1_lay 236 = .ok (.iload 8, 2) := by decide +kernel
theorem dX1_lay_238 : decode cX1_lay 238 = .ok (.aload_n 0, 1) := by decide +kernel
theorem dX1_lay_239 : decode cX1_lay 239 = .ok (.getfield 28, 3) := by decide +kernel
theorem dX1_lay_242 : decode cX1_lay 242 = .ok (.imul, 1) := by decide +kernel
theorem dX1_lay_243 : decode cX1_lay 243 = .ok (.iload 9, 2) := by decide +kernel
theorem dX1_lay_245 : decode cX1_lay 245 = .ok (.aload_n 0, 1) := by decide +kernel
theorem dX1_lay_246 : decode cX1_lay 246 = .ok (.getfield 22, 3) := by decide +kernel
theorem dX1_lay_249 : decode cX1_lay 249 = .ok (.imul, 1) := by decide +kernel
theorem dX1_lay_250 : decode cX1_lay 250 = .ok (.isub, 1) := by decide +kernel
theorem dX1_lay_251 : decode cX1_lay 251 = .ok (.imul, 1) := by decide +kernel
theorem dX1_lay_252 : decode cX1_lay 252 = .ok (.iload 11, 2) := by decide +kernel
theorem dX1_lay_254 : decode cX1_lay 254 = .ok (.aload_n 0, 1) := by decide +kernel
theorem dX1_lay_255 : decode cX1_lay 255 = .ok (.getfield 22, 3) := by decide +kernel
theorem dX1_lay_258 : decode cX1_lay 258 = .ok (.iload 5, 2) := by decide +kernel
theorem dX1_lay_260 : decode cX1_lay 260 = .ok (.imul, 1) := by decide +kernel
theorem dX1_lay_261 : decode cX1_lay 261 = .ok (.aload_n 0, 1) := by decide +kernel
theorem dX1_lay_262 : decode cX1_lay 262 = .ok (.getfield 28, 3) := by decide +kernel
theorem dX1_lay_265 : decode cX1_lay 265 = .ok (.iload 4, 2) := by decide +kernel
theorem dX1_lay_267 : decode cX1_lay 267 = .ok (.imul, 1) := by decide +kernel
theorem dX1_lay_268 : decode cX1_lay 268 = .ok (.isub, 1) := by decide +kernel
theorem dX1_lay_269 : decode cX1_lay 269 = .ok (.imul, 1) := by decide +kernel
theorem dX1_lay_270 : decode cX1_lay 270 = .ok (.iadd, 1) := by decide +kernel
theorem dX1_lay_271 : decode cX1_lay 271 = .ok (.putfield 43, 3) := by decide +kernel
theorem dX1_lay_274 : decode cX1_lay 274 = .ok (.aload_n 0, 1) := by decide +kernel
theorem dX1_lay_275 : decode cX1_lay 275 = .ok (.iconst (-1), 1) := by decide +kernel
theorem dX1_lay_276 : decode cX1_lay 276 = .ok (.putfield 46, 3) := by decide +kernel
theorem dX1_lay_279 : decode cX1_lay 279 = .ok (.aload_n 0, 1) := by decide +kernel
theorem dX1_lay_280 : decode cX1_lay 280 = .ok (.iconst 0, 1) := by decide +kernel
theorem dX1_lay_281 : decode cX1_lay 281 = .ok (.putfield 49, 3) := by decide +kernel
theorem dX1_lay_284 : decode cX1_lay 284 = .ok (.aload_n 0, 1) := by decide +kernel
theorem dX1_lay_285 : decode cX1_lay 285 = .ok (.iconst 1, 1) := by decide +kernel
theorem dX1_lay_286 : decode cX1_lay 286 = .ok (.putfield 52, 3) := by decide +kernel
theorem dX1_lay_289 : decode cX1_lay 289 = .ok (.aload_n 0, 1) := by decide +kernel
theorem dX1_lay_290 : decode cX1_lay 290 = .ok (.iconst 0, 1) := by decide +kernel
theorem dX1_lay_291 : decode cX1_lay 291 = .ok (.putfield 55, 3) := by decide +kernel
theorem dX1_lay_294 : decode cX1_lay 294 = .ok (.iconst 1, 1) := by decide +kernel
theorem dX1_lay_295 : decode cX1_lay 295 = .ok (.ireturn, 1) := by decide +kernel
theorem dX1_isLeftBy_0 : decode cX1_isLeftBy 0 = .ok (.iconst 0, 1) := by decide +kernel
theorem dX1_isLeftBy_1 : decode cX1_isLeftBy 1 = .ok (.istore_n 3, 1) := by decide +kernel
theorem dX1_isLeftBy_2 : decode cX1_isLeftBy 2 = .ok (.iload_n 3, 1) := by decide +kernel
theorem dX1_isLeftBy_3 : decode cX1_isLeftBy 3 = .ok (.aload_n 1, 1) := by decide +kernel
theorem dX1_isLeftBy_4 : decode cX1_isLeftBy 4 = .ok (.getfield 58, 3) := by decide +kernel
theorem dX1_isLeftBy_7 : decode cX1_isLeftBy 7 = .ok (.if_icmp .ge 25, 3) := by decide +kernel
theorem dX1_isLeftBy_10 : decode cX1_isLeftBy 10 = .ok (.iload_n 3, 1) := by decide +kernel
theorem dX1_isLeftBy_11 : decode cX1_isLeftBy 11 = .ok (.iload_n 2, 1) := by decide +kernel
theorem dX1_isLeftBy_12 : decode cX1_isLeftBy 12 = .ok (.if_icmp .eq 14, 3) := by decide +kernel
theorem dX1_isLeftBy_15 : decode cX1_isLeftBy 15 = .ok (.aload_n 0, 1) := by decide +kernel
theorem dX1_isLeftBy_16 : decode cX1_isLeftBy 16 = .ok (.aload_n 1, 1) := by decide +kernel
theorem dX1_isLeftBy_17 : decode cX1_isLeftBy 17 = .ok (.iload_n 3, 1) := by decide +kernel
theorem dX1_isLeftBy_18 : decode cX1_isLeftBy 18 = .ok (.invokevirtual 61, 3) := by decide +kernel
theorem dX1_isLeftBy_21 : decode cX1_isLeftBy 21 = .ok (.ifCond .ne 5, 3) := by decide +kernel
theorem dX1_isLeftBy_24 : decode cX1_isLeftBy 24 = .ok (.iconst 0, 1) := by decide +kernel
theorem dX1_isLeftBy_25 : decode cX1_isLeftBy 25 = .ok (.ireturn, 1) := by decide +kernel
theorem dX1_isLeftBy_26 : decode cX1_isLeftBy 26 = .ok (.iinc 3 1, 3) := by decide +kernel
theorem dX1_isLeftBy_29 : decode cX1_isLeftBy 29 = .ok (.goto (-27), 3) := by decide +kernel
theorem dX1_isLeftBy_32 : decode cX1_isLeftBy 32 = .ok (.iconst 1, 1) := by decide +kernel
theorem dX1_isLeftBy_33 : decode cX1_isLeftBy 33 = .ok (.ireturn, 1) := by decide +kernel
theorem dX1_isLeftBehind_0 : decode cX1_isLeftBehind 0 = .ok (.aload_n 1, 1) := by decide +kernel
theorem dX1_isLeftBehind_1 : decode cX1_isLeftBehind 1 = .ok (.getfield 7, 3) := by decide +kernel
theorem dX1_isLeftBehind_4 : decode cX1_isLeftBehind 4 = .ok (.iload_n 2, 1) := by decide +kernel
theorem dX1_isLeftBehind_5 : decode cX1_isLeftBehind 5 = .ok (.iaload, 1) := by decide +kernel
theorem dX1_isLeftBehind_6 : decode cX1_isLeftBehind 6 = .ok (.aload_n 0, 1) := by decide +kernel
theorem dX1_isLeftBehind_7 : decode cX1_isLeftBehind 7 = .ok (.getfield 22, 3) := by decide +kernel
theorem dX1_isLeftBehind_10 : decode cX1_isLeftBehind 10 = .ok (.imul, 1) := by decide +kernel
theorem dX1_isLeftBehind_11 : decode cX1_isLeftBehind 11 = .ok (.aload_n 1, 1) := by decide +kernel
theorem dX1_isLeftBehind_12 : decode cX1_isLeftBehind 12 = .ok (.getfield 13, 3) := by decide +kernel
theorem dX1_isLeftBehind_15 : decode cX1_isLeftBehind 15 = .ok (.iload_n 2, 1) := by decide +kernel
theorem dX1_isLeftBehind_16 : decode cX1_isLeftBehind 16 = .ok (.iaload, 1) := by decide +kernel
theorem dX1_isLeftBehind_17 : decode cX1_isLeftBehind 17 = .ok (.aload_n 0, 1) := by decide +kernel
theorem dX1_isLeftBehind_18 : decode cX1_isLeftBehind 18 = .ok (.getfield 28, 3) := by decide +kernel
theorem dX1_isLeftBehind_21 : decode cX1_isLeftBehind 21 = .ok (.imul, 1) := by decide +kernel
theorem dX1_isLeftBehind_22 : decode cX1_isLeftBehind 22 = .ok (.iadd, 1) := by decide +kernel
theorem dX1_isLeftBehind_23 : decode cX1_isLeftBehind 23 = .ok (.aload_n 1, 1) := by decide +kernel
theorem dX1_isLeftBehind_24 : decode cX1_isLeftBehind 24 = .ok (.getfield 16, 3) := by decide +kernel
theorem dX1_isLeftBehind_27 : decode cX1_isLeftBehind 27 = .ok (.iload_n 2, 1) := by decide +kernel
theorem dX1_isLeftBehind_28 : decode cX1_isLeftBehind 28 = .ok (.iaload, 1) := by decide +kernel
theorem dX1_isLeftBehind_29 : decode cX1_isLeftBehind 29 = .ok (.aload_n 0, 1) := by decide +kernel
theorem dX1_isLeftBehind_30 : decode cX1_isLeftBehind 30 = .ok (.getfield 31, 3) := by decide +kernel
theorem dX1_isLeftBehind_33 : decode cX1_isLeftBehind 33 = .ok (.imul, 1) := by decide +kernel
theorem dX1_isLeftBehind_34 : decode cX1_isLeftBehind 34 = .ok (.iadd, 1) := by decide +kernel
theorem dX1_isLeftBehind_35 : decode cX1_isLeftBehind 35 = .ok (.istore_n 3, 1) := by decide +kernel
theorem dX1_isLeftBehind_36 : decode cX1_isLeftBehind 36 = .ok (.aload_n 1, 1) := by decide +kernel
theorem dX1_isLeftBehind_37 : decode cX1_isLeftBehind 37 = .ok (.getfield 19, 3) := by decide +kernel
theorem dX1_isLeftBehind_40 : decode cX1_isLeftBehind 40 = .ok (.iload_n 2, 1) := by decide +kernel
theorem dX1_isLeftBehind_41 : decode cX1_isLeftBehind 41 = .ok (.iaload, 1) := by decide +kernel
theorem dX1_isLeftBehind_42 : decode cX1_isLeftBehind 42 = .ok (.aload_n 0, 1) := by decide +kernel
theorem dX1_isLeftBehind_43 : decode cX1_isLeftBehind 43 = .ok (.getfield 34, 3) := by decide +kernel
theorem dX1_isLeftBehind_46 : decode cX1_isLeftBehind 46 = .ok (.imul, 1) := by decide +kernel
theorem dX1_isLeftBehind_47 : decode cX1_isLeftBehind 47 = .ok (.aload_n 1, 1) := by decide +kernel
theorem dX1_isLeftBehind_48 : decode cX1_isLeftBehind 48 = .ok (.getfield 7, 3) := by decide +kernel
theorem dX1_isLeftBehind_51 : decode cX1_isLeftBehind 51 = .ok (.iload_n 2, 1) := by decide +kernel
theorem dX1_isLeftBehind_52 : decode cX1_isLeftBehind 52 = .ok (.iaload, 1) := by decide +kernel
theorem dX1_isLeftBehind_53 : decode cX1_isLeftBehind 53 = .ok (.aload_n 0, 1) := by decide +kernel
theorem dX1_isLeftBehind_54 : decode cX1_isLeftBehind 54 = .ok (.getfield 37, 3) := by decide +kernel
theorem dX1_isLeftBehind_57 : decode cX1_isLeftBehind 57 = .ok (.imul, 1) := by decide +kernel
theorem dX1_isLeftBehind_58 : decode cX1_isLeftBehind 58 = .ok (.isub, 1) := by decide +kernel
theorem dX1_isLeftBehind_59 : decode cX1_isLeftBehind 59 = .ok (.aload_n 1, 1) := by decide +kernel
theorem dX1_isLeftBehind_60 : decode cX1_isLeftBehind 60 = .ok (.getfield 13, 3) := by decide +kernel
theorem dX1_isLeftBehind_63 : decode cX1_isLeftBehind 63 = .ok (.iload_n 2, 1) := by decide +kernel
theorem dX1_isLeftBehind_64 : decode cX1_isLeftBehind 64 = .ok (.iaload, 1) := by decide +kernel
theorem dX1_isLeftBehind_65 : decode cX1_isLeftBehind 65 = .ok (.aload_n 0, 1) := by decide +kernel
theorem dX1_isLeftBehind_66 : decode cX1_isLeftBehind 66 = .ok (.getfield 40, 3) := by decide +kernel
theorem dX1_isLeftBehind_69 : decode cX1_isLeftBehind 69 = .ok (.imul, 1) := by decide +kernel
theorem dX1_isLeftBehind_70 : decode cX1_isLeftBehind 70 = .ok (.isub, 1) := by decide +kernel
theorem dX1_isLeftBehind_71 : decode cX1_isLeftBehind 71 = .ok (.aload_n 1, 1) := by decide +kernel
theorem dX1_isLeftBehind_72 : decode cX1_isLeftBehind 72 = .ok (.getfield 16, 3) := by decide +kernel
theorem dX1_isLeftBehind_75 : decode cX1_isLeftBehind 75 = .ok (.iload_n 2, 1) := by decide +kernel
theorem dX1_isLeftBehind_76 : decode cX1_isLeftBehind 76 = .ok (.iaload, 1) := by decide +kernel
theorem dX1_isLeftBehind_77 : decode cX1_isLeftBehind 77 = .ok (.aload_n 0, 1) := by decide +kernel
theorem dX1_isLeftBehind_78 : decode cX1_isLeftBehind 78 = .ok (.getfield 43, 3) := by decide +kernel
theorem dX1_isLeftBehind_81 : decode cX1_isLeftBehind 81 = .ok (.imul, 1) := by decide +kernel
theorem dX1_isLeftBehind_82 : decode cX1_isLeftBehind 82 = .ok (.isub, 1) := by decide +kernel
theorem dX1_isLeftBehind_83 : decode cX1_isLeftBehind 83 = .ok (.istore 4, 2) := by decide +kernel
theorem dX1_isLeftBehind_85 : decode cX1_isLeftBehind 85 = .ok (.iload_n 3, 1) := by decide +kernel
theorem dX1_isLeftBehind_86 : decode cX1_isLeftBehind 86 = .ok (.ifCond .ne 14, 3) := by decide +kernel
theorem dX1_isLeftBehind_89 : decode cX1_isLeftBehind 89 = .ok (.iload 4, 2) := by decide +kernel
theorem dX1_isLeftBehind_91 : decode cX1_isLeftBehind 91 = .ok (.ifCond .lt 7, 3) := by decide +kernel
theorem dX1_isLeftBehind_94 : decode cX1_isLeftBehind 94 = .ok (.iconst 1, 1) := by decide +kernel
theorem dX1_isLeftBehind_95 : decode cX1_isLeftBehind 95 = .ok (.goto 4, 3) := by decide +kernel
theorem dX1_isLeftBehind_98 : decode cX1_isLeftBehind 98 = .ok (.iconst 0, 1) := by decide +kernel
theorem dX1_isLeftBehind_99 : decode cX1_isLeftBehind 99 = .ok (.ireturn, 1) := by decide +kernel
theorem dX1_isLeftBehind_100 : decode cX1_isLeftBehind 100 = .ok (.iload_n 3, 1) := by decide +kernel
theorem dX1_isLeftBehind_101 : decode cX1_isLeftBehind 101 = .ok (.ifCond .le 30, 3) := by decide +kernel
theorem dX1_isLeftBehind_104 : decode cX1_isLeftBehind 104 = .ok (.iload 4, 2) := by decide +kernel
theorem dX1_isLeftBehind_106 : decode cX1_isLeftBehind 106 = .ok (.aload_n 0, 1) := by decide +kernel
theorem dX1_isLeftBehind_107 : decode cX1_isLeftBehind 107 = .ok (.getfield 55, 3) := by decide +kernel
theorem dX1_isLeftBehind_110 : decode cX1_isLeftBehind 110 = .ok (.imul, 1) := by decide +kernel
theorem dX1_isLeftBehind_111 : decode cX1_isLeftBehind 111 = .ok (.aload_n 0, 1) := by decide +kernel
theorem dX1_isLeftBehind_112 : decode cX1_isLeftBehind 112 = .ok (.getfield 52, 3) := by decide +kernel
theorem dX1_isLeftBehind_115 : decode cX1_isLeftBehind 115 = .ok (.iload_n 3, 1) := by decide +kernel
theorem dX1_isLeftBehind_116 : decode cX1_isLeftBehind 116 = .ok (.imul, 1) := by decide +kernel
theorem dX1_isLeftBehind_117 : decode cX1_isLeftBehind 117 = .ok (.if_icmp .ge 14, 3) := by decide +kernel
theorem dX1_isLeftBehind_120 : decode cX1_isLeftBehind 120 = .ok (.aload_n 0, 1) := by decide +kernel
theorem dX1_isLeftBehind_121 : decode cX1_isLeftBehind 121 = .ok (.iload 4, 2) := by decide +kernel
theorem dX1_isLeftBehind_123 : decode cX1_isLeftBehind 123 = .ok (.putfield 52, 3) := by decide +kernel
theorem dX1_isLeftBehind_126 : decode cX1_isLeftBehind 126 = .ok (.aload_n 0, 1) := by decide +kernel
theorem dX1_isLeftBehind_127 : decode cX1_isLeftBehind 127 = .ok (.iload_n 3, 1) := by decide +kernel
theorem dX1_isLeftBehind_128 : decode cX1_isLeftBehind 128 = .ok (.putfield 55, 3) := by decide +kernel
theorem dX1_isLeftBehind_131 : decode cX1_isLeftBehind 131 = .ok (.iload_n 3, 1) := by decide +kernel
theorem dX1_isLeftBehind_132 : decode cX1_isLeftBehind 132 = .ok (.ifCond .ge 32, 3) := by decide +kernel
theorem dX1_isLeftBehind_135 : decode cX1_isLeftBehind 135 = .ok (.aload_n 0, 1) := by decide +kernel
theorem dX1_isLeftBehind_136 : decode cX1_isLeftBehind 136 = .ok (.getfield 46, 3) := by decide +kernel
theorem dX1_isLeftBehind_139 : decode cX1_isLeftBehind 139 = .ok (.iload_n 3, 1) := by decide +kernel
theorem dX1_isLeftBehind_140 : decode cX1_isLeftBehind 140 = .ok (.imul, 1) := by decide +kernel
theorem dX1_isLeftBehind_141 : decode cX1_isLeftBehind 141 = .ok (.iload 4, 2) := by decide +kernel
theorem dX1_isLeftBehind_143 : decode cX1_isLeftBehind 143 = .ok (.aload_n 0, 1) := by decide +kernel
theorem dX1_isLeftBehind_144 : decode cX1_isLeftBehind 144 = .ok (.getfield 49, 3) := by decide +kernel
theorem dX1_isLeftBehind_147 : decode cX1_isLeftBehind 147 = .ok (.imul, 1) := by decide +kernel
theorem dX1_isLeftBehind_148 : decode cX1_isLeftBehind 148 = .ok (.if_icmp .le 16, 3) := by decide +kernel
theorem dX1_isLeftBehind_151 : decode cX1_isLeftBehind 151 = .ok (.aload_n 0, 1) := by decide +kernel
theorem dX1_isLeftBehind_152 : decode cX1_isLeftBehind 152 = .ok (.iload 4, 2) := by decide +kernel
theorem dX1_isLeftBehind_154 : decode cX1_isLeftBehind 154 = .ok (.ineg, 1) := by decide +kernel
theorem dX1_isLeftBehind_155 : decode cX1_isLeftBehind 155 = .ok (.putfield 46, 3) := by decide +kernel
theorem dX1_isLeftBehind_158 : decode cX1_isLeftBehind 158 = .ok (.aload_n 0, 1) := by decide +kernel
theorem dX1_isLeftBehind_159 : decode cX1_isLeftBehind 159 = .ok (.iload_n 3, 1) := by decide +kernel
theorem dX1_isLeftBehind_160 : decode cX1_isLeftBehind 160 = .ok (.ineg, 1) := by decide +kernel
theorem dX1_isLeftBehind_161 : decode cX1_isLeftBehind 161 = .ok (.putfield 49, 3) := by decide +kernel
theorem dX1_isLeftBehind_164 : decode cX1_isLeftBehind 164 = .ok (.aload_n 0, 1) := by decide +kernel
theorem dX1_isLeftBehind_165 : decode cX1_isLeftBehind 165 = .ok (.getfield 46, 3) := by decide +kernel
theorem dX1_isLeftBehind_168 : decode cX1_isLeftBehind 168 = .ok (.aload_n 0, 1) := by decide +kernel
theorem dX1_isLeftBehind_169 : decode cX1_isLeftBehind 169 = .ok (.getfield 55, 3) := by decide +kernel
theorem dX1_isLeftBehind_172 : decode cX1_isLeftBehind 172 = .ok (.imul, 1) := by decide +kernel
theorem dX1_isLeftBehind_173 : decode cX1_isLeftBehind 173 = .ok (.aload_n 0, 1) := by decide +kernel
theorem dX1_isLeftBehind_174 : decode cX1_isLeftBehind 174 = .ok (.getfield 52, 3) := by decide +kernel
theorem dX1_isLeftBehind_177 : decode cX1_isLeftBehind 177 = .ok (.aload_n 0, 1) := by decide +kernel
theorem dX1_isLeftBehind_178 : decode cX1_isLeftBehind 178 = .ok (.getfield 49, 3) := by decide +kernel
theorem dX1_isLeftBehind_181 : decode cX1_isLeftBehind 181 = .ok (.imul, 1) := by decide +kernel
theorem dX1_isLeftBehind_182 : decode cX1_isLeftBehind 182 = .ok (.if_icmp .gt 7, 3) := by decide +kernel
theorem dX1_isLeftBehind_185 : decode cX1_isLeftBehind 185 = .ok (.iconst 1, 1) := by decide +kernel
theorem dX1_isLeftBehind_186 : decode cX1_isLeftBehind 186 = .ok (.goto 4, 3) := by decide +kernel
theorem dX1_isLeftBehind_189 : decode cX1_isLeftBehind 189 = .ok (.iconst 0, 1) := by decide +kernel
theorem dX1_isLeftBehind_190 : decode cX1_isLeftBehind 190 = .ok (.ireturn, 1) := by decide +kernel
theorem dX2_init_0 : decode cX2_init 0 = .ok (.aload_n 0, 1) := by decide +kernel
theorem dX2_init_1 : decode cX2_init 1 = .ok (.invokespecial 3, 3) := by decide +kernel
theorem dX2_init_4 : decode cX2_init 4 = .ok (.aload_n 0, 1) := by decide +kernel
theorem dX2_init_5 : decode cX2_init 5 = .ok (.bipush 32, 2) := by decide +kernel
theorem dX2_init_7 : decode cX2_init 7 = .ok (.newarray .int, 2) := by decide +kernel
theorem dX2_init_9 : decode cX2_init 9 = .ok (.putfield 9, 3) := by decide +kernel
theorem dX2_init_12 : decode cX2_init 12 = .ok (.aload_n 0, 1) := by decide +kernel
theorem dX2_init_13 : decode cX2_init 13 = .ok (.bipush 32, 2) := by decide +kernel
theorem dX2_init_15 : decode cX2_init 15 = .ok (.newarray .int, 2) := by decide +kernel
theorem dX2_init_17 : decode cX2_init 17 = .ok (.putfield 15, 3) := by decide +kernel
theorem dX2_init_20 : decode cX2_init 20 = .ok (.aload_n 0, 1) := by decide +kernel
theorem dX2_init_21 : decode cX2_init 21 = .ok (.bipush 32, 2) := by decide +kernel
theorem dX2_init_23 : decode cX2_init 23 = .ok (.newarray .int, 2) := by decide +kernel
theorem dX2_init_25 : decode cX2_init 25 = .ok (.putfield 18, 3) := by decide +kernel
theorem dX2_init_28 : decode cX2_init 28 = .ok (.aload_n 0, 1) := by decide +kernel
theorem dX2_init_29 : decode cX2_init 29 = .ok (.bipush 32, 2) := by decide +kernel
theorem dX2_init_31 : decode cX2_init 31 = .ok (.newarray .int, 2) := by decide +kernel
theorem dX2_init_33 : decode cX2_init 33 = .ok (.putfield 21, 3) := by decide +kernel
theorem dX2_init_36 : decode cX2_init 36 = .ok (.return_, 1) := by decide +kernel
theorem dX2_becomeBox_0 : decode cX2_becomeBox 0 = .ok (.aload_n 0, 1) := by decide +kernel
theorem dX2_becomeBox_1 : decode cX2_becomeBox 1 = .ok (.iconst 0, 1) := by decide +kernel
theorem dX2_becomeBox_2 : decode cX2_becomeBox 2 = .ok (.putfield 24, 3) := by decide +kernel
theorem dX2_becomeBox_5 : decode cX2_becomeBox 5 = .ok (.aload_n 0, 1) := by decide +kernel
theorem dX2_becomeBox_6 : decode cX2_becomeBox 6 = .ok (.iconst 1, 1) := by decide +kernel
theorem dX2_becomeBox_7 : decode cX2_becomeBox 7 = .ok (.iconst 0, 1) := by decide +kernel
theorem dX2_becomeBox_8 : decode cX2_becomeBox 8 = .ok (.iconst 0, 1) := by decide +kernel
theorem dX2_becomeBox_9 : decode cX2_becomeBox 9 = .ok (.bipush 20, 2) := by decide +kernel
theorem dX2_becomeBox_11 : decode cX2_becomeBox 11 = .ok (.invokevirtual 28, 3) := by decide +kernel
theorem dX2_becomeBox_14 : decode cX2_becomeBox 14 = .ok (.aload_n 0, 1) := by decide +kernel
theorem dX2_becomeBox_15 : decode cX2_becomeBox 15 = .ok (.iconst (-1), 1) := by decide +kernel
theorem dX2_becomeBox_16 : decode cX2_becomeBox 16 = .ok (.iconst 0, 1) := by decide +kernel
theorem dX2_becomeBox_17 : decode cX2_becomeBox 17 = .ok (.iconst 0, 1) := by decide +kernel
theorem dX2_becomeBox_18 : decode cX2_becomeBox 18 = .ok (.bipush 20, 2) := by decide +kernel
theorem dX2_becomeBox_20 : decode cX2_becomeBox 20 = .ok (.invokevirtual 28, 3) := by decide +kernel
theorem dX2_becomeBox_23 : decode cX2_becomeBox 23 = .ok (.aload_n 0, 1) := by decide +kernel
theorem dX2_becomeBox_24 : decode cX2_becomeBox 24 = .ok (.iconst 0, 1) := by decide +kernel
theorem dX2_becomeBox_25 : decode cX2_becomeBox 25 = .ok (.iconst 1, 1) := by decide +kernel
theorem dX2_becomeBox_26 : decode cX2_becomeBox 26 = .ok (.iconst 0, 1) := by decide +kernel
theorem dX2_becomeBox_27 : decode cX2_becomeBox 27 = .ok (.bipush 20, 2) := by decide +kernel
theorem dX2_becomeBox_29 : decode cX2_becomeBox 29 = .ok (.invokevirtual 28, 3) := by decide +kernel
theorem dX2_becomeBox_32 : decode cX2_becomeBox 32 = .ok (.aload_n 0, 1) := by decide +kernel
theorem dX2_becomeBox_33 : decode cX2_becomeBox 33 = .ok (.iconst 0, 1) := by decide +kernel
theorem dX2_becomeBox_34 : decode cX2_becomeBox 34 = .ok (.iconst (-1), 1) := by decide +kernel
theorem dX2_becomeBox_35 : decode cX2_becomeBox 35 = .ok (.iconst 0, 1) := by decide +kernel
theorem dX2_becomeBox_36 : decode cX2_becomeBox 36 = .ok (.bipush 20, 2) := by decide +kernel
theorem dX2_becomeBox_38 : decode cX2_becomeBox 38 = .ok (.invokevirtual 28, 3) := by decide +kernel
theorem dX2_becomeBox_41 : decode cX2_becomeBox 41 = .ok (.aload_n 0, 1) := by decide +kernel
theorem dX2_becomeBox_42 : decode cX2_becomeBox 42 = .ok (.iconst 0, 1) := by decide +kernel
theorem dX2_becomeBox_43 : decode cX2_becomeBox 43 = .ok (.iconst 0, 1) := by decide +kernel
theorem dX2_becomeBox_44 : decode cX2_becomeBox 44 = .ok (.iconst 1, 1) := by decide +kernel
theorem dX2_becomeBox_45 : decode cX2_becomeBox 45 = .ok (.bipush 20, 2) := by decide +kernel
theorem dX2_becomeBox_47 : decode cX2_becomeBox 47 = .ok (.invokevirtual 28, 3) := by decide +kernel
theorem dX2_becomeBox_50 : decode cX2_becomeBox 50 = .ok (.aload_n 0, 1) := by decide +kernel
theorem dX2_becomeBox_51 : decode cX2_becomeBox 51 = .ok (.iconst 0, 1) := by decide +kernel
theorem dX2_becomeBox_52 : decode cX2_becomeBox 52 = .ok (.iconst 0, 1) := by decide +kernel
theorem dX2_becomeBox_53 : decode cX2_becomeBox 53 = .ok (.iconst (-1), 1) := by decide +kernel
theorem dX2_becomeBox_54 : decode cX2_becomeBox 54 = .ok (.bipush 20, 2) := by decide +kernel
theorem dX2_becomeBox_56 : decode cX2_becomeBox 56 = .ok (.invokevirtual 28, 3) := by decide +kernel
theorem dX2_becomeBox_59 : decode cX2_becomeBox 59 = .ok (.return_, 1) := by decide +kernel
theorem dX2_put_0 : decode cX2_put 0 = .ok (.aload_n 0, 1) := by decide +kernel
theorem dX2_put_1 : decode cX2_put 1 = .ok (.getfield 24, 3) := by decide +kernel
theorem dX2_put_4 : decode cX2_put 4 = .ok (.bipush 32, 2) := by decide +kernel
theorem dX2_put_6 : decode cX2_put 6 = .ok (.if_icmp .ge 54, 3) := by decide +kernel
theorem dX2_put_9 : decode cX2_put 9 = .ok (.aload_n 0, 1) := by decide +kernel
theorem dX2_put_10 : decode cX2_put 10 = .ok (.getfield 9, 3) := by decide +kernel
theorem dX2_put_13 : decode cX2_put 13 = .ok (.aload_n 0, 1) := by decide +kernel
theorem dX2_put_14 : decode cX2_put 14 = .ok (.getfield 24, 3) := by decide +kernel
theorem dX2_put_17 : decode cX2_put 17 = .ok (.iload_n 1, 1) := by decide +kernel
theorem dX2_put_18 : decode cX2_put 18 = .ok (.iastore, 1) := by decide +kernel
theorem dX2_put_19 : decode cX2_put 19 = .ok (.aload_n 0, 1) := by decide +kernel
theorem dX2_put_20 : decode cX2_put 20 = .ok (.getfield 15, 3) := by decide +kernel
theorem dX2_put_23 : decode cX2_put 23 = .ok (.aload_n 0, 1) := by decide +kernel
theorem dX2_put_24 : decode cX2_put 24 = .ok (.getfield 24, 3) := by decide +kernel
theorem dX2_put_27 : decode cX2_put 27 = .ok (.iload_n 2, 1) := by decide +kernel
theorem dX2_put_28 : decode cX2_put 28 = .ok (.iastore, 1) := by decide +kernel
theorem dX2_put_29 : decode cX2_put 29 = .ok (.aload_n 0, 1) := by decide +kernel
theorem dX2_put_30 : decode cX2_put 30 = .ok (.getfield 18, 3) := by decide +kernel
theorem dX2_put_33 : decode cX2_put 33 = .ok (.aload_n 0, 1) := by decide +kernel
theorem dX2_put_34 : decode cX2_put 34 = .ok (.getfield 24, 3) := by decide +kernel
theorem dX2_put_37 : decode cX2_put 37 = .ok (.iload_n 3, 1) := by decide +kernel
theorem dX2_put_38 : decode cX2_put 38 = .ok (.iastore, 1) := by decide +kernel
theorem dX2_put_39 : decode cX2_put 39 = .ok (.aload_n 0, 1) := by decide +kernel
theorem dX2_put_40 : decode cX2_put 40 = .ok (.getfield 21, 3) := by decide +kernel
theorem dX2_put_43 : decode cX2_put 43 = .ok (.aload_n 0, 1) := by decide +kernel
theorem dX2_put_44 : decode cX2_put 44 = .ok (.getfield 24, 3) := by decide +kernel
theorem dX2_put_47 : decode cX2_put 47 = .ok (.iload 4, 2) := by decide +kernel
theorem dX2_put_49 : decode cX2_put 49 = .ok (.iastore, 1) := by decide +kernel
theorem dX2_put_50 : decode cX2_put 50 = .ok (.aload_n 0, 1) := by decide +kernel
theorem dX2_put_51 : decode cX2_put 51 = .ok (.dup, 1) := by decide +kernel
theorem dX2_put_52 : decode cX2_put 52 = .ok (.getfield 24, 3) := by decide +kernel
theorem dX2_put_55 : decode cX2_put 55 = .ok (.iconst 1, 1) := by decide +kernel
theorem dX2_put_56 : decode cX2_put 56 = .ok (.iadd, 1) := by decide +kernel
theorem dX2_put_57 : decode cX2_put 57 = .ok (.putfield 24, 3) := by decide +kernel
theorem dX2_put_60 : decode cX2_put 60 = .ok (.return_, 1) := by decide +kernel
theorem dX2_putFamily_0 : decode cX2_putFamily 0 = .ok (.iconst 0, 1) := by decide +kernel
theorem dX2_putFamily_1 : decode cX2_putFamily 1 = .ok (.istore_n 3, 1) := by decide +kernel
theorem dX2_putFamily_2 : decode cX2_putFamily 2 = .ok (.iload_n 3, 1) := by decide +kernel
theorem dX2_putFamily_3 : decode cX2_putFamily 3 = .ok (.aload_n 1, 1) := by decide +kernel
theorem dX2_putFamily_4 : decode cX2_putFamily 4 = .ok (.getfield 32, 3) := by decide +kernel
theorem dX2_putFamily_7 : decode cX2_putFamily 7 = .ok (.if_icmp .ge 46, 3) := by decide +kernel
theorem dX2_putFamily_10 : decode cX2_putFamily 10 = .ok (.aload_n 1, 1) := by decide +kernel
theorem dX2_putFamily_11 : decode cX2_putFamily 11 = .ok (.getfield 35, 3) := by decide +kernel
theorem dX2_putFamily_14 : decode cX2_putFamily 14 = .ok (.iload_n 3, 1) := by decide +kernel
theorem dX2_putFamily_15 : decode cX2_putFamily 15 = .ok (.iaload, 1) := by decide +kernel
theorem dX2_putFamily_16 : decode cX2_putFamily 16 = .ok (.istore 4, 2) := by decide +kernel
theorem dX2_putFamily_18 : decode cX2_putFamily 18 = .ok (.aload_n 0, 1) := by decide +kernel
theorem dX2_putFamily_19 : decode cX2_putFamily 19 = .ok (.iload 4, 2) := by decide +kernel
theorem dX2_putFamily_21 : decode cX2_putFamily 21 = .ok (.bipush 100, 2) := by decide +kernel
theorem dX2_putFamily_23 : decode cX2_putFamily 23 = .ok (.idiv, 1) := by decide +kernel
theorem dX2_putFamily_24 : decode cX2_putFamily 24 = .ok (.iconst 3, 1) := by decide +kernel
theorem dX2_putFamily_25 : decode cX2_putFamily 25 = .ok (.isub, 1) := by decide +kernel
theorem dX2_putFamily_26 : decode cX2_putFamily 26 = .ok (.iload 4, 2) := by decide +kernel
theorem dX2_putFamily_28 : decode cX2_putFamily 28 = .ok (.bipush 10, 2) := by decide +kernel
theorem dX2_putFamily_30 : decode cX2_putFamily 30 = .ok (.idiv, 1) := by decide +kernel
theorem dX2_putFamily_31 : decode cX2_putFamily 31 = .ok (.bipush 10, 2) := by decide +kernel
theorem dX2_putFamily_33 : decode cX2_putFamily 33 = .ok (.irem, 1) := by decide +kernel
theorem dX2_putFamily_34 : decode cX2_putFamily 34 = .ok (.iconst 3, 1) := by decide +kernel
theorem dX2_putFamily_35 : decode cX2_putFamily 35 = .ok (.isub, 1) := by decide +kernel
theorem dX2_putFamily_36 : decode cX2_putFamily 36 = .ok (.iload 4, 2) := by decide +kernel
theorem dX2_putFamily_38 : decode cX2_putFamily 38 = .ok (.bipush 10, 2) := by decide +kernel
theorem dX2_putFamily_40 : decode cX2_putFamily 40 = .ok (.irem, 1) := by decide +kernel
theorem dX2_putFamily_41 : decode cX2_putFamily 41 = .ok (.iconst 3, 1) := by decide +kernel
theorem dX2_putFamily_42 : decode cX2_putFamily 42 = .ok (.isub, 1) := by decide +kernel
theorem dX2_putFamily_43 : decode cX2_putFamily 43 = .ok (.iload_n 2, 1) := by decide +kernel
theorem dX2_putFamily_44 : decode cX2_putFamily 44 = .ok (.invokevirtual 28, 3) := by decide +kernel
theorem dX2_putFamily_47 : decode cX2_putFamily 47 = .ok (.iinc 3 1, 3) := by decide +kernel
theorem dX2_putFamily_50 : decode cX2_putFamily 50 = .ok (.goto (-48), 3) := by decide +kernel
theorem dX2_putFamily_53 : decode cX2_putFamily 53 = .ok (.return_, 1) := by decide +kernel
theorem dX2_takeOut_0 : decode cX2_takeOut 0 = .ok (.iload_n 1, 1) := by decide +kernel
theorem dX2_takeOut_1 : decode cX2_takeOut 1 = .ok (.istore_n 2, 1) := by decide +kernel
theorem dX2_takeOut_2 : decode cX2_takeOut 2 = .ok (.iload_n 2, 1) := by decide +kernel
theorem dX2_takeOut_3 : decode cX2_takeOut 3 = .ok (.iconst 1, 1) := by decide +kernel
theorem dX2_takeOut_4 : decode cX2_takeOut 4 = .ok (.iadd, 1) := by decide +kernel
theorem dX2_takeOut_5 : decode cX2_takeOut 5 = .ok (.aload_n 0, 1) := by decide +kernel
theorem dX2_takeOut_6 : decode cX2_takeOut 6 = .ok (.getfield 24, 3) := by decide +kernel
theorem dX2_takeOut_9 : decode cX2_takeOut 9 = .ok (.if_icmp .ge 65, 3) := by decide +kernel
theorem dX2_takeOut_12 : decode cX2_takeOut 12 = .ok (.aload_n 0, 1) := by decide +kernel
theorem dX2_takeOut_13 : decode cX2_takeOut 13 = .ok (.getfield 9, 3) := by decide +kernel
theorem dX2_takeOut_16 : decode cX2_takeOut 16 = .ok (.iload_n 2, 1) := by decide +kernel
theorem dX2_takeOut_17 : decode cX2_takeOut 17 = .ok (.aload_n 0, 1) := by decide +kernel
theorem dX2_takeOut_18 : decode cX2_takeOut 18 = .ok (.getfield 9, 3) := by decide +kernel
theorem dX2_takeOut_21 : decode cX2_takeOut 21 = .ok (.iload_n 2, 1) := by decide +kernel
theorem dX2_takeOut_22 : decode cX2_takeOut 22 = .ok (.iconst 1, 1) := by decide +kernel
theorem dX2_takeOut_23 : decode cX2_takeOut 23 = .ok (.iadd, 1) := by decide +kernel
theorem dX2_takeOut_24 : decode cX2_takeOut 24 = .ok (.iaload, 1) := by decide +kernel
theorem dX2_takeOut_25 : decode cX2_takeOut 25 = .ok (.iastore, 1) := by decide +kernel
theorem dX2_takeOut_26 : decode cX2_takeOut 26 = .ok (.aload_n 0, 1) := by decide +kernel
theorem dX2_takeOut_27 : decode cX2_takeOut 27 = .ok (.getfield 15, 3) := by decide +kernel
theorem dX2_takeOut_30 : decode cX2_takeOut 30 = .ok (.iload_n 2, 1) := by decide +kernel
theorem dX2_takeOut_31 : decode cX2_takeOut 31 = .ok (.aload_n 0, 1) := by decide +kernel
theorem dX2_takeOut_32 : decode cX2_takeOut 32 = .ok (.getfield 15, 3) := by decide +kernel
theorem dX2_takeOut_35 : decode cX2_takeOut 35 = .ok (.iload_n 2, 1) := by decide +kernel
theorem dX2_takeOut_36 : decode cX2_takeOut 36 = .ok (.iconst 1, 1) := by decide +kernel
theorem dX2_takeOut_37 : decode cX2_takeOut 37 = .ok (.iadd, 1) := by decide +kernel
theorem dX2_takeOut_38 : decode cX2_takeOut 38 = .ok (.iaload, 1) := by decide +kernel
theorem dX2_takeOut_39 : decode cX2_takeOut 39 = .ok (.iastore, 1) := by decide +kernel
theorem dX2_takeOut_40 : decode cX2_takeOut 40 = .ok (.aload_n 0, 1) := by decide +kernel
theorem dX2_takeOut_41 : decode cX2_takeOut 41 = .ok (.getfield 18, 3) := by decide +kernel
theorem dX2_takeOut_44 : decode cX2_takeOut 44 = .ok (.iload_n 2, 1) := by decide +kernel
theorem dX2_takeOut_45 : decode cX2_takeOut 45 = .ok (.aload_n 0, 1) := by decide +kernel
theorem dX2_takeOut_46 : decode cX2_takeOut 46 = .ok (.getfield 18, 3) := by decide +kernel
theorem dX2_takeOut_49 : decode cX2_takeOut 49 = .ok (.iload_n 2, 1) := by decide +kernel
theorem dX2_takeOut_50 : decode cX2_takeOut 50 = .ok (.iconst 1, 1) := by decide +kernel
theorem dX2_takeOut_51 : decode cX2_takeOut 51 = .ok (.iadd, 1) := by decide +kernel
theorem dX2_takeOut_52 : decode cX2_takeOut 52 = .ok (.iaload, 1) := by decide +kernel
theorem dX2_takeOut_53 : decode cX2_takeOut 53 = .ok (.iastore, 1) := by decide +kernel
theorem dX2_takeOut_54 : decode cX2_takeOut 54 = .ok (.aload_n 0, 1) := by decide +kernel
theorem dX2_takeOut_55 : decode cX2_takeOut 55 = .ok (.getfield 21, 3) := by decide +kernel
theorem dX2_takeOut_58 : decode cX2_takeOut 58 = .ok (.iload_n 2, 1) := by decide +kernel
theorem dX2_takeOut_59 : decode cX2_takeOut 59 = .ok (.aload_n 0, 1) := by decide +kernel
theorem dX2_takeOut_60 : decode cX2_takeOut 60 = .ok (.getfield 21, 3) := by decide +kernel
theorem dX2_takeOut_63 : decode cX2_takeOut 63 = .ok (.iload_n 2, 1) := by decide +kernel
theorem dX2_takeOut_64 : decode cX2_takeOut 64 = .ok (.iconst 1, 1) := by decide +kernel
theorem dX2_takeOut_65 : decode cX2_takeOut 65 = .ok (.iadd, 1) := by decide +kernel
theorem dX2_takeOut_66 : decode cX2_takeOut 66 = .ok (.iaload, 1) := by decide +kernel
theorem dX2_takeOut_67 : decode cX2_takeOut 67 = .ok (.iastore, 1) := by decide +kernel
theorem dX2_takeOut_68 : decode cX2_takeOut 68 = .ok (.iinc 2 1, 3) := by decide +kernel
theorem dX2_takeOut_71 : decode cX2_takeOut 71 = .ok (.goto (-69), 3) := by decide +kernel
theorem dX2_takeOut_74 : decode cX2_takeOut 74 = .ok (.aload_n 0, 1) := by decide +kernel
theorem dX2_takeOut_75 : decode cX2_takeOut 75 = .ok (.dup, 1) := by decide +kernel
theorem dX2_takeOut_76 : decode cX2_takeOut 76 = .ok (.getfield 24, 3) := by decide +kernel
theorem dX2_takeOut_79 : decode cX2_takeOut 79 = .ok (.iconst 1, 1) := by decide +kernel
theorem dX2_takeOut_80 : decode cX2_takeOut 80 = .ok (.isub, 1) := by decide +kernel
theorem dX2_takeOut_81 : decode cX2_takeOut 81 = .ok (.putfield 24, 3) := by decide +kernel
theorem dX2_takeOut_84 : decode cX2_takeOut 84 = .ok (.return_, 1) := by decide +kernel
theorem dX2_copyFrom_0 : decode cX2_copyFrom 0 = .ok (.aload_n 1, 1) := by decide +kernel
theorem dX2_copyFrom_1 : decode cX2_copyFrom 1 = .ok (.ifnonnull 4, 3) := by decide +kernel
theorem dX2_copyFrom_4 : decode cX2_copyFrom 4 = .ok (.return_, 1) := by decide +kernel
theorem dX2_copyFrom_5 : decode cX2_copyFrom 5 = .ok (.aload_n 0, 1) := by decide +kernel
theorem dX2_copyFrom_6 : decode cX2_copyFrom 6 = .ok (.aload_n 1, 1) := by decide +kernel
theorem dX2_copyFrom_7 : decode cX2_copyFrom 7 = .ok (.getfield 24, 3) := by decide +kernel
theorem dX2_copyFrom_10 : decode cX2_copyFrom 10 = .ok (.putfield 24, 3) := by decide +kernel
theorem dX2_copyFrom_13 : decode cX2_copyFrom 13 = .ok (.aload_n 1, 1) := by decide +kernel
theorem dX2_copyFrom_14 : decode cX2_copyFrom 14 = .ok (.getfield 9, 3) := by decide +kernel
theorem dX2_copyFrom_17 : decode cX2_copyFrom 17 = .ok (.iconst 0, 1) := by decide +kernel
theorem dX2_copyFrom_18 : decode cX2_copyFrom 18 = .ok (.aload_n 0, 1) := by decide +kernel
theorem dX2_copyFrom_19 : decode cX2_copyFrom 19 = .ok (.getfield 9, 3) := by decide +kernel
theorem dX2_copyFrom_22 : decode cX2_copyFrom 22 = .ok (.iconst 0, 1) := by decide +kernel
theorem dX2_copyFrom_23 : decode cX2_copyFrom 23 = .ok (.aload_n 0, 1) := by decide +kernel
theorem dX2_copyFrom_24 : decode cX2_copyFrom 24 = .ok (.getfield 24, 3) := by decide +kernel
theorem dX2_copyFrom_27 : decode cX2_copyFrom 27 = .ok (.invokestatic 38, 3) := by decide +kernel
theorem dX2_copyFrom_30 : decode cX2_copyFrom 30 = .ok (.aload_n 1, 1) := by decide +kernel
theorem dX2_copyFrom_31 : decode cX2_copyFrom 31 = .ok (.getfield 15, 3) := by decide +kernel
theorem dX2_copyFrom_34 : decode cX2_copyFrom 34 = .ok (.iconst 0, 1) := by decide +kernel
theorem dX2_copyFrom_35 : decode cX2_copyFrom 35 = .ok (.aload_n 0, 1) := by decide +kernel
theorem dX2_copyFrom_36 : decode cX2_copyFrom 36 = .ok (.getfield 15, 3) := by decide +kernel
theorem dX2_copyFrom_39 : decode cX2_copyFrom 39 = .ok (.iconst 0, 1) := by decide +kernel
theorem dX2_copyFrom_40 : decode cX2_copyFrom 40 = .ok (.aload_n 0, 1) := by decide +kernel
theorem dX2_copyFrom_41 : decode cX2_copyFrom 41 = .ok (.getfield 24, 3) := by decide +kernel
theorem dX2_copyFrom_44 : decode cX2_copyFrom 44 = .ok (.invokestatic 38, 3) := by decide +kernel
theorem dX2_copyFrom_47 : decode cX2_copyFrom 47 = .ok (.aload_n 1, 1) := by decide +kernel
theorem dX2_copyFrom_48 : decode cX2_copyFrom 48 = .ok (.getfield 18, 3) := by decide +kernel
theorem dX2_copyFrom_51 : decode cX2_copyFrom 51 = .ok (.iconst 0, 1) := by decide +kernel
theorem dX2_copyFrom_52 : decode cX2_copyFrom 52 = .ok (.aload_n 0, 1) := by decide +kernel
theorem dX2_copyFrom_53 : decode cX2_copyFrom 53 = .ok (.getfield 18, 3) := by decide +kernel
theorem dX2_copyFrom_56 : decode cX2_copyFrom 56 = .ok (.iconst 0, 1) := by decide +kernel
theorem dX2_copyFrom_57 : decode cX2_copyFrom 57 = .ok (.aload_n 0, 1) := by decide +kernel
theorem dX2_copyFrom_58 : decode cX2_copyFrom 58 = .ok (.getfield 24, 3) := by decide +kernel
theorem dX2_copyFrom_61 : decode cX2_copyFrom 61 = .ok (.invokestatic 38, 3) := by decide +kernel
theorem dX2_copyFrom_64 : decode cX2_copyFrom 64 = .ok (.aload_n 1, 1) := by decide +kernel
theorem dX2_copyFrom_65 : decode cX2_copyFrom 65 = .ok (.getfield 21, 3) := by decide +kernel
theorem dX2_copyFrom_68 : decode cX2_copyFrom 68 = .ok (.iconst 0, 1) := by decide +kernel
theorem dX2_copyFrom_69 : decode cX2_copyFrom 69 = .ok (.aload_n 0, 1) := by decide +kernel
theorem dX2_copyFrom_70 : decode cX2_copyFrom 70 = .ok (.getfield 21, 3) := by decide +kernel
theorem dX2_copyFrom_73 : decode cX2_copyFrom 73 = .ok (.iconst 0, 1) := by decide +kernel
theorem dX2_copyFrom_74 : decode cX2_copyFrom 74 = .ok (.aload_n 0, 1) := by decide +kernel
theorem dX2_copyFrom_75 : decode cX2_copyFrom 75 = .ok (.getfield 24, 3) := by decide +kernel
theorem dX2_copyFrom_78 : decode cX2_copyFrom 78 = .ok (.invokestatic 38, 3) := by decide +kernel
theorem dX2_copyFrom_81 : decode cX2_copyFrom 81 = .ok (.return_, 1) := by decide +kernel
theorem dX2_areSame_0 : decode cX2_areSame 0 = .ok (.aload_n 0, 1) := by decide +kernel
theorem dX2_areSame_1 : decode cX2_areSame 1 = .ok (.getfield 9, 3) := by decide +kernel
theorem dX2_areSame_4 : decode cX2_areSame 4 = .ok (.iload_n 1, 1) := by decide +kernel
theorem dX2_areSame_5 : decode cX2_areSame 5 = .ok (.iaload, 1) := by decide +kernel
theorem dX2_areSame_6 : decode cX2_areSame 6 = .ok (.aload_n 0, 1) := by decide +kernel
theorem dX2_areSame_7 : decode cX2_areSame 7 = .ok (.getfield 21, 3) := by decide +kernel
theorem dX2_areSame_10 : decode cX2_areSame 10 = .ok (.iload_n 2, 1) := by decide +kernel
theorem dX2_areSame_11 : decode cX2_areSame 11 = .ok (.iaload, 1) := by decide +kernel
theorem dX2_areSame_12 : decode cX2_areSame 12 = .ok (.imul, 1) := by decide +kernel
theorem dX2_areSame_13 : decode cX2_areSame 13 = .ok (.aload_n 0, 1) := by decide +kernel
theorem dX2_areSame_14 : decode cX2_areSame 14 = .ok (.getfield 9, 3) := by decide +kernel
theorem dX2_areSame_17 : decode cX2_areSame 17 = .ok (.iload_n 2, 1) := by decide +kernel
theorem dX2_areSame_18 : decode cX2_areSame 18 = .ok (.iaload, 1) := by decide +kernel
theorem dX2_areSame_19 : decode cX2_areSame 19 = .ok (.aload_n 0, 1) := by decide +kernel
theorem dX2_areSame_20 : decode cX2_areSame 20 = .ok (.getfield 21, 3) := by decide +kernel
theorem dX2_areSame_23 : decode cX2_areSame 23 = .ok (.iload_n 1, 1) := by decide +kernel
theorem dX2_areSame_24 : decode cX2_areSame 24 = .ok (.iaload, 1) := by decide +kernel
theorem dX2_areSame_25 : decode cX2_areSame 25 = .ok (.imul, 1) := by decide +kernel
theorem dX2_areSame_26 : decode cX2_areSame 26 = .ok (.if_icmp .ne 65, 3) := by decide +kernel
theorem dX2_areSame_29 : decode cX2_areSame 29 = .ok (.aload_n 0, 1) := by decide +kernel
theorem dX2_areSame_30 : decode cX2_areSame 30 = .ok (.getfield 15, 3) := by decide +kernel
theorem dX2_areSame_33 : decode cX2_areSame 33 = .ok (.iload_n 1, 1) := by decide +kernel
theorem dX2_areSame_34 : decode cX2_areSame 34 = .ok (.iaload, 1) := by decide +kernel
theorem dX2_areSame_35 : decode cX2_areSame 35 = .ok (.aload_n 0, 1) := by decide +kernel
theorem dX2_areSame_36 : decode cX2_areSame 36 = .ok (.getfield 21, 3) := by decide +kernel
theorem dX2_areSame_39 : decode cX2_areSame 39 = .ok (.iload_n 2, 1) := by decide +kernel
theorem dX2_areSame_40 : decode cX2_areSame 40 = .ok (.iaload, 1) := by decide +kernel
theorem dX2_areSame_41 : decode cX2_areSame 41 = .ok (.imul, 1) := by decide +kernel
theorem dX2_areSame_42 : decode cX2_areSame 42 = .ok (.aload_n 0, 1) := by decide +kernel
theorem dX2_areSame_43 : decode cX2_areSame 43 = .ok (.getfield 15, 3) := by decide +kernel
theorem dX2_areSame_46 : decode cX2_areSame 46 = .ok (.iload_n 2, 1) := by decide +kernel
theorem dX2_areSame_47 : decode cX2_areSame 47 = .ok (.iaload, 1) := by decide +kernel
theorem dX2_areSame_48 : decode cX2_areSame 48 = .ok (.aload_n 0, 1) := by decide +kernel
theorem dX2_areSame_49 : decode cX2_areSame 49 = .ok (.getfield 21, 3) := by decide +kernel
theorem dX2_areSame_52 : decode cX2_areSame 52 = .ok (.iload_n 1, 1) := by decide +kernel
theorem dX2_areSame_53 : decode cX2_areSame 53 = .ok (.iaload, 1) := by decide +kernel
theorem dX2_areSame_54 : decode cX2_areSame 54 = .ok (.imul, 1) := by decide +kernel
theorem dX2_areSame_55 : decode cX2_areSame 55 = .ok (.if_icmp .ne 36, 3) := by decide +kernel
theorem dX2_areSame_58 : decode cX2_areSame 58 = .ok (.aload_n 0, 1) := by decide +kernel
theorem dX2_areSame_59 : decode cX2_areSame 59 = .ok (.getfield 18, 3) := by decide +kernel
theorem dX2_areSame_62 : decode cX2_areSame 62 = .ok (.iload_n 1, 1) := by decide +kernel
theorem dX2_areSame_63 : decode cX2_areSame 63 = .ok (.iaload, 1) := by decide +kernel
theorem dX2_areSame_64 : decode cX2_areSame 64 = .ok (.aload_n 0, 1) := by decide +kernel
theorem dX2_areSame_65 : decode cX2_areSame 65 = .ok (.getfield 21, 3) := by decide +kernel
theorem dX2_areSame_68 : decode cX2_areSame 68 = .ok (.iload_n 2, 1) := by decide +kernel
theorem dX2_areSame_69 : decode cX2_areSame 69 = .ok (.iaload, 1) := by decide +kernel
theorem dX2_areSame_70 : decode cX2_areSame 70 = .ok (.imul, 1) := by decide +kernel
theorem dX2_areSame_71 : decode cX2_areSame 71 = .ok (.aload_n 0, 1) := by decide +kernel
theorem dX2_areSame_72 : decode cX2_areSame 72 = .ok (.getfield 18, 3) := by decide +kernel
theorem dX2_areSame_75 : decode cX2_areSame 75 = .ok (.iload_n 2, 1) := by decide +kernel
theorem dX2_areSame_76 : decode cX2_areSame 76 = .ok (.iaload, 1) := by decide +kernel
theorem dX2_areSame_77 : decode cX2_areSame 77 = .ok (.aload_n 0, 1) := by decide +kernel
theorem dX2_areSame_78 : decode cX2_areSame 78 = .ok (.getfield 21, 3) := by decide +kernel
theorem dX2_areSame_81 : decode cX2_areSame 81 = .ok (.iload_n 1, 1) := by decide +kernel
theorem dX2_areSame_82 : decode cX2_areSame 82 = .ok (.iaload, 1) := by decide +kernel
theorem dX2_areSame_83 : decode cX2_areSame 83 = .ok (.imul, 1) := by decide +kernel
theorem dX2_areSame_84 : decode cX2_areSame 84 = .ok (.if_icmp .ne 7, 3) := by decide +kernel
theorem dX2_areSame_87 : decode cX2_areSame 87 = .ok (.iconst 1, 1) := by decide +kernel
theorem dX2_areSame_88 : decode cX2_areSame 88 = .ok (.goto 4, 3) := by decide +kernel
theorem dX2_areSame_91 : decode cX2_areSame 91 = .ok (.iconst 0, 1) := by decide +kernel
theorem dX2_areSame_92 : decode cX2_areSame 92 = .ok (.ireturn, 1) := by decide +kernel
theorem dX2_hasEarlierTwin_0 : decode cX2_hasEarlierTwin 0 = .ok (.iconst 0, 1) := by decide +kernel
theorem dX2_hasEarlierTwin_1 : decode cX2_hasEarlierTwin 1 = .ok (.istore_n 2, 1) := by decide +kernel
theorem dX2_hasEarlierTwin_2 : decode cX2_hasEarlierTwin 2 = .ok (.iload_n 2, 1) := by decide +kernel
theorem dX2_hasEarlierTwin_3 : decode cX2_hasEarlierTwin 3 = .ok (.iload_n 1, 1) := by decide +kernel
theorem dX2_hasEarlierTwin_4 : decode cX2_hasEarlierTwin 4 = .ok (.if_icmp .ge 20, 3) := by decide +kernel
theorem dX2_hasEarlierTwin_7 : decode cX2_hasEarlierTwin 7 = .ok (.aload_n 0, 1) := by decide +kernel
theorem dX2_hasEarlierTwin_8 : decode cX2_hasEarlierTwin 8 = .ok (.iload_n 2, 1) := by decide +kernel
theorem dX2_hasEarlierTwin_9 : decode cX2_hasEarlierTwin 9 = .ok (.iload_n 1, 1) := by decide +kernel
theorem dX2_hasEarlierTwin_10 : decode cX2_hasEarlierTwin 10 = .ok (.invokevirtual 44, 3) := by decide +kernel
theorem dX2_hasEarlierTwin_13 : decode cX2_hasEarlierTwin 13 = .ok (.ifCond .eq 5, 3) := by decide +kernel
theorem dX2_hasEarlierTwin_16 : decode cX2_hasEarlierTwin 16 = .ok (.iconst 1, 1) := by decide +kernel
theorem dX2_hasEarlierTwin_17 : decode cX2_hasEarlierTwin 17 = .ok (.ireturn, 1) := by decide +kernel
theorem dX2_hasEarlierTwin_18 : decode cX2_hasEarlierTwin 18 = .ok (.iinc 2 1, 3) := by decide +kernel
theorem dX2_hasEarlierTwin_21 : decode cX2_hasEarlierTwin 21 = .ok (.goto (-19), 3) := by decide +kernel
theorem dX2_hasEarlierTwin_24 : decode cX2_hasEarlierTwin 24 = .ok (.iconst 0, 1) := by decide +kernel
theorem dX2_hasEarlierTwin_25 : decode cX2_hasEarlierTwin 25 = .ok (.ireturn, 1) := by decide +kernel
theorem dX2_wayBetween_0 : decode cX2_wayBetween 0 = .ok (.aload_n 0, 1) := by decide +kernel
theorem dX2_wayBetween_1 : decode cX2_wayBetween 1 = .ok (.getfield 15, 3) := by decide +kernel
theorem dX2_wayBetween_4 : decode cX2_wayBetween 4 = .ok (.iload_n 1, 1) := by decide +kernel
theorem dX2_wayBetween_5 : decode cX2_wayBetween 5 = .ok (.iaload, 1) := by decide +kernel
theorem dX2_wayBetween_6 : decode cX2_wayBetween 6 = .ok (.aload_n 0, 1) := by decide +kernel
theorem dX2_wayBetween_7 : decode cX2_wayBetween 7 = .ok (.getfield 18, 3) := by decide +kernel
theorem dX2_wayBetween_10 : decode cX2_wayBetween 10 = .ok (.iload_n 2, 1) := by decide +kernel
theorem dX2_wayBetween_11 : decode cX2_wayBetween 11 = .ok (.iaload, 1) := by decide +kernel
theorem dX2_wayBetween_12 : decode cX2_wayBetween 12 = .ok (.imul, 1) := by decide +kernel
theorem dX2_wayBetween_13 : decode cX2_wayBetween 13 = .ok (.aload_n 0, 1) := by decide +kernel
theorem dX2_wayBetween_14 : decode cX2_wayBetween 14 = .ok (.getfield 18, 3) := by decide +kernel
theorem dX2_wayBetween_17 : decode cX2_wayBetween 17 = .ok (.iload_n 1, 1) := by decide +kernel
theorem dX2_wayBetween_18 : decode cX2_wayBetween 18 = .ok (.iaload, 1) := by decide +kernel
theorem dX2_wayBetween_19 : decode cX2_wayBetween 19 = .ok (.aload_n 0, 1) := by decide +kernel
theorem dX2_wayBetween_20 : decode cX2_wayBetween 20 = .ok (.getfield 15, 3) := by decide +kernel
theorem dX2_wayBetween_23 : decode cX2_wayBetween 23 = .ok (.iload_n 2, 1) := by decide +kernel
theorem dX2_wayBetween_24 : decode cX2_wayBetween 24 = .ok (.iaload, 1) := by decide +kernel
theorem dX2_wayBetween_25 : decode cX2_wayBetween 25 = .ok (.imul, 1) := by decide +kernel
theorem dX2_wayBetween_26 : decode cX2_wayBetween 26 = .ok (.isub, 1) := by decide +kernel
theorem dX2_wayBetween_27 : decode cX2_wayBetween 27 = .ok (.istore 4, 2) := by decide +kernel
theorem dX2_wayBetween_29 : decode cX2_wayBetween 29 = .ok (.aload_n 0, 1) := by decide +kernel
theorem dX2_wayBetween_30 : decode cX2_wayBetween 30 = .ok (.getfield 18, 3) := by decide +kernel
theorem dX2_wayBetween_33 : decode cX2_wayBetween 33 = .ok (.iload_n 1, 1) := by decide +kernel
theorem dX2_wayBetween_34 : decode cX2_wayBetween 34 = .ok (.iaload, 1) := by decide +kernel
theorem dX2_wayBetween_35 : decode cX2_wayBetween 35 = .ok (.aload_n 0, 1) := by decide +kernel
theorem dX2_wayBetween_36 : decode cX2_wayBetween 36 = .ok (.getfield 9, 3) := by decide +kernel
theorem dX2_wayBetween_39 : decode cX2_wayBetween 39 = .ok (.iload_n 2, 1) := by decide +kernel
theorem dX2_wayBetween_40 : decode cX2_wayBetween 40 = .ok (.iaload, 1) := by decide +kernel
theorem dX2_wayBetween_41 : decode cX2_wayBetween 41 = .ok (.imul, 1) := by decide +kernel
theorem dX2_wayBetween_42 : decode cX2_wayBetween 42 = .ok (.aload_n 0, 1) := by decide +kernel
theorem dX2_wayBetween_43 : decode cX2_wayBetween 43 = .ok (.getfield 9, 3) := by decide +kernel
theorem dX2_wayBetween_46 : decode cX2_wayBetween 46 = .ok (.iload_n 1, 1) := by decide +kernel
theorem dX2_wayBetween_47 : decode cX2_wayBetween 47 = .ok (.iaload, 1) := by decide +kernel
theorem dX2_wayBetween_48 : decode cX2_wayBetween 48 = .ok (.aload_n 0, 1) := by decide +kernel
theorem dX2_wayBetween_49 : decode cX2_wayBetween 49 = .ok (.getfield 18, 3) := by decide +kernel
theorem dX2_wayBetween_52 : decode cX2_wayBetween 52 = .ok (.iload_n 2, 1) := by decide +kernel
theorem dX2_wayBetween_53 : decode cX2_wayBetween 53 = .ok (.iaload, 1) := by decide +kernel
theorem dX2_wayBetween_54 : decode cX2_wayBetween 54 = .ok (.imul, 1) := by decide +kernel
theorem dX2_wayBetween_55 : decode cX2_wayBetween 55 = .ok (.isub, 1) := by decide +kernel
theorem dX2_wayBetween_56 : decode cX2_wayBetween 56 = .ok (.istore 5, 2) := by decide +kernel
theorem dX2_wayBetween_58 : decode cX2_wayBetween 58 = .ok (.aload_n 0, 1) := by decide +kernel
theorem dX2_wayBetween_59 : decode cX2_wayBetween 59 = .ok (.getfield 9, 3) := by decide +kernel
theorem dX2_wayBetween_62 : decode cX2_wayBetween 62 = .ok (.iload_n 1, 1) := by decide +kernel
theorem dX2_wayBetween_63 : decode cX2_wayBetween 63 = .ok (.iaload, 1) := by decide +kernel
theorem dX2_wayBetween_64 : decode cX2_wayBetween 64 = .ok (.aload_n 0, 1) := by decide +kernel
theorem dX2_wayBetween_65 : decode cX2_wayBetween 65 = .ok (.getfield 15, 3) := by decide +kernel
theorem dX2_wayBetween_68 : decode cX2_wayBetween 68 = .ok (.iload_n 2, 1) := by decide +kernel
theorem dX2_wayBetween_69 : decode cX2_wayBetween 69 = .ok (.iaload, 1) := by decide +kernel
theorem dX2_wayBetween_70 : decode cX2_wayBetween 70 = .ok (.imul, 1) := by decide +kernel
theorem dX2_wayBetween_71 : decode cX2_wayBetween 71 = .ok (.aload_n 0, 1) := by decide +kernel
theorem dX2_wayBetween_72 : decode cX2_wayBetween 72 = .ok (.getfield 15, 3) := by decide +kernel
theorem dX2_wayBetween_75 : decode cX2_wayBetween 75 = .ok (.iload_n 1, 1) := by decide +kernel
theorem dX2_wayBetween_76 : decode cX2_wayBetween 76 = .ok (.iaload, 1) := by decide +kernel
theorem dX2_wayBetween_77 : decode cX2_wayBetween 77 = .ok (.aload_n 0, 1) := by decide +kernel
theorem dX2_wayBetween_78 : decode cX2_wayBetween 78 = .ok (.getfield 9, 3) := by decide +kernel
theorem dX2_wayBetween_81 : decode cX2_wayBetween 81 = .ok (.iload_n 2, 1) := by decide +kernel
theorem dX2_wayBetween_82 : decode cX2_wayBetween 82 = .ok (.iaload, 1) := by decide +kernel
theorem dX2_wayBetween_83 : decode cX2_wayBetween 83 = .ok (.imul, 1) := by decide +kernel
theorem dX2_wayBetween_84 : decode cX2_wayBetween 84 = .ok (.isub, 1) := by decide +kernel
theorem dX2_wayBetween_85 : decode cX2_wayBetween 85 = .ok (.istore 6, 2) := by decide +kernel
theorem dX2_wayBetween_87 : decode cX2_wayBetween 87 = .ok (.iload 4, 2) := by decide +kernel
theorem dX2_wayBetween_89 : decode cX2_wayBetween 89 = .ok (.iload 5, 2) := by decide +kernel
theorem dX2_wayBetween_91 : decode cX2_wayBetween 91 = .ok (.invokestatic 48, 3) := by decide +kernel
theorem dX2_wayBetween_94 : decode cX2_wayBetween 94 = .ok (.iload 6, 2) := by decide +kernel
theorem dX2_wayBetween_96 : decode cX2_wayBetween 96 = .ok (.invokestatic 48, 3) := by decide +kernel
theorem dX2_wayBetween_99 : decode cX2_wayBetween 99 = .ok (.istore 7, 2) := by decide +kernel
theorem dX2_wayBetween_101 : decode cX2_wayBetween 101 = .ok (.iload 7, 2) := by decide +kernel
theorem dX2_wayBetween_103 : decode cX2_wayBetween 103 = .ok (.ifCond .gt 5, 3) := by decide +kernel
theorem dX2_wayBetween_106 : decode cX2_wayBetween 106 = .ok (.iconst 0, 1) := by decide +kernel
theorem dX2_wayBetween_107 : decode cX2_wayBetween 107 = .ok (.ireturn, 1) := by decide +kernel
theorem dX2_wayBetween_108 : decode cX2_wayBetween 108 = .ok (.iload 4, 2) := by decide +kernel
theorem dX2_wayBetween_110 : decode cX2_wayBetween 110 = .ok (.ifCond .eq 8, 3) := by decide +kernel
theorem dX2_wayBetween_113 : decode cX2_wayBetween 113 = .ok (.iload 4, 2) := by decide +kernel
theorem dX2_wayBetween_115 : decode cX2_wayBetween 115 = .ok (.goto 15, 3) := by decide +kernel
theorem dX2_wayBetween_118 : decode cX2_wayBetween 118 = .ok (.iload 5, 2) := by decide +kernel
theorem dX2_wayBetween_120 : decode cX2_wayBetween 120 = .ok (.ifCond .eq 8, 3) := by decide +kernel
theorem dX2_wayBetween_123 : decode cX2_wayBetween 123 = .ok (.iload 5, 2) := by decide +kernel
theorem dX2_wayBetween_125 : decode cX2_wayBetween 125 = .ok (.goto 5, 3) := by decide +kernel
theorem dX2_wayBetween_128 : decode cX2_wayBetween 128 = .ok (.iload 6, 2) := by decide +kernel
theorem dX2_wayBetween_130 : decode cX2_wayBetween 130 = .ok (.istore 8, 2) := by decide +kernel
theorem dX2_wayBetween_132 : decode cX2_wayBetween 132 = .ok (.iload 8, 2) := by decide +kernel
theorem dX2_wayBetween_134 : decode cX2_wayBetween 134 = .ok (.ifCond .le 8, 3) := by decide +kernel
theorem dX2_wayBetween_137 : decode cX2_wayBetween 137 = .ok (.iload 7, 2) := by decide +kernel
theorem dX2_wayBetween_139 : decode cX2_wayBetween 139 = .ok (.goto 6, 3) := by decide +kernel
theorem dX2_wayBetween_142 : decode cX2_wayBetween 142 = .ok (.iload 7, 2) := by decide +kernel
theorem dX2_wayBetween_144 : decode cX2_wayBetween 144 = .ok (.ineg, 1) := by decide +kernel
theorem dX2_wayBetween_145 : decode cX2_wayBetween 145 = .ok (.istore 9, 2) := by decide +kernel
theorem dX2_wayBetween_147 : decode cX2_wayBetween 147 = .ok (.iload_n 3, 1) := by decide +kernel
theorem dX2_wayBetween_148 : decode cX2_wayBetween 148 = .ok (.ifCond .ne 8, 3) := by decide +kernel
theorem dX2_wayBetween_151 : decode cX2_wayBetween 151 = .ok (.iload 4, 2) := by decide +kernel
theorem dX2_wayBetween_153 : decode cX2_wayBetween 153 = .ok (.goto 15, 3) := by decide +kernel
theorem dX2_wayBetween_156 : decode cX2_wayBetween 156 = .ok (.iload_n 3, 1) := by decide +kernel
theorem dX2_wayBetween_157 : decode cX2_wayBetween 157 = .ok (.iconst 1, 1) := by decide +kernel
theorem dX2_wayBetween_158 : decode cX2_wayBetween 158 = .ok (.if_icmp .ne 8, 3) := by decide +kernel
theorem dX2_wayBetween_161 : decode cX2_wayBetween 161 = .ok (.iload 5, 2) := by decide +kernel
theorem dX2_wayBetween_163 : decode cX2_wayBetween 163 = .ok (.goto 5, 3) := by decide +kernel
theorem dX2_wayBetween_166 : decode cX2_wayBetween 166 = .ok (.iload 6, 2) := by decide +kernel
theorem dX2_wayBetween_168 : decode cX2_wayBetween 168 = .ok (.iload 9, 2) := by decide +kernel
theorem dX2_wayBetween_170 : decode cX2_wayBetween 170 = .ok (.idiv, 1) := by decide +kernel
theorem dX2_wayBetween_171 : decode cX2_wayBetween 171 = .ok (.ireturn, 1) := by decide +kernel
theorem dX3_init_0 : decode cX3_init 0 = .ok (.aload_n 0, 1) := by decide +kernel
theorem dX3_init_1 : decode cX3_init 1 = .ok (.invokespecial 3, 3) := by decide +kernel
theorem dX3_init_4 : decode cX3_init 4 = .ok (.aload_n 0, 1) := by decide +kernel
theorem dX3_init_5 : decode cX3_init 5 = .ok (.bipush 120, 2) := by decide +kernel
