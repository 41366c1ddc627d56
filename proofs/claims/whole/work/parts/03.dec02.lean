theorem dX4_mostCornersOnPlane_9 : decode cX4_mostCornersOnPlane 9 = .ok (.aload_n 0, 1) := by decide +kernel
theorem dX4_mostCornersOnPlane_10 : decode cX4_mostCornersOnPlane 10 = .ok (.iload_n 3, 1) := by decide +kernel
theorem dX4_mostCornersOnPlane_11 : decode cX4_mostCornersOnPlane 11 = .ok (.invokevirtual 149, 3) := by decide +kernel
theorem dX4_mostCornersOnPlane_14 : decode cX4_mostCornersOnPlane 14 = .ok (.ifCond .eq 14, 3) := by decide +kernel
theorem dX4_mostCornersOnPlane_17 : decode cX4_mostCornersOnPlane 17 = .ok (.iload_n 2, 1) := by decide +kernel
theorem dX4_mostCornersOnPlane_18 : decode cX4_mostCornersOnPlane 18 = .ok (.aload_n 0, 1) := by decide +kernel
theorem dX4_mostCornersOnPlane_19 : decode cX4_mostCornersOnPlane 19 = .ok (.getfield 27, 3) := by decide +kernel
theorem dX4_mostCornersOnPlane_22 : decode cX4_mostCornersOnPlane 22 = .ok (.iload_n 3, 1) := by decide +kernel
theorem dX4_mostCornersOnPlane_23 : decode cX4_mostCornersOnPlane 23 = .ok (.iaload, 1) := by decide +kernel
theorem dX4_mostCornersOnPlane_24 : decode cX4_mostCornersOnPlane 24 = .ok (.invokestatic 152, 3) := by decide +kernel
theorem dX4_mostCornersOnPlane_27 : decode cX4_mostCornersOnPlane 27 = .ok (.istore_n 2, 1) := by decide +kernel
theorem dX4_mostCornersOnPlane_28 : decode cX4_mostCornersOnPlane 28 = .ok (.iinc 3 1, 3) := by decide +kernel
theorem dX4_mostCornersOnPlane_31 : decode cX4_mostCornersOnPlane 31 = .ok (.goto (-27), 3) := by decide +kernel
theorem dX4_mostCornersOnPlane_34 : decode cX4_mostCornersOnPlane 34 = .ok (.iload_n 2, 1) := by decide +kernel
theorem dX4_mostCornersOnPlane_35 : decode cX4_mostCornersOnPlane 35 = .ok (.ireturn, 1) := by decide +kernel
theorem dX4_mostPlanesOnCorner_0 : decode cX4_mostPlanesOnCorner 0 = .ok (.iconst 0, 1) := by decide +kernel
theorem dX4_mostPlanesOnCorner_1 : decode cX4_mostPlanesOnCorner 1 = .ok (.istore_n 1, 1) := by decide +kernel
theorem dX4_mostPlanesOnCorner_2 : decode cX4_mostPlanesOnCorner 2 = .ok (.iconst 0, 1) := by decide +kernel
theorem dX4_mostPlanesOnCorner_3 : decode cX4_mostPlanesOnCorner 3 = .ok (.istore_n 2, 1) := by decide +kernel
theorem dX4_mostPlanesOnCorner_4 : decode cX4_mostPlanesOnCorner 4 = .ok (.iload_n 2, 1) := by decide +kernel
theorem dX4_mostPlanesOnCorner_5 : decode cX4_mostPlanesOnCorner 5 = .ok (.aload_n 0, 1) := by decide +kernel
theorem dX4_mostPlanesOnCorner_6 : decode cX4_mostPlanesOnCorner 6 = .ok (.getfield 37, 3) := by decide +kernel
theorem dX4_mostPlanesOnCorner_9 : decode cX4_mostPlanesOnCorner 9 = .ok (.if_icmp .ge 28, 3) := by decide +kernel
theorem dX4_mostPlanesOnCorner_12 : decode cX4_mostPlanesOnCorner 12 = .ok (.iload_n 1, 1) := by decide +kernel
theorem dX4_mostPlanesOnCorner_13 : decode cX4_mostPlanesOnCorner 13 = .ok (.aload_n 0, 1) := by decide +kernel
theorem dX4_mostPlanesOnCorner_14 : decode cX4_mostPlanesOnCorner 14 = .ok (.getfield 24, 3) := by decide +kernel
theorem dX4_mostPlanesOnCorner_17 : decode cX4_mostPlanesOnCorner 17 = .ok (.iload_n 2, 1) := by decide +kernel
theorem dX4_mostPlanesOnCorner_18 : decode cX4_mostPlanesOnCorner 18 = .ok (.iaload, 1) := by decide +kernel
theorem dX4_mostPlanesOnCorner_19 : decode cX4_mostPlanesOnCorner 19 = .ok (.aload_n 0, 1) := by decide +kernel
theorem dX4_mostPlanesOnCorner_20 : decode cX4_mostPlanesOnCorner 20 = .ok (.getfield 113, 3) := by decide +kernel
theorem dX4_mostPlanesOnCorner_23 : decode cX4_mostPlanesOnCorner 23 = .ok (.iand, 1) := by decide +kernel
theorem dX4_mostPlanesOnCorner_24 : decode cX4_mostPlanesOnCorner 24 = .ok (.invokestatic 139, 3) := by decide +kernel
theorem dX4_mostPlanesOnCorner_27 : decode cX4_mostPlanesOnCorner 27 = .ok (.invokestatic 152, 3) := by decide +kernel
theorem dX4_mostPlanesOnCorner_30 : decode cX4_mostPlanesOnCorner 30 = .ok (.istore_n 1, 1) := by decide +kernel
theorem dX4_mostPlanesOnCorner_31 : decode cX4_mostPlanesOnCorner 31 = .ok (.iinc 2 1, 3) := by decide +kernel
theorem dX4_mostPlanesOnCorner_34 : decode cX4_mostPlanesOnCorner 34 = .ok (.goto (-30), 3) := by decide +kernel
theorem dX4_mostPlanesOnCorner_37 : decode cX4_mostPlanesOnCorner 37 = .ok (.iload_n 1, 1) := by decide +kernel
theorem dX4_mostPlanesOnCorner_38 : decode cX4_mostPlanesOnCorner 38 = .ok (.ireturn, 1) := by decide +kernel
theorem dX4_cornersOnBoth_0 : decode cX4_cornersOnBoth 0 = .ok (.iconst 1, 1) := by decide +kernel
theorem dX4_cornersOnBoth_1 : decode cX4_cornersOnBoth 1 = .ok (.iload_n 1, 1) := by decide +kernel
theorem dX4_cornersOnBoth_2 : decode cX4_cornersOnBoth 2 = .ok (.ishl, 1) := by decide +kernel
theorem dX4_cornersOnBoth_3 : decode cX4_cornersOnBoth 3 = .ok (.iconst 1, 1) := by decide +kernel
theorem dX4_cornersOnBoth_4 : decode cX4_cornersOnBoth 4 = .ok (.iload_n 2, 1) := by decide +kernel
theorem dX4_cornersOnBoth_5 : decode cX4_cornersOnBoth 5 = .ok (.ishl, 1) := by decide +kernel
theorem dX4_cornersOnBoth_6 : decode cX4_cornersOnBoth 6 = .ok (.ior, 1) := by decide +kernel
theorem dX4_cornersOnBoth_7 : decode cX4_cornersOnBoth 7 = .ok (.istore_n 3, 1) := by decide +kernel
theorem dX4_cornersOnBoth_8 : decode cX4_cornersOnBoth 8 = .ok (.iconst 0, 1) := by decide +kernel
theorem dX4_cornersOnBoth_9 : decode cX4_cornersOnBoth 9 = .ok (.istore 4, 2) := by decide +kernel
theorem dX4_cornersOnBoth_11 : decode cX4_cornersOnBoth 11 = .ok (.iconst 0, 1) := by decide +kernel
theorem dX4_cornersOnBoth_12 : decode cX4_cornersOnBoth 12 = .ok (.istore 5, 2) := by decide +kernel
theorem dX4_cornersOnBoth_14 : decode cX4_cornersOnBoth 14 = .ok (.iload 5, 2) := by decide +kernel
theorem dX4_cornersOnBoth_16 : decode cX4_cornersOnBoth 16 = .ok (.aload_n 0, 1) := by decide +kernel
theorem dX4_cornersOnBoth_17 : decode cX4_cornersOnBoth 17 = .ok (.getfield 37, 3) := by decide +kernel
theorem dX4_cornersOnBoth_20 : decode cX4_cornersOnBoth 20 = .ok (.if_icmp .ge 25, 3) := by decide +kernel
theorem dX4_cornersOnBoth_23 : decode cX4_cornersOnBoth 23 = .ok (.aload_n 0, 1) := by decide +kernel
theorem dX4_cornersOnBoth_24 : decode cX4_cornersOnBoth 24 = .ok (.getfield 24, 3) := by decide +kernel
theorem dX4_cornersOnBoth_27 : decode cX4_cornersOnBoth 27 = .ok (.iload 5, 2) := by decide +kernel
theorem dX4_cornersOnBoth_29 : decode cX4_cornersOnBoth 29 = .ok (.iaload, 1) := by decide +kernel
theorem dX4_cornersOnBoth_30 : decode cX4_cornersOnBoth 30 = .ok (.iload_n 3, 1) := by decide +kernel
theorem dX4_cornersOnBoth_31 : decode cX4_cornersOnBoth 31 = .ok (.iand, 1) := by decide +kernel
theorem dX4_cornersOnBoth_32 : decode cX4_cornersOnBoth 32 = .ok (.iload_n 3, 1) := by decide +kernel
theorem dX4_cornersOnBoth_33 : decode cX4_cornersOnBoth 33 = .ok (.if_icmp .ne 6, 3) := by decide +kernel
theorem dX4_cornersOnBoth_36 : decode cX4_cornersOnBoth 36 = .ok (.iinc 4 1, 3) := by decide +kernel
theorem dX4_cornersOnBoth_39 : decode cX4_cornersOnBoth 39 = .ok (.iinc 5 1, 3) := by decide +kernel
theorem dX4_cornersOnBoth_42 : decode cX4_cornersOnBoth 42 = .ok (.goto (-28), 3) := by decide +kernel
theorem dX4_cornersOnBoth_45 : decode cX4_cornersOnBoth 45 = .ok (.iload 4, 2) := by decide +kernel
theorem dX4_cornersOnBoth_47 : decode cX4_cornersOnBoth 47 = .ok (.ireturn, 1) := by decide +kernel
theorem dX4_farthest_0 : decode cX4_farthest 0 = .ok (.iconst 0, 1) := by decide +kernel
theorem dX4_farthest_1 : decode cX4_farthest 1 = .ok (.istore 4, 2) := by decide +kernel
theorem dX4_farthest_3 : decode cX4_farthest 3 = .ok (.iconst 1, 1) := by decide +kernel
theorem dX4_farthest_4 : decode cX4_farthest 4 = .ok (.istore 5, 2) := by decide +kernel
theorem dX4_farthest_6 : decode cX4_farthest 6 = .ok (.iload 5, 2) := by decide +kernel
theorem dX4_farthest_8 : decode cX4_farthest 8 = .ok (.aload_n 0, 1) := by decide +kernel
theorem dX4_farthest_9 : decode cX4_farthest 9 = .ok (.getfield 37, 3) := by decide +kernel
theorem dX4_farthest_12 : decode cX4_farthest 12 = .ok (.if_icmp .ge 50, 3) := by decide +kernel
theorem dX4_farthest_15 : decode cX4_farthest 15 = .ok (.aload_n 0, 1) := by decide +kernel
theorem dX4_farthest_16 : decode cX4_farthest 16 = .ok (.iload 5, 2) := by decide +kernel
theorem dX4_farthest_18 : decode cX4_farthest 18 = .ok (.iload_n 1, 1) := by decide +kernel
theorem dX4_farthest_19 : decode cX4_farthest 19 = .ok (.iload_n 2, 1) := by decide +kernel
theorem dX4_farthest_20 : decode cX4_farthest 20 = .ok (.iload_n 3, 1) := by decide +kernel
theorem dX4_farthest_21 : decode cX4_farthest 21 = .ok (.invokevirtual 133, 3) := by decide +kernel
theorem dX4_farthest_24 : decode cX4_farthest 24 = .ok (.aload_n 0, 1) := by decide +kernel
theorem dX4_farthest_25 : decode cX4_farthest 25 = .ok (.getfield 21, 3) := by decide +kernel
theorem dX4_farthest_28 : decode cX4_farthest 28 = .ok (.iload 4, 2) := by decide +kernel
theorem dX4_farthest_30 : decode cX4_farthest 30 = .ok (.iaload, 1) := by decide +kernel
theorem dX4_farthest_31 : decode cX4_farthest 31 = .ok (.imul, 1) := by decide +kernel
theorem dX4_farthest_32 : decode cX4_farthest 32 = .ok (.aload_n 0, 1) := by decide +kernel
theorem dX4_farthest_33 : decode cX4_farthest 33 = .ok (.iload 4, 2) := by decide +kernel
theorem dX4_farthest_35 : decode cX4_farthest 35 = .ok (.iload_n 1, 1) := by decide +kernel
theorem dX4_farthest_36 : decode cX4_farthest 36 = .ok (.iload_n 2, 1) := by decide +kernel
theorem dX4_farthest_37 : decode cX4_farthest 37 = .ok (.iload_n 3, 1) := by decide +kernel
theorem dX4_farthest_38 : decode cX4_farthest 38 = .ok (.invokevirtual 133, 3) := by decide +kernel
theorem dX4_farthest_41 : decode cX4_farthest 41 = .ok (.aload_n 0, 1) := by decide +kernel
theorem dX4_farthest_42 : decode cX4_farthest 42 = .ok (.getfield 21, 3) := by decide +kernel
theorem dX4_farthest_45 : decode cX4_farthest 45 = .ok (.iload 5, 2) := by decide +kernel
theorem dX4_farthest_47 : decode cX4_farthest 47 = .ok (.iaload, 1) := by decide +kernel
theorem dX4_farthest_48 : decode cX4_farthest 48 = .ok (.imul, 1) := by decide +kernel
theorem dX4_farthest_49 : decode cX4_farthest 49 = .ok (.if_icmp .le 7, 3) := by decide +kernel
theorem dX4_farthest_52 : decode cX4_farthest 52 = .ok (.iload 5, 2) := by decide +kernel
theorem dX4_farthest_54 : decode cX4_farthest 54 = .ok (.istore 4, 2) := by decide +kernel
theorem dX4_farthest_56 : decode cX4_farthest 56 = .ok (.iinc 5 1, 3) := by decide +kernel
theorem dX4_farthest_59 : decode cX4_farthest 59 = .ok (.goto (-53), 3) := by decide +kernel
theorem dX4_farthest_62 : decode cX4_farthest 62 = .ok (.iload 4, 2) := by decide +kernel
theorem dX4_farthest_64 : decode cX4_farthest 64 = .ok (.ireturn, 1) := by decide +kernel
theorem dX4_cornersAt_0 : decode cX4_cornersAt 0 = .ok (.aload_n 0, 1) := by decide +kernel
theorem dX4_cornersAt_1 : decode cX4_cornersAt 1 = .ok (.iload 4, 2) := by decide +kernel
theorem dX4_cornersAt_3 : decode cX4_cornersAt 3 = .ok (.iload_n 1, 1) := by decide +kernel
theorem dX4_cornersAt_4 : decode cX4_cornersAt 4 = .ok (.iload_n 2, 1) := by decide +kernel
theorem dX4_cornersAt_5 : decode cX4_cornersAt 5 = .ok (.iload_n 3, 1) := by decide +kernel
theorem dX4_cornersAt_6 : decode cX4_cornersAt 6 = .ok (.invokevirtual 133, 3) := by decide +kernel
theorem dX4_cornersAt_9 : decode cX4_cornersAt 9 = .ok (.istore 5, 2) := by decide +kernel
theorem dX4_cornersAt_11 : decode cX4_cornersAt 11 = .ok (.iconst 0, 1) := by decide +kernel
theorem dX4_cornersAt_12 : decode cX4_cornersAt 12 = .ok (.istore 6, 2) := by decide +kernel
theorem dX4_cornersAt_14 : decode cX4_cornersAt 14 = .ok (.iconst 0, 1) := by decide +kernel
theorem dX4_cornersAt_15 : decode cX4_cornersAt 15 = .ok (.istore 7, 2) := by decide +kernel
theorem dX4_cornersAt_17 : decode cX4_cornersAt 17 = .ok (.iload 7, 2) := by decide +kernel
theorem dX4_cornersAt_19 : decode cX4_cornersAt 19 = .ok (.aload_n 0, 1) := by decide +kernel
theorem dX4_cornersAt_20 : decode cX4_cornersAt 20 = .ok (.getfield 37, 3) := by decide +kernel
theorem dX4_cornersAt_23 : decode cX4_cornersAt 23 = .ok (.if_icmp .ge 42, 3) := by decide +kernel
theorem dX4_cornersAt_26 : decode cX4_cornersAt 26 = .ok (.aload_n 0, 1) := by decide +kernel
theorem dX4_cornersAt_27 : decode cX4_cornersAt 27 = .ok (.iload 7, 2) := by decide +kernel
theorem dX4_cornersAt_29 : decode cX4_cornersAt 29 = .ok (.iload_n 1, 1) := by decide +kernel
theorem dX4_cornersAt_30 : decode cX4_cornersAt 30 = .ok (.iload_n 2, 1) := by decide +kernel
theorem dX4_cornersAt_31 : decode cX4_cornersAt 31 = .ok (.iload_n 3, 1) := by decide +kernel
theorem dX4_cornersAt_32 : decode cX4_cornersAt 32 = .ok (.invokevirtual 133, 3) := by decide +kernel
theorem dX4_cornersAt_35 : decode cX4_cornersAt 35 = .ok (.aload_n 0, 1) := by decide +kernel
theorem dX4_cornersAt_36 : decode cX4_cornersAt 36 = .ok (.getfield 21, 3) := by decide +kernel
theorem dX4_cornersAt_39 : decode cX4_cornersAt 39 = .ok (.iload 4, 2) := by decide +kernel
theorem dX4_cornersAt_41 : decode cX4_cornersAt 41 = .ok (.iaload, 1) := by decide +kernel
theorem dX4_cornersAt_42 : decode cX4_cornersAt 42 = .ok (.imul, 1) := by decide +kernel
theorem dX4_cornersAt_43 : decode cX4_cornersAt 43 = .ok (.iload 5, 2) := by decide +kernel
theorem dX4_cornersAt_45 : decode cX4_cornersAt 45 = .ok (.aload_n 0, 1) := by decide +kernel
theorem dX4_cornersAt_46 : decode cX4_cornersAt 46 = .ok (.getfield 21, 3) := by decide +kernel
theorem dX4_cornersAt_49 : decode cX4_cornersAt 49 = .ok (.iload 7, 2) := by decide +kernel
theorem dX4_cornersAt_51 : decode cX4_cornersAt 51 = .ok (.iaload, 1) := by decide +kernel
theorem dX4_cornersAt_52 : decode cX4_cornersAt 52 = .ok (.imul, 1) := by decide +kernel
theorem dX4_cornersAt_53 : decode cX4_cornersAt 53 = .ok (.if_icmp .ne 6, 3) := by decide +kernel
theorem dX4_cornersAt_56 : decode cX4_cornersAt 56 = .ok (.iinc 6 1, 3) := by decide +kernel
theorem dX4_cornersAt_59 : decode cX4_cornersAt 59 = .ok (.iinc 7 1, 3) := by decide +kernel
theorem dX4_cornersAt_62 : decode cX4_cornersAt 62 = .ok (.goto (-45), 3) := by decide +kernel
theorem dX4_cornersAt_65 : decode cX4_cornersAt 65 = .ok (.iload 6, 2) := by decide +kernel
theorem dX4_cornersAt_67 : decode cX4_cornersAt 67 = .ok (.ireturn, 1) := by decide +kernel
theorem dX4_isKeptBy_0 : decode cX4_isKeptBy 0 = .ok (.iconst 0, 1) := by decide +kernel
theorem dX4_isKeptBy_1 : decode cX4_isKeptBy 1 = .ok (.istore_n 2, 1) := by decide +kernel
theorem dX4_isKeptBy_2 : decode cX4_isKeptBy 2 = .ok (.iload_n 2, 1) := by decide +kernel
theorem dX4_isKeptBy_3 : decode cX4_isKeptBy 3 = .ok (.aload_n 0, 1) := by decide +kernel
theorem dX4_isKeptBy_4 : decode cX4_isKeptBy 4 = .ok (.getfield 37, 3) := by decide +kernel
theorem dX4_isKeptBy_7 : decode cX4_isKeptBy 7 = .ok (.if_icmp .ge 131, 3) := by decide +kernel
theorem dX4_isKeptBy_10 : decode cX4_isKeptBy 10 = .ok (.iload_n 1, 1) := by decide +kernel
theorem dX4_isKeptBy_11 : decode cX4_isKeptBy 11 = .ok (.iconst 0, 1) := by decide +kernel
theorem dX4_isKeptBy_12 : decode cX4_isKeptBy 12 = .ok (.aload_n 0, 1) := by decide +kernel
theorem dX4_isKeptBy_13 : decode cX4_isKeptBy 13 = .ok (.getfield 9, 3) := by decide +kernel
theorem dX4_isKeptBy_16 : decode cX4_isKeptBy 16 = .ok (.iload_n 2, 1) := by decide +kernel
theorem dX4_isKeptBy_17 : decode cX4_isKeptBy 17 = .ok (.iaload, 1) := by decide +kernel
theorem dX4_isKeptBy_18 : decode cX4_isKeptBy 18 = .ok (.aload_n 0, 1) := by decide +kernel
theorem dX4_isKeptBy_19 : decode cX4_isKeptBy 19 = .ok (.getfield 15, 3) := by decide +kernel
theorem dX4_isKeptBy_22 : decode cX4_isKeptBy 22 = .ok (.iload_n 2, 1) := by decide +kernel
theorem dX4_isKeptBy_23 : decode cX4_isKeptBy 23 = .ok (.iaload, 1) := by decide +kernel
theorem dX4_isKeptBy_24 : decode cX4_isKeptBy 24 = .ok (.aload_n 0, 1) := by decide +kernel
theorem dX4_isKeptBy_25 : decode cX4_isKeptBy 25 = .ok (.getfield 18, 3) := by decide +kernel
theorem dX4_isKeptBy_28 : decode cX4_isKeptBy 28 = .ok (.iload_n 2, 1) := by decide +kernel
theorem dX4_isKeptBy_29 : decode cX4_isKeptBy 29 = .ok (.iaload, 1) := by decide +kernel
theorem dX4_isKeptBy_30 : decode cX4_isKeptBy 30 = .ok (.invokestatic 157, 3) := by decide +kernel
theorem dX4_isKeptBy_33 : decode cX4_isKeptBy 33 = .ok (.istore_n 3, 1) := by decide +kernel
theorem dX4_isKeptBy_34 : decode cX4_isKeptBy 34 = .ok (.iload_n 1, 1) := by decide +kernel
theorem dX4_isKeptBy_35 : decode cX4_isKeptBy 35 = .ok (.iconst 1, 1) := by decide +kernel
theorem dX4_isKeptBy_36 : decode cX4_isKeptBy 36 = .ok (.aload_n 0, 1) := by decide +kernel
theorem dX4_isKeptBy_37 : decode cX4_isKeptBy 37 = .ok (.getfield 9, 3) := by decide +kernel
theorem dX4_isKeptBy_40 : decode cX4_isKeptBy 40 = .ok (.iload_n 2, 1) := by decide +kernel
theorem dX4_isKeptBy_41 : decode cX4_isKeptBy 41 = .ok (.iaload, 1) := by decide +kernel
theorem dX4_isKeptBy_42 : decode cX4_isKeptBy 42 = .ok (.aload_n 0, 1) := by decide +kernel
theorem dX4_isKeptBy_43 : decode cX4_isKeptBy 43 = .ok (.getfield 15, 3) := by decide +kernel
theorem dX4_isKeptBy_46 : decode cX4_isKeptBy 46 = .ok (.iload_n 2, 1) := by decide +kernel
theorem dX4_isKeptBy_47 : decode cX4_isKeptBy 47 = .ok (.iaload, 1) := by decide +kernel
theorem dX4_isKeptBy_48 : decode cX4_isKeptBy 48 = .ok (.aload_n 0, 1) := by decide +kernel
theorem dX4_isKeptBy_49 : decode cX4_isKeptBy 49 = .ok (.getfield 18, 3) := by decide +kernel
theorem dX4_isKeptBy_52 : decode cX4_isKeptBy 52 = .ok (.iload_n 2, 1) := by decide +kernel
theorem dX4_isKeptBy_53 : decode cX4_isKeptBy 53 = .ok (.iaload, 1) := by decide +kernel
theorem dX4_isKeptBy_54 : decode cX4_isKeptBy 54 = .ok (.invokestatic 157, 3) := by decide +kernel
theorem dX4_isKeptBy_57 : decode cX4_isKeptBy 57 = .ok (.istore 4, 2) := by decide +kernel
theorem dX4_isKeptBy_59 : decode cX4_isKeptBy 59 = .ok (.iload_n 1, 1) := by decide +kernel
theorem dX4_isKeptBy_60 : decode cX4_isKeptBy 60 = .ok (.iconst 2, 1) := by decide +kernel
theorem dX4_isKeptBy_61 : decode cX4_isKeptBy 61 = .ok (.aload_n 0, 1) := by decide +kernel
theorem dX4_isKeptBy_62 : decode cX4_isKeptBy 62 = .ok (.getfield 9, 3) := by decide +kernel
theorem dX4_isKeptBy_65 : decode cX4_isKeptBy 65 = .ok (.iload_n 2, 1) := by decide +kernel
theorem dX4_isKeptBy_66 : decode cX4_isKeptBy 66 = .ok (.iaload, 1) := by decide +kernel
theorem dX4_isKeptBy_67 : decode cX4_isKeptBy 67 = .ok (.aload_n 0, 1) := by decide +kernel
theorem dX4_isKeptBy_68 : decode cX4_isKeptBy 68 = .ok (.getfield 15, 3) := by decide +kernel
theorem dX4_isKeptBy_71 : decode cX4_isKeptBy 71 = .ok (.iload_n 2, 1) := by decide +kernel
theorem dX4_isKeptBy_72 : decode cX4_isKeptBy 72 = .ok (.iaload, 1) := by decide +kernel
theorem dX4_isKeptBy_73 : decode cX4_isKeptBy 73 = .ok (.aload_n 0, 1) := by decide +kernel
theorem dX4_isKeptBy_74 : decode cX4_isKeptBy 74 = .ok (.getfield 18, 3) := by decide +kernel
theorem dX4_isKeptBy_77 : decode cX4_isKeptBy 77 = .ok (.iload_n 2, 1) := by decide +kernel
theorem dX4_isKeptBy_78 : decode cX4_isKeptBy 78 = .ok (.iaload, 1) := by decide +kernel
theorem dX4_isKeptBy_79 : decode cX4_isKeptBy 79 = .ok (.invokestatic 157, 3) := by decide +kernel
theorem dX4_isKeptBy_82 : decode cX4_isKeptBy 82 = .ok (.istore 5, 2) := by decide +kernel
theorem dX4_isKeptBy_84 : decode cX4_isKeptBy 84 = .ok (.aload_n 0, 1) := by decide +kernel
theorem dX4_isKeptBy_85 : decode cX4_isKeptBy 85 = .ok (.iload_n 3, 1) := by decide +kernel
theorem dX4_isKeptBy_86 : decode cX4_isKeptBy 86 = .ok (.iload 4, 2) := by decide +kernel
theorem dX4_isKeptBy_88 : decode cX4_isKeptBy 88 = .ok (.iload 5, 2) := by decide +kernel
theorem dX4_isKeptBy_90 : decode cX4_isKeptBy 90 = .ok (.aload_n 0, 1) := by decide +kernel
theorem dX4_isKeptBy_91 : decode cX4_isKeptBy 91 = .ok (.getfield 21, 3) := by decide +kernel
theorem dX4_isKeptBy_94 : decode cX4_isKeptBy 94 = .ok (.iload_n 2, 1) := by decide +kernel
theorem dX4_isKeptBy_95 : decode cX4_isKeptBy 95 = .ok (.iaload, 1) := by decide +kernel
theorem dX4_isKeptBy_96 : decode cX4_isKeptBy 96 = .ok (.invokevirtual 95, 3) := by decide +kernel
theorem dX4_isKeptBy_99 : decode cX4_isKeptBy 99 = .ok (.istore 6, 2) := by decide +kernel
theorem dX4_isKeptBy_101 : decode cX4_isKeptBy 101 = .ok (.iload 6, 2) := by decide +kernel
theorem dX4_isKeptBy_103 : decode cX4_isKeptBy 103 = .ok (.aload_n 0, 1) := by decide +kernel
theorem dX4_isKeptBy_104 : decode cX4_isKeptBy 104 = .ok (.getfield 37, 3) := by decide +kernel
theorem dX4_isKeptBy_107 : decode cX4_isKeptBy 107 = .ok (.if_icmp .ge 23, 3) := by decide +kernel
theorem dX4_isKeptBy_110 : decode cX4_isKeptBy 110 = .ok (.aload_n 0, 1) := by decide +kernel
theorem dX4_isKeptBy_111 : decode cX4_isKeptBy 111 = .ok (.iload 6, 2) := by decide +kernel
theorem dX4_isKeptBy_113 : decode cX4_isKeptBy 113 = .ok (.iload_n 3, 1) := by decide +kernel
theorem dX4_isKeptBy_114 : decode cX4_isKeptBy 114 = .ok (.iload 4, 2) := by decide +kernel
theorem dX4_isKeptBy_116 : decode cX4_isKeptBy 116 = .ok (.iload 5, 2) := by decide +kernel
theorem dX4_isKeptBy_118 : decode cX4_isKeptBy 118 = .ok (.aload_n 0, 1) := by decide +kernel
theorem dX4_isKeptBy_119 : decode cX4_isKeptBy 119 = .ok (.getfield 21, 3) := by decide +kernel
theorem dX4_isKeptBy_122 : decode cX4_isKeptBy 122 = .ok (.iload_n 2, 1) := by decide +kernel
theorem dX4_isKeptBy_123 : decode cX4_isKeptBy 123 = .ok (.iaload, 1) := by decide +kernel
theorem dX4_isKeptBy_124 : decode cX4_isKeptBy 124 = .ok (.invokevirtual 99, 3) := by decide +kernel
theorem dX4_isKeptBy_127 : decode cX4_isKeptBy 127 = .ok (.ifCond .eq 5, 3) := by decide +kernel
theorem dX4_isKeptBy_130 : decode cX4_isKeptBy 130 = .ok (.iconst 0, 1) := by decide +kernel
theorem dX4_isKeptBy_131 : decode cX4_isKeptBy 131 = .ok (.ireturn, 1) := by decide +kernel
theorem dX4_isKeptBy_132 : decode cX4_isKeptBy 132 = .ok (.iinc 2 1, 3) := by decide +kernel
theorem dX4_isKeptBy_135 : decode cX4_isKeptBy 135 = .ok (.goto (-133), 3) := by decide +kernel
theorem dX4_isKeptBy_138 : decode cX4_isKeptBy 138 = .ok (.iconst 1, 1) := by decide +kernel
theorem dX4_isKeptBy_139 : decode cX4_isKeptBy 139 = .ok (.ireturn, 1) := by decide +kernel
theorem dX4_addCornersTo_0 : decode cX4_addCornersTo 0 = .ok (.lload_n 1, 1) := by decide +kernel
theorem dX4_addCornersTo_1 : decode cX4_addCornersTo 1 = .ok (.lstore_n 3, 1) := by decide +kernel
theorem dX4_addCornersTo_2 : decode cX4_addCornersTo 2 = .ok (.iconst 0, 1) := by decide +kernel
theorem dX4_addCornersTo_3 : decode cX4_addCornersTo 3 = .ok (.istore 5, 2) := by decide +kernel
theorem dX4_addCornersTo_5 : decode cX4_addCornersTo 5 = .ok (.iload 5, 2) := by decide +kernel
theorem dX4_addCornersTo_7 : decode cX4_addCornersTo 7 = .ok (.aload_n 0, 1) := by decide +kernel
theorem dX4_addCornersTo_8 : decode cX4_addCornersTo 8 = .ok (.getfield 37, 3) := by decide +kernel
theorem dX4_addCornersTo_11 : decode cX4_addCornersTo 11 = .ok (.if_icmp .ge 83, 3) := by decide +kernel
theorem dX4_addCornersTo_14 : decode cX4_addCornersTo 14 = .ok (.iconst 0, 1) := by decide +kernel
theorem dX4_addCornersTo_15 : decode cX4_addCornersTo 15 = .ok (.istore 6, 2) := by decide +kernel
theorem dX4_addCornersTo_17 : decode cX4_addCornersTo 17 = .ok (.iload 6, 2) := by decide +kernel
theorem dX4_addCornersTo_19 : decode cX4_addCornersTo 19 = .ok (.iconst 3, 1) := by decide +kernel
theorem dX4_addCornersTo_20 : decode cX4_addCornersTo 20 = .ok (.if_icmp .ge 68, 3) := by decide +kernel
theorem dX4_addCornersTo_23 : decode cX4_addCornersTo 23 = .ok (.aload_n 0, 1) := by decide +kernel
theorem dX4_addCornersTo_24 : decode cX4_addCornersTo 24 = .ok (.iload 5, 2) := by decide +kernel
theorem dX4_addCornersTo_26 : decode cX4_addCornersTo 26 = .ok (.iload 6, 2) := by decide +kernel
theorem dX4_addCornersTo_28 : decode cX4_addCornersTo 28 = .ok (.invokevirtual 160, 3) := by decide +kernel
theorem dX4_addCornersTo_31 : decode cX4_addCornersTo 31 = .ok (.istore 7, 2) := by decide +kernel
theorem dX4_addCornersTo_33 : decode cX4_addCornersTo 33 = .ok (.iconst 1, 1) := by decide +kernel
theorem dX4_addCornersTo_34 : decode cX4_addCornersTo 34 = .ok (.iload 7, 2) := by decide +kernel
theorem dX4_addCornersTo_36 : decode cX4_addCornersTo 36 = .ok (.aload_n 0, 1) := by decide +kernel
theorem dX4_addCornersTo_37 : decode cX4_addCornersTo 37 = .ok (.getfield 21, 3) := by decide +kernel
theorem dX4_addCornersTo_40 : decode cX4_addCornersTo 40 = .ok (.iload 5, 2) := by decide +kernel
theorem dX4_addCornersTo_42 : decode cX4_addCornersTo 42 = .ok (.iaload, 1) := by decide +kernel
theorem dX4_addCornersTo_43 : decode cX4_addCornersTo 43 = .ok (.invokestatic 91, 3) := by decide +kernel
theorem dX4_addCornersTo_46 : decode cX4_addCornersTo 46 = .ok (.invokestatic 152, 3) := by decide +kernel
theorem dX4_addCornersTo_49 : decode cX4_addCornersTo 49 = .ok (.istore 8, 2) := by decide +kernel
theorem dX4_addCornersTo_51 : decode cX4_addCornersTo 51 = .ok (.ldc2_w 163, 3) := by decide +kernel
theorem dX4_addCornersTo_54 : decode cX4_addCornersTo 54 = .ok (.lload_n 3, 1) := by decide +kernel
theorem dX4_addCornersTo_55 : decode cX4_addCornersTo 55 = .ok (.lmul, 1) := by decide +kernel
theorem dX4_addCornersTo_56 : decode cX4_addCornersTo 56 = .ok (.iload 7, 2) := by decide +kernel
theorem dX4_addCornersTo_58 : decode cX4_addCornersTo 58 = .ok (.iload 8, 2) := by decide +kernel
theorem dX4_addCornersTo_60 : decode cX4_addCornersTo 60 = .ok (.idiv, 1) := by decide +kernel
theorem dX4_addCornersTo_61 : decode cX4_addCornersTo 61 = .ok (.i2l, 1) := by decide +kernel
theorem dX4_addCornersTo_62 : decode cX4_addCornersTo 62 = .ok (.ladd, 1) := by decide +kernel
theorem dX4_addCornersTo_63 : decode cX4_addCornersTo 63 = .ok (.lstore_n 3, 1) := by decide +kernel
theorem dX4_addCornersTo_64 : decode cX4_addCornersTo 64 = .ok (.ldc2_w 163, 3) := by decide +kernel
theorem dX4_addCornersTo_67 : decode cX4_addCornersTo 67 = .ok (.lload_n 3, 1) := by decide +kernel
theorem dX4_addCornersTo_68 : decode cX4_addCornersTo 68 = .ok (.lmul, 1) := by decide +kernel
theorem dX4_addCornersTo_69 : decode cX4_addCornersTo 69 = .ok (.aload_n 0, 1) := by decide +kernel
theorem dX4_addCornersTo_70 : decode cX4_addCornersTo 70 = .ok (.getfield 21, 3) := by decide +kernel
theorem dX4_addCornersTo_73 : decode cX4_addCornersTo 73 = .ok (.iload 5, 2) := by decide +kernel
theorem dX4_addCornersTo_75 : decode cX4_addCornersTo 75 = .ok (.iaload, 1) := by decide +kernel
theorem dX4_addCornersTo_76 : decode cX4_addCornersTo 76 = .ok (.iload 8, 2) := by decide +kernel
theorem dX4_addCornersTo_78 : decode cX4_addCornersTo 78 = .ok (.idiv, 1) := by decide +kernel
theorem dX4_addCornersTo_79 : decode cX4_addCornersTo 79 = .ok (.i2l, 1) := by decide +kernel
theorem dX4_addCornersTo_80 : decode cX4_addCornersTo 80 = .ok (.ladd, 1) := by decide +kernel
theorem dX4_addCornersTo_81 : decode cX4_addCornersTo 81 = .ok (.lstore_n 3, 1) := by decide +kernel
theorem dX4_addCornersTo_82 : decode cX4_addCornersTo 82 = .ok (.iinc 6 1, 3) := by decide +kernel
theorem dX4_addCornersTo_85 : decode cX4_addCornersTo 85 = .ok (.goto (-68), 3) := by decide +kernel
theorem dX4_addCornersTo_88 : decode cX4_addCornersTo 88 = .ok (.iinc 5 1, 3) := by decide +kernel
theorem dX4_addCornersTo_91 : decode cX4_addCornersTo 91 = .ok (.goto (-86), 3) := by decide +kernel
theorem dX4_addCornersTo_94 : decode cX4_addCornersTo 94 = .ok (.lload_n 3, 1) := by decide +kernel
theorem dX4_addCornersTo_95 : decode cX4_addCornersTo 95 = .ok (.lreturn, 1) := by decide +kernel
theorem dX5_init_0 : decode cX5_init 0 = .ok (.aload_n 0, 1) := by decide +kernel
theorem dX5_init_1 : decode cX5_init 1 = .ok (.invokespecial 3, 3) := by decide +kernel
theorem dX5_init_4 : decode cX5_init 4 = .ok (.aload_n 0, 1) := by decide +kernel
theorem dX5_init_5 : decode cX5_init 5 = .ok (.iconst 5, 1) := by decide +kernel
theorem dX5_init_6 : decode cX5_init 6 = .ok (.anewarray 9, 3) := by decide +kernel
theorem dX5_init_9 : decode cX5_init 9 = .ok (.putfield 11, 3) := by decide +kernel
theorem dX5_init_12 : decode cX5_init 12 = .ok (.iconst 0, 1) := by decide +kernel
theorem dX5_init_13 : decode cX5_init 13 = .ok (.istore_n 1, 1) := by decide +kernel
theorem dX5_init_14 : decode cX5_init 14 = .ok (.iload_n 1, 1) := by decide +kernel
theorem dX5_init_15 : decode cX5_init 15 = .ok (.iconst 5, 1) := by decide +kernel
theorem dX5_init_16 : decode cX5_init 16 = .ok (.if_icmp .ge 22, 3) := by decide +kernel
theorem dX5_init_19 : decode cX5_init 19 = .ok (.aload_n 0, 1) := by decide +kernel
theorem dX5_init_20 : decode cX5_init 20 = .ok (.getfield 11, 3) := by decide +kernel
theorem dX5_init_23 : decode cX5_init 23 = .ok (.iload_n 1, 1) := by decide +kernel
theorem dX5_init_24 : decode cX5_init 24 = .ok (.new 9, 3) := by decide +kernel
theorem dX5_init_27 : decode cX5_init 27 = .ok (.dup, 1) := by decide +kernel
theorem dX5_init_28 : decode cX5_init 28 = .ok (.invokespecial 17, 3) := by decide +kernel
theorem dX5_init_31 : decode cX5_init 31 = .ok (.aastore, 1) := by decide +kernel
theorem dX5_init_32 : decode cX5_init 32 = .ok (.iinc 1 1, 3) := by decide +kernel
theorem dX5_init_35 : decode cX5_init 35 = .ok (.goto (-21), 3) := by decide +kernel
theorem dX5_init_38 : decode cX5_init 38 = .ok (.return_, 1) := by decide +kernel
theorem dX5_keep_0 : decode cX5_keep 0 = .ok (.aload_n 0, 1) := by decide +kernel
theorem dX5_keep_1 : decode cX5_keep 1 = .ok (.aload_n 0, 1) := by decide +kernel
theorem dX5_keep_2 : decode cX5_keep 2 = .ok (.getfield 18, 3) := by decide +kernel
theorem dX5_keep_5 : decode cX5_keep 5 = .ok (.iconst 1, 1) := by decide +kernel
theorem dX5_keep_6 : decode cX5_keep 6 = .ok (.iadd, 1) := by decide +kernel
theorem dX5_keep_7 : decode cX5_keep 7 = .ok (.iconst 5, 1) := by decide +kernel
theorem dX5_keep_8 : decode cX5_keep 8 = .ok (.irem, 1) := by decide +kernel
theorem dX5_keep_9 : decode cX5_keep 9 = .ok (.putfield 18, 3) := by decide +kernel
theorem dX5_keep_12 : decode cX5_keep 12 = .ok (.aload_n 0, 1) := by decide +kernel
theorem dX5_keep_13 : decode cX5_keep 13 = .ok (.getfield 11, 3) := by decide +kernel
theorem dX5_keep_16 : decode cX5_keep 16 = .ok (.aload_n 0, 1) := by decide +kernel
theorem dX5_keep_17 : decode cX5_keep 17 = .ok (.getfield 18, 3) := by decide +kernel
theorem dX5_keep_20 : decode cX5_keep 20 = .ok (.aaload, 1) := by decide +kernel
theorem dX5_keep_21 : decode cX5_keep 21 = .ok (.astore_n 2, 1) := by decide +kernel
theorem dX5_keep_22 : decode cX5_keep 22 = .ok (.aload_n 2, 1) := by decide +kernel
theorem dX5_keep_23 : decode cX5_keep 23 = .ok (.ifnull 8, 3) := by decide +kernel
theorem dX5_keep_26 : decode cX5_keep 26 = .ok (.aload_n 2, 1) := by decide +kernel
theorem dX5_keep_27 : decode cX5_keep 27 = .ok (.aload_n 1, 1) := by decide +kernel
theorem dX5_keep_28 : decode cX5_keep 28 = .ok (.invokevirtual 22, 3) := by decide +kernel
theorem dX5_keep_31 : decode cX5_keep 31 = .ok (.aload_n 0, 1) := by decide +kernel
theorem dX5_keep_32 : decode cX5_keep 32 = .ok (.iconst 5, 1) := by decide +kernel
theorem dX5_keep_33 : decode cX5_keep 33 = .ok (.aload_n 0, 1) := by decide +kernel
theorem dX5_keep_34 : decode cX5_keep 34 = .ok (.getfield 26, 3) := by decide +kernel
theorem dX5_keep_37 : decode cX5_keep 37 = .ok (.iconst 1, 1) := by decide +kernel
theorem dX5_keep_38 : decode cX5_keep 38 = .ok (.iadd, 1) := by decide +kernel
theorem dX5_keep_39 : decode cX5_keep 39 = .ok (.invokestatic 29, 3) := by decide +kernel
theorem dX5_keep_42 : decode cX5_keep 42 = .ok (.putfield 26, 3) := by decide +kernel
theorem dX5_keep_45 : decode cX5_keep 45 = .ok (.return_, 1) := by decide +kernel
theorem dX5_takeBack_0 : decode cX5_takeBack 0 = .ok (.aload_n 1, 1) := by decide +kernel
theorem dX5_takeBack_1 : decode cX5_takeBack 1 = .ok (.aload_n 0, 1) := by decide +kernel
theorem dX5_takeBack_2 : decode cX5_takeBack 2 = .ok (.getfield 11, 3) := by decide +kernel
theorem dX5_takeBack_5 : decode cX5_takeBack 5 = .ok (.aload_n 0, 1) := by decide +kernel
theorem dX5_takeBack_6 : decode cX5_takeBack 6 = .ok (.getfield 18, 3) := by decide +kernel
theorem dX5_takeBack_9 : decode cX5_takeBack 9 = .ok (.aaload, 1) := by decide +kernel
theorem dX5_takeBack_10 : decode cX5_takeBack 10 = .ok (.invokevirtual 22, 3) := by decide +kernel
theorem dX5_takeBack_13 : decode cX5_takeBack 13 = .ok (.aload_n 0, 1) := by decide +kernel
theorem dX5_takeBack_14 : decode cX5_takeBack 14 = .ok (.aload_n 0, 1) := by decide +kernel
theorem dX5_takeBack_15 : decode cX5_takeBack 15 = .ok (.getfield 18, 3) := by decide +kernel
theorem dX5_takeBack_18 : decode cX5_takeBack 18 = .ok (.iconst 5, 1) := by decide +kernel
theorem dX5_takeBack_19 : decode cX5_takeBack 19 = .ok (.iadd, 1) := by decide +kernel
theorem dX5_takeBack_20 : decode cX5_takeBack 20 = .ok (.iconst 1, 1) := by decide +kernel
theorem dX5_takeBack_21 : decode cX5_takeBack 21 = .ok (.isub, 1) := by decide +kernel
theorem dX5_takeBack_22 : decode cX5_takeBack 22 = .ok (.iconst 5, 1) := by decide +kernel
theorem dX5_takeBack_23 : decode cX5_takeBack 23 = .ok (.irem, 1) := by decide +kernel
theorem dX5_takeBack_24 : decode cX5_takeBack 24 = .ok (.putfield 18, 3) := by decide +kernel
theorem dX5_takeBack_27 : decode cX5_takeBack 27 = .ok (.aload_n 0, 1) := by decide +kernel
theorem dX5_takeBack_28 : decode cX5_takeBack 28 = .ok (.dup, 1) := by decide +kernel
theorem dX5_takeBack_29 : decode cX5_takeBack 29 = .ok (.getfield 26, 3) := by decide +kernel
theorem dX5_takeBack_32 : decode cX5_takeBack 32 = .ok (.iconst 1, 1) := by decide +kernel
theorem dX5_takeBack_33 : decode cX5_takeBack 33 = .ok (.isub, 1) := by decide +kernel
theorem dX5_takeBack_34 : decode cX5_takeBack 34 = .ok (.putfield 26, 3) := by decide +kernel
theorem dX5_takeBack_37 : decode cX5_takeBack 37 = .ok (.return_, 1) := by decide +kernel
theorem dX6_init_0 : decode cX6_init 0 = .ok (.aload_n 0, 1) := by decide +kernel
theorem dX6_init_1 : decode cX6_init 1 = .ok (.invokespecial 3, 3) := by decide +kernel
theorem dX6_init_4 : decode cX6_init 4 = .ok (.aload_n 0, 1) := by decide +kernel
theorem dX6_init_5 : decode cX6_init 5 = .ok (.new 9, 3) := by decide +kernel
theorem dX6_init_8 : decode cX6_init 8 = .ok (.dup, 1) := by decide +kernel
theorem dX6_init_9 : decode cX6_init 9 = .ok (.invokespecial 11, 3) := by decide +kernel
theorem dX6_init_12 : decode cX6_init 12 = .ok (.putfield 12, 3) := by decide +kernel
theorem dX6_init_15 : decode cX6_init 15 = .ok (.aload_n 0, 1) := by decide +kernel
theorem dX6_init_16 : decode cX6_init 16 = .ok (.new 9, 3) := by decide +kernel
theorem dX6_init_19 : decode cX6_init 19 = .ok (.dup, 1) := by decide +kernel
theorem dX6_init_20 : decode cX6_init 20 = .ok (.invokespecial 11, 3) := by decide +kernel
theorem dX6_init_23 : decode cX6_init 23 = .ok (.putfield 16, 3) := by decide +kernel
theorem dX6_init_26 : decode cX6_init 26 = .ok (.aload_n 0, 1) := by decide +kernel
theorem dX6_init_27 : decode cX6_init 27 = .ok (.new 19, 3) := by decide +kernel
theorem dX6_init_30 : decode cX6_init 30 = .ok (.dup, 1) := by decide +kernel
theorem dX6_init_31 : decode cX6_init 31 = .ok (.invokespecial 21, 3) := by decide +kernel
theorem dX6_init_34 : decode cX6_init 34 = .ok (.putfield 22, 3) := by decide +kernel
theorem dX6_init_37 : decode cX6_init 37 = .ok (.aload_n 0, 1) := by decide +kernel
theorem dX6_init_38 : decode cX6_init 38 = .ok (.new 26, 3) := by decide +kernel
theorem dX6_init_41 : decode cX6_init 41 = .ok (.dup, 1) := by decide +kernel
theorem dX6_init_42 : decode cX6_init 42 = .ok (.invokespecial 28, 3) := by decide +kernel
theorem dX6_init_45 : decode cX6_init 45 = .ok (.putfield 29, 3) := by decide +kernel
theorem dX6_init_48 : decode cX6_init 48 = .ok (.aload_n 0, 1) := by decide +kernel
theorem dX6_init_49 : decode cX6_init 49 = .ok (.new 26, 3) := by decide +kernel
theorem dX6_init_52 : decode cX6_init 52 = .ok (.dup, 1) := by decide +kernel
theorem dX6_init_53 : decode cX6_init 53 = .ok (.invokespecial 28, 3) := by decide +kernel
theorem dX6_init_56 : decode cX6_init 56 = .ok (.putfield 33, 3) := by decide +kernel
theorem dX6_init_59 : decode cX6_init 59 = .ok (.aload_n 0, 1) := by decide +kernel
theorem dX6_init_60 : decode cX6_init 60 = .ok (.new 36, 3) := by decide +kernel
theorem dX6_init_63 : decode cX6_init 63 = .ok (.dup, 1) := by decide +kernel
theorem dX6_init_64 : decode cX6_init 64 = .ok (.invokespecial 38, 3) := by decide +kernel
theorem dX6_init_67 : decode cX6_init 67 = .ok (.putfield 39, 3) := by decide +kernel
theorem dX6_init_70 : decode cX6_init 70 = .ok (.aload_n 0, 1) := by decide +kernel
theorem dX6_init_71 : decode cX6_init 71 = .ok (.new 43, 3) := by decide +kernel
theorem dX6_init_74 : decode cX6_init 74 = .ok (.dup, 1) := by decide +kernel
theorem dX6_init_75 : decode cX6_init 75 = .ok (.invokespecial 45, 3) := by decide +kernel
theorem dX6_init_78 : decode cX6_init 78 = .ok (.putfield 46, 3) := by decide +kernel
theorem dX6_init_81 : decode cX6_init 81 = .ok (.aload_n 0, 1) := by decide +kernel
theorem dX6_init_82 : decode cX6_init 82 = .ok (.getfield 12, 3) := by decide +kernel
theorem dX6_init_85 : decode cX6_init 85 = .ok (.invokevirtual 50, 3) := by decide +kernel
theorem dX6_init_88 : decode cX6_init 88 = .ok (.aload_n 0, 1) := by decide +kernel
theorem dX6_init_89 : decode cX6_init 89 = .ok (.iconst 1, 1) := by decide +kernel
theorem dX6_init_90 : decode cX6_init 90 = .ok (.putfield 53, 3) := by decide +kernel
theorem dX6_init_93 : decode cX6_init 93 = .ok (.return_, 1) := by decide +kernel
theorem dX6_plane_0 : decode cX6_plane 0 = .ok (.iload_n 1, 1) := by decide +kernel
theorem dX6_plane_1 : decode cX6_plane 1 = .ok (.iload_n 2, 1) := by decide +kernel
theorem dX6_plane_2 : decode cX6_plane 2 = .ok (.iload_n 3, 1) := by decide +kernel
theorem dX6_plane_3 : decode cX6_plane 3 = .ok (.invokestatic 57, 3) := by decide +kernel
theorem dX6_plane_6 : decode cX6_plane 6 = .ok (.ifCond .eq 11, 3) := by decide +kernel
theorem dX6_plane_9 : decode cX6_plane 9 = .ok (.iload 4, 2) := by decide +kernel
theorem dX6_plane_11 : decode cX6_plane 11 = .ok (.invokestatic 61, 3) := by decide +kernel
theorem dX6_plane_14 : decode cX6_plane 14 = .ok (.ifCond .ne 10, 3) := by decide +kernel
theorem dX6_plane_17 : decode cX6_plane 17 = .ok (.aload_n 0, 1) := by decide +kernel
theorem dX6_plane_18 : decode cX6_plane 18 = .ok (.bipush (-2), 2) := by decide +kernel
theorem dX6_plane_20 : decode cX6_plane 20 = .ok (.invokevirtual 65, 3) := by decide +kernel
theorem dX6_plane_23 : decode cX6_plane 23 = .ok (.ireturn, 1) := by decide +kernel
theorem dX6_plane_24 : decode cX6_plane 24 = .ok (.aload_n 0, 1) := by decide +kernel
theorem dX6_plane_25 : decode cX6_plane 25 = .ok (.getfield 12, 3) := by decide +kernel
theorem dX6_plane_28 : decode cX6_plane 28 = .ok (.getfield 69, 3) := by decide +kernel
theorem dX6_plane_31 : decode cX6_plane 31 = .ok (.bipush 32, 2) := by decide +kernel
theorem dX6_plane_33 : decode cX6_plane 33 = .ok (.if_icmp .lt 8, 3) := by decide +kernel
theorem dX6_plane_36 : decode cX6_plane 36 = .ok (.aload_n 0, 1) := by decide +kernel
theorem dX6_plane_37 : decode cX6_plane 37 = .ok (.invokevirtual 72, 3) := by decide +kernel
theorem dX6_plane_40 : decode cX6_plane 40 = .ok (.ireturn, 1) := by decide +kernel
theorem dX6_plane_41 : decode cX6_plane 41 = .ok (.aload_n 0, 1) := by decide +kernel
theorem dX6_plane_42 : decode cX6_plane 42 = .ok (.invokevirtual 76, 3) := by decide +kernel
theorem dX6_plane_45 : decode cX6_plane 45 = .ok (.aload_n 0, 1) := by decide +kernel
theorem dX6_plane_46 : decode cX6_plane 46 = .ok (.getfield 12, 3) := by decide +kernel
theorem dX6_plane_49 : decode cX6_plane 49 = .ok (.iload_n 1, 1) := by decide +kernel
theorem dX6_plane_50 : decode cX6_plane 50 = .ok (.iload_n 2, 1) := by decide +kernel
theorem dX6_plane_51 : decode cX6_plane 51 = .ok (.iload_n 3, 1) := by decide +kernel
theorem dX6_plane_52 : decode cX6_plane 52 = .ok (.iload 4, 2) := by decide +kernel
theorem dX6_plane_54 : decode cX6_plane 54 = .ok (.invokevirtual 79, 3) := by decide +kernel
theorem dX6_plane_57 : decode cX6_plane 57 = .ok (.aload_n 0, 1) := by decide +kernel
theorem dX6_plane_58 : decode cX6_plane 58 = .ok (.getfield 12, 3) := by decide +kernel
theorem dX6_plane_61 : decode cX6_plane 61 = .ok (.getfield 69, 3) := by decide +kernel
theorem dX6_plane_64 : decode cX6_plane 64 = .ok (.iconst 1, 1) := by decide +kernel
theorem dX6_plane_65 : decode cX6_plane 65 = .ok (.isub, 1) := by decide +kernel
theorem dX6_plane_66 : decode cX6_plane 66 = .ok (.ireturn, 1) := by decide +kernel
theorem dX6_family_0 : decode cX6_family 0 = .ok (.iload_n 1, 1) := by decide +kernel
theorem dX6_family_1 : decode cX6_family 1 = .ok (.invokestatic 83, 3) := by decide +kernel
theorem dX6_family_4 : decode cX6_family 4 = .ok (.ifCond .eq 21, 3) := by decide +kernel
theorem dX6_family_7 : decode cX6_family 7 = .ok (.iload_n 2, 1) := by decide +kernel
theorem dX6_family_8 : decode cX6_family 8 = .ok (.iload_n 3, 1) := by decide +kernel
theorem dX6_family_9 : decode cX6_family 9 = .ok (.iload 4, 2) := by decide +kernel
theorem dX6_family_11 : decode cX6_family 11 = .ok (.invokestatic 57, 3) := by decide +kernel
theorem dX6_family_14 : decode cX6_family 14 = .ok (.ifCond .eq 11, 3) := by decide +kernel
theorem dX6_family_17 : decode cX6_family 17 = .ok (.iload 5, 2) := by decide +kernel
theorem dX6_family_19 : decode cX6_family 19 = .ok (.invokestatic 61, 3) := by decide +kernel
theorem dX6_family_22 : decode cX6_family 22 = .ok (.ifCond .ne 10, 3) := by decide +kernel
theorem dX6_family_25 : decode cX6_family 25 = .ok (.aload_n 0, 1) := by decide +kernel
theorem dX6_family_26 : decode cX6_family 26 = .ok (.bipush (-2), 2) := by decide +kernel
theorem dX6_family_28 : decode cX6_family 28 = .ok (.invokevirtual 65, 3) := by decide +kernel
theorem dX6_family_31 : decode cX6_family 31 = .ok (.ireturn, 1) := by decide +kernel
theorem dX6_family_32 : decode cX6_family 32 = .ok (.aload_n 0, 1) := by decide +kernel
theorem dX6_family_33 : decode cX6_family 33 = .ok (.getfield 39, 3) := by decide +kernel
theorem dX6_family_36 : decode cX6_family 36 = .ok (.iload_n 1, 1) := by decide +kernel
theorem dX6_family_37 : decode cX6_family 37 = .ok (.iload_n 2, 1) := by decide +kernel
theorem dX6_family_38 : decode cX6_family 38 = .ok (.iload_n 3, 1) := by decide +kernel
theorem dX6_family_39 : decode cX6_family 39 = .ok (.iload 4, 2) := by decide +kernel
theorem dX6_family_41 : decode cX6_family 41 = .ok (.invokevirtual 86, 3) := by decide +kernel
theorem dX6_family_44 : decode cX6_family 44 = .ok (.aload_n 0, 1) := by decide +kernel
theorem dX6_family_45 : decode cX6_family 45 = .ok (.getfield 12, 3) := by decide +kernel
theorem dX6_family_48 : decode cX6_family 48 = .ok (.getfield 69, 3) := by decide +kernel
theorem dX6_family_51 : decode cX6_family 51 = .ok (.aload_n 0, 1) := by decide +kernel
theorem dX6_family_52 : decode cX6_family 52 = .ok (.getfield 39, 3) := by decide +kernel
theorem dX6_family_55 : decode cX6_family 55 = .ok (.getfield 89, 3) := by decide +kernel
theorem dX6_family_58 : decode cX6_family 58 = .ok (.iadd, 1) := by decide +kernel
theorem dX6_family_59 : decode cX6_family 59 = .ok (.bipush 32, 2) := by decide +kernel
theorem dX6_family_61 : decode cX6_family 61 = .ok (.if_icmp .le 8, 3) := by decide +kernel
theorem dX6_family_64 : decode cX6_family 64 = .ok (.aload_n 0, 1) := by decide +kernel
theorem dX6_family_65 : decode cX6_family 65 = .ok (.invokevirtual 72, 3) := by decide +kernel
theorem dX6_family_68 : decode cX6_family 68 = .ok (.ireturn, 1) := by decide +kernel
theorem dX6_family_69 : decode cX6_family 69 = .ok (.aload_n 0, 1) := by decide +kernel
theorem dX6_family_70 : decode cX6_family 70 = .ok (.invokevirtual 76, 3) := by decide +kernel
theorem dX6_family_73 : decode cX6_family 73 = .ok (.aload_n 0, 1) := by decide +kernel
theorem dX6_family_74 : decode cX6_family 74 = .ok (.getfield 12, 3) := by decide +kernel
theorem dX6_family_77 : decode cX6_family 77 = .ok (.aload_n 0, 1) := by decide +kernel
theorem dX6_family_78 : decode cX6_family 78 = .ok (.getfield 39, 3) := by decide +kernel
theorem dX6_family_81 : decode cX6_family 81 = .ok (.iload 5, 2) := by decide +kernel
theorem dX6_family_83 : decode cX6_family 83 = .ok (.invokevirtual 90, 3) := by decide +kernel
theorem dX6_family_86 : decode cX6_family 86 = .ok (.aload_n 0, 1) := by decide +kernel
theorem dX6_family_87 : decode cX6_family 87 = .ok (.getfield 39, 3) := by decide +kernel
theorem dX6_family_90 : decode cX6_family 90 = .ok (.getfield 89, 3) := by decide +kernel
theorem dX6_family_93 : decode cX6_family 93 = .ok (.ireturn, 1) := by decide +kernel
theorem dX6_off_0 : decode cX6_off 0 = .ok (.aload_n 0, 1) := by decide +kernel
theorem dX6_off_1 : decode cX6_off 1 = .ok (.iload_n 1, 1) := by decide +kernel
theorem dX6_off_2 : decode cX6_off 2 = .ok (.invokevirtual 94, 3) := by decide +kernel
theorem dX6_off_5 : decode cX6_off 5 = .ok (.ifCond .eq 10, 3) := by decide +kernel
theorem dX6_off_8 : decode cX6_off 8 = .ok (.iload_n 2, 1) := by decide +kernel
theorem dX6_off_9 : decode cX6_off 9 = .ok (.invokestatic 61, 3) := by decide +kernel
theorem dX6_off_12 : decode cX6_off 12 = .ok (.ifCond .ne 10, 3) := by decide +kernel
theorem dX6_off_15 : decode cX6_off 15 = .ok (.aload_n 0, 1) := by decide +kernel
theorem dX6_off_16 : decode cX6_off 16 = .ok (.bipush (-2), 2) := by decide +kernel
theorem dX6_off_18 : decode cX6_off 18 = .ok (.invokevirtual 65, 3) := by decide +kernel
theorem dX6_off_21 : decode cX6_off 21 = .ok (.ireturn, 1) := by decide +kernel
theorem dX6_off_22 : decode cX6_off 22 = .ok (.aload_n 0, 1) := by decide +kernel
theorem dX6_off_23 : decode cX6_off 23 = .ok (.invokevirtual 76, 3) := by decide +kernel
theorem dX6_off_26 : decode cX6_off 26 = .ok (.aload_n 0, 1) := by decide +kernel
theorem dX6_off_27 : decode cX6_off 27 = .ok (.getfield 12, 3) := by decide +kernel
theorem dX6_off_30 : decode cX6_off 30 = .ok (.getfield 97, 3) := by decide +kernel
theorem dX6_off_33 : decode cX6_off 33 = .ok (.iload_n 1, 1) := by decide +kernel
theorem dX6_off_34 : decode cX6_off 34 = .ok (.iaload, 1) := by decide +kernel
theorem dX6_off_35 : decode cX6_off 35 = .ok (.istore_n 3, 1) := by decide +kernel
theorem dX6_off_36 : decode cX6_off 36 = .ok (.aload_n 0, 1) := by decide +kernel
theorem dX6_off_37 : decode cX6_off 37 = .ok (.getfield 12, 3) := by decide +kernel
theorem dX6_off_40 : decode cX6_off 40 = .ok (.getfield 97, 3) := by decide +kernel
theorem dX6_off_43 : decode cX6_off 43 = .ok (.iload_n 1, 1) := by decide +kernel
theorem dX6_off_44 : decode cX6_off 44 = .ok (.iload_n 2, 1) := by decide +kernel
theorem dX6_off_45 : decode cX6_off 45 = .ok (.iastore, 1) := by decide +kernel
theorem dX6_off_46 : decode cX6_off 46 = .ok (.iload_n 3, 1) := by decide +kernel
theorem dX6_off_47 : decode cX6_off 47 = .ok (.ireturn, 1) := by decide +kernel
theorem dX6_drop_0 : decode cX6_drop 0 = .ok (.aload_n 0, 1) := by decide +kernel
theorem dX6_drop_1 : decode cX6_drop 1 = .ok (.iload_n 1, 1) := by decide +kernel
theorem dX6_drop_2 : decode cX6_drop 2 = .ok (.invokevirtual 94, 3) := by decide +kernel
theorem dX6_drop_5 : decode cX6_drop 5 = .ok (.ifCond .eq 9, 3) := by decide +kernel
theorem dX6_drop_8 : decode cX6_drop 8 = .ok (.iload_n 1, 1) := by decide +kernel
theorem dX6_drop_9 : decode cX6_drop 9 = .ok (.bipush 6, 2) := by decide +kernel
theorem dX6_drop_11 : decode cX6_drop 11 = .ok (.if_icmp .ge 10, 3) := by decide +kernel
theorem dX6_drop_14 : decode cX6_drop 14 = .ok (.aload_n 0, 1) := by decide +kernel
theorem dX6_drop_15 : decode cX6_drop 15 = .ok (.bipush (-2), 2) := by decide +kernel
theorem dX6_drop_17 : decode cX6_drop 17 = .ok (.invokevirtual 65, 3) := by decide +kernel
theorem dX6_drop_20 : decode cX6_drop 20 = .ok (.ireturn, 1) := by decide +kernel
theorem dX6_drop_21 : decode cX6_drop 21 = .ok (.aload_n 0, 1) := by decide +kernel
theorem dX6_drop_22 : decode cX6_drop 22 = .ok (.invokevirtual 76, 3) := by decide +kernel
theorem dX6_drop_25 : decode cX6_drop 25 = .ok (.aload_n 0, 1) := by decide +kernel
theorem dX6_drop_26 : decode cX6_drop 26 = .ok (.getfield 12, 3) := by decide +kernel
theorem dX6_drop_29 : decode cX6_drop 29 = .ok (.iload_n 1, 1) := by decide +kernel
theorem dX6_drop_30 : decode cX6_drop 30 = .ok (.invokevirtual 101, 3) := by decide +kernel
theorem dX6_drop_33 : decode cX6_drop 33 = .ok (.aload_n 0, 1) := by decide +kernel
theorem dX6_drop_34 : decode cX6_drop 34 = .ok (.getfield 12, 3) := by decide +kernel
theorem dX6_drop_37 : decode cX6_drop 37 = .ok (.getfield 69, 3) := by decide +kernel
theorem dX6_drop_40 : decode cX6_drop 40 = .ok (.ireturn, 1) := by decide +kernel
theorem dX6_anew_0 : decode cX6_anew 0 = .ok (.aload_n 0, 1) := by decide +kernel
theorem dX6_anew_1 : decode cX6_anew 1 = .ok (.getfield 12, 3) := by decide +kernel
theorem dX6_anew_4 : decode cX6_anew 4 = .ok (.getfield 69, 3) := by decide +kernel
theorem dX6_anew_7 : decode cX6_anew 7 = .ok (.istore_n 1, 1) := by decide +kernel
theorem dX6_anew_8 : decode cX6_anew 8 = .ok (.aload_n 0, 1) := by decide +kernel
theorem dX6_anew_9 : decode cX6_anew 9 = .ok (.invokevirtual 76, 3) := by decide +kernel
theorem dX6_anew_12 : decode cX6_anew 12 = .ok (.aload_n 0, 1) := by decide +kernel
theorem dX6_anew_13 : decode cX6_anew 13 = .ok (.getfield 12, 3) := by decide +kernel
theorem dX6_anew_16 : decode cX6_anew 16 = .ok (.invokevirtual 50, 3) := by decide +kernel
theorem dX6_anew_19 : decode cX6_anew 19 = .ok (.iload_n 1, 1) := by decide +kernel
theorem dX6_anew_20 : decode cX6_anew 20 = .ok (.ireturn, 1) := by decide +kernel
theorem dX6_draw_0 : decode cX6_draw 0 = .ok (.iload_n 1, 1) := by decide +kernel
theorem dX6_draw_1 : decode cX6_draw 1 = .ok (.ifCond .lt 20, 3) := by decide +kernel
theorem dX6_draw_4 : decode cX6_draw 4 = .ok (.iload_n 1, 1) := by decide +kernel
theorem dX6_draw_5 : decode cX6_draw 5 = .ok (.ldc 105, 2) := by decide +kernel
theorem dX6_draw_7 : decode cX6_draw 7 = .ok (.if_icmp .gt 14, 3) := by decide +kernel
theorem dX6_draw_10 : decode cX6_draw 10 = .ok (.iload_n 2, 1) := by decide +kernel
theorem dX6_draw_11 : decode cX6_draw 11 = .ok (.iconst 1, 1) := by decide +kernel
theorem dX6_draw_12 : decode cX6_draw 12 = .ok (.if_icmp .lt 9, 3) := by decide +kernel
theorem dX6_draw_15 : decode cX6_draw 15 = .ok (.iload_n 2, 1) := by decide +kernel
theorem dX6_draw_16 : decode cX6_draw 16 = .ok (.bipush 26, 2) := by decide +kernel
theorem dX6_draw_18 : decode cX6_draw 18 = .ok (.if_icmp .le 10, 3) := by decide +kernel
theorem dX6_draw_21 : decode cX6_draw 21 = .ok (.aload_n 0, 1) := by decide +kernel
theorem dX6_draw_22 : decode cX6_draw 22 = .ok (.bipush (-2), 2) := by decide +kernel
theorem dX6_draw_24 : decode cX6_draw 24 = .ok (.invokevirtual 65, 3) := by decide +kernel
theorem dX6_draw_27 : decode cX6_draw 27 = .ok (.ireturn, 1) := by decide +kernel
theorem dX6_draw_28 : decode cX6_draw 28 = .ok (.aload_n 0, 1) := by decide +kernel
theorem dX6_draw_29 : decode cX6_draw 29 = .ok (.invokevirtual 76, 3) := by decide +kernel
theorem dX6_draw_32 : decode cX6_draw 32 = .ok (.aload_n 0, 1) := by decide +kernel
theorem dX6_draw_33 : decode cX6_draw 33 = .ok (.getfield 12, 3) := by decide +kernel
theorem dX6_draw_36 : decode cX6_draw 36 = .ok (.bipush 6, 2) := by decide +kernel
theorem dX6_draw_38 : decode cX6_draw 38 = .ok (.putfield 69, 3) := by decide +kernel
theorem dX6_draw_41 : decode cX6_draw 41 = .ok (.iload_n 1, 1) := by decide +kernel
theorem dX6_draw_42 : decode cX6_draw 42 = .ok (.i2l, 1) := by decide +kernel
theorem dX6_draw_43 : decode cX6_draw 43 = .ok (.lstore_n 3, 1) := by decide +kernel
theorem dX6_draw_44 : decode cX6_draw 44 = .ok (.iconst 0, 1) := by decide +kernel
theorem dX6_draw_45 : decode cX6_draw 45 = .ok (.istore 5, 2) := by decide +kernel
theorem dX6_draw_47 : decode cX6_draw 47 = .ok (.iload 5, 2) := by decide +kernel
theorem dX6_draw_49 : decode cX6_draw 49 = .ok (.iload_n 2, 1) := by decide +kernel
theorem dX6_draw_50 : decode cX6_draw 50 = .ok (.if_icmp .ge 28, 3) := by decide +kernel
theorem dX6_draw_53 : decode cX6_draw 53 = .ok (.lload_n 3, 1) := by decide +kernel
theorem dX6_draw_54 : decode cX6_draw 54 = .ok (.ldc2_w 106, 3) := by decide +kernel
theorem dX6_draw_57 : decode cX6_draw 57 = .ok (.lmul, 1) := by decide +kernel
theorem dX6_draw_58 : decode cX6_draw 58 = .ok (.ldc2_w 108, 3) := by decide +kernel
theorem dX6_draw_61 : decode cX6_draw 61 = .ok (.ladd, 1) := by decide +kernel
theorem dX6_draw_62 : decode cX6_draw 62 = .ok (.ldc2_w 110, 3) := by decide +kernel
theorem dX6_draw_65 : decode cX6_draw 65 = .ok (.lrem, 1) := by decide +kernel
theorem dX6_draw_66 : decode cX6_draw 66 = .ok (.lstore_n 3, 1) := by decide +kernel
theorem dX6_draw_67 : decode cX6_draw 67 = .ok (.aload_n 0, 1) := by decide +kernel
theorem dX6_draw_68 : decode cX6_draw 68 = .ok (.lload_n 3, 1) := by decide +kernel
theorem dX6_draw_69 : decode cX6_draw 69 = .ok (.invokevirtual 112, 3) := by decide +kernel
theorem dX6_draw_72 : decode cX6_draw 72 = .ok (.iinc 5 1, 3) := by decide +kernel
theorem dX6_draw_75 : decode cX6_draw 75 = .ok (.goto (-28), 3) := by decide +kernel
theorem dX6_draw_78 : decode cX6_draw 78 = .ok (.aload_n 0, 1) := by decide +kernel
theorem dX6_draw_79 : decode cX6_draw 79 = .ok (.invokevirtual 116, 3) := by decide +kernel
theorem dX6_draw_82 : decode cX6_draw 82 = .ok (.getfield 120, 3) := by decide +kernel
theorem dX6_draw_85 : decode cX6_draw 85 = .ok (.ireturn, 1) := by decide +kernel
theorem dX6_of_0 : decode cX6_of 0 = .ok (.aload_n 0, 1) := by decide +kernel
theorem dX6_of_1 : decode cX6_of 1 = .ok (.iload_n 1, 1) := by decide +kernel
theorem dX6_of_2 : decode cX6_of 2 = .ok (.invokevirtual 94, 3) := by decide +kernel
theorem dX6_of_5 : decode cX6_of 5 = .ok (.ifCond .eq 13, 3) := by decide +kernel
theorem dX6_of_8 : decode cX6_of 8 = .ok (.iload_n 2, 1) := by decide +kernel
theorem dX6_of_9 : decode cX6_of 9 = .ok (.ifCond .lt 9, 3) := by decide +kernel
theorem dX6_of_12 : decode cX6_of 12 = .ok (.iload_n 2, 1) := by decide +kernel
theorem dX6_of_13 : decode cX6_of 13 = .ok (.bipush 6, 2) := by decide +kernel
theorem dX6_of_15 : decode cX6_of 15 = .ok (.if_icmp .le 10, 3) := by decide +kernel
theorem dX6_of_18 : decode cX6_of 18 = .ok (.aload_n 0, 1) := by decide +kernel
theorem dX6_of_19 : decode cX6_of 19 = .ok (.bipush (-100), 2) := by decide +kernel
theorem dX6_of_21 : decode cX6_of 21 = .ok (.invokevirtual 65, 3) := by decide +kernel
theorem dX6_of_24 : decode cX6_of 24 = .ok (.ireturn, 1) := by decide +kernel
theorem dX6_of_25 : decode cX6_of 25 = .ok (.aload_n 0, 1) := by decide +kernel
theorem dX6_of_26 : decode cX6_of 26 = .ok (.iload_n 1, 1) := by decide +kernel
theorem dX6_of_27 : decode cX6_of 27 = .ok (.iload_n 2, 1) := by decide +kernel
theorem dX6_of_28 : decode cX6_of 28 = .ok (.invokevirtual 123, 3) := by decide +kernel
theorem dX6_of_31 : decode cX6_of 31 = .ok (.ireturn, 1) := by decide +kernel
theorem dX6_member_0 : decode cX6_member 0 = .ok (.iload_n 1, 1) := by decide +kernel
theorem dX6_member_1 : decode cX6_member 1 = .ok (.invokestatic 83, 3) := by decide +kernel
theorem dX6_member_4 : decode cX6_member 4 = .ok (.ifCond .eq 19, 3) := by decide +kernel
theorem dX6_member_7 : decode cX6_member 7 = .ok (.iload_n 2, 1) := by decide +kernel
theorem dX6_member_8 : decode cX6_member 8 = .ok (.iload_n 3, 1) := by decide +kernel
theorem dX6_member_9 : decode cX6_member 9 = .ok (.iload 4, 2) := by decide +kernel
theorem dX6_member_11 : decode cX6_member 11 = .ok (.invokestatic 57, 3) := by decide +kernel
theorem dX6_member_14 : decode cX6_member 14 = .ok (.ifCond .eq 9, 3) := by decide +kernel
theorem dX6_member_17 : decode cX6_member 17 = .ok (.iload 5, 2) := by decide +kernel
theorem dX6_member_19 : decode cX6_member 19 = .ok (.iconst (-1), 1) := by decide +kernel
theorem dX6_member_20 : decode cX6_member 20 = .ok (.if_icmp .ge 10, 3) := by decide +kernel
theorem dX6_member_23 : decode cX6_member 23 = .ok (.aload_n 0, 1) := by decide +kernel
theorem dX6_member_24 : decode cX6_member 24 = .ok (.bipush (-10), 2) := by decide +kernel
theorem dX6_member_26 : decode cX6_member 26 = .ok (.invokevirtual 65, 3) := by decide +kernel
theorem dX6_member_29 : decode cX6_member 29 = .ok (.ireturn, 1) := by decide +kernel
theorem dX6_member_30 : decode cX6_member 30 = .ok (.aload_n 0, 1) := by decide +kernel
theorem dX6_member_31 : decode cX6_member 31 = .ok (.getfield 39, 3) := by decide +kernel
theorem dX6_member_34 : decode cX6_member 34 = .ok (.iload_n 1, 1) := by decide +kernel
theorem dX6_member_35 : decode cX6_member 35 = .ok (.iload_n 2, 1) := by decide +kernel
theorem dX6_member_36 : decode cX6_member 36 = .ok (.iload_n 3, 1) := by decide +kernel
theorem dX6_member_37 : decode cX6_member 37 = .ok (.iload 4, 2) := by decide +kernel
theorem dX6_member_39 : decode cX6_member 39 = .ok (.invokevirtual 86, 3) := by decide +kernel
theorem dX6_member_42 : decode cX6_member 42 = .ok (.iload 5, 2) := by decide +kernel
theorem dX6_member_44 : decode cX6_member 44 = .ok (.iconst (-1), 1) := by decide +kernel
theorem dX6_member_45 : decode cX6_member 45 = .ok (.if_icmp .ne 11, 3) := by decide +kernel
theorem dX6_member_48 : decode cX6_member 48 = .ok (.aload_n 0, 1) := by decide +kernel
theorem dX6_member_49 : decode cX6_member 49 = .ok (.getfield 39, 3) := by decide +kernel
theorem dX6_member_52 : decode cX6_member 52 = .ok (.getfield 89, 3) := by decide +kernel
theorem dX6_member_55 : decode cX6_member 55 = .ok (.ireturn, 1) := by decide +kernel
theorem dX6_member_56 : decode cX6_member 56 = .ok (.iload 5, 2) := by decide +kernel
theorem dX6_member_58 : decode cX6_member 58 = .ok (.aload_n 0, 1) := by decide +kernel
theorem dX6_member_59 : decode cX6_member 59 = .ok (.getfield 39, 3) := by decide +kernel
theorem dX6_member_62 : decode cX6_member 62 = .ok (.getfield 89, 3) := by decide +kernel
theorem dX6_member_65 : decode cX6_member 65 = .ok (.if_icmp .ge 16, 3) := by decide +kernel
theorem dX6_member_68 : decode cX6_member 68 = .ok (.aload_n 0, 1) := by decide +kernel
theorem dX6_member_69 : decode cX6_member 69 = .ok (.getfield 39, 3) := by decide +kernel
theorem dX6_member_72 : decode cX6_member 72 = .ok (.getfield 127, 3) := by decide +kernel
theorem dX6_member_75 : decode cX6_member 75 = .ok (.iload 5, 2) := by decide +kernel
theorem dX6_member_77 : decode cX6_member 77 = .ok (.iaload, 1) := by decide +kernel
theorem dX6_member_78 : decode cX6_member 78 = .ok (.goto 5, 3) := by decide +kernel
theorem dX6_member_81 : decode cX6_member 81 = .ok (.bipush (-5), 2) := by decide +kernel
theorem dX6_member_83 : decode cX6_member 83 = .ok (.ireturn, 1) := by decide +kernel
theorem dX6_all_0 : decode cX6_all 0 = .ok (.iload_n 1, 1) := by decide +kernel
theorem dX6_all_1 : decode cX6_all 1 = .ok (.tableswitch 114 0 6 #[43, 51, 59, 75, 83, 91, 106], 43) := by decide +kernel
theorem dX6_all_44 : decode cX6_all 44 = .ok (.aload_n 0, 1) := by decide +kernel
theorem dX6_all_45 : decode cX6_all 45 = .ok (.getfield 12, 3) := by decide +kernel
theorem dX6_all_48 : decode cX6_all 48 = .ok (.getfield 69, 3) := by decide +kernel
theorem dX6_all_51 : decode cX6_all 51 = .ok (.ireturn, 1) := by decide +kernel
theorem dX6_all_52 : decode cX6_all 52 = .ok (.aload_n 0, 1) := by decide +kernel
theorem dX6_all_53 : decode cX6_all 53 = .ok (.invokevirtual 116, 3) := by decide +kernel
theorem dX6_all_56 : decode cX6_all 56 = .ok (.invokevirtual 130, 3) := by decide +kernel
theorem dX6_all_59 : decode cX6_all 59 = .ok (.ireturn, 1) := by decide +kernel
theorem dX6_all_60 : decode cX6_all 60 = .ok (.aload_n 0, 1) := by decide +kernel
theorem dX6_all_61 : decode cX6_all 61 = .ok (.getfield 12, 3) := by decide +kernel
theorem dX6_all_64 : decode cX6_all 64 = .ok (.getfield 69, 3) := by decide +kernel
theorem dX6_all_67 : decode cX6_all 67 = .ok (.aload_n 0, 1) := by decide +kernel
theorem dX6_all_68 : decode cX6_all 68 = .ok (.invokevirtual 116, 3) := by decide +kernel
theorem dX6_all_71 : decode cX6_all 71 = .ok (.invokevirtual 130, 3) := by decide +kernel
theorem dX6_all_74 : decode cX6_all 74 = .ok (.isub, 1) := by decide +kernel
theorem dX6_all_75 : decode cX6_all 75 = .ok (.ireturn, 1) := by decide +kernel
theorem dX6_all_76 : decode cX6_all 76 = .ok (.aload_n 0, 1) := by decide +kernel
theorem dX6_all_77 : decode cX6_all 77 = .ok (.invokevirtual 116, 3) := by decide +kernel
theorem dX6_all_80 : decode cX6_all 80 = .ok (.getfield 120, 3) := by decide +kernel
theorem dX6_all_83 : decode cX6_all 83 = .ok (.ireturn, 1) := by decide +kernel
theorem dX6_all_84 : decode cX6_all 84 = .ok (.aload_n 0, 1) := by decide +kernel
theorem dX6_all_85 : decode cX6_all 85 = .ok (.invokevirtual 116, 3) := by decide +kernel
theorem dX6_all_88 : decode cX6_all 88 = .ok (.invokevirtual 133, 3) := by decide +kernel
theorem dX6_all_91 : decode cX6_all 91 = .ok (.ireturn, 1) := by decide +kernel
theorem dX6_all_92 : decode cX6_all 92 = .ok (.aload_n 0, 1) := by decide +kernel
theorem dX6_all_93 : decode cX6_all 93 = .ok (.invokevirtual 116, 3) := by decide +kernel
theorem dX6_all_96 : decode cX6_all 96 = .ok (.aload_n 0, 1) := by decide +kernel
theorem dX6_all_97 : decode cX6_all 97 = .ok (.getfield 12, 3) := by decide +kernel
theorem dX6_all_100 : decode cX6_all 100 = .ok (.getfield 69, 3) := by decide +kernel
theorem dX6_all_103 : decode cX6_all 103 = .ok (.invokevirtual 136, 3) := by decide +kernel
theorem dX6_all_106 : decode cX6_all 106 = .ok (.ireturn, 1) := by decide +kernel
theorem dX6_all_107 : decode cX6_all 107 = .ok (.aload_n 0, 1) := by decide +kernel
theorem dX6_all_108 : decode cX6_all 108 = .ok (.invokevirtual 116, 3) := by decide +kernel
theorem dX6_all_111 : decode cX6_all 111 = .ok (.invokevirtual 139, 3) := by decide +kernel
theorem dX6_all_114 : decode cX6_all 114 = .ok (.ireturn, 1) := by decide +kernel
theorem dX6_all_115 : decode cX6_all 115 = .ok (.aload_n 0, 1) := by decide +kernel
theorem dX6_all_116 : decode cX6_all 116 = .ok (.bipush (-2), 2) := by decide +kernel
theorem dX6_all_118 : decode cX6_all 118 = .ok (.invokevirtual 65, 3) := by decide +kernel
theorem dX6_all_121 : decode cX6_all 121 = .ok (.ireturn, 1) := by decide +kernel
theorem dX6_corner_0 : decode cX6_corner 0 = .ok (.iload_n 1, 1) := by decide +kernel
theorem dX6_corner_1 : decode cX6_corner 1 = .ok (.ifCond .lt 12, 3) := by decide +kernel
theorem dX6_corner_4 : decode cX6_corner 4 = .ok (.iload_n 2, 1) := by decide +kernel
theorem dX6_corner_5 : decode cX6_corner 5 = .ok (.ifCond .lt 8, 3) := by decide +kernel
theorem dX6_corner_8 : decode cX6_corner 8 = .ok (.iload_n 2, 1) := by decide +kernel
theorem dX6_corner_9 : decode cX6_corner 9 = .ok (.iconst 2, 1) := by decide +kernel
theorem dX6_corner_10 : decode cX6_corner 10 = .ok (.if_icmp .le 10, 3) := by decide +kernel
theorem dX6_corner_13 : decode cX6_corner 13 = .ok (.aload_n 0, 1) := by decide +kernel
theorem dX6_corner_14 : decode cX6_corner 14 = .ok (.bipush (-2), 2) := by decide +kernel
theorem dX6_corner_16 : decode cX6_corner 16 = .ok (.invokevirtual 65, 3) := by decide +kernel
theorem dX6_corner_19 : decode cX6_corner 19 = .ok (.ireturn, 1) := by decide +kernel
theorem dX6_corner_20 : decode cX6_corner 20 = .ok (.aload_n 0, 1) := by decide +kernel
theorem dX6_corner_21 : decode cX6_corner 21 = .ok (.invokevirtual 116, 3) := by decide +kernel
theorem dX6_corner_24 : decode cX6_corner 24 = .ok (.astore_n 3, 1) := by decide +kernel
theorem dX6_corner_25 : decode cX6_corner 25 = .ok (.iload_n 1, 1) := by decide +kernel
theorem dX6_corner_26 : decode cX6_corner 26 = .ok (.aload_n 3, 1) := by decide +kernel
theorem dX6_corner_27 : decode cX6_corner 27 = .ok (.getfield 120, 3) := by decide +kernel
theorem dX6_corner_30 : decode cX6_corner 30 = .ok (.if_icmp .lt 8, 3) := by decide +kernel
theorem dX6_corner_33 : decode cX6_corner 33 = .ok (.aload_n 0, 1) := by decide +kernel
theorem dX6_corner_34 : decode cX6_corner 34 = .ok (.invokevirtual 142, 3) := by decide +kernel
theorem dX6_corner_37 : decode cX6_corner 37 = .ok (.ireturn, 1) := by decide +kernel
theorem dX6_corner_38 : decode cX6_corner 38 = .ok (.aload_n 0, 1) := by decide +kernel
theorem dX6_corner_39 : decode cX6_corner 39 = .ok (.aload_n 3, 1) := by decide +kernel
theorem dX6_corner_40 : decode cX6_corner 40 = .ok (.iload_n 1, 1) := by decide +kernel
theorem dX6_corner_41 : decode cX6_corner 41 = .ok (.iload_n 2, 1) := by decide +kernel
theorem dX6_corner_42 : decode cX6_corner 42 = .ok (.invokevirtual 145, 3) := by decide +kernel
theorem dX6_corner_45 : decode cX6_corner 45 = .ok (.aload_n 3, 1) := by decide +kernel
theorem dX6_corner_46 : decode cX6_corner 46 = .ok (.getfield 148, 3) := by decide +kernel
theorem dX6_corner_49 : decode cX6_corner 49 = .ok (.iload_n 1, 1) := by decide +kernel
theorem dX6_corner_50 : decode cX6_corner 50 = .ok (.iaload, 1) := by decide +kernel
theorem dX6_corner_51 : decode cX6_corner 51 = .ok (.invokevirtual 151, 3) := by decide +kernel
theorem dX6_corner_54 : decode cX6_corner 54 = .ok (.iconst 1, 1) := by decide +kernel
theorem dX6_corner_55 : decode cX6_corner 55 = .ok (.ireturn, 1) := by decide +kernel
theorem dX6_meets_0 : decode cX6_meets 0 = .ok (.iload_n 1, 1) := by decide +kernel
theorem dX6_meets_1 : decode cX6_meets 1 = .ok (.ifCond .lt 12, 3) := by decide +kernel
theorem dX6_meets_4 : decode cX6_meets 4 = .ok (.iload_n 2, 1) := by decide +kernel
theorem dX6_meets_5 : decode cX6_meets 5 = .ok (.ifCond .lt 8, 3) := by decide +kernel
theorem dX6_meets_8 : decode cX6_meets 8 = .ok (.iload_n 2, 1) := by decide +kernel
theorem dX6_meets_9 : decode cX6_meets 9 = .ok (.iconst 1, 1) := by decide +kernel
theorem dX6_meets_10 : decode cX6_meets 10 = .ok (.if_icmp .le 10, 3) := by decide +kernel
theorem dX6_meets_13 : decode cX6_meets 13 = .ok (.aload_n 0, 1) := by decide +kernel
theorem dX6_meets_14 : decode cX6_meets 14 = .ok (.bipush (-2), 2) := by decide +kernel
theorem dX6_meets_16 : decode cX6_meets 16 = .ok (.invokevirtual 65, 3) := by decide +kernel
theorem dX6_meets_19 : decode cX6_meets 19 = .ok (.ireturn, 1) := by decide +kernel
theorem dX6_meets_20 : decode cX6_meets 20 = .ok (.aload_n 0, 1) := by decide +kernel
theorem dX6_meets_21 : decode cX6_meets 21 = .ok (.invokevirtual 116, 3) := by decide +kernel
theorem dX6_meets_24 : decode cX6_meets 24 = .ok (.astore_n 3, 1) := by decide +kernel
theorem dX6_meets_25 : decode cX6_meets 25 = .ok (.iload_n 1, 1) := by decide +kernel
theorem dX6_meets_26 : decode cX6_meets 26 = .ok (.aload_n 3, 1) := by decide +kernel
theorem dX6_meets_27 : decode cX6_meets 27 = .ok (.getfield 120, 3) := by decide +kernel
theorem dX6_meets_30 : decode cX6_meets 30 = .ok (.if_icmp .lt 5, 3) := by decide +kernel
theorem dX6_meets_33 : decode cX6_meets 33 = .ok (.iconst (-1), 1) := by decide +kernel
theorem dX6_meets_34 : decode cX6_meets 34 = .ok (.ireturn, 1) := by decide +kernel
theorem dX6_meets_35 : decode cX6_meets 35 = .ok (.iload_n 2, 1) := by decide +kernel
theorem dX6_meets_36 : decode cX6_meets 36 = .ok (.ifCond .ne 15, 3) := by decide +kernel
theorem dX6_meets_39 : decode cX6_meets 39 = .ok (.aload_n 3, 1) := by decide +kernel
theorem dX6_meets_40 : decode cX6_meets 40 = .ok (.getfield 155, 3) := by decide +kernel
theorem dX6_meets_43 : decode cX6_meets 43 = .ok (.iload_n 1, 1) := by decide +kernel
theorem dX6_meets_44 : decode cX6_meets 44 = .ok (.iaload, 1) := by decide +kernel
theorem dX6_meets_45 : decode cX6_meets 45 = .ok (.invokestatic 158, 3) := by decide +kernel
theorem dX6_meets_48 : decode cX6_meets 48 = .ok (.goto 9, 3) := by decide +kernel
theorem dX6_meets_51 : decode cX6_meets 51 = .ok (.aload_n 3, 1) := by decide +kernel
theorem dX6_meets_52 : decode cX6_meets 52 = .ok (.getfield 155, 3) := by decide +kernel
theorem dX6_meets_55 : decode cX6_meets 55 = .ok (.iload_n 1, 1) := by decide +kernel
theorem dX6_meets_56 : decode cX6_meets 56 = .ok (.iaload, 1) := by decide +kernel
theorem dX6_meets_57 : decode cX6_meets 57 = .ok (.ireturn, 1) := by decide +kernel
theorem dX6_part_0 : decode cX6_part 0 = .ok (.iload_n 1, 1) := by decide +kernel
theorem dX6_part_1 : decode cX6_part 1 = .ok (.ifCond .lt 8, 3) := by decide +kernel
theorem dX6_part_4 : decode cX6_part 4 = .ok (.iload_n 1, 1) := by decide +kernel
theorem dX6_part_5 : decode cX6_part 5 = .ok (.iconst 1, 1) := by decide +kernel
theorem dX6_part_6 : decode cX6_part 6 = .ok (.if_icmp .le 14, 3) := by decide +kernel
theorem dX6_part_9 : decode cX6_part 9 = .ok (.aload_n 0, 1) := by decide +kernel
theorem dX6_part_10 : decode cX6_part 10 = .ok (.bipush (-2), 2) := by decide +kernel
theorem dX6_part_12 : decode cX6_part 12 = .ok (.invokevirtual 65, 3) := by decide +kernel
theorem dX6_part_15 : decode cX6_part 15 = .ok (.pop, 1) := by decide +kernel
theorem dX6_part_16 : decode cX6_part 16 = .ok (.ldc2_w 163, 3) := by decide +kernel
theorem dX6_part_19 : decode cX6_part 19 = .ok (.lreturn, 1) := by decide +kernel
theorem dX6_part_20 : decode cX6_part 20 = .ok (.iload_n 1, 1) := by decide +kernel
theorem dX6_part_21 : decode cX6_part 21 = .ok (.ifCond .ne 11, 3) := by decide +kernel
theorem dX6_part_24 : decode cX6_part 24 = .ok (.aload_n 0, 1) := by decide +kernel
theorem dX6_part_25 : decode cX6_part 25 = .ok (.getfield 165, 3) := by decide +kernel
theorem dX6_part_28 : decode cX6_part 28 = .ok (.i2l, 1) := by decide +kernel
theorem dX6_part_29 : decode cX6_part 29 = .ok (.goto 8, 3) := by decide +kernel
theorem dX6_part_32 : decode cX6_part 32 = .ok (.aload_n 0, 1) := by decide +kernel
theorem dX6_part_33 : decode cX6_part 33 = .ok (.getfield 53, 3) := by decide +kernel
theorem dX6_part_36 : decode cX6_part 36 = .ok (.i2l, 1) := by decide +kernel
theorem dX6_part_37 : decode cX6_part 37 = .ok (.lreturn, 1) := by decide +kernel
theorem dX6_edge_0 : decode cX6_edge 0 = .ok (.aload_n 0, 1) := by decide +kernel
theorem dX6_edge_1 : decode cX6_edge 1 = .ok (.iload_n 1, 1) := by decide +kernel
theorem dX6_edge_2 : decode cX6_edge 2 = .ok (.invokevirtual 94, 3) := by decide +kernel
theorem dX6_edge_5 : decode cX6_edge 5 = .ok (.ifCond .eq 25, 3) := by decide +kernel
theorem dX6_edge_8 : decode cX6_edge 8 = .ok (.aload_n 0, 1) := by decide +kernel
theorem dX6_edge_9 : decode cX6_edge 9 = .ok (.iload_n 2, 1) := by decide +kernel
theorem dX6_edge_10 : decode cX6_edge 10 = .ok (.invokevirtual 94, 3) := by decide +kernel
theorem dX6_edge_13 : decode cX6_edge 13 = .ok (.ifCond .eq 17, 3) := by decide +kernel
theorem dX6_edge_16 : decode cX6_edge 16 = .ok (.iload_n 1, 1) := by decide +kernel
theorem dX6_edge_17 : decode cX6_edge 17 = .ok (.iload_n 2, 1) := by decide +kernel
theorem dX6_edge_18 : decode cX6_edge 18 = .ok (.if_icmp .eq 12, 3) := by decide +kernel
theorem dX6_edge_21 : decode cX6_edge 21 = .ok (.iload_n 3, 1) := by decide +kernel
theorem dX6_edge_22 : decode cX6_edge 22 = .ok (.ifCond .lt 8, 3) := by decide +kernel
theorem dX6_edge_25 : decode cX6_edge 25 = .ok (.iload_n 3, 1) := by decide +kernel
theorem dX6_edge_26 : decode cX6_edge 26 = .ok (.iconst 4, 1) := by decide +kernel
theorem dX6_edge_27 : decode cX6_edge 27 = .ok (.if_icmp .le 10, 3) := by decide +kernel
theorem dX6_edge_30 : decode cX6_edge 30 = .ok (.aload_n 0, 1) := by decide +kernel
theorem dX6_edge_31 : decode cX6_edge 31 = .ok (.bipush (-100), 2) := by decide +kernel
theorem dX6_edge_33 : decode cX6_edge 33 = .ok (.invokevirtual 65, 3) := by decide +kernel
theorem dX6_edge_36 : decode cX6_edge 36 = .ok (.ireturn, 1) := by decide +kernel
theorem dX6_edge_37 : decode cX6_edge 37 = .ok (.aload_n 0, 1) := by decide +kernel
theorem dX6_edge_38 : decode cX6_edge 38 = .ok (.invokevirtual 116, 3) := by decide +kernel
theorem dX6_edge_41 : decode cX6_edge 41 = .ok (.astore 4, 2) := by decide +kernel
theorem dX6_edge_43 : decode cX6_edge 43 = .ok (.aload 4, 2) := by decide +kernel
theorem dX6_edge_45 : decode cX6_edge 45 = .ok (.iload_n 1, 1) := by decide +kernel
theorem dX6_edge_46 : decode cX6_edge 46 = .ok (.iload_n 2, 1) := by decide +kernel
theorem dX6_edge_47 : decode cX6_edge 47 = .ok (.invokevirtual 168, 3) := by decide +kernel
theorem dX6_edge_50 : decode cX6_edge 50 = .ok (.istore 5, 2) := by decide +kernel
theorem dX6_edge_52 : decode cX6_edge 52 = .ok (.iload_n 3, 1) := by decide +kernel
theorem dX6_edge_53 : decode cX6_edge 53 = .ok (.iconst 4, 1) := by decide +kernel
theorem dX6_edge_54 : decode cX6_edge 54 = .ok (.if_icmp .ne 6, 3) := by decide +kernel
theorem dX6_edge_57 : decode cX6_edge 57 = .ok (.iload 5, 2) := by decide +kernel
theorem dX6_edge_59 : decode cX6_edge 59 = .ok (.ireturn, 1) := by decide +kernel
theorem dX6_edge_60 : decode cX6_edge 60 = .ok (.iload 5, 2) := by decide +kernel
theorem dX6_edge_62 : decode cX6_edge 62 = .ok (.iconst 2, 1) := by decide +kernel
theorem dX6_edge_63 : decode cX6_edge 63 = .ok (.if_icmp .lt 21, 3) := by decide +kernel
theorem dX6_edge_66 : decode cX6_edge 66 = .ok (.aload 4, 2) := by decide +kernel
theorem dX6_edge_68 : decode cX6_edge 68 = .ok (.iload_n 1, 1) := by decide +kernel
theorem dX6_edge_69 : decode cX6_edge 69 = .ok (.invokevirtual 171, 3) := by decide +kernel
theorem dX6_edge_72 : decode cX6_edge 72 = .ok (.ifCond .eq 12, 3) := by decide +kernel
theorem dX6_edge_75 : decode cX6_edge 75 = .ok (.aload 4, 2) := by decide +kernel
theorem dX6_edge_77 : decode cX6_edge 77 = .ok (.iload_n 2, 1) := by decide +kernel
theorem dX6_edge_78 : decode cX6_edge 78 = .ok (.invokevirtual 171, 3) := by decide +kernel
theorem dX6_edge_81 : decode cX6_edge 81 = .ok (.ifCond .ne 5, 3) := by decide +kernel
theorem dX6_edge_84 : decode cX6_edge 84 = .ok (.iconst 0, 1) := by decide +kernel
theorem dX6_edge_85 : decode cX6_edge 85 = .ok (.ireturn, 1) := by decide +kernel
theorem dX6_edge_86 : decode cX6_edge 86 = .ok (.iload_n 3, 1) := by decide +kernel
theorem dX6_edge_87 : decode cX6_edge 87 = .ok (.ifCond .ne 7, 3) := by decide +kernel
theorem dX6_edge_90 : decode cX6_edge 90 = .ok (.iconst 1, 1) := by decide +kernel
theorem dX6_edge_91 : decode cX6_edge 91 = .ok (.goto 15, 3) := by decide +kernel
theorem dX6_edge_94 : decode cX6_edge 94 = .ok (.aload_n 0, 1) := by decide +kernel
theorem dX6_edge_95 : decode cX6_edge 95 = .ok (.getfield 12, 3) := by decide +kernel
theorem dX6_edge_98 : decode cX6_edge 98 = .ok (.iload_n 1, 1) := by decide +kernel
theorem dX6_edge_99 : decode cX6_edge 99 = .ok (.iload_n 2, 1) := by decide +kernel
theorem dX6_edge_100 : decode cX6_edge 100 = .ok (.iload_n 3, 1) := by decide +kernel
theorem dX6_edge_101 : decode cX6_edge 101 = .ok (.iconst 1, 1) := by decide +kernel
theorem dX6_edge_102 : decode cX6_edge 102 = .ok (.isub, 1) := by decide +kernel
theorem dX6_edge_103 : decode cX6_edge 103 = .ok (.invokevirtual 174, 3) := by decide +kernel
theorem dX6_edge_106 : decode cX6_edge 106 = .ok (.ireturn, 1) := by decide +kernel
theorem dX6_reach_0 : decode cX6_reach 0 = .ok (.iload_n 1, 1) := by decide +kernel
theorem dX6_reach_1 : decode cX6_reach 1 = .ok (.iload_n 2, 1) := by decide +kernel
theorem dX6_reach_2 : decode cX6_reach 2 = .ok (.iload_n 3, 1) := by decide +kernel
theorem dX6_reach_3 : decode cX6_reach 3 = .ok (.invokestatic 57, 3) := by decide +kernel
theorem dX6_reach_6 : decode cX6_reach 6 = .ok (.ifCond .ne 10, 3) := by decide +kernel
theorem dX6_reach_9 : decode cX6_reach 9 = .ok (.aload_n 0, 1) := by decide +kernel
theorem dX6_reach_10 : decode cX6_reach 10 = .ok (.bipush (-2), 2) := by decide +kernel
theorem dX6_reach_12 : decode cX6_reach 12 = .ok (.invokevirtual 65, 3) := by decide +kernel
theorem dX6_reach_15 : decode cX6_reach 15 = .ok (.ireturn, 1) := by decide +kernel
theorem dX6_reach_16 : decode cX6_reach 16 = .ok (.aload_n 0, 1) := by decide +kernel
theorem dX6_reach_17 : decode cX6_reach 17 = .ok (.invokevirtual 116, 3) := by decide +kernel
theorem dX6_reach_20 : decode cX6_reach 20 = .ok (.astore 4, 2) := by decide +kernel
theorem dX6_reach_22 : decode cX6_reach 22 = .ok (.aload 4, 2) := by decide +kernel
theorem dX6_reach_24 : decode cX6_reach 24 = .ok (.iload_n 1, 1) := by decide +kernel
theorem dX6_reach_25 : decode cX6_reach 25 = .ok (.iload_n 2, 1) := by decide +kernel
theorem dX6_reach_26 : decode cX6_reach 26 = .ok (.iload_n 3, 1) := by decide +kernel
theorem dX6_reach_27 : decode cX6_reach 27 = .ok (.invokevirtual 178, 3) := by decide +kernel
theorem dX6_reach_30 : decode cX6_reach 30 = .ok (.istore 5, 2) := by decide +kernel
theorem dX6_reach_32 : decode cX6_reach 32 = .ok (.aload 4, 2) := by decide +kernel
theorem dX6_reach_34 : decode cX6_reach 34 = .ok (.iload 5, 2) := by decide +kernel
theorem dX6_reach_36 : decode cX6_reach 36 = .ok (.iload_n 1, 1) := by decide +kernel
theorem dX6_reach_37 : decode cX6_reach 37 = .ok (.iload_n 2, 1) := by decide +kernel
theorem dX6_reach_38 : decode cX6_reach 38 = .ok (.iload_n 3, 1) := by decide +kernel
theorem dX6_reach_39 : decode cX6_reach 39 = .ok (.invokevirtual 181, 3) := by decide +kernel
theorem dX6_reach_42 : decode cX6_reach 42 = .ok (.istore 6, 2) := by decide +kernel
theorem dX6_reach_44 : decode cX6_reach 44 = .ok (.aload_n 0, 1) := by decide +kernel
theorem dX6_reach_45 : decode cX6_reach 45 = .ok (.iload 6, 2) := by decide +kernel
theorem dX6_reach_47 : decode cX6_reach 47 = .ok (.aload 4, 2) := by decide +kernel
theorem dX6_reach_49 : decode cX6_reach 49 = .ok (.getfield 148, 3) := by decide +kernel
theorem dX6_reach_52 : decode cX6_reach 52 = .ok (.iload 5, 2) := by decide +kernel
theorem dX6_reach_54 : decode cX6_reach 54 = .ok (.iaload, 1) := by decide +kernel
theorem dX6_reach_55 : decode cX6_reach 55 = .ok (.invokevirtual 151, 3) := by decide +kernel
theorem dX6_reach_58 : decode cX6_reach 58 = .ok (.aload 4, 2) := by decide +kernel
theorem dX6_reach_60 : decode cX6_reach 60 = .ok (.iload_n 1, 1) := by decide +kernel
theorem dX6_reach_61 : decode cX6_reach 61 = .ok (.iload_n 2, 1) := by decide +kernel
theorem dX6_reach_62 : decode cX6_reach 62 = .ok (.iload_n 3, 1) := by decide +kernel
theorem dX6_reach_63 : decode cX6_reach 63 = .ok (.iload 5, 2) := by decide +kernel
theorem dX6_reach_65 : decode cX6_reach 65 = .ok (.invokevirtual 185, 3) := by decide +kernel
theorem dX6_reach_68 : decode cX6_reach 68 = .ok (.ireturn, 1) := by decide +kernel
theorem dX6_stays_0 : decode cX6_stays 0 = .ok (.iload_n 1, 1) := by decide +kernel
theorem dX6_stays_1 : decode cX6_stays 1 = .ok (.ifCond .lt 9, 3) := by decide +kernel
theorem dX6_stays_4 : decode cX6_stays 4 = .ok (.iload_n 1, 1) := by decide +kernel
theorem dX6_stays_5 : decode cX6_stays 5 = .ok (.bipush 6, 2) := by decide +kernel
theorem dX6_stays_7 : decode cX6_stays 7 = .ok (.if_icmp .lt 10, 3) := by decide +kernel
theorem dX6_stays_10 : decode cX6_stays 10 = .ok (.aload_n 0, 1) := by decide +kernel
theorem dX6_stays_11 : decode cX6_stays 11 = .ok (.bipush (-2), 2) := by decide +kernel
theorem dX6_stays_13 : decode cX6_stays 13 = .ok (.invokevirtual 65, 3) := by decide +kernel
theorem dX6_stays_16 : decode cX6_stays 16 = .ok (.ireturn, 1) := by decide +kernel
theorem dX6_stays_17 : decode cX6_stays 17 = .ok (.aload_n 0, 1) := by decide +kernel
theorem dX6_stays_18 : decode cX6_stays 18 = .ok (.invokevirtual 116, 3) := by decide +kernel
theorem dX6_stays_21 : decode cX6_stays 21 = .ok (.iload_n 1, 1) := by decide +kernel
theorem dX6_stays_22 : decode cX6_stays 22 = .ok (.invokevirtual 188, 3) := by decide +kernel
theorem dX6_stays_25 : decode cX6_stays 25 = .ok (.ifCond .eq 7, 3) := by decide +kernel
theorem dX6_stays_28 : decode cX6_stays 28 = .ok (.iconst 1, 1) := by decide +kernel
theorem dX6_stays_29 : decode cX6_stays 29 = .ok (.goto 4, 3) := by decide +kernel
theorem dX6_stays_32 : decode cX6_stays 32 = .ok (.iconst 0, 1) := by decide +kernel
theorem dX6_stays_33 : decode cX6_stays 33 = .ok (.ireturn, 1) := by decide +kernel
theorem dX6_symmetry_0 : decode cX6_symmetry 0 = .ok (.aload_n 0, 1) := by decide +kernel
theorem dX6_symmetry_1 : decode cX6_symmetry 1 = .ok (.invokevirtual 116, 3) := by decide +kernel
theorem dX6_symmetry_4 : decode cX6_symmetry 4 = .ok (.astore_n 1, 1) := by decide +kernel
theorem dX6_symmetry_5 : decode cX6_symmetry 5 = .ok (.iconst 0, 1) := by decide +kernel
theorem dX6_symmetry_6 : decode cX6_symmetry 6 = .ok (.istore_n 2, 1) := by decide +kernel
theorem dX6_symmetry_7 : decode cX6_symmetry 7 = .ok (.iconst 0, 1) := by decide +kernel
theorem dX6_symmetry_8 : decode cX6_symmetry 8 = .ok (.istore_n 3, 1) := by decide +kernel
theorem dX6_symmetry_9 : decode cX6_symmetry 9 = .ok (.iload_n 3, 1) := by decide +kernel
theorem dX6_symmetry_10 : decode cX6_symmetry 10 = .ok (.bipush 6, 2) := by decide +kernel
theorem dX6_symmetry_12 : decode cX6_symmetry 12 = .ok (.if_icmp .ge 23, 3) := by decide +kernel
theorem dX6_symmetry_15 : decode cX6_symmetry 15 = .ok (.aload_n 1, 1) := by decide +kernel
theorem dX6_symmetry_16 : decode cX6_symmetry 16 = .ok (.iload_n 3, 1) := by decide +kernel
