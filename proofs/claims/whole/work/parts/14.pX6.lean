theorem dX6_bringImage_0 : decode cX6_bringImage 0 = .ok (.aload_n 0, 1) := by decide +kernel
theorem dX6_bringImage_1 : decode cX6_bringImage 1 = .ok (.getfield 35, 3) := by decide +kernel
theorem dX6_bringImage_4 : decode cX6_bringImage 4 = .ok (.ifCond .ne 5, 3) := by decide +kernel
theorem dX6_bringImage_7 : decode cX6_bringImage 7 = .ok (.iconst 0, 1) := by decide +kernel
theorem dX6_bringImage_8 : decode cX6_bringImage 8 = .ok (.ireturn, 1) := by decide +kernel
theorem dX6_bringImage_9 : decode cX6_bringImage 9 = .ok (.iconst 0, 1) := by decide +kernel
theorem dX6_bringImage_10 : decode cX6_bringImage 10 = .ok (.istore_n 1, 1) := by decide +kernel
theorem dX6_bringImage_11 : decode cX6_bringImage 11 = .ok (.iload_n 1, 1) := by decide +kernel
theorem dX6_bringImage_12 : decode cX6_bringImage 12 = .ok (.bipush 8, 2) := by decide +kernel
theorem dX6_bringImage_14 : decode cX6_bringImage 14 = .ok (.if_icmp .ge 21, 3) := by decide +kernel
theorem dX6_bringImage_17 : decode cX6_bringImage 17 = .ok (.aload_n 0, 1) := by decide +kernel
theorem dX6_bringImage_18 : decode cX6_bringImage 18 = .ok (.getfield 11, 3) := by decide +kernel
theorem dX6_bringImage_21 : decode cX6_bringImage 21 = .ok (.iload_n 1, 1) := by decide +kernel
theorem dX6_bringImage_22 : decode cX6_bringImage 22 = .ok (.aload_n 0, 1) := by decide +kernel
theorem dX6_bringImage_23 : decode cX6_bringImage 23 = .ok (.getfield 24, 3) := by decide +kernel
theorem dX6_bringImage_26 : decode cX6_bringImage 26 = .ok (.iload_n 1, 1) := by decide +kernel
theorem dX6_bringImage_27 : decode cX6_bringImage 27 = .ok (.aaload, 1) := by decide +kernel
theorem dX6_bringImage_28 : decode cX6_bringImage 28 = .ok (.aastore, 1) := by decide +kernel
theorem dX6_bringImage_29 : decode cX6_bringImage 29 = .ok (.iinc 1 1, 3) := by decide +kernel
theorem dX6_bringImage_32 : decode cX6_bringImage 32 = .ok (.goto (-21), 3) := by decide +kernel
theorem dX6_bringImage_35 : decode cX6_bringImage 35 = .ok (.aload_n 0, 1) := by decide +kernel
theorem dX6_bringImage_36 : decode cX6_bringImage 36 = .ok (.iconst 0, 1) := by decide +kernel
theorem dX6_bringImage_37 : decode cX6_bringImage 37 = .ok (.putfield 31, 3) := by decide +kernel
theorem dX6_bringImage_40 : decode cX6_bringImage 40 = .ok (.iconst 1, 1) := by decide +kernel
theorem dX6_bringImage_41 : decode cX6_bringImage 41 = .ok (.ireturn, 1) := by decide +kernel
theorem dX6_held_0 : decode cX6_held 0 = .ok (.iload_n 1, 1) := by decide +kernel
theorem dX6_held_1 : decode cX6_held 1 = .ok (.ifCond .lt 21, 3) := by decide +kernel
theorem dX6_held_4 : decode cX6_held 4 = .ok (.iload_n 1, 1) := by decide +kernel
theorem dX6_held_5 : decode cX6_held 5 = .ok (.aload_n 0, 1) := by decide +kernel
theorem dX6_held_6 : decode cX6_held 6 = .ok (.getfield 11, 3) := by decide +kernel
theorem dX6_held_9 : decode cX6_held 9 = .ok (.arraylength, 1) := by decide +kernel
theorem dX6_held_10 : decode cX6_held 10 = .ok (.if_icmp .ge 12, 3) := by decide +kernel
theorem dX6_held_13 : decode cX6_held 13 = .ok (.aload_n 0, 1) := by decide +kernel
theorem dX6_held_14 : decode cX6_held 14 = .ok (.getfield 11, 3) := by decide +kernel
theorem dX6_held_17 : decode cX6_held 17 = .ok (.iload_n 1, 1) := by decide +kernel
theorem dX6_held_18 : decode cX6_held 18 = .ok (.aaload, 1) := by decide +kernel
theorem dX6_held_19 : decode cX6_held 19 = .ok (.goto 7, 3) := by decide +kernel
theorem dX6_held_22 : decode cX6_held 22 = .ok (.aload_n 0, 1) := by decide +kernel
theorem dX6_held_23 : decode cX6_held 23 = .ok (.getfield 27, 3) := by decide +kernel
theorem dX6_held_26 : decode cX6_held 26 = .ok (.areturn, 1) := by decide +kernel
theorem dX6_hold_0 : decode cX6_hold 0 = .ok (.iload_n 1, 1) := by decide +kernel
theorem dX6_hold_1 : decode cX6_hold 1 = .ok (.ifCond .lt 12, 3) := by decide +kernel
theorem dX6_hold_4 : decode cX6_hold 4 = .ok (.iload_n 1, 1) := by decide +kernel
theorem dX6_hold_5 : decode cX6_hold 5 = .ok (.aload_n 0, 1) := by decide +kernel
theorem dX6_hold_6 : decode cX6_hold 6 = .ok (.getfield 11, 3) := by decide +kernel
theorem dX6_hold_9 : decode cX6_hold 9 = .ok (.arraylength, 1) := by decide +kernel
theorem dX6_hold_10 : decode cX6_hold 10 = .ok (.if_icmp .lt 4, 3) := by decide +kernel
theorem dX6_hold_13 : decode cX6_hold 13 = .ok (.return_, 1) := by decide +kernel
theorem dX6_hold_14 : decode cX6_hold 14 = .ok (.aload_n 0, 1) := by decide +kernel
theorem dX6_hold_15 : decode cX6_hold 15 = .ok (.getfield 31, 3) := by decide +kernel
theorem dX6_hold_18 : decode cX6_hold 18 = .ok (.bipush 8, 2) := by decide +kernel
theorem dX6_hold_20 : decode cX6_hold 20 = .ok (.if_icmp .lt 51, 3) := by decide +kernel
theorem dX6_hold_23 : decode cX6_hold 23 = .ok (.iconst 1, 1) := by decide +kernel
theorem dX6_hold_24 : decode cX6_hold 24 = .ok (.istore_n 3, 1) := by decide +kernel
theorem dX6_hold_25 : decode cX6_hold 25 = .ok (.iload_n 3, 1) := by decide +kernel
theorem dX6_hold_26 : decode cX6_hold 26 = .ok (.bipush 8, 2) := by decide +kernel
theorem dX6_hold_28 : decode cX6_hold 28 = .ok (.if_icmp .ge 37, 3) := by decide +kernel
theorem dX6_hold_31 : decode cX6_hold 31 = .ok (.aload_n 0, 1) := by decide +kernel
theorem dX6_hold_32 : decode cX6_hold 32 = .ok (.getfield 17, 3) := by decide +kernel
theorem dX6_hold_35 : decode cX6_hold 35 = .ok (.iload_n 3, 1) := by decide +kernel
theorem dX6_hold_36 : decode cX6_hold 36 = .ok (.iconst 1, 1) := by decide +kernel
theorem dX6_hold_37 : decode cX6_hold 37 = .ok (.isub, 1) := by decide +kernel
theorem dX6_hold_38 : decode cX6_hold 38 = .ok (.aload_n 0, 1) := by decide +kernel
theorem dX6_hold_39 : decode cX6_hold 39 = .ok (.getfield 17, 3) := by decide +kernel
theorem dX6_hold_42 : decode cX6_hold 42 = .ok (.iload_n 3, 1) := by decide +kernel
theorem dX6_hold_43 : decode cX6_hold 43 = .ok (.iaload, 1) := by decide +kernel
theorem dX6_hold_44 : decode cX6_hold 44 = .ok (.iastore, 1) := by decide +kernel
theorem dX6_hold_45 : decode cX6_hold 45 = .ok (.aload_n 0, 1) := by decide +kernel
theorem dX6_hold_46 : decode cX6_hold 46 = .ok (.getfield 21, 3) := by decide +kernel
theorem dX6_hold_49 : decode cX6_hold 49 = .ok (.iload_n 3, 1) := by decide +kernel
theorem dX6_hold_50 : decode cX6_hold 50 = .ok (.iconst 1, 1) := by decide +kernel
theorem dX6_hold_51 : decode cX6_hold 51 = .ok (.isub, 1) := by decide +kernel
theorem dX6_hold_52 : decode cX6_hold 52 = .ok (.aload_n 0, 1) := by decide +kernel
theorem dX6_hold_53 : decode cX6_hold 53 = .ok (.getfield 21, 3) := by decide +kernel
theorem dX6_hold_56 : decode cX6_hold 56 = .ok (.iload_n 3, 1) := by decide +kernel
theorem dX6_hold_57 : decode cX6_hold 57 = .ok (.aaload, 1) := by decide +kernel
theorem dX6_hold_58 : decode cX6_hold 58 = .ok (.aastore, 1) := by decide +kernel
theorem dX6_hold_59 : decode cX6_hold 59 = .ok (.iinc 3 1, 3) := by decide +kernel
theorem dX6_hold_62 : decode cX6_hold 62 = .ok (.goto (-37), 3) := by decide +kernel
theorem dX6_hold_65 : decode cX6_hold 65 = .ok (.aload_n 0, 1) := by decide +kernel
theorem dX6_hold_66 : decode cX6_hold 66 = .ok (.bipush 7, 2) := by decide +kernel
theorem dX6_hold_68 : decode cX6_hold 68 = .ok (.putfield 31, 3) := by decide +kernel
theorem dX6_hold_71 : decode cX6_hold 71 = .ok (.aload_n 0, 1) := by decide +kernel
theorem dX6_hold_72 : decode cX6_hold 72 = .ok (.getfield 31, 3) := by decide +kernel
theorem dX6_hold_75 : decode cX6_hold 75 = .ok (.ifCond .lt 38, 3) := by decide +kernel
theorem dX6_hold_78 : decode cX6_hold 78 = .ok (.aload_n 0, 1) := by decide +kernel
theorem dX6_hold_79 : decode cX6_hold 79 = .ok (.getfield 17, 3) := by decide +kernel
theorem dX6_hold_82 : decode cX6_hold 82 = .ok (.aload_n 0, 1) := by decide +kernel
theorem dX6_hold_83 : decode cX6_hold 83 = .ok (.getfield 31, 3) := by decide +kernel
theorem dX6_hold_86 : decode cX6_hold 86 = .ok (.iload_n 1, 1) := by decide +kernel
theorem dX6_hold_87 : decode cX6_hold 87 = .ok (.iastore, 1) := by decide +kernel
theorem dX6_hold_88 : decode cX6_hold 88 = .ok (.aload_n 0, 1) := by decide +kernel
theorem dX6_hold_89 : decode cX6_hold 89 = .ok (.getfield 21, 3) := by decide +kernel
theorem dX6_hold_92 : decode cX6_hold 92 = .ok (.aload_n 0, 1) := by decide +kernel
theorem dX6_hold_93 : decode cX6_hold 93 = .ok (.getfield 31, 3) := by decide +kernel
theorem dX6_hold_96 : decode cX6_hold 96 = .ok (.aload_n 0, 1) := by decide +kernel
theorem dX6_hold_97 : decode cX6_hold 97 = .ok (.getfield 11, 3) := by decide +kernel
theorem dX6_hold_100 : decode cX6_hold 100 = .ok (.iload_n 1, 1) := by decide +kernel
theorem dX6_hold_101 : decode cX6_hold 101 = .ok (.aaload, 1) := by decide +kernel
theorem dX6_hold_102 : decode cX6_hold 102 = .ok (.aastore, 1) := by decide +kernel
theorem dX6_hold_103 : decode cX6_hold 103 = .ok (.aload_n 0, 1) := by decide +kernel
theorem dX6_hold_104 : decode cX6_hold 104 = .ok (.dup, 1) := by decide +kernel
theorem dX6_hold_105 : decode cX6_hold 105 = .ok (.getfield 31, 3) := by decide +kernel
theorem dX6_hold_108 : decode cX6_hold 108 = .ok (.iconst 1, 1) := by decide +kernel
theorem dX6_hold_109 : decode cX6_hold 109 = .ok (.iadd, 1) := by decide +kernel
theorem dX6_hold_110 : decode cX6_hold 110 = .ok (.putfield 31, 3) := by decide +kernel
theorem dX6_hold_113 : decode cX6_hold 113 = .ok (.aload_n 0, 1) := by decide +kernel
theorem dX6_hold_114 : decode cX6_hold 114 = .ok (.getfield 11, 3) := by decide +kernel
theorem dX6_hold_117 : decode cX6_hold 117 = .ok (.iload_n 1, 1) := by decide +kernel
theorem dX6_hold_118 : decode cX6_hold 118 = .ok (.aload_n 2, 1) := by decide +kernel
theorem dX6_hold_119 : decode cX6_hold 119 = .ok (.aastore, 1) := by decide +kernel
theorem dX6_hold_120 : decode cX6_hold 120 = .ok (.return_, 1) := by decide +kernel
theorem dX6_keepImage_0 : decode cX6_keepImage 0 = .ok (.iconst 0, 1) := by decide +kernel
theorem dX6_keepImage_1 : decode cX6_keepImage 1 = .ok (.istore_n 1, 1) := by decide +kernel
theorem dX6_keepImage_2 : decode cX6_keepImage 2 = .ok (.iload_n 1, 1) := by decide +kernel
theorem dX6_keepImage_3 : decode cX6_keepImage 3 = .ok (.bipush 8, 2) := by decide +kernel
theorem dX6_keepImage_5 : decode cX6_keepImage 5 = .ok (.if_icmp .ge 21, 3) := by decide +kernel
theorem dX6_keepImage_8 : decode cX6_keepImage 8 = .ok (.aload_n 0, 1) := by decide +kernel
theorem dX6_keepImage_9 : decode cX6_keepImage 9 = .ok (.getfield 24, 3) := by decide +kernel
theorem dX6_keepImage_12 : decode cX6_keepImage 12 = .ok (.iload_n 1, 1) := by decide +kernel
theorem dX6_keepImage_13 : decode cX6_keepImage 13 = .ok (.aload_n 0, 1) := by decide +kernel
theorem dX6_keepImage_14 : decode cX6_keepImage 14 = .ok (.getfield 11, 3) := by decide +kernel
theorem dX6_keepImage_17 : decode cX6_keepImage 17 = .ok (.iload_n 1, 1) := by decide +kernel
theorem dX6_keepImage_18 : decode cX6_keepImage 18 = .ok (.aaload, 1) := by decide +kernel
theorem dX6_keepImage_19 : decode cX6_keepImage 19 = .ok (.aastore, 1) := by decide +kernel
theorem dX6_keepImage_20 : decode cX6_keepImage 20 = .ok (.iinc 1 1, 3) := by decide +kernel
theorem dX6_keepImage_23 : decode cX6_keepImage 23 = .ok (.goto (-21), 3) := by decide +kernel
theorem dX6_keepImage_26 : decode cX6_keepImage 26 = .ok (.aload_n 0, 1) := by decide +kernel
theorem dX6_keepImage_27 : decode cX6_keepImage 27 = .ok (.iconst 1, 1) := by decide +kernel
theorem dX6_keepImage_28 : decode cX6_keepImage 28 = .ok (.putfield 35, 3) := by decide +kernel
theorem dX6_keepImage_31 : decode cX6_keepImage 31 = .ok (.return_, 1) := by decide +kernel
theorem dX6_pastActs_0 : decode cX6_pastActs 0 = .ok (.aload_n 0, 1) := by decide +kernel
theorem dX6_pastActs_1 : decode cX6_pastActs 1 = .ok (.getfield 31, 3) := by decide +kernel
theorem dX6_pastActs_4 : decode cX6_pastActs 4 = .ok (.ireturn, 1) := by decide +kernel
theorem dX6_smallOnes_0 : decode cX6_smallOnes 0 = .ok (.iconst 0, 1) := by decide +kernel
theorem dX6_smallOnes_1 : decode cX6_smallOnes 1 = .ok (.istore_n 1, 1) := by decide +kernel
theorem dX6_smallOnes_2 : decode cX6_smallOnes 2 = .ok (.iconst 0, 1) := by decide +kernel
theorem dX6_smallOnes_3 : decode cX6_smallOnes 3 = .ok (.istore_n 2, 1) := by decide +kernel
theorem dX6_smallOnes_4 : decode cX6_smallOnes 4 = .ok (.iload_n 2, 1) := by decide +kernel
theorem dX6_smallOnes_5 : decode cX6_smallOnes 5 = .ok (.bipush 8, 2) := by decide +kernel
theorem dX6_smallOnes_7 : decode cX6_smallOnes 7 = .ok (.if_icmp .ge 24, 3) := by decide +kernel
theorem dX6_smallOnes_10 : decode cX6_smallOnes 10 = .ok (.aload_n 0, 1) := by decide +kernel
theorem dX6_smallOnes_11 : decode cX6_smallOnes 11 = .ok (.getfield 11, 3) := by decide +kernel
theorem dX6_smallOnes_14 : decode cX6_smallOnes 14 = .ok (.iload_n 2, 1) := by decide +kernel
theorem dX6_smallOnes_15 : decode cX6_smallOnes 15 = .ok (.aaload, 1) := by decide +kernel
theorem dX6_smallOnes_16 : decode cX6_smallOnes 16 = .ok (.invokevirtual 43, 3) := by decide +kernel
theorem dX6_smallOnes_19 : decode cX6_smallOnes 19 = .ok (.ifCond .eq 6, 3) := by decide +kernel
theorem dX6_smallOnes_22 : decode cX6_smallOnes 22 = .ok (.iinc 1 1, 3) := by decide +kernel
theorem dX6_smallOnes_25 : decode cX6_smallOnes 25 = .ok (.iinc 2 1, 3) := by decide +kernel
theorem dX6_smallOnes_28 : decode cX6_smallOnes 28 = .ok (.goto (-24), 3) := by decide +kernel
theorem dX6_smallOnes_31 : decode cX6_smallOnes 31 = .ok (.iload_n 1, 1) := by decide +kernel
theorem dX6_smallOnes_32 : decode cX6_smallOnes 32 = .ok (.ireturn, 1) := by decide +kernel
theorem dX6_takeBack_0 : decode cX6_takeBack 0 = .ok (.aload_n 0, 1) := by decide +kernel
theorem dX6_takeBack_1 : decode cX6_takeBack 1 = .ok (.getfield 31, 3) := by decide +kernel
theorem dX6_takeBack_4 : decode cX6_takeBack 4 = .ok (.iconst 1, 1) := by decide +kernel
theorem dX6_takeBack_5 : decode cX6_takeBack 5 = .ok (.if_icmp .lt 12, 3) := by decide +kernel
theorem dX6_takeBack_8 : decode cX6_takeBack 8 = .ok (.aload_n 0, 1) := by decide +kernel
theorem dX6_takeBack_9 : decode cX6_takeBack 9 = .ok (.getfield 31, 3) := by decide +kernel
theorem dX6_takeBack_12 : decode cX6_takeBack 12 = .ok (.bipush 8, 2) := by decide +kernel
theorem dX6_takeBack_14 : decode cX6_takeBack 14 = .ok (.if_icmp .le 5, 3) := by decide +kernel
theorem dX6_takeBack_17 : decode cX6_takeBack 17 = .ok (.iconst (-1), 1) := by decide +kernel
theorem dX6_takeBack_18 : decode cX6_takeBack 18 = .ok (.ireturn, 1) := by decide +kernel
theorem dX6_takeBack_19 : decode cX6_takeBack 19 = .ok (.aload_n 0, 1) := by decide +kernel
theorem dX6_takeBack_20 : decode cX6_takeBack 20 = .ok (.dup, 1) := by decide +kernel
theorem dX6_takeBack_21 : decode cX6_takeBack 21 = .ok (.getfield 31, 3) := by decide +kernel
theorem dX6_takeBack_24 : decode cX6_takeBack 24 = .ok (.iconst 1, 1) := by decide +kernel
theorem dX6_takeBack_25 : decode cX6_takeBack 25 = .ok (.isub, 1) := by decide +kernel
theorem dX6_takeBack_26 : decode cX6_takeBack 26 = .ok (.putfield 31, 3) := by decide +kernel
theorem dX6_takeBack_29 : decode cX6_takeBack 29 = .ok (.aload_n 0, 1) := by decide +kernel
theorem dX6_takeBack_30 : decode cX6_takeBack 30 = .ok (.getfield 17, 3) := by decide +kernel
theorem dX6_takeBack_33 : decode cX6_takeBack 33 = .ok (.aload_n 0, 1) := by decide +kernel
theorem dX6_takeBack_34 : decode cX6_takeBack 34 = .ok (.getfield 31, 3) := by decide +kernel
theorem dX6_takeBack_37 : decode cX6_takeBack 37 = .ok (.iaload, 1) := by decide +kernel
theorem dX6_takeBack_38 : decode cX6_takeBack 38 = .ok (.istore_n 1, 1) := by decide +kernel
theorem dX6_takeBack_39 : decode cX6_takeBack 39 = .ok (.iload_n 1, 1) := by decide +kernel
theorem dX6_takeBack_40 : decode cX6_takeBack 40 = .ok (.ifCond .lt 27, 3) := by decide +kernel
theorem dX6_takeBack_43 : decode cX6_takeBack 43 = .ok (.iload_n 1, 1) := by decide +kernel
theorem dX6_takeBack_44 : decode cX6_takeBack 44 = .ok (.aload_n 0, 1) := by decide +kernel
theorem dX6_takeBack_45 : decode cX6_takeBack 45 = .ok (.getfield 11, 3) := by decide +kernel
theorem dX6_takeBack_48 : decode cX6_takeBack 48 = .ok (.arraylength, 1) := by decide +kernel
theorem dX6_takeBack_49 : decode cX6_takeBack 49 = .ok (.if_icmp .ge 18, 3) := by decide +kernel
theorem dX6_takeBack_52 : decode cX6_takeBack 52 = .ok (.aload_n 0, 1) := by decide +kernel
theorem dX6_takeBack_53 : decode cX6_takeBack 53 = .ok (.getfield 11, 3) := by decide +kernel
theorem dX6_takeBack_56 : decode cX6_takeBack 56 = .ok (.iload_n 1, 1) := by decide +kernel
theorem dX6_takeBack_57 : decode cX6_takeBack 57 = .ok (.aload_n 0, 1) := by decide +kernel
theorem dX6_takeBack_58 : decode cX6_takeBack 58 = .ok (.getfield 21, 3) := by decide +kernel
theorem dX6_takeBack_61 : decode cX6_takeBack 61 = .ok (.aload_n 0, 1) := by decide +kernel
theorem dX6_takeBack_62 : decode cX6_takeBack 62 = .ok (.getfield 31, 3) := by decide +kernel
theorem dX6_takeBack_65 : decode cX6_takeBack 65 = .ok (.aaload, 1) := by decide +kernel
theorem dX6_takeBack_66 : decode cX6_takeBack 66 = .ok (.aastore, 1) := by decide +kernel
theorem dX6_takeBack_67 : decode cX6_takeBack 67 = .ok (.aload_n 0, 1) := by decide +kernel
theorem dX6_takeBack_68 : decode cX6_takeBack 68 = .ok (.getfield 31, 3) := by decide +kernel
theorem dX6_takeBack_71 : decode cX6_takeBack 71 = .ok (.ireturn, 1) := by decide +kernel
theorem dX6_unlikeOnes_0 : decode cX6_unlikeOnes 0 = .ok (.iconst 0, 1) := by decide +kernel
theorem dX6_unlikeOnes_1 : decode cX6_unlikeOnes 1 = .ok (.istore_n 1, 1) := by decide +kernel
theorem dX6_unlikeOnes_2 : decode cX6_unlikeOnes 2 = .ok (.iconst 0, 1) := by decide +kernel
theorem dX6_unlikeOnes_3 : decode cX6_unlikeOnes 3 = .ok (.istore_n 2, 1) := by decide +kernel
theorem dX6_unlikeOnes_4 : decode cX6_unlikeOnes 4 = .ok (.iload_n 2, 1) := by decide +kernel
theorem dX6_unlikeOnes_5 : decode cX6_unlikeOnes 5 = .ok (.bipush 8, 2) := by decide +kernel
theorem dX6_unlikeOnes_7 : decode cX6_unlikeOnes 7 = .ok (.if_icmp .ge 54, 3) := by decide +kernel
theorem dX6_unlikeOnes_10 : decode cX6_unlikeOnes 10 = .ok (.iconst 1, 1) := by decide +kernel
theorem dX6_unlikeOnes_11 : decode cX6_unlikeOnes 11 = .ok (.istore_n 3, 1) := by decide +kernel
theorem dX6_unlikeOnes_12 : decode cX6_unlikeOnes 12 = .ok (.iconst 0, 1) := by decide +kernel
theorem dX6_unlikeOnes_13 : decode cX6_unlikeOnes 13 = .ok (.istore 4, 2) := by decide +kernel
theorem dX6_unlikeOnes_15 : decode cX6_unlikeOnes 15 = .ok (.iload 4, 2) := by decide +kernel
theorem dX6_unlikeOnes_17 : decode cX6_unlikeOnes 17 = .ok (.iload_n 2, 1) := by decide +kernel
theorem dX6_unlikeOnes_18 : decode cX6_unlikeOnes 18 = .ok (.if_icmp .ge 30, 3) := by decide +kernel
theorem dX6_unlikeOnes_21 : decode cX6_unlikeOnes 21 = .ok (.aload_n 0, 1) := by decide +kernel
theorem dX6_unlikeOnes_22 : decode cX6_unlikeOnes 22 = .ok (.getfield 11, 3) := by decide +kernel
theorem dX6_unlikeOnes_25 : decode cX6_unlikeOnes 25 = .ok (.iload_n 2, 1) := by decide +kernel
theorem dX6_unlikeOnes_26 : decode cX6_unlikeOnes 26 = .ok (.aaload, 1) := by decide +kernel
theorem dX6_unlikeOnes_27 : decode cX6_unlikeOnes 27 = .ok (.aload_n 0, 1) := by decide +kernel
theorem dX6_unlikeOnes_28 : decode cX6_unlikeOnes 28 = .ok (.getfield 11, 3) := by decide +kernel
theorem dX6_unlikeOnes_31 : decode cX6_unlikeOnes 31 = .ok (.iload 4, 2) := by decide +kernel
theorem dX6_unlikeOnes_33 : decode cX6_unlikeOnes 33 = .ok (.aaload, 1) := by decide +kernel
theorem dX6_unlikeOnes_34 : decode cX6_unlikeOnes 34 = .ok (.invokevirtual 47, 3) := by decide +kernel
theorem dX6_unlikeOnes_37 : decode cX6_unlikeOnes 37 = .ok (.ifCond .ne 5, 3) := by decide +kernel
theorem dX6_unlikeOnes_40 : decode cX6_unlikeOnes 40 = .ok (.iconst 0, 1) := by decide +kernel
theorem dX6_unlikeOnes_41 : decode cX6_unlikeOnes 41 = .ok (.istore_n 3, 1) := by decide +kernel
theorem dX6_unlikeOnes_42 : decode cX6_unlikeOnes 42 = .ok (.iinc 4 1, 3) := by decide +kernel
theorem dX6_unlikeOnes_45 : decode cX6_unlikeOnes 45 = .ok (.goto (-30), 3) := by decide +kernel
theorem dX6_unlikeOnes_48 : decode cX6_unlikeOnes 48 = .ok (.iload_n 3, 1) := by decide +kernel
theorem dX6_unlikeOnes_49 : decode cX6_unlikeOnes 49 = .ok (.ifCond .eq 6, 3) := by decide +kernel
theorem dX6_unlikeOnes_52 : decode cX6_unlikeOnes 52 = .ok (.iinc 1 1, 3) := by decide +kernel
theorem dX6_unlikeOnes_55 : decode cX6_unlikeOnes 55 = .ok (.iinc 2 1, 3) := by decide +kernel
theorem dX6_unlikeOnes_58 : decode cX6_unlikeOnes 58 = .ok (.goto (-54), 3) := by decide +kernel
theorem dX6_unlikeOnes_61 : decode cX6_unlikeOnes 61 = .ok (.iload_n 1, 1) := by decide +kernel
theorem dX6_unlikeOnes_62 : decode cX6_unlikeOnes 62 = .ok (.ireturn, 1) := by decide +kernel
theorem dX6_widths_0 : decode cX6_widths 0 = .ok (.iconst 0, 1) := by decide +kernel
theorem dX6_widths_1 : decode cX6_widths 1 = .ok (.istore_n 1, 1) := by decide +kernel
theorem dX6_widths_2 : decode cX6_widths 2 = .ok (.iconst 0, 1) := by decide +kernel
theorem dX6_widths_3 : decode cX6_widths 3 = .ok (.istore_n 2, 1) := by decide +kernel
theorem dX6_widths_4 : decode cX6_widths 4 = .ok (.iload_n 2, 1) := by decide +kernel
theorem dX6_widths_5 : decode cX6_widths 5 = .ok (.bipush 8, 2) := by decide +kernel
theorem dX6_widths_7 : decode cX6_widths 7 = .ok (.if_icmp .ge 21, 3) := by decide +kernel
theorem dX6_widths_10 : decode cX6_widths 10 = .ok (.iload_n 1, 1) := by decide +kernel
theorem dX6_widths_11 : decode cX6_widths 11 = .ok (.aload_n 0, 1) := by decide +kernel
theorem dX6_widths_12 : decode cX6_widths 12 = .ok (.getfield 11, 3) := by decide +kernel
theorem dX6_widths_15 : decode cX6_widths 15 = .ok (.iload_n 2, 1) := by decide +kernel
theorem dX6_widths_16 : decode cX6_widths 16 = .ok (.aaload, 1) := by decide +kernel
theorem dX6_widths_17 : decode cX6_widths 17 = .ok (.invokevirtual 39, 3) := by decide +kernel
theorem dX6_widths_20 : decode cX6_widths 20 = .ok (.iadd, 1) := by decide +kernel
theorem dX6_widths_21 : decode cX6_widths 21 = .ok (.istore_n 1, 1) := by decide +kernel
theorem dX6_widths_22 : decode cX6_widths 22 = .ok (.iinc 2 1, 3) := by decide +kernel
theorem dX6_widths_25 : decode cX6_widths 25 = .ok (.goto (-21), 3) := by decide +kernel
theorem dX6_widths_28 : decode cX6_widths 28 = .ok (.iload_n 1, 1) := by decide +kernel
theorem dX6_widths_29 : decode cX6_widths 29 = .ok (.ireturn, 1) := by decide +kernel
theorem dX6_zero_0 : decode cX6_zero 0 = .ok (.aload_n 0, 1) := by decide +kernel
theorem dX6_zero_1 : decode cX6_zero 1 = .ok (.getfield 27, 3) := by decide +kernel
theorem dX6_zero_4 : decode cX6_zero 4 = .ok (.areturn, 1) := by decide +kernel
/-- X6 zero ()LUppityGames$Game; -/
def f_X6_zero (n : Nat)  (mi : Mem) : Option Rz :=
  gtG mi 45 0 fun x1 =>
  rt (x1 : Nat) mi
set_option maxRecDepth 100000 in
set_option maxHeartbeats 4000000 in
theorem s_X6_zero (l : Launch) (sc : g_S) (E : Mem → g_H) (R : Nat → Prop) (hE : LE E R) (hR : RCL R) (n : Nat)    (mi : Mem) (r : Rz) (H : f_X6_zero n  mi = some r) : AMet l sc yX6_zero cX6_zero 1 (some (FieldType.object "UppityGames$Game")) 0 0 0 [.ref 45] (E mi) (pG E r) := by
  have r45 : R 45 := hR.1 45 (Nat.le_of_ble_eq_true rfl) (Nat.le_of_ble_eq_true rfl)
  unfold f_X6_zero at H
  refine AMet.of (own := RX6) (by decide +kernel) rfl (Nat.le_of_ble_eq_true rfl) [(0, .ref 45)] rfl (fun D base ad => ?_)
  refine aw_aload_n (pc := 0) dX6_zero_0 rfl ?_
  refine cx_gtG (pc := 1) hE r45 fl_X6_27 rfl rfl (Nat.le_of_ble_eq_true rfl) dX6_zero_1 H (fun x1 H => ?_)
  exact cx_gret (pc := 4) ⟨_, rfl⟩ (Nat.le_of_ble_eq_true rfl) (Nat.le_of_ble_eq_true rfl) dX6_zero_4 H
/-- X6 held (I)LUppityGames$Game; -/
def f_X6_held (n : Nat) (p1 : Int) (mi : Mem) : Option Rz :=
  jn (fun (s0_26 : Nat) (m26 : Mem) =>
    rt (s0_26 : Nat) m26
  ) fun (j26 : Nat → Mem → Option Rz) =>
  jn (fun (m22 : Mem) =>
    gtG m22 45 0 fun x23 =>
    j26 x23 m22
  ) fun (j22 : Mem → Option Rz) =>
  if p1 < 0 then (
    j22 mi
  ) else
  if p1 < 8 then (
    ldG mi 46 p1 fun x18 =>
    j26 x18 mi
  ) else
  j22 mi
set_option maxRecDepth 100000 in
set_option maxHeartbeats 4000000 in
theorem s_X6_held (l : Launch) (sc : g_S) (E : Mem → g_H) (R : Nat → Prop) (hE : LE E R) (hR : RCL R) (n : Nat)  (p1 : Int) (hp1 : inR p1) (mi : Mem) (r : Rz) (H : f_X6_held n p1 mi = some r) : AMet l sc yX6_held cX6_held 2 (some (FieldType.object "UppityGames$Game")) 0 0 0 [.ref 45, iv p1] (E mi) (pG E r) := by
  have r45 : R 45 := hR.1 45 (Nat.le_of_ble_eq_true rfl) (Nat.le_of_ble_eq_true rfl)
  have r46 : R 46 := hR.1 46 (Nat.le_of_ble_eq_true rfl) (Nat.le_of_ble_eq_true rfl)
  unfold f_X6_held at H
  refine AMet.of (own := RX6) (by decide +kernel) rfl (Nat.le_of_ble_eq_true rfl) [(0, .ref 45), (1, iv p1)] rfl (fun D base ad => ?_)
  refine aw_iload_n (pc := 0) dX6_held_0 rfl ?_
  refine jn_ind (fun (f9 : Nat → Mem → Option Rz) => ∀ (s0_26 : Nat) (m26 : Mem), f9 s0_26 m26 = some r → AW l D base sc RX6 yX6_held cX6_held 2 (some (FieldType.object "UppityGames$Game")) 0 0 0 ad (E mi) (pG E r) 0 0 (E m26) 26 [] [rv s0_26]) (fun s0_26 m26 H => ?_) (fun j26 hj26 H => ?_) H
  · -- 26
    exact cx_gret (pc := 26) ⟨_, rfl⟩ (Nat.le_of_ble_eq_true rfl) (Nat.le_of_ble_eq_true rfl) dX6_held_26 H
  refine jn_ind (fun (f9 : Mem → Option Rz) => ∀ (m22 : Mem), f9 m22 = some r → AW l D base sc RX6 yX6_held cX6_held 2 (some (FieldType.object "UppityGames$Game")) 0 0 0 ad (E mi) (pG E r) 0 0 (E m22) 22 [(0, .ref 45)] []) (fun m22 H => ?_) (fun j22 hj22 H => ?_) H
  · -- 22
    refine aw_aload_n (pc := 22) dX6_held_22 rfl ?_
    refine cx_gtG (pc := 23) hE r45 fl_X6_27 rfl rfl (Nat.le_of_ble_eq_true rfl) dX6_held_23 H (fun x23 H => ?_)
    exact AW.sel [] rfl (hj26 _ _ H)
  refine cx_if_lt (pc := 1) 22 hp1 dX6_held_1 rfl H (fun H => ?_) (fun H => ?_)
  · -- 1: 22
    exact AW.sel [0] rfl (hj22 _ H)
  · -- 1: 4
    refine aw_iload_n (pc := 4) dX6_held_4 rfl ?_
    refine aw_aload_n (pc := 5) dX6_held_5 rfl ?_
    refine cx_gtC (pc := 6) 46 hE r45 fl_X6_11 rfl rfl (Nat.le_of_ble_eq_true rfl) dX6_held_6 ?_
    refine cx_lenC (pc := 9) (c := 8) hE r46 (fun _ => ⟨_, _, rfl, rfl⟩) dX6_held_9 ?_
    refine cx_icmp_ge (pc := 10) 22 hp1 (inR_lit _ rfl) dX6_held_10 rfl H (fun H => ?_) (fun H => ?_)
    · -- 10: 13
      refine aw_aload_n (pc := 13) dX6_held_13 rfl ?_
      refine cx_gtC (pc := 14) 46 hE r45 fl_X6_11 rfl rfl (Nat.le_of_ble_eq_true rfl) dX6_held_14 ?_
      refine aw_iload_n (pc := 17) dX6_held_17 rfl ?_
      refine cx_ldG (pc := 18) hE r46 hp1 dX6_held_18 H (fun x18 H => ?_)
      refine aw_goto (pc := 19) 26 dX6_held_19 rfl ?_
      exact AW.sel [] rfl (hj26 _ _ H)
    · -- 10: 22
      exact AW.sel [0] rfl (hj22 _ H)
/-- X6 hold (ILUppityGames$Game;)V -/
def f_X6_hold (n : Nat) (p1 : Int) (p2 : Nat) (mi : Mem) : Option Rz :=
  jn (fun (m13 : Mem) =>
    rt 0 m13
  ) fun (j13 : Mem → Option Rz) =>
  if p1 < 0 then (
    j13 mi
  ) else
  if p1 < 8 then (
    gtF mi 45 5 fun x15 =>
    jn (fun (m71 : Mem) =>
      gtF m71 45 5 fun x72 =>
      jn (fun (m113 : Mem) =>
        stG m113 46 p1 p2 fun m119 =>
        rt 0 m119
      ) fun (j113 : Mem → Option Rz) =>
      if x72 < 0 then (
        j113 m71
      ) else
      gtF m71 45 5 fun x83 =>
      stI m71 47 x83 p1 fun m87 =>
      gtF m87 45 5 fun x93 =>
      ldG m87 46 p1 fun x101 =>
      stG m87 48 x93 x101 fun m102 =>
      gtF m102 45 5 fun x105 =>
      ptF m102 45 5 (w32 (x105 + 1)) fun m110 =>
      j113 m110
    ) fun (j71 : Mem → Option Rz) =>
    if x15 < 8 then (
      j71 mi
    ) else
    lp (F := Int → Mem → Option Rz) (fun _ _ => none) (fun w25 v3_25 m25 =>
      if v3_25 < 8 then (
        ldI m25 47 v3_25 fun x43 =>
        stI m25 47 (w32 (v3_25 - 1)) x43 fun m44 =>
        ldG m44 48 v3_25 fun x57 =>
        stG m44 48 (w32 (v3_25 - 1)) x57 fun m58 =>
        w25 (w32 (v3_25 + 1)) m58
      ) else
      ptF m25 45 5 7 fun m68 =>
      j71 m68
    ) n 1 mi
  ) else
  j13 mi
set_option maxRecDepth 100000 in
set_option maxHeartbeats 4000000 in
theorem s_X6_hold (l : Launch) (sc : g_S) (E : Mem → g_H) (R : Nat → Prop) (hE : LE E R) (hR : RCL R) (n : Nat)  (p1 : Int) (p2 : Nat) (hp1 : inR p1) (mi : Mem) (r : Rz) (H : f_X6_hold n p1 p2 mi = some r) : AMet l sc yX6_hold cX6_hold 4 none 0 0 0 [.ref 45, iv p1, rv p2] (E mi) (pV E r) := by
  have r45 : R 45 := hR.1 45 (Nat.le_of_ble_eq_true rfl) (Nat.le_of_ble_eq_true rfl)
  have r46 : R 46 := hR.1 46 (Nat.le_of_ble_eq_true rfl) (Nat.le_of_ble_eq_true rfl)
  have r47 : R 47 := hR.1 47 (Nat.le_of_ble_eq_true rfl) (Nat.le_of_ble_eq_true rfl)
  have r48 : R 48 := hR.1 48 (Nat.le_of_ble_eq_true rfl) (Nat.le_of_ble_eq_true rfl)
  unfold f_X6_hold at H
  refine AMet.of (own := RX6) (by decide +kernel) rfl (by rcases rv_or p2 with ep2 | ⟨_, ep2⟩ <;> simp only [ep2] <;> exact Nat.le_of_ble_eq_true rfl) [(0, .ref 45), (1, iv p1), (2, rv p2)] (by rcases rv_or p2 with ep2 | ⟨_, ep2⟩ <;> simp only [ep2] <;> rfl) (fun D base ad => ?_)
  refine aw_iload_n (pc := 0) dX6_hold_0 rfl ?_
  refine jn_ind (fun (f9 : Mem → Option Rz) => ∀ (m13 : Mem), f9 m13 = some r → AW l D base sc RX6 yX6_hold cX6_hold 4 none 0 0 0 ad (E mi) (pV E r) 0 0 (E m13) 13 [] []) (fun m13 H => ?_) (fun j13 hj13 H => ?_) H
  · -- 13
    exact cx_vret (pc := 13) rfl (Nat.le_of_ble_eq_true rfl) (Nat.le_of_ble_eq_true rfl) dX6_hold_13 H
  refine cx_if_lt (pc := 1) 13 hp1 dX6_hold_1 rfl H (fun H => ?_) (fun H => ?_)
  · -- 1: 13
    exact AW.sel [] rfl (hj13 _ H)
  · -- 1: 4
    refine aw_iload_n (pc := 4) dX6_hold_4 rfl ?_
    refine aw_aload_n (pc := 5) dX6_hold_5 rfl ?_
    refine cx_gtC (pc := 6) 46 hE r45 fl_X6_11 rfl rfl (Nat.le_of_ble_eq_true rfl) dX6_hold_6 ?_
    refine cx_lenC (pc := 9) (c := 8) hE r46 (fun _ => ⟨_, _, rfl, rfl⟩) dX6_hold_9 ?_
    refine cx_icmp_lt (pc := 10) 14 hp1 (inR_lit _ rfl) dX6_hold_10 rfl H (fun H => ?_) (fun H => ?_)
    · -- 10: 14
      refine aw_aload_n (pc := 14) dX6_hold_14 rfl ?_
      refine cx_gtF (pc := 15) hE r45 fl_X6_31 rfl rfl (Nat.le_of_ble_eq_true rfl) dX6_hold_15 H (fun x15 hx15 H => ?_)
      refine cx_bipush (pc := 18) dX6_hold_18 (by decide) ?_
      refine jn_ind (fun (f9 : Mem → Option Rz) => ∀ (m71 : Mem), f9 m71 = some r → AW l D base sc RX6 yX6_hold cX6_hold 4 none 0 0 0 ad (E mi) (pV E r) 0 0 (E m71) 71 [(0, .ref 45), (1, iv p1), (2, rv p2)] []) (fun m71 H => ?_) (fun j71 hj71 H => ?_) H
      · -- 71
        refine aw_aload_n (pc := 71) dX6_hold_71 rfl ?_
        refine cx_gtF (pc := 72) hE r45 fl_X6_31 rfl rfl (Nat.le_of_ble_eq_true rfl) dX6_hold_72 H (fun x72 hx72 H => ?_)
        refine jn_ind (fun (f9 : Mem → Option Rz) => ∀ (m113 : Mem), f9 m113 = some r → AW l D base sc RX6 yX6_hold cX6_hold 4 none 0 0 0 ad (E mi) (pV E r) 0 0 (E m113) 113 [(0, .ref 45), (1, iv p1), (2, rv p2)] []) (fun m113 H => ?_) (fun j113 hj113 H => ?_) H
        · -- 113
          refine aw_aload_n (pc := 113) dX6_hold_113 rfl ?_
          refine cx_gtC (pc := 114) 46 hE r45 fl_X6_11 rfl rfl (Nat.le_of_ble_eq_true rfl) dX6_hold_114 ?_
          refine aw_iload_n (pc := 117) dX6_hold_117 rfl ?_
          refine cx_aload_n (pc := 118) dX6_hold_118 rfl ?_
          refine cx_stG (pc := 119) hE r46 hR.d hp1 dX6_hold_119 H (fun m119 H => ?_)
          exact cx_vret (pc := 120) rfl (Nat.le_of_ble_eq_true rfl) (Nat.le_of_ble_eq_true rfl) dX6_hold_120 H
        refine cx_if_lt (pc := 75) 113 hx72 dX6_hold_75 rfl H (fun H => ?_) (fun H => ?_)
        · -- 75: 113
          exact AW.sel [0, 1, 2] rfl (hj113 _ H)
        · -- 75: 78
          refine aw_aload_n (pc := 78) dX6_hold_78 rfl ?_
          refine cx_gtC (pc := 79) 47 hE r45 fl_X6_17 rfl rfl (Nat.le_of_ble_eq_true rfl) dX6_hold_79 ?_
          refine aw_aload_n (pc := 82) dX6_hold_82 rfl ?_
          refine cx_gtF (pc := 83) hE r45 fl_X6_31 rfl rfl (Nat.le_of_ble_eq_true rfl) dX6_hold_83 H (fun x83 hx83 H => ?_)
          refine aw_iload_n (pc := 86) dX6_hold_86 rfl ?_
          refine cx_stI (pc := 87) hE r47 hx83 dX6_hold_87 H (fun m87 H => ?_)
          refine aw_aload_n (pc := 88) dX6_hold_88 rfl ?_
          refine cx_gtC (pc := 89) 48 hE r45 fl_X6_21 rfl rfl (Nat.le_of_ble_eq_true rfl) dX6_hold_89 ?_
          refine aw_aload_n (pc := 92) dX6_hold_92 rfl ?_
          refine cx_gtF (pc := 93) hE r45 fl_X6_31 rfl rfl (Nat.le_of_ble_eq_true rfl) dX6_hold_93 H (fun x93 hx93 H => ?_)
          refine aw_aload_n (pc := 96) dX6_hold_96 rfl ?_
          refine cx_gtC (pc := 97) 46 hE r45 fl_X6_11 rfl rfl (Nat.le_of_ble_eq_true rfl) dX6_hold_97 ?_
          refine aw_iload_n (pc := 100) dX6_hold_100 rfl ?_
          refine cx_ldG (pc := 101) hE r46 hp1 dX6_hold_101 H (fun x101 H => ?_)
          refine cx_stG (pc := 102) hE r48 hR.d hx93 dX6_hold_102 H (fun m102 H => ?_)
          refine aw_aload_n (pc := 103) dX6_hold_103 rfl ?_
          refine aw_dup (pc := 104) dX6_hold_104 rfl ?_
          refine cx_gtF (pc := 105) hE r45 fl_X6_31 rfl rfl (Nat.le_of_ble_eq_true rfl) dX6_hold_105 H (fun x105 hx105 H => ?_)
          refine cx_iconst (pc := 108) dX6_hold_108 ?_
          refine cx_iadd (pc := 109) dX6_hold_109 ?_
          refine cx_ptF (pc := 110) tyX6 hE r45 fl_X6_31 (fun r h => ⟨gty_X6 r h, by cases h; rfl⟩) rfl rfl rfl (Nat.le_of_ble_eq_true rfl) dX6_hold_110 H (fun m110 H => ?_)
          exact AW.sel [0, 1, 2] rfl (hj113 _ H)
      refine cx_icmp_lt (pc := 20) 71 hx15 (inR_lit _ rfl) dX6_hold_20 rfl H (fun H => ?_) (fun H => ?_)
      · -- 20: 71
        exact AW.sel [0, 1, 2] rfl (hj71 _ H)
      · -- 20: 23
        refine cx_iconst (pc := 23) dX6_hold_23 ?_
        refine aw_istore_n (pc := 24) [(3, iv 1), (0, .ref 45), (1, iv p1), (2, rv p2)] dX6_hold_24 (by unfold g_st1; simp only [List.filter, rv_cat]; rfl) (by decide) ?_
        refine AW.sel [1, 2, 3, 0] rfl (lp_ind (bot := fun _ _ => none) (fun (f9 : Int → Mem → Option Rz) => ∀ (v3_25 : Int) (m25 : Mem), inR v3_25 → f9 v3_25 m25 = some r → AW l D base sc RX6 yX6_hold cX6_hold 4 none 0 0 0 ad (E mi) (pV E r) 0 0 (E m25) 25 [(0, .ref 45), (1, iv p1), (2, rv p2), (3, iv v3_25)] []) (fun _ _ _ h9 => nomatch h9) (fun w25 ih25 v3_25 m25 hv3_25 H => ?_) n _ _ (inR_lit _ rfl) H)
        refine aw_iload_n (pc := 25) dX6_hold_25 rfl ?_
        refine cx_bipush (pc := 26) dX6_hold_26 (by decide) ?_
        refine cx_icmp_ge (pc := 28) 65 hv3_25 (inR_lit _ rfl) dX6_hold_28 rfl H (fun H => ?_) (fun H => ?_)
        · -- 28: 31
          refine aw_aload_n (pc := 31) dX6_hold_31 rfl ?_
          refine cx_gtC (pc := 32) 47 hE r45 fl_X6_17 rfl rfl (Nat.le_of_ble_eq_true rfl) dX6_hold_32 ?_
          refine aw_iload_n (pc := 35) dX6_hold_35 rfl ?_
          refine cx_iconst (pc := 36) dX6_hold_36 ?_
          refine cx_isub (pc := 37) dX6_hold_37 ?_
          refine aw_aload_n (pc := 38) dX6_hold_38 rfl ?_
          refine cx_gtC (pc := 39) 47 hE r45 fl_X6_17 rfl rfl (Nat.le_of_ble_eq_true rfl) dX6_hold_39 ?_
          refine aw_iload_n (pc := 42) dX6_hold_42 rfl ?_
          refine cx_ldI (pc := 43) hE r47 hv3_25 dX6_hold_43 H (fun x43 hx43 H => ?_)
          refine cx_stI (pc := 44) hE r47 (inR_w32 _) dX6_hold_44 H (fun m44 H => ?_)
          refine aw_aload_n (pc := 45) dX6_hold_45 rfl ?_
          refine cx_gtC (pc := 46) 48 hE r45 fl_X6_21 rfl rfl (Nat.le_of_ble_eq_true rfl) dX6_hold_46 ?_
          refine aw_iload_n (pc := 49) dX6_hold_49 rfl ?_
          refine cx_iconst (pc := 50) dX6_hold_50 ?_
          refine cx_isub (pc := 51) dX6_hold_51 ?_
          refine aw_aload_n (pc := 52) dX6_hold_52 rfl ?_
          refine cx_gtC (pc := 53) 48 hE r45 fl_X6_21 rfl rfl (Nat.le_of_ble_eq_true rfl) dX6_hold_53 ?_
          refine aw_iload_n (pc := 56) dX6_hold_56 rfl ?_
          refine cx_ldG (pc := 57) hE r48 hv3_25 dX6_hold_57 H (fun x57 H => ?_)
          refine cx_stG (pc := 58) hE r48 hR.d (inR_w32 _) dX6_hold_58 H (fun m58 H => ?_)
          refine cx_iinc (pc := 59) [(3, iv (w32 (v3_25 + 1))), (0, .ref 45), (1, iv p1), (2, rv p2)] dX6_hold_59 rfl (by unfold g_st1; simp only [List.filter, rv_cat]; rfl) (by decide) ?_
          refine aw_goto (pc := 62) 25 dX6_hold_62 rfl ?_
          exact AW.sel [1, 2, 3, 0] rfl (ih25 _ _ (inR_w32 _) H)
        · -- 28: 65
          refine aw_aload_n (pc := 65) dX6_hold_65 rfl ?_
          refine cx_bipush (pc := 66) dX6_hold_66 (by decide) ?_
          refine cx_ptF (pc := 68) tyX6 hE r45 fl_X6_31 (fun r h => ⟨gty_X6 r h, by cases h; rfl⟩) rfl rfl rfl (Nat.le_of_ble_eq_true rfl) dX6_hold_68 H (fun m68 H => ?_)
          exact AW.sel [0, 1, 2] rfl (hj71 _ H)
    · -- 10: 13
      exact AW.sel [] rfl (hj13 _ H)
/-- X6 pastActs ()I -/
def f_X6_pastActs (n : Nat)  (mi : Mem) : Option Rz :=
  gtF mi 45 5 fun x1 =>
  rt x1 mi
set_option maxRecDepth 100000 in
set_option maxHeartbeats 4000000 in
theorem s_X6_pastActs (l : Launch) (sc : g_S) (E : Mem → g_H) (R : Nat → Prop) (hE : LE E R) (hR : RCL R) (n : Nat)    (mi : Mem) (r : Rz) (H : f_X6_pastActs n  mi = some r) : AMet l sc yX6_pastActs cX6_pastActs 1 (some FieldType.int) 0 0 0 [.ref 45] (E mi) (pI E r) := by
  have r45 : R 45 := hR.1 45 (Nat.le_of_ble_eq_true rfl) (Nat.le_of_ble_eq_true rfl)
  unfold f_X6_pastActs at H
  refine AMet.of (own := RX6) (by decide +kernel) rfl (Nat.le_of_ble_eq_true rfl) [(0, .ref 45)] rfl (fun D base ad => ?_)
  refine aw_aload_n (pc := 0) dX6_pastActs_0 rfl ?_
  refine cx_gtF (pc := 1) hE r45 fl_X6_31 rfl rfl (Nat.le_of_ble_eq_true rfl) dX6_pastActs_1 H (fun x1 hx1 H => ?_)
  exact cx_iret (pc := 4) hx1 rfl (Nat.le_of_ble_eq_true rfl) (Nat.le_of_ble_eq_true rfl) dX6_pastActs_4 H
/-- X6 takeBack ()I -/
def f_X6_takeBack (n : Nat)  (mi : Mem) : Option Rz :=
  gtF mi 45 5 fun x1 =>
  jn (fun (m17 : Mem) =>
    rt (-1) m17
  ) fun (j17 : Mem → Option Rz) =>
  if x1 < 1 then (
    j17 mi
  ) else
  gtF mi 45 5 fun x9 =>
  if 8 < x9 then (
    j17 mi
  ) else
  gtF mi 45 5 fun x21 =>
  ptF mi 45 5 (w32 (x21 - 1)) fun m26 =>
  gtF m26 45 5 fun x34 =>
  ldI m26 47 x34 fun x37 =>
  jn (fun (m67 : Mem) =>
    gtF m67 45 5 fun x68 =>
    rt x68 m67
  ) fun (j67 : Mem → Option Rz) =>
  if x37 < 0 then (
    j67 m26
  ) else
  if x37 < 8 then (
    gtF m26 45 5 fun x62 =>
    ldG m26 48 x62 fun x65 =>
    stG m26 46 x37 x65 fun m66 =>
    j67 m66
  ) else
  j67 m26
set_option maxRecDepth 100000 in
set_option maxHeartbeats 4000000 in
theorem s_X6_takeBack (l : Launch) (sc : g_S) (E : Mem → g_H) (R : Nat → Prop) (hE : LE E R) (hR : RCL R) (n : Nat)    (mi : Mem) (r : Rz) (H : f_X6_takeBack n  mi = some r) : AMet l sc yX6_takeBack cX6_takeBack 2 (some FieldType.int) 0 0 0 [.ref 45] (E mi) (pI E r) := by
  have r45 : R 45 := hR.1 45 (Nat.le_of_ble_eq_true rfl) (Nat.le_of_ble_eq_true rfl)
  have r46 : R 46 := hR.1 46 (Nat.le_of_ble_eq_true rfl) (Nat.le_of_ble_eq_true rfl)
  have r47 : R 47 := hR.1 47 (Nat.le_of_ble_eq_true rfl) (Nat.le_of_ble_eq_true rfl)
  have r48 : R 48 := hR.1 48 (Nat.le_of_ble_eq_true rfl) (Nat.le_of_ble_eq_true rfl)
  unfold f_X6_takeBack at H
  refine AMet.of (own := RX6) (by decide +kernel) rfl (Nat.le_of_ble_eq_true rfl) [(0, .ref 45)] rfl (fun D base ad => ?_)
  refine aw_aload_n (pc := 0) dX6_takeBack_0 rfl ?_
  refine cx_gtF (pc := 1) hE r45 fl_X6_31 rfl rfl (Nat.le_of_ble_eq_true rfl) dX6_takeBack_1 H (fun x1 hx1 H => ?_)
  refine cx_iconst (pc := 4) dX6_takeBack_4 ?_
  refine jn_ind (fun (f9 : Mem → Option Rz) => ∀ (m17 : Mem), f9 m17 = some r → AW l D base sc RX6 yX6_takeBack cX6_takeBack 2 (some FieldType.int) 0 0 0 ad (E mi) (pI E r) 0 0 (E m17) 17 [] []) (fun m17 H => ?_) (fun j17 hj17 H => ?_) H
  · -- 17
    refine cx_iconst (pc := 17) dX6_takeBack_17 ?_
    exact cx_iret (pc := 18) (inR_lit _ rfl) rfl (Nat.le_of_ble_eq_true rfl) (Nat.le_of_ble_eq_true rfl) dX6_takeBack_18 H
  refine cx_icmp_lt (pc := 5) 17 hx1 (inR_lit _ rfl) dX6_takeBack_5 rfl H (fun H => ?_) (fun H => ?_)
  · -- 5: 17
    exact AW.sel [] rfl (hj17 _ H)
  · -- 5: 8
    refine aw_aload_n (pc := 8) dX6_takeBack_8 rfl ?_
    refine cx_gtF (pc := 9) hE r45 fl_X6_31 rfl rfl (Nat.le_of_ble_eq_true rfl) dX6_takeBack_9 H (fun x9 hx9 H => ?_)
    refine cx_bipush (pc := 12) dX6_takeBack_12 (by decide) ?_
    refine cx_icmp_le (pc := 14) 19 hx9 (inR_lit _ rfl) dX6_takeBack_14 rfl H (fun H => ?_) (fun H => ?_)
    · -- 14: 17
      exact AW.sel [] rfl (hj17 _ H)
    · -- 14: 19
      refine aw_aload_n (pc := 19) dX6_takeBack_19 rfl ?_
      refine aw_dup (pc := 20) dX6_takeBack_20 rfl ?_
      refine cx_gtF (pc := 21) hE r45 fl_X6_31 rfl rfl (Nat.le_of_ble_eq_true rfl) dX6_takeBack_21 H (fun x21 hx21 H => ?_)
      refine cx_iconst (pc := 24) dX6_takeBack_24 ?_
      refine cx_isub (pc := 25) dX6_takeBack_25 ?_
      refine cx_ptF (pc := 26) tyX6 hE r45 fl_X6_31 (fun r h => ⟨gty_X6 r h, by cases h; rfl⟩) rfl rfl rfl (Nat.le_of_ble_eq_true rfl) dX6_takeBack_26 H (fun m26 H => ?_)
      refine aw_aload_n (pc := 29) dX6_takeBack_29 rfl ?_
      refine cx_gtC (pc := 30) 47 hE r45 fl_X6_17 rfl rfl (Nat.le_of_ble_eq_true rfl) dX6_takeBack_30 ?_
      refine aw_aload_n (pc := 33) dX6_takeBack_33 rfl ?_
      refine cx_gtF (pc := 34) hE r45 fl_X6_31 rfl rfl (Nat.le_of_ble_eq_true rfl) dX6_takeBack_34 H (fun x34 hx34 H => ?_)
      refine cx_ldI (pc := 37) hE r47 hx34 dX6_takeBack_37 H (fun x37 hx37 H => ?_)
      refine aw_istore_n (pc := 38) [(1, iv x37), (0, .ref 45)] dX6_takeBack_38 rfl (by decide) ?_
      refine aw_iload_n (pc := 39) dX6_takeBack_39 rfl ?_
      refine jn_ind (fun (f9 : Mem → Option Rz) => ∀ (m67 : Mem), f9 m67 = some r → AW l D base sc RX6 yX6_takeBack cX6_takeBack 2 (some FieldType.int) 0 0 0 ad (E mi) (pI E r) 0 0 (E m67) 67 [(0, .ref 45)] []) (fun m67 H => ?_) (fun j67 hj67 H => ?_) H
      · -- 67
        refine aw_aload_n (pc := 67) dX6_takeBack_67 rfl ?_
        refine cx_gtF (pc := 68) hE r45 fl_X6_31 rfl rfl (Nat.le_of_ble_eq_true rfl) dX6_takeBack_68 H (fun x68 hx68 H => ?_)
        exact cx_iret (pc := 71) hx68 rfl (Nat.le_of_ble_eq_true rfl) (Nat.le_of_ble_eq_true rfl) dX6_takeBack_71 H
      refine cx_if_lt (pc := 40) 67 hx37 dX6_takeBack_40 rfl H (fun H => ?_) (fun H => ?_)
      · -- 40: 67
        exact AW.sel [1] rfl (hj67 _ H)
      · -- 40: 43
        refine aw_iload_n (pc := 43) dX6_takeBack_43 rfl ?_
        refine aw_aload_n (pc := 44) dX6_takeBack_44 rfl ?_
        refine cx_gtC (pc := 45) 46 hE r45 fl_X6_11 rfl rfl (Nat.le_of_ble_eq_true rfl) dX6_takeBack_45 ?_
        refine cx_lenC (pc := 48) (c := 8) hE r46 (fun _ => ⟨_, _, rfl, rfl⟩) dX6_takeBack_48 ?_
        refine cx_icmp_ge (pc := 49) 67 hx37 (inR_lit _ rfl) dX6_takeBack_49 rfl H (fun H => ?_) (fun H => ?_)
        · -- 49: 52
          refine aw_aload_n (pc := 52) dX6_takeBack_52 rfl ?_
          refine cx_gtC (pc := 53) 46 hE r45 fl_X6_11 rfl rfl (Nat.le_of_ble_eq_true rfl) dX6_takeBack_53 ?_
          refine aw_iload_n (pc := 56) dX6_takeBack_56 rfl ?_
          refine aw_aload_n (pc := 57) dX6_takeBack_57 rfl ?_
          refine cx_gtC (pc := 58) 48 hE r45 fl_X6_21 rfl rfl (Nat.le_of_ble_eq_true rfl) dX6_takeBack_58 ?_
          refine aw_aload_n (pc := 61) dX6_takeBack_61 rfl ?_
          refine cx_gtF (pc := 62) hE r45 fl_X6_31 rfl rfl (Nat.le_of_ble_eq_true rfl) dX6_takeBack_62 H (fun x62 hx62 H => ?_)
          refine cx_ldG (pc := 65) hE r48 hx62 dX6_takeBack_65 H (fun x65 H => ?_)
          refine cx_stG (pc := 66) hE r46 hR.d hx37 dX6_takeBack_66 H (fun m66 H => ?_)
          exact AW.sel [1] rfl (hj67 _ H)
        · -- 49: 67
          exact AW.sel [1] rfl (hj67 _ H)
/-- X6 keepImage ()V -/
def f_X6_keepImage (n : Nat)  (mi : Mem) : Option Rz :=
  lp (F := Int → Mem → Option Rz) (fun _ _ => none) (fun w2 v1_2 m2 =>
    if v1_2 < 8 then (
      ldG m2 46 v1_2 fun x18 =>
      stG m2 49 v1_2 x18 fun m19 =>
      w2 (w32 (v1_2 + 1)) m19
    ) else
    ptZ m2 45 6 1 fun m28 =>
    rt 0 m28
  ) n 0 mi
set_option maxRecDepth 100000 in
set_option maxHeartbeats 4000000 in
theorem s_X6_keepImage (l : Launch) (sc : g_S) (E : Mem → g_H) (R : Nat → Prop) (hE : LE E R) (hR : RCL R) (n : Nat)    (mi : Mem) (r : Rz) (H : f_X6_keepImage n  mi = some r) : AMet l sc yX6_keepImage cX6_keepImage 2 none 0 0 0 [.ref 45] (E mi) (pV E r) := by
  have r45 : R 45 := hR.1 45 (Nat.le_of_ble_eq_true rfl) (Nat.le_of_ble_eq_true rfl)
  have r46 : R 46 := hR.1 46 (Nat.le_of_ble_eq_true rfl) (Nat.le_of_ble_eq_true rfl)
  have r49 : R 49 := hR.1 49 (Nat.le_of_ble_eq_true rfl) (Nat.le_of_ble_eq_true rfl)
  unfold f_X6_keepImage at H
  refine AMet.of (own := RX6) (by decide +kernel) rfl (Nat.le_of_ble_eq_true rfl) [(0, .ref 45)] rfl (fun D base ad => ?_)
  refine cx_iconst (pc := 0) dX6_keepImage_0 ?_
  refine aw_istore_n (pc := 1) [(1, iv 0), (0, .ref 45)] dX6_keepImage_1 rfl (by decide) ?_
  refine AW.sel [1, 0] rfl (lp_ind (bot := fun _ _ => none) (fun (f9 : Int → Mem → Option Rz) => ∀ (v1_2 : Int) (m2 : Mem), inR v1_2 → f9 v1_2 m2 = some r → AW l D base sc RX6 yX6_keepImage cX6_keepImage 2 none 0 0 0 ad (E mi) (pV E r) 0 0 (E m2) 2 [(0, .ref 45), (1, iv v1_2)] []) (fun _ _ _ h9 => nomatch h9) (fun w2 ih2 v1_2 m2 hv1_2 H => ?_) n _ _ (inR_lit _ rfl) H)
  refine aw_iload_n (pc := 2) dX6_keepImage_2 rfl ?_
  refine cx_bipush (pc := 3) dX6_keepImage_3 (by decide) ?_
  refine cx_icmp_ge (pc := 5) 26 hv1_2 (inR_lit _ rfl) dX6_keepImage_5 rfl H (fun H => ?_) (fun H => ?_)
  · -- 5: 8
    refine aw_aload_n (pc := 8) dX6_keepImage_8 rfl ?_
    refine cx_gtC (pc := 9) 49 hE r45 fl_X6_24 rfl rfl (Nat.le_of_ble_eq_true rfl) dX6_keepImage_9 ?_
    refine aw_iload_n (pc := 12) dX6_keepImage_12 rfl ?_
    refine aw_aload_n (pc := 13) dX6_keepImage_13 rfl ?_
    refine cx_gtC (pc := 14) 46 hE r45 fl_X6_11 rfl rfl (Nat.le_of_ble_eq_true rfl) dX6_keepImage_14 ?_
    refine aw_iload_n (pc := 17) dX6_keepImage_17 rfl ?_
    refine cx_ldG (pc := 18) hE r46 hv1_2 dX6_keepImage_18 H (fun x18 H => ?_)
    refine cx_stG (pc := 19) hE r49 hR.d hv1_2 dX6_keepImage_19 H (fun m19 H => ?_)
    refine cx_iinc (pc := 20) [(1, iv (w32 (v1_2 + 1))), (0, .ref 45)] dX6_keepImage_20 rfl rfl (by decide) ?_
    refine aw_goto (pc := 23) 2 dX6_keepImage_23 rfl ?_
    exact AW.sel [1, 0] rfl (ih2 _ _ (inR_w32 _) H)
  · -- 5: 26
    refine aw_aload_n (pc := 26) dX6_keepImage_26 rfl ?_
    refine cx_iconst (pc := 27) dX6_keepImage_27 ?_
    refine cx_ptZ (pc := 28) tyX6 hE r45 fl_X6_35 (fun r h => ⟨gty_X6 r h, by cases h; rfl⟩) rfl rfl rfl (Nat.le_of_ble_eq_true rfl) dX6_keepImage_28 H (fun m28 H => ?_)
    exact cx_vret (pc := 31) rfl (Nat.le_of_ble_eq_true rfl) (Nat.le_of_ble_eq_true rfl) dX6_keepImage_31 H
/-- X6 bringImage ()Z -/
def f_X6_bringImage (n : Nat)  (mi : Mem) : Option Rz :=
  gtF mi 45 6 fun x1 =>
  if x1 = 0 then (
    rtZ 0 mi
  ) else
  lp (F := Int → Mem → Option Rz) (fun _ _ => none) (fun w11 v1_11 m11 =>
    if v1_11 < 8 then (
      ldG m11 49 v1_11 fun x27 =>
      stG m11 46 v1_11 x27 fun m28 =>
      w11 (w32 (v1_11 + 1)) m28
    ) else
    ptF m11 45 5 0 fun m37 =>
    rtZ 1 m37
  ) n 0 mi
set_option maxRecDepth 100000 in
set_option maxHeartbeats 4000000 in
theorem s_X6_bringImage (l : Launch) (sc : g_S) (E : Mem → g_H) (R : Nat → Prop) (hE : LE E R) (hR : RCL R) (n : Nat)    (mi : Mem) (r : Rz) (H : f_X6_bringImage n  mi = some r) : AMet l sc yX6_bringImage cX6_bringImage 2 (some FieldType.boolean) 0 0 0 [.ref 45] (E mi) (pI E r) := by
  have r45 : R 45 := hR.1 45 (Nat.le_of_ble_eq_true rfl) (Nat.le_of_ble_eq_true rfl)
  have r46 : R 46 := hR.1 46 (Nat.le_of_ble_eq_true rfl) (Nat.le_of_ble_eq_true rfl)
  have r49 : R 49 := hR.1 49 (Nat.le_of_ble_eq_true rfl) (Nat.le_of_ble_eq_true rfl)
  unfold f_X6_bringImage at H
  refine AMet.of (own := RX6) (by decide +kernel) rfl (Nat.le_of_ble_eq_true rfl) [(0, .ref 45)] rfl (fun D base ad => ?_)
  refine aw_aload_n (pc := 0) dX6_bringImage_0 rfl ?_
  refine cx_gtF (pc := 1) hE r45 fl_X6_35 rfl rfl (Nat.le_of_ble_eq_true rfl) dX6_bringImage_1 H (fun x1 hx1 H => ?_)
  refine cx_if_ne (pc := 4) 9 hx1 dX6_bringImage_4 rfl H (fun H => ?_) (fun H => ?_)
  · -- 4: 7
    refine cx_iconst (pc := 7) dX6_bringImage_7 ?_
    exact cx_zret (pc := 8) rfl (Nat.le_of_ble_eq_true rfl) (Nat.le_of_ble_eq_true rfl) dX6_bringImage_8 H
  · -- 4: 9
    refine cx_iconst (pc := 9) dX6_bringImage_9 ?_
    refine aw_istore_n (pc := 10) [(1, iv 0), (0, .ref 45)] dX6_bringImage_10 rfl (by decide) ?_
    refine AW.sel [1, 0] rfl (lp_ind (bot := fun _ _ => none) (fun (f9 : Int → Mem → Option Rz) => ∀ (v1_11 : Int) (m11 : Mem), inR v1_11 → f9 v1_11 m11 = some r → AW l D base sc RX6 yX6_bringImage cX6_bringImage 2 (some FieldType.boolean) 0 0 0 ad (E mi) (pI E r) 0 0 (E m11) 11 [(0, .ref 45), (1, iv v1_11)] []) (fun _ _ _ h9 => nomatch h9) (fun w11 ih11 v1_11 m11 hv1_11 H => ?_) n _ _ (inR_lit _ rfl) H)
    refine aw_iload_n (pc := 11) dX6_bringImage_11 rfl ?_
    refine cx_bipush (pc := 12) dX6_bringImage_12 (by decide) ?_
    refine cx_icmp_ge (pc := 14) 35 hv1_11 (inR_lit _ rfl) dX6_bringImage_14 rfl H (fun H => ?_) (fun H => ?_)
    · -- 14: 17
      refine aw_aload_n (pc := 17) dX6_bringImage_17 rfl ?_
      refine cx_gtC (pc := 18) 46 hE r45 fl_X6_11 rfl rfl (Nat.le_of_ble_eq_true rfl) dX6_bringImage_18 ?_
      refine aw_iload_n (pc := 21) dX6_bringImage_21 rfl ?_
      refine aw_aload_n (pc := 22) dX6_bringImage_22 rfl ?_
      refine cx_gtC (pc := 23) 49 hE r45 fl_X6_24 rfl rfl (Nat.le_of_ble_eq_true rfl) dX6_bringImage_23 ?_
      refine aw_iload_n (pc := 26) dX6_bringImage_26 rfl ?_
      refine cx_ldG (pc := 27) hE r49 hv1_11 dX6_bringImage_27 H (fun x27 H => ?_)
      refine cx_stG (pc := 28) hE r46 hR.d hv1_11 dX6_bringImage_28 H (fun m28 H => ?_)
      refine cx_iinc (pc := 29) [(1, iv (w32 (v1_11 + 1))), (0, .ref 45)] dX6_bringImage_29 rfl rfl (by decide) ?_
      refine aw_goto (pc := 32) 11 dX6_bringImage_32 rfl ?_
      exact AW.sel [1, 0] rfl (ih11 _ _ (inR_w32 _) H)
    · -- 14: 35
      refine aw_aload_n (pc := 35) dX6_bringImage_35 rfl ?_
      refine cx_iconst (pc := 36) dX6_bringImage_36 ?_
      refine cx_ptF (pc := 37) tyX6 hE r45 fl_X6_31 (fun r h => ⟨gty_X6 r h, by cases h; rfl⟩) rfl rfl rfl (Nat.le_of_ble_eq_true rfl) dX6_bringImage_37 H (fun m37 H => ?_)
      refine cx_iconst (pc := 40) dX6_bringImage_40 ?_
      exact cx_zret (pc := 41) rfl (Nat.le_of_ble_eq_true rfl) (Nat.le_of_ble_eq_true rfl) dX6_bringImage_41 H
/-- X6 widths ()I -/
def f_X6_widths (n : Nat)  (mi : Mem) : Option Rz :=
  lp (F := Int → Int → Mem → Option Rz) (fun _ _ _ => none) (fun w4 v1_4 v2_4 m4 =>
    if v2_4 < 8 then (
      ldG m4 46 v2_4 fun x16 =>
      isD x16 <|
      isG m4 x16 <| cal (f_X1_width n x16 m4) fun x17 m17 =>
      nm (w32 (v1_4 + x17)) fun z21 =>
      w4 z21 (w32 (v2_4 + 1)) m17
    ) else
    rt v1_4 m4
  ) n 0 0 mi
set_option maxRecDepth 100000 in
set_option maxHeartbeats 4000000 in
theorem s_X6_widths (l : Launch) (sc : g_S) (E : Mem → g_H) (R : Nat → Prop) (hE : LE E R) (hR : RCL R) (n : Nat)    (mi : Mem) (r : Rz) (H : f_X6_widths n  mi = some r) : AMet l sc yX6_widths cX6_widths 3 (some FieldType.int) 1 0 0 [.ref 45] (E mi) (pI E r) := by
  have r45 : R 45 := hR.1 45 (Nat.le_of_ble_eq_true rfl) (Nat.le_of_ble_eq_true rfl)
  have r46 : R 46 := hR.1 46 (Nat.le_of_ble_eq_true rfl) (Nat.le_of_ble_eq_true rfl)
  unfold f_X6_widths at H
  refine AMet.of (own := RX6) (by decide +kernel) rfl (Nat.le_of_ble_eq_true rfl) [(0, .ref 45)] rfl (fun D base ad => ?_)
  refine cx_iconst (pc := 0) dX6_widths_0 ?_
  refine aw_istore_n (pc := 1) [(1, iv 0), (0, .ref 45)] dX6_widths_1 rfl (by decide) ?_
  refine cx_iconst (pc := 2) dX6_widths_2 ?_
  refine aw_istore_n (pc := 3) [(2, iv 0), (1, iv 0), (0, .ref 45)] dX6_widths_3 rfl (by decide) ?_
  refine AW.sel [2, 1, 0] rfl (lp_ind (bot := fun _ _ _ => none) (fun (f9 : Int → Int → Mem → Option Rz) => ∀ (v1_4 : Int) (v2_4 : Int) (m4 : Mem), inR v1_4 → inR v2_4 → f9 v1_4 v2_4 m4 = some r → AW l D base sc RX6 yX6_widths cX6_widths 3 (some FieldType.int) 1 0 0 ad (E mi) (pI E r) 0 0 (E m4) 4 [(0, .ref 45), (1, iv v1_4), (2, iv v2_4)] []) (fun _ _ _ _ _ h9 => nomatch h9) (fun w4 ih4 v1_4 v2_4 m4 hv1_4 hv2_4 H => ?_) n _ _ _ (inR_lit _ rfl) (inR_lit _ rfl) H)
  refine aw_iload_n (pc := 4) dX6_widths_4 rfl ?_
  refine cx_bipush (pc := 5) dX6_widths_5 (by decide) ?_
  refine cx_icmp_ge (pc := 7) 28 hv2_4 (inR_lit _ rfl) dX6_widths_7 rfl H (fun H => ?_) (fun H => ?_)
  · -- 7: 10
    refine aw_iload_n (pc := 10) dX6_widths_10 rfl ?_
    refine aw_aload_n (pc := 11) dX6_widths_11 rfl ?_
    refine cx_gtC (pc := 12) 46 hE r45 fl_X6_11 rfl rfl (Nat.le_of_ble_eq_true rfl) dX6_widths_12 ?_
    refine aw_iload_n (pc := 15) dX6_widths_15 rfl ?_
    refine cx_ldG (pc := 16) hE r46 hv2_4 dX6_widths_16 H (fun x16 H => ?_)
    refine cx_nn0 H (fun hg17_1 H => ?_)
    refine cx_callG (pc := 17) (P := pI) (dC := 0) (mcC := 0) (msC := 0) [] hE hR.d (fun r1 H1 => s_X1_width l sc E R hE hR.d n x16 hg17_1 m4 r1 H1) ca_X6_39 ⟨_, rfl, rfl⟩ rfl rfl (Nat.le_of_ble_eq_true rfl) (Nat.le_of_ble_eq_true rfl) (Nat.le_of_ble_eq_true rfl) (Nat.le_of_ble_eq_true rfl) dX6_widths_17 H (fun x17 m17 v17 hh17 H hp => ?_)
    refine cx_backI hp (fun hx17 => ?_)
    refine cx_iadd (pc := 20) dX6_widths_20 ?_
    refine cx_nm (inR_w32 _) H (fun z21 hz21 H => ?_)
    refine aw_istore_n (pc := 21) [(1, iv z21), (0, .ref 45), (2, iv v2_4)] dX6_widths_21 rfl (by decide) ?_
    refine cx_iinc (pc := 22) [(2, iv (w32 (v2_4 + 1))), (1, iv z21), (0, .ref 45)] dX6_widths_22 rfl rfl (by decide) ?_
    refine aw_goto (pc := 25) 4 dX6_widths_25 rfl ?_
    exact AW.sel [2, 1, 0] rfl (ih4 _ _ _ hz21 (inR_w32 _) H)
  · -- 7: 28
    refine aw_iload_n (pc := 28) dX6_widths_28 rfl ?_
    exact cx_iret (pc := 29) hv1_4 rfl (Nat.le_of_ble_eq_true rfl) (Nat.le_of_ble_eq_true rfl) dX6_widths_29 H
/-- X6 smallOnes ()I -/
def f_X6_smallOnes (n : Nat)  (mi : Mem) : Option Rz :=
  lp (F := Int → Int → Mem → Option Rz) (fun _ _ _ => none) (fun w4 v1_4 v2_4 m4 =>
    if v2_4 < 8 then (
      ldG m4 46 v2_4 fun x15 =>
      isD x15 <|
      isG m4 x15 <| cal (f_X1_isSmall n x15 m4) fun x16 m16 =>
      jn (fun (v1_25 : Int) (m25 : Mem) =>
        w4 v1_25 (w32 (v2_4 + 1)) m25
      ) fun (j25 : Int → Mem → Option Rz) =>
      if x16 = 0 then (
        j25 v1_4 m16
      ) else
      j25 (w32 (v1_4 + 1)) m16
    ) else
    rt v1_4 m4
  ) n 0 0 mi
set_option maxRecDepth 100000 in
set_option maxHeartbeats 4000000 in
theorem s_X6_smallOnes (l : Launch) (sc : g_S) (E : Mem → g_H) (R : Nat → Prop) (hE : LE E R) (hR : RCL R) (n : Nat)    (mi : Mem) (r : Rz) (H : f_X6_smallOnes n  mi = some r) : AMet l sc yX6_smallOnes cX6_smallOnes 3 (some FieldType.int) 2 0 0 [.ref 45] (E mi) (pI E r) := by
  have r45 : R 45 := hR.1 45 (Nat.le_of_ble_eq_true rfl) (Nat.le_of_ble_eq_true rfl)
  have r46 : R 46 := hR.1 46 (Nat.le_of_ble_eq_true rfl) (Nat.le_of_ble_eq_true rfl)
  unfold f_X6_smallOnes at H
  refine AMet.of (own := RX6) (by decide +kernel) rfl (Nat.le_of_ble_eq_true rfl) [(0, .ref 45)] rfl (fun D base ad => ?_)
  refine cx_iconst (pc := 0) dX6_smallOnes_0 ?_
  refine aw_istore_n (pc := 1) [(1, iv 0), (0, .ref 45)] dX6_smallOnes_1 rfl (by decide) ?_
  refine cx_iconst (pc := 2) dX6_smallOnes_2 ?_
  refine aw_istore_n (pc := 3) [(2, iv 0), (1, iv 0), (0, .ref 45)] dX6_smallOnes_3 rfl (by decide) ?_
  refine AW.sel [2, 1, 0] rfl (lp_ind (bot := fun _ _ _ => none) (fun (f9 : Int → Int → Mem → Option Rz) => ∀ (v1_4 : Int) (v2_4 : Int) (m4 : Mem), inR v1_4 → inR v2_4 → f9 v1_4 v2_4 m4 = some r → AW l D base sc RX6 yX6_smallOnes cX6_smallOnes 3 (some FieldType.int) 2 0 0 ad (E mi) (pI E r) 0 0 (E m4) 4 [(0, .ref 45), (1, iv v1_4), (2, iv v2_4)] []) (fun _ _ _ _ _ h9 => nomatch h9) (fun w4 ih4 v1_4 v2_4 m4 hv1_4 hv2_4 H => ?_) n _ _ _ (inR_lit _ rfl) (inR_lit _ rfl) H)
  refine aw_iload_n (pc := 4) dX6_smallOnes_4 rfl ?_
  refine cx_bipush (pc := 5) dX6_smallOnes_5 (by decide) ?_
  refine cx_icmp_ge (pc := 7) 31 hv2_4 (inR_lit _ rfl) dX6_smallOnes_7 rfl H (fun H => ?_) (fun H => ?_)
  · -- 7: 10
    refine aw_aload_n (pc := 10) dX6_smallOnes_10 rfl ?_
    refine cx_gtC (pc := 11) 46 hE r45 fl_X6_11 rfl rfl (Nat.le_of_ble_eq_true rfl) dX6_smallOnes_11 ?_
    refine aw_iload_n (pc := 14) dX6_smallOnes_14 rfl ?_
    refine cx_ldG (pc := 15) hE r46 hv2_4 dX6_smallOnes_15 H (fun x15 H => ?_)
    refine cx_nn0 H (fun hg16_1 H => ?_)
    refine cx_callG (pc := 16) (P := pI) (dC := 1) (mcC := 0) (msC := 0) [] hE hR.d (fun r1 H1 => s_X1_isSmall l sc E R hE hR.d n x15 hg16_1 m4 r1 H1) ca_X6_43 ⟨_, rfl, rfl⟩ rfl rfl (Nat.le_of_ble_eq_true rfl) (Nat.le_of_ble_eq_true rfl) (Nat.le_of_ble_eq_true rfl) (Nat.le_of_ble_eq_true rfl) dX6_smallOnes_16 H (fun x16 m16 v16 hh16 H hp => ?_)
    refine cx_backI hp (fun hx16 => ?_)
    refine jn_ind (fun (f9 : Int → Mem → Option Rz) => ∀ (v1_25 : Int) (m25 : Mem), inR v1_25 → f9 v1_25 m25 = some r → AW l D base sc RX6 yX6_smallOnes cX6_smallOnes 3 (some FieldType.int) 2 0 0 ad (E mi) (pI E r) 0 0 (E m25) 25 [(0, .ref 45), (1, iv v1_25), (2, iv v2_4)] []) (fun v1_25 m25 hv1_25 H => ?_) (fun j25 hj25 H => ?_) H
    · -- 25
      refine cx_iinc (pc := 25) [(2, iv (w32 (v2_4 + 1))), (0, .ref 45), (1, iv v1_25)] dX6_smallOnes_25 rfl rfl (by decide) ?_
      refine aw_goto (pc := 28) 4 dX6_smallOnes_28 rfl ?_
      exact AW.sel [1, 2, 0] rfl (ih4 _ _ _ hv1_25 (inR_w32 _) H)
    refine cx_if_eq (pc := 19) 25 hx16 dX6_smallOnes_19 rfl H (fun H => ?_) (fun H => ?_)
    · -- 19: 25
      exact AW.sel [0, 1, 2] rfl (hj25 _ _ hv1_4 H)
    · -- 19: 22
      refine cx_iinc (pc := 22) [(1, iv (w32 (v1_4 + 1))), (0, .ref 45), (2, iv v2_4)] dX6_smallOnes_22 rfl rfl (by decide) ?_
      exact AW.sel [1, 0, 2] rfl (hj25 _ _ (inR_w32 _) H)
  · -- 7: 31
    refine aw_iload_n (pc := 31) dX6_smallOnes_31 rfl ?_
    exact cx_iret (pc := 32) hv1_4 rfl (Nat.le_of_ble_eq_true rfl) (Nat.le_of_ble_eq_true rfl) dX6_smallOnes_32 H
/-- X6 unlikeOnes ()I -/
def f_X6_unlikeOnes (n : Nat)  (mi : Mem) : Option Rz :=
  lp (F := Int → Int → Mem → Option Rz) (fun _ _ _ => none) (fun w4 v1_4 v2_4 m4 =>
    if v2_4 < 8 then (
      lp (F := Int → Int → Mem → Option Rz) (fun _ _ _ => none) (fun w15 v3_15 v4_15 m15 =>
        if v4_15 < v2_4 then (
          ldG m15 46 v2_4 fun x26 =>
          ldG m15 46 v4_15 fun x33 =>
          isD x26 <|
          isG m15 x26 <| cal (f_X1_compareWords n x26 x33 m15) fun x34 m34 =>
          jn (fun (v3_42 : Int) (m42 : Mem) =>
            w15 v3_42 (w32 (v4_15 + 1)) m42
          ) fun (j42 : Int → Mem → Option Rz) =>
          if x34 = 0 then (
            j42 0 m34
          ) else
          j42 v3_15 m34
        ) else
        jn (fun (v1_55 : Int) (m55 : Mem) =>
          w4 v1_55 (w32 (v2_4 + 1)) m55
        ) fun (j55 : Int → Mem → Option Rz) =>
        if v3_15 = 0 then (
          j55 v1_4 m15
        ) else
        j55 (w32 (v1_4 + 1)) m15
      ) n 1 0 m4
    ) else
    rt v1_4 m4
  ) n 0 0 mi
set_option maxRecDepth 100000 in
set_option maxHeartbeats 4000000 in
theorem s_X6_unlikeOnes (l : Launch) (sc : g_S) (E : Mem → g_H) (R : Nat → Prop) (hE : LE E R) (hR : RCL R) (n : Nat)    (mi : Mem) (r : Rz) (H : f_X6_unlikeOnes n  mi = some r) : AMet l sc yX6_unlikeOnes cX6_unlikeOnes 5 (some FieldType.int) 2 0 0 [.ref 45] (E mi) (pI E r) := by
  have r45 : R 45 := hR.1 45 (Nat.le_of_ble_eq_true rfl) (Nat.le_of_ble_eq_true rfl)
  have r46 : R 46 := hR.1 46 (Nat.le_of_ble_eq_true rfl) (Nat.le_of_ble_eq_true rfl)
  unfold f_X6_unlikeOnes at H
  refine AMet.of (own := RX6) (by decide +kernel) rfl (Nat.le_of_ble_eq_true rfl) [(0, .ref 45)] rfl (fun D base ad => ?_)
  refine cx_iconst (pc := 0) dX6_unlikeOnes_0 ?_
  refine aw_istore_n (pc := 1) [(1, iv 0), (0, .ref 45)] dX6_unlikeOnes_1 rfl (by decide) ?_
  refine cx_iconst (pc := 2) dX6_unlikeOnes_2 ?_
  refine aw_istore_n (pc := 3) [(2, iv 0), (1, iv 0), (0, .ref 45)] dX6_unlikeOnes_3 rfl (by decide) ?_
  refine AW.sel [2, 1, 0] rfl (lp_ind (bot := fun _ _ _ => none) (fun (f9 : Int → Int → Mem → Option Rz) => ∀ (v1_4 : Int) (v2_4 : Int) (m4 : Mem), inR v1_4 → inR v2_4 → f9 v1_4 v2_4 m4 = some r → AW l D base sc RX6 yX6_unlikeOnes cX6_unlikeOnes 5 (some FieldType.int) 2 0 0 ad (E mi) (pI E r) 0 0 (E m4) 4 [(0, .ref 45), (1, iv v1_4), (2, iv v2_4)] []) (fun _ _ _ _ _ h9 => nomatch h9) (fun w4 ih4 v1_4 v2_4 m4 hv1_4 hv2_4 H => ?_) n _ _ _ (inR_lit _ rfl) (inR_lit _ rfl) H)
  refine aw_iload_n (pc := 4) dX6_unlikeOnes_4 rfl ?_
  refine cx_bipush (pc := 5) dX6_unlikeOnes_5 (by decide) ?_
  refine cx_icmp_ge (pc := 7) 61 hv2_4 (inR_lit _ rfl) dX6_unlikeOnes_7 rfl H (fun H => ?_) (fun H => ?_)
  · -- 7: 10
    refine cx_iconst (pc := 10) dX6_unlikeOnes_10 ?_
    refine aw_istore_n (pc := 11) [(3, iv 1), (0, .ref 45), (1, iv v1_4), (2, iv v2_4)] dX6_unlikeOnes_11 rfl (by decide) ?_
    refine cx_iconst (pc := 12) dX6_unlikeOnes_12 ?_
    refine aw_istore (pc := 13) [(4, iv 0), (3, iv 1), (0, .ref 45), (1, iv v1_4), (2, iv v2_4)] dX6_unlikeOnes_13 rfl (by decide) ?_
    refine AW.sel [2, 3, 4, 1, 0] rfl (lp_ind (bot := fun _ _ _ => none) (fun (f9 : Int → Int → Mem → Option Rz) => ∀ (v3_15 : Int) (v4_15 : Int) (m15 : Mem), inR v3_15 → inR v4_15 → f9 v3_15 v4_15 m15 = some r → AW l D base sc RX6 yX6_unlikeOnes cX6_unlikeOnes 5 (some FieldType.int) 2 0 0 ad (E mi) (pI E r) 0 0 (E m15) 15 [(0, .ref 45), (1, iv v1_4), (2, iv v2_4), (3, iv v3_15), (4, iv v4_15)] []) (fun _ _ _ _ _ h9 => nomatch h9) (fun w15 ih15 v3_15 v4_15 m15 hv3_15 hv4_15 H => ?_) n _ _ _ (inR_lit _ rfl) (inR_lit _ rfl) H)
    refine aw_iload (pc := 15) dX6_unlikeOnes_15 rfl ?_
    refine aw_iload_n (pc := 17) dX6_unlikeOnes_17 rfl ?_
    refine cx_icmp_ge (pc := 18) 48 hv4_15 hv2_4 dX6_unlikeOnes_18 rfl H (fun H => ?_) (fun H => ?_)
    · -- 18: 21
      refine aw_aload_n (pc := 21) dX6_unlikeOnes_21 rfl ?_
      refine cx_gtC (pc := 22) 46 hE r45 fl_X6_11 rfl rfl (Nat.le_of_ble_eq_true rfl) dX6_unlikeOnes_22 ?_
      refine aw_iload_n (pc := 25) dX6_unlikeOnes_25 rfl ?_
      refine cx_ldG (pc := 26) hE r46 hv2_4 dX6_unlikeOnes_26 H (fun x26 H => ?_)
      refine aw_aload_n (pc := 27) dX6_unlikeOnes_27 rfl ?_
      refine cx_gtC (pc := 28) 46 hE r45 fl_X6_11 rfl rfl (Nat.le_of_ble_eq_true rfl) dX6_unlikeOnes_28 ?_
      refine aw_iload (pc := 31) dX6_unlikeOnes_31 rfl ?_
      refine cx_ldG (pc := 33) hE r46 hv4_15 dX6_unlikeOnes_33 H (fun x33 H => ?_)
      refine cx_nn1 H (fun hg34_1 H => ?_)
      refine cx_callG (pc := 34) (P := pI) (dC := 1) (mcC := 0) (msC := 0) [rv x33] hE hR.d (fun r1 H1 => s_X1_compareWords l sc E R hE hR.d n x26 x33 hg34_1 m15 r1 H1) ca_X6_47 ⟨_, rfl, rfl⟩ rfl rfl (Nat.le_of_ble_eq_true rfl) (Nat.le_of_ble_eq_true rfl) (Nat.le_of_ble_eq_true rfl) (Nat.le_of_ble_eq_true rfl) dX6_unlikeOnes_34 H (fun x34 m34 v34 hh34 H hp => ?_)
      refine cx_backI hp (fun hx34 => ?_)
      refine jn_ind (fun (f9 : Int → Mem → Option Rz) => ∀ (v3_42 : Int) (m42 : Mem), inR v3_42 → f9 v3_42 m42 = some r → AW l D base sc RX6 yX6_unlikeOnes cX6_unlikeOnes 5 (some FieldType.int) 2 0 0 ad (E mi) (pI E r) 0 0 (E m42) 42 [(0, .ref 45), (1, iv v1_4), (2, iv v2_4), (3, iv v3_42), (4, iv v4_15)] []) (fun v3_42 m42 hv3_42 H => ?_) (fun j42 hj42 H => ?_) H
      · -- 42
        refine cx_iinc (pc := 42) [(4, iv (w32 (v4_15 + 1))), (0, .ref 45), (1, iv v1_4), (2, iv v2_4), (3, iv v3_42)] dX6_unlikeOnes_42 rfl rfl (by decide) ?_
        refine aw_goto (pc := 45) 15 dX6_unlikeOnes_45 rfl ?_
        exact AW.sel [1, 2, 3, 4, 0] rfl (ih15 _ _ _ hv3_42 (inR_w32 _) H)
      refine cx_if_ne (pc := 37) 42 hx34 dX6_unlikeOnes_37 rfl H (fun H => ?_) (fun H => ?_)
      · -- 37: 40
        refine cx_iconst (pc := 40) dX6_unlikeOnes_40 ?_
        refine aw_istore_n (pc := 41) [(3, iv 0), (0, .ref 45), (1, iv v1_4), (2, iv v2_4), (4, iv v4_15)] dX6_unlikeOnes_41 rfl (by decide) ?_
        exact AW.sel [1, 2, 3, 0, 4] rfl (hj42 _ _ (inR_lit _ rfl) H)
      · -- 37: 42
        exact AW.sel [0, 1, 2, 3, 4] rfl (hj42 _ _ hv3_15 H)
    · -- 18: 48
      refine aw_iload_n (pc := 48) dX6_unlikeOnes_48 rfl ?_
      refine jn_ind (fun (f9 : Int → Mem → Option Rz) => ∀ (v1_55 : Int) (m55 : Mem), inR v1_55 → f9 v1_55 m55 = some r → AW l D base sc RX6 yX6_unlikeOnes cX6_unlikeOnes 5 (some FieldType.int) 2 0 0 ad (E mi) (pI E r) 0 0 (E m55) 55 [(0, .ref 45), (1, iv v1_55), (2, iv v2_4)] []) (fun v1_55 m55 hv1_55 H => ?_) (fun j55 hj55 H => ?_) H
      · -- 55
        refine cx_iinc (pc := 55) [(2, iv (w32 (v2_4 + 1))), (0, .ref 45), (1, iv v1_55)] dX6_unlikeOnes_55 rfl rfl (by decide) ?_
        refine aw_goto (pc := 58) 4 dX6_unlikeOnes_58 rfl ?_
        exact AW.sel [1, 2, 0] rfl (ih4 _ _ _ hv1_55 (inR_w32 _) H)
      refine cx_if_eq (pc := 49) 55 hv3_15 dX6_unlikeOnes_49 rfl H (fun H => ?_) (fun H => ?_)
      · -- 49: 55
        exact AW.sel [0, 1, 2] rfl (hj55 _ _ hv1_4 H)
      · -- 49: 52
        refine cx_iinc (pc := 52) [(1, iv (w32 (v1_4 + 1))), (0, .ref 45), (2, iv v2_4), (3, iv v3_15), (4, iv v4_15)] dX6_unlikeOnes_52 rfl rfl (by decide) ?_
        exact AW.sel [1, 0, 2] rfl (hj55 _ _ (inR_w32 _) H)
  · -- 7: 61
    refine aw_iload_n (pc := 61) dX6_unlikeOnes_61 rfl ?_
    exact cx_iret (pc := 62) hv1_4 rfl (Nat.le_of_ble_eq_true rfl) (Nat.le_of_ble_eq_true rfl) dX6_unlikeOnes_62 H
theorem dX5_areAlike_0 : decode cX5_areAlike 0 = .ok (.aload_n 0, 1) := by decide +kernel
theorem dX5_areAlike_1 : decode cX5_areAlike 1 = .ok (.iload_n 1, 1) := by decide +kernel
theorem dX5_areAlike_2 : decode cX5_areAlike 2 = .ok (.invokevirtual 21, 3) := by decide +kernel
theorem dX5_areAlike_5 : decode cX5_areAlike 5 = .ok (.ifCond .eq 30, 3) := by decide +kernel
theorem dX5_areAlike_8 : decode cX5_areAlike 8 = .ok (.aload_n 0, 1) := by decide +kernel
theorem dX5_areAlike_9 : decode cX5_areAlike 9 = .ok (.iload_n 2, 1) := by decide +kernel
theorem dX5_areAlike_10 : decode cX5_areAlike 10 = .ok (.invokevirtual 21, 3) := by decide +kernel
theorem dX5_areAlike_13 : decode cX5_areAlike 13 = .ok (.ifCond .eq 22, 3) := by decide +kernel
theorem dX5_areAlike_16 : decode cX5_areAlike 16 = .ok (.aload_n 0, 1) := by decide +kernel
theorem dX5_areAlike_17 : decode cX5_areAlike 17 = .ok (.getfield 14, 3) := by decide +kernel
theorem dX5_areAlike_20 : decode cX5_areAlike 20 = .ok (.iload_n 1, 1) := by decide +kernel
theorem dX5_areAlike_21 : decode cX5_areAlike 21 = .ok (.iaload, 1) := by decide +kernel
theorem dX5_areAlike_22 : decode cX5_areAlike 22 = .ok (.aload_n 0, 1) := by decide +kernel
theorem dX5_areAlike_23 : decode cX5_areAlike 23 = .ok (.getfield 14, 3) := by decide +kernel
theorem dX5_areAlike_26 : decode cX5_areAlike 26 = .ok (.iload_n 2, 1) := by decide +kernel
theorem dX5_areAlike_27 : decode cX5_areAlike 27 = .ok (.iaload, 1) := by decide +kernel
theorem dX5_areAlike_28 : decode cX5_areAlike 28 = .ok (.if_icmp .ne 7, 3) := by decide +kernel
theorem dX5_areAlike_31 : decode cX5_areAlike 31 = .ok (.iconst 1, 1) := by decide +kernel
theorem dX5_areAlike_32 : decode cX5_areAlike 32 = .ok (.goto 4, 3) := by decide +kernel
theorem dX5_areAlike_35 : decode cX5_areAlike 35 = .ok (.iconst 0, 1) := by decide +kernel
theorem dX5_areAlike_36 : decode cX5_areAlike 36 = .ok (.ireturn, 1) := by decide +kernel
theorem dX5_isKind_0 : decode cX5_isKind 0 = .ok (.iload_n 0, 1) := by decide +kernel
theorem dX5_isKind_1 : decode cX5_isKind 1 = .ok (.ifCond .eq 21, 3) := by decide +kernel
theorem dX5_isKind_4 : decode cX5_isKind 4 = .ok (.iload_n 0, 1) := by decide +kernel
theorem dX5_isKind_5 : decode cX5_isKind 5 = .ok (.bipush 8, 2) := by decide +kernel
theorem dX5_isKind_7 : decode cX5_isKind 7 = .ok (.if_icmp .eq 15, 3) := by decide +kernel
theorem dX5_isKind_10 : decode cX5_isKind 10 = .ok (.iload_n 0, 1) := by decide +kernel
theorem dX5_isKind_11 : decode cX5_isKind 11 = .ok (.bipush 16, 2) := by decide +kernel
theorem dX5_isKind_13 : decode cX5_isKind 13 = .ok (.if_icmp .eq 9, 3) := by decide +kernel
theorem dX5_isKind_16 : decode cX5_isKind 16 = .ok (.iload_n 0, 1) := by decide +kernel
theorem dX5_isKind_17 : decode cX5_isKind 17 = .ok (.bipush 32, 2) := by decide +kernel
theorem dX5_isKind_19 : decode cX5_isKind 19 = .ok (.if_icmp .ne 7, 3) := by decide +kernel
theorem dX5_isKind_22 : decode cX5_isKind 22 = .ok (.iconst 1, 1) := by decide +kernel
theorem dX5_isKind_23 : decode cX5_isKind 23 = .ok (.goto 4, 3) := by decide +kernel
theorem dX5_isKind_26 : decode cX5_isKind 26 = .ok (.iconst 0, 1) := by decide +kernel
theorem dX5_isKind_27 : decode cX5_isKind 27 = .ok (.ireturn, 1) := by decide +kernel
theorem dX5_isMissing_0 : decode cX5_isMissing 0 = .ok (.aload_n 0, 1) := by decide +kernel
theorem dX5_isMissing_1 : decode cX5_isMissing 1 = .ok (.iload_n 1, 1) := by decide +kernel
theorem dX5_isMissing_2 : decode cX5_isMissing 2 = .ok (.invokevirtual 21, 3) := by decide +kernel
theorem dX5_isMissing_5 : decode cX5_isMissing 5 = .ok (.ifCond .eq 12, 3) := by decide +kernel
theorem dX5_isMissing_8 : decode cX5_isMissing 8 = .ok (.aload_n 0, 1) := by decide +kernel
theorem dX5_isMissing_9 : decode cX5_isMissing 9 = .ok (.getfield 14, 3) := by decide +kernel
theorem dX5_isMissing_12 : decode cX5_isMissing 12 = .ok (.iload_n 1, 1) := by decide +kernel
theorem dX5_isMissing_13 : decode cX5_isMissing 13 = .ok (.iaload, 1) := by decide +kernel
theorem dX5_isMissing_14 : decode cX5_isMissing 14 = .ok (.ifCond .ne 7, 3) := by decide +kernel
theorem dX5_isMissing_17 : decode cX5_isMissing 17 = .ok (.iconst 1, 1) := by decide +kernel
theorem dX5_isMissing_18 : decode cX5_isMissing 18 = .ok (.goto 4, 3) := by decide +kernel
theorem dX5_isMissing_21 : decode cX5_isMissing 21 = .ok (.iconst 0, 1) := by decide +kernel
theorem dX5_isMissing_22 : decode cX5_isMissing 22 = .ok (.ireturn, 1) := by decide +kernel
theorem dX5_isSheet_0 : decode cX5_isSheet 0 = .ok (.iload_n 1, 1) := by decide +kernel
theorem dX5_isSheet_1 : decode cX5_isSheet 1 = .ok (.ifCond .lt 12, 3) := by decide +kernel
theorem dX5_isSheet_4 : decode cX5_isSheet 4 = .ok (.iload_n 1, 1) := by decide +kernel
theorem dX5_isSheet_5 : decode cX5_isSheet 5 = .ok (.iconst 4, 1) := by decide +kernel
theorem dX5_isSheet_6 : decode cX5_isSheet 6 = .ok (.if_icmp .ge 7, 3) := by decide +kernel
theorem dX5_isSheet_9 : decode cX5_isSheet 9 = .ok (.iconst 1, 1) := by decide +kernel
theorem dX5_isSheet_10 : decode cX5_isSheet 10 = .ok (.goto 4, 3) := by decide +kernel
theorem dX5_isSheet_13 : decode cX5_isSheet 13 = .ok (.iconst 0, 1) := by decide +kernel
theorem dX5_isSheet_14 : decode cX5_isSheet 14 = .ok (.ireturn, 1) := by decide +kernel
theorem dX5_laidOnes_0 : decode cX5_laidOnes 0 = .ok (.iconst 0, 1) := by decide +kernel
theorem dX5_laidOnes_1 : decode cX5_laidOnes 1 = .ok (.istore_n 1, 1) := by decide +kernel
theorem dX5_laidOnes_2 : decode cX5_laidOnes 2 = .ok (.iconst 0, 1) := by decide +kernel
theorem dX5_laidOnes_3 : decode cX5_laidOnes 3 = .ok (.istore_n 2, 1) := by decide +kernel
theorem dX5_laidOnes_4 : decode cX5_laidOnes 4 = .ok (.iload_n 2, 1) := by decide +kernel
theorem dX5_laidOnes_5 : decode cX5_laidOnes 5 = .ok (.iconst 4, 1) := by decide +kernel
theorem dX5_laidOnes_6 : decode cX5_laidOnes 6 = .ok (.if_icmp .ge 20, 3) := by decide +kernel
theorem dX5_laidOnes_9 : decode cX5_laidOnes 9 = .ok (.aload_n 0, 1) := by decide +kernel
theorem dX5_laidOnes_10 : decode cX5_laidOnes 10 = .ok (.iload_n 2, 1) := by decide +kernel
theorem dX5_laidOnes_11 : decode cX5_laidOnes 11 = .ok (.invokevirtual 25, 3) := by decide +kernel
theorem dX5_laidOnes_14 : decode cX5_laidOnes 14 = .ok (.ifCond .ne 6, 3) := by decide +kernel
theorem dX5_laidOnes_17 : decode cX5_laidOnes 17 = .ok (.iinc 1 1, 3) := by decide +kernel
theorem dX5_laidOnes_20 : decode cX5_laidOnes 20 = .ok (.iinc 2 1, 3) := by decide +kernel
theorem dX5_laidOnes_23 : decode cX5_laidOnes 23 = .ok (.goto (-19), 3) := by decide +kernel
theorem dX5_laidOnes_26 : decode cX5_laidOnes 26 = .ok (.iload_n 1, 1) := by decide +kernel
theorem dX5_laidOnes_27 : decode cX5_laidOnes 27 = .ok (.ireturn, 1) := by decide +kernel
theorem dX5_lay_0 : decode cX5_lay 0 = .ok (.aload_n 0, 1) := by decide +kernel
theorem dX5_lay_1 : decode cX5_lay 1 = .ok (.iload_n 1, 1) := by decide +kernel
theorem dX5_lay_2 : decode cX5_lay 2 = .ok (.invokevirtual 21, 3) := by decide +kernel
theorem dX5_lay_5 : decode cX5_lay 5 = .ok (.ifCond .eq 37, 3) := by decide +kernel
theorem dX5_lay_8 : decode cX5_lay 8 = .ok (.iload_n 3, 1) := by decide +kernel
theorem dX5_lay_9 : decode cX5_lay 9 = .ok (.ifCond .lt 33, 3) := by decide +kernel
theorem dX5_lay_12 : decode cX5_lay 12 = .ok (.iload_n 3, 1) := by decide +kernel
theorem dX5_lay_13 : decode cX5_lay 13 = .ok (.bipush 24, 2) := by decide +kernel
theorem dX5_lay_15 : decode cX5_lay 15 = .ok (.if_icmp .gt 27, 3) := by decide +kernel
theorem dX5_lay_18 : decode cX5_lay 18 = .ok (.aload_n 0, 1) := by decide +kernel
theorem dX5_lay_19 : decode cX5_lay 19 = .ok (.getfield 14, 3) := by decide +kernel
theorem dX5_lay_22 : decode cX5_lay 22 = .ok (.iload_n 1, 1) := by decide +kernel
theorem dX5_lay_23 : decode cX5_lay 23 = .ok (.iload_n 2, 1) := by decide +kernel
theorem dX5_lay_24 : decode cX5_lay 24 = .ok (.iastore, 1) := by decide +kernel
theorem dX5_lay_25 : decode cX5_lay 25 = .ok (.aload_n 0, 1) := by decide +kernel
theorem dX5_lay_26 : decode cX5_lay 26 = .ok (.getfield 18, 3) := by decide +kernel
theorem dX5_lay_29 : decode cX5_lay 29 = .ok (.iload_n 1, 1) := by decide +kernel
theorem dX5_lay_30 : decode cX5_lay 30 = .ok (.iload_n 3, 1) := by decide +kernel
theorem dX5_lay_31 : decode cX5_lay 31 = .ok (.iastore, 1) := by decide +kernel
theorem dX5_lay_32 : decode cX5_lay 32 = .ok (.aload_n 0, 1) := by decide +kernel
theorem dX5_lay_33 : decode cX5_lay 33 = .ok (.getfield 11, 3) := by decide +kernel
theorem dX5_lay_36 : decode cX5_lay 36 = .ok (.iload_n 1, 1) := by decide +kernel
theorem dX5_lay_37 : decode cX5_lay 37 = .ok (.aaload, 1) := by decide +kernel
theorem dX5_lay_38 : decode cX5_lay 38 = .ok (.iconst 0, 1) := by decide +kernel
theorem dX5_lay_39 : decode cX5_lay 39 = .ok (.invokestatic 32, 3) := by decide +kernel
theorem dX5_lay_42 : decode cX5_lay 42 = .ok (.iconst 1, 1) := by decide +kernel
theorem dX5_lay_43 : decode cX5_lay 43 = .ok (.ireturn, 1) := by decide +kernel
theorem dX5_length_0 : decode cX5_length 0 = .ok (.aload_n 0, 1) := by decide +kernel
theorem dX5_length_1 : decode cX5_length 1 = .ok (.iload_n 1, 1) := by decide +kernel
theorem dX5_length_2 : decode cX5_length 2 = .ok (.invokevirtual 25, 3) := by decide +kernel
theorem dX5_length_5 : decode cX5_length 5 = .ok (.ifCond .eq 7, 3) := by decide +kernel
theorem dX5_length_8 : decode cX5_length 8 = .ok (.iconst 0, 1) := by decide +kernel
theorem dX5_length_9 : decode cX5_length 9 = .ok (.goto 9, 3) := by decide +kernel
theorem dX5_length_12 : decode cX5_length 12 = .ok (.aload_n 0, 1) := by decide +kernel
theorem dX5_length_13 : decode cX5_length 13 = .ok (.getfield 18, 3) := by decide +kernel
theorem dX5_length_16 : decode cX5_length 16 = .ok (.iload_n 1, 1) := by decide +kernel
theorem dX5_length_17 : decode cX5_length 17 = .ok (.iaload, 1) := by decide +kernel
theorem dX5_length_18 : decode cX5_length 18 = .ok (.ireturn, 1) := by decide +kernel
theorem dX5_lowest_0 : decode cX5_lowest 0 = .ok (.iload_n 0, 1) := by decide +kernel
theorem dX5_lowest_1 : decode cX5_lowest 1 = .ok (.bipush 8, 2) := by decide +kernel
theorem dX5_lowest_3 : decode cX5_lowest 3 = .ok (.if_icmp .ne 6, 3) := by decide +kernel
theorem dX5_lowest_6 : decode cX5_lowest 6 = .ok (.iload_n 1, 1) := by decide +kernel
theorem dX5_lowest_7 : decode cX5_lowest 7 = .ok (.i2b, 1) := by decide +kernel
theorem dX5_lowest_8 : decode cX5_lowest 8 = .ok (.ireturn, 1) := by decide +kernel
theorem dX5_lowest_9 : decode cX5_lowest 9 = .ok (.iload_n 0, 1) := by decide +kernel
theorem dX5_lowest_10 : decode cX5_lowest 10 = .ok (.bipush 16, 2) := by decide +kernel
theorem dX5_lowest_12 : decode cX5_lowest 12 = .ok (.if_icmp .ne 8, 3) := by decide +kernel
theorem dX5_lowest_15 : decode cX5_lowest 15 = .ok (.iload_n 1, 1) := by decide +kernel
theorem dX5_lowest_16 : decode cX5_lowest 16 = .ok (.i2s, 1) := by decide +kernel
theorem dX5_lowest_17 : decode cX5_lowest 17 = .ok (.goto 4, 3) := by decide +kernel
theorem dX5_lowest_20 : decode cX5_lowest 20 = .ok (.iload_n 1, 1) := by decide +kernel
theorem dX5_lowest_21 : decode cX5_lowest 21 = .ok (.ireturn, 1) := by decide +kernel
theorem dX5_number_0 : decode cX5_number 0 = .ok (.aload_n 0, 1) := by decide +kernel
theorem dX5_number_1 : decode cX5_number 1 = .ok (.iload_n 1, 1) := by decide +kernel
theorem dX5_number_2 : decode cX5_number 2 = .ok (.iload_n 2, 1) := by decide +kernel
theorem dX5_number_3 : decode cX5_number 3 = .ok (.iconst 1, 1) := by decide +kernel
theorem dX5_number_4 : decode cX5_number 4 = .ok (.invokevirtual 38, 3) := by decide +kernel
theorem dX5_number_7 : decode cX5_number 7 = .ok (.ifCond .eq 20, 3) := by decide +kernel
theorem dX5_number_10 : decode cX5_number 10 = .ok (.iload_n 2, 1) := by decide +kernel
theorem dX5_number_11 : decode cX5_number 11 = .ok (.bipush 24, 2) := by decide +kernel
theorem dX5_number_13 : decode cX5_number 13 = .ok (.if_icmp .ge 14, 3) := by decide +kernel
theorem dX5_number_16 : decode cX5_number 16 = .ok (.aload_n 0, 1) := by decide +kernel
theorem dX5_number_17 : decode cX5_number 17 = .ok (.getfield 11, 3) := by decide +kernel
theorem dX5_number_20 : decode cX5_number 20 = .ok (.iload_n 1, 1) := by decide +kernel
theorem dX5_number_21 : decode cX5_number 21 = .ok (.aaload, 1) := by decide +kernel
theorem dX5_number_22 : decode cX5_number 22 = .ok (.iload_n 2, 1) := by decide +kernel
theorem dX5_number_23 : decode cX5_number 23 = .ok (.iaload, 1) := by decide +kernel
theorem dX5_number_24 : decode cX5_number 24 = .ok (.goto 4, 3) := by decide +kernel
theorem dX5_number_27 : decode cX5_number 27 = .ok (.iconst 0, 1) := by decide +kernel
theorem dX5_number_28 : decode cX5_number 28 = .ok (.ireturn, 1) := by decide +kernel
theorem dX5_stand_0 : decode cX5_stand 0 = .ok (.iload_n 3, 1) := by decide +kernel
theorem dX5_stand_1 : decode cX5_stand 1 = .ok (.ifCond .lt 22, 3) := by decide +kernel
theorem dX5_stand_4 : decode cX5_stand 4 = .ok (.iload_n 2, 1) := by decide +kernel
theorem dX5_stand_5 : decode cX5_stand 5 = .ok (.ifCond .lt 18, 3) := by decide +kernel
theorem dX5_stand_8 : decode cX5_stand 8 = .ok (.iload_n 2, 1) := by decide +kernel
theorem dX5_stand_9 : decode cX5_stand 9 = .ok (.aload_n 0, 1) := by decide +kernel
theorem dX5_stand_10 : decode cX5_stand 10 = .ok (.iload_n 1, 1) := by decide +kernel
theorem dX5_stand_11 : decode cX5_stand 11 = .ok (.invokevirtual 28, 3) := by decide +kernel
theorem dX5_stand_14 : decode cX5_stand 14 = .ok (.iload_n 3, 1) := by decide +kernel
theorem dX5_stand_15 : decode cX5_stand 15 = .ok (.isub, 1) := by decide +kernel
theorem dX5_stand_16 : decode cX5_stand 16 = .ok (.if_icmp .gt 7, 3) := by decide +kernel
theorem dX5_stand_19 : decode cX5_stand 19 = .ok (.iconst 1, 1) := by decide +kernel
theorem dX5_stand_20 : decode cX5_stand 20 = .ok (.goto 4, 3) := by decide +kernel
theorem dX5_stand_23 : decode cX5_stand 23 = .ok (.iconst 0, 1) := by decide +kernel
theorem dX5_stand_24 : decode cX5_stand 24 = .ok (.ireturn, 1) := by decide +kernel
theorem dX5_write_0 : decode cX5_write 0 = .ok (.aload_n 0, 1) := by decide +kernel
theorem dX5_write_1 : decode cX5_write 1 = .ok (.iload_n 1, 1) := by decide +kernel
theorem dX5_write_2 : decode cX5_write 2 = .ok (.iload_n 2, 1) := by decide +kernel
theorem dX5_write_3 : decode cX5_write 3 = .ok (.iconst 1, 1) := by decide +kernel
theorem dX5_write_4 : decode cX5_write 4 = .ok (.invokevirtual 38, 3) := by decide +kernel
theorem dX5_write_7 : decode cX5_write 7 = .ok (.ifCond .eq 27, 3) := by decide +kernel
theorem dX5_write_10 : decode cX5_write 10 = .ok (.iload_n 2, 1) := by decide +kernel
theorem dX5_write_11 : decode cX5_write 11 = .ok (.bipush 24, 2) := by decide +kernel
theorem dX5_write_13 : decode cX5_write 13 = .ok (.if_icmp .ge 21, 3) := by decide +kernel
theorem dX5_write_16 : decode cX5_write 16 = .ok (.aload_n 0, 1) := by decide +kernel
theorem dX5_write_17 : decode cX5_write 17 = .ok (.getfield 11, 3) := by decide +kernel
theorem dX5_write_20 : decode cX5_write 20 = .ok (.iload_n 1, 1) := by decide +kernel
theorem dX5_write_21 : decode cX5_write 21 = .ok (.aaload, 1) := by decide +kernel
theorem dX5_write_22 : decode cX5_write 22 = .ok (.iload_n 2, 1) := by decide +kernel
theorem dX5_write_23 : decode cX5_write 23 = .ok (.aload_n 0, 1) := by decide +kernel
theorem dX5_write_24 : decode cX5_write 24 = .ok (.getfield 14, 3) := by decide +kernel
theorem dX5_write_27 : decode cX5_write 27 = .ok (.iload_n 1, 1) := by decide +kernel
theorem dX5_write_28 : decode cX5_write 28 = .ok (.iaload, 1) := by decide +kernel
theorem dX5_write_29 : decode cX5_write 29 = .ok (.iload_n 3, 1) := by decide +kernel
theorem dX5_write_30 : decode cX5_write 30 = .ok (.invokestatic 42, 3) := by decide +kernel
theorem dX5_write_33 : decode cX5_write 33 = .ok (.iastore, 1) := by decide +kernel
theorem dX5_write_34 : decode cX5_write 34 = .ok (.iconst 1, 1) := by decide +kernel
theorem dX5_write_35 : decode cX5_write 35 = .ok (.ireturn, 1) := by decide +kernel
/-- X5 isSheet (I)Z -/
def f_X5_isSheet (n : Nat) (p1 : Int) (mi : Mem) : Option Rz :=
  jn (fun (s0_14 : Int) (m14 : Mem) =>
    rtZ s0_14 m14
  ) fun (j14 : Int → Mem → Option Rz) =>
  jn (fun (m13 : Mem) =>
    j14 0 m13
  ) fun (j13 : Mem → Option Rz) =>
  if p1 < 0 then (
    j13 mi
  ) else
  if p1 < 4 then (
    j14 1 mi
  ) else
  j13 mi
set_option maxRecDepth 100000 in
set_option maxHeartbeats 4000000 in
theorem s_X5_isSheet (l : Launch) (sc : g_S) (E : Mem → g_H) (R : Nat → Prop) (hE : LE E R) (hR : RCL R) (n : Nat)  (p1 : Int) (hp1 : inR p1) (mi : Mem) (r : Rz) (H : f_X5_isSheet n p1 mi = some r) : AMet l sc yX5_isSheet cX5_isSheet 2 (some FieldType.boolean) 0 0 0 [.ref 50, iv p1] (E mi) (pI E r) := by
  unfold f_X5_isSheet at H
  refine AMet.of (own := RX5) (by decide +kernel) rfl (Nat.le_of_ble_eq_true rfl) [(0, .ref 50), (1, iv p1)] rfl (fun D base ad => ?_)
  refine aw_iload_n (pc := 0) dX5_isSheet_0 rfl ?_
  refine jn_ind (fun (f9 : Int → Mem → Option Rz) => ∀ (s0_14 : Int) (m14 : Mem), inR s0_14 → f9 s0_14 m14 = some r → AW l D base sc RX5 yX5_isSheet cX5_isSheet 2 (some FieldType.boolean) 0 0 0 ad (E mi) (pI E r) 0 0 (E m14) 14 [] [iv s0_14]) (fun s0_14 m14 hs0_14 H => ?_) (fun j14 hj14 H => ?_) H
  · -- 14
    exact cx_zret (pc := 14) rfl (Nat.le_of_ble_eq_true rfl) (Nat.le_of_ble_eq_true rfl) dX5_isSheet_14 H
  refine jn_ind (fun (f9 : Mem → Option Rz) => ∀ (m13 : Mem), f9 m13 = some r → AW l D base sc RX5 yX5_isSheet cX5_isSheet 2 (some FieldType.boolean) 0 0 0 ad (E mi) (pI E r) 0 0 (E m13) 13 [] []) (fun m13 H => ?_) (fun j13 hj13 H => ?_) H
  · -- 13
    refine cx_iconst (pc := 13) dX5_isSheet_13 ?_
    exact AW.sel [] rfl (hj14 _ _ (inR_lit _ rfl) H)
  refine cx_if_lt (pc := 1) 13 hp1 dX5_isSheet_1 rfl H (fun H => ?_) (fun H => ?_)
  · -- 1: 13
    exact AW.sel [] rfl (hj13 _ H)
  · -- 1: 4
    refine aw_iload_n (pc := 4) dX5_isSheet_4 rfl ?_
    refine cx_iconst (pc := 5) dX5_isSheet_5 ?_
    refine cx_icmp_ge (pc := 6) 13 hp1 (inR_lit _ rfl) dX5_isSheet_6 rfl H (fun H => ?_) (fun H => ?_)
    · -- 6: 9
      refine cx_iconst (pc := 9) dX5_isSheet_9 ?_
      refine aw_goto (pc := 10) 14 dX5_isSheet_10 rfl ?_
      exact AW.sel [] rfl (hj14 _ _ (inR_lit _ rfl) H)
    · -- 6: 13
      exact AW.sel [] rfl (hj13 _ H)
/-- X5 isKind (I)Z -/
def f_X5_isKind (n : Nat) (p0 : Int) (mi : Mem) : Option Rz :=
  jn (fun (s0_27 : Int) (m27 : Mem) =>
    rtZ s0_27 m27
  ) fun (j27 : Int → Mem → Option Rz) =>
  jn (fun (m22 : Mem) =>
    j27 1 m22
  ) fun (j22 : Mem → Option Rz) =>
  if p0 = 0 then (
    j22 mi
  ) else
  if p0 = 8 then (
    j22 mi
  ) else
  if p0 = 16 then (
    j22 mi
  ) else
  if p0 = 32 then (
    j22 mi
  ) else
  j27 0 mi
set_option maxRecDepth 100000 in
set_option maxHeartbeats 4000000 in
theorem s_X5_isKind (l : Launch) (sc : g_S) (E : Mem → g_H) (R : Nat → Prop) (hE : LE E R) (hR : RCL R) (n : Nat)  (p0 : Int) (hp0 : inR p0) (mi : Mem) (r : Rz) (H : f_X5_isKind n p0 mi = some r) : AMet l sc yX5_isKind cX5_isKind 1 (some FieldType.boolean) 0 0 0 [iv p0] (E mi) (pI E r) := by
  unfold f_X5_isKind at H
  refine AMet.of (own := RX5) (by decide +kernel) rfl (Nat.le_of_ble_eq_true rfl) [(0, iv p0)] rfl (fun D base ad => ?_)
  refine aw_iload_n (pc := 0) dX5_isKind_0 rfl ?_
  refine jn_ind (fun (f9 : Int → Mem → Option Rz) => ∀ (s0_27 : Int) (m27 : Mem), inR s0_27 → f9 s0_27 m27 = some r → AW l D base sc RX5 yX5_isKind cX5_isKind 1 (some FieldType.boolean) 0 0 0 ad (E mi) (pI E r) 0 0 (E m27) 27 [] [iv s0_27]) (fun s0_27 m27 hs0_27 H => ?_) (fun j27 hj27 H => ?_) H
  · -- 27
    exact cx_zret (pc := 27) rfl (Nat.le_of_ble_eq_true rfl) (Nat.le_of_ble_eq_true rfl) dX5_isKind_27 H
  refine jn_ind (fun (f9 : Mem → Option Rz) => ∀ (m22 : Mem), f9 m22 = some r → AW l D base sc RX5 yX5_isKind cX5_isKind 1 (some FieldType.boolean) 0 0 0 ad (E mi) (pI E r) 0 0 (E m22) 22 [] []) (fun m22 H => ?_) (fun j22 hj22 H => ?_) H
  · -- 22
    refine cx_iconst (pc := 22) dX5_isKind_22 ?_
    refine aw_goto (pc := 23) 27 dX5_isKind_23 rfl ?_
    exact AW.sel [] rfl (hj27 _ _ (inR_lit _ rfl) H)
  refine cx_if_eq (pc := 1) 22 hp0 dX5_isKind_1 rfl H (fun H => ?_) (fun H => ?_)
  · -- 1: 22
    exact AW.sel [] rfl (hj22 _ H)
  · -- 1: 4
    refine aw_iload_n (pc := 4) dX5_isKind_4 rfl ?_
    refine cx_bipush (pc := 5) dX5_isKind_5 (by decide) ?_
    refine cx_icmp_eq (pc := 7) 22 hp0 (inR_lit _ rfl) dX5_isKind_7 rfl H (fun H => ?_) (fun H => ?_)
    · -- 7: 22
      exact AW.sel [] rfl (hj22 _ H)
    · -- 7: 10
      refine aw_iload_n (pc := 10) dX5_isKind_10 rfl ?_
      refine cx_bipush (pc := 11) dX5_isKind_11 (by decide) ?_
      refine cx_icmp_eq (pc := 13) 22 hp0 (inR_lit _ rfl) dX5_isKind_13 rfl H (fun H => ?_) (fun H => ?_)
      · -- 13: 22
        exact AW.sel [] rfl (hj22 _ H)
      · -- 13: 16
        refine aw_iload_n (pc := 16) dX5_isKind_16 rfl ?_
        refine cx_bipush (pc := 17) dX5_isKind_17 (by decide) ?_
        refine cx_icmp_ne (pc := 19) 26 hp0 (inR_lit _ rfl) dX5_isKind_19 rfl H (fun H => ?_) (fun H => ?_)
        · -- 19: 22
          exact AW.sel [] rfl (hj22 _ H)
        · -- 19: 26
          refine cx_iconst (pc := 26) dX5_isKind_26 ?_
          exact AW.sel [] rfl (hj27 _ _ (inR_lit _ rfl) H)
/-- X5 isMissing (I)Z -/
def f_X5_isMissing (n : Nat) (p1 : Int) (mi : Mem) : Option Rz :=
  cal (f_X5_isSheet n p1 mi) fun x2 m2 =>
  jn (fun (s0_22 : Int) (m22 : Mem) =>
    rtZ s0_22 m22
  ) fun (j22 : Int → Mem → Option Rz) =>
  jn (fun (m17 : Mem) =>
    j22 1 m17
  ) fun (j17 : Mem → Option Rz) =>
  if x2 = 0 then (
    j17 m2
  ) else
  ldI m2 56 p1 fun x13 =>
  if x13 = 0 then (
    j17 m2
  ) else
  j22 0 m2
set_option maxRecDepth 100000 in
set_option maxHeartbeats 4000000 in
theorem s_X5_isMissing (l : Launch) (sc : g_S) (E : Mem → g_H) (R : Nat → Prop) (hE : LE E R) (hR : RCL R) (n : Nat)  (p1 : Int) (hp1 : inR p1) (mi : Mem) (r : Rz) (H : f_X5_isMissing n p1 mi = some r) : AMet l sc yX5_isMissing cX5_isMissing 2 (some FieldType.boolean) 1 0 0 [.ref 50, iv p1] (E mi) (pI E r) := by
  have r50 : R 50 := hR.1 50 (Nat.le_of_ble_eq_true rfl) (Nat.le_of_ble_eq_true rfl)
  have r56 : R 56 := hR.1 56 (Nat.le_of_ble_eq_true rfl) (Nat.le_of_ble_eq_true rfl)
  unfold f_X5_isMissing at H
  refine AMet.of (own := RX5) (by decide +kernel) rfl (Nat.le_of_ble_eq_true rfl) [(0, .ref 50), (1, iv p1)] rfl (fun D base ad => ?_)
  refine aw_aload_n (pc := 0) dX5_isMissing_0 rfl ?_
  refine aw_iload_n (pc := 1) dX5_isMissing_1 rfl ?_
  refine cx_callV (pc := 2) (P := pI) (dC := 0) (mcC := 0) (msC := 0) [iv p1] hE r50 (fun r1 H1 => s_X5_isSheet l sc E R hE hR n p1 hp1 mi r1 H1) ca_X5_21 rfl ⟨_, rfl, rfl⟩ rfl rfl (Nat.le_of_ble_eq_true rfl) (Nat.le_of_ble_eq_true rfl) (Nat.le_of_ble_eq_true rfl) (Nat.le_of_ble_eq_true rfl) dX5_isMissing_2 H (fun x2 m2 v2 hh2 H hp => ?_)
  refine cx_backI hp (fun hx2 => ?_)
  refine jn_ind (fun (f9 : Int → Mem → Option Rz) => ∀ (s0_22 : Int) (m22 : Mem), inR s0_22 → f9 s0_22 m22 = some r → AW l D base sc RX5 yX5_isMissing cX5_isMissing 2 (some FieldType.boolean) 1 0 0 ad (E mi) (pI E r) 0 0 (E m22) 22 [] [iv s0_22]) (fun s0_22 m22 hs0_22 H => ?_) (fun j22 hj22 H => ?_) H
  · -- 22
    exact cx_zret (pc := 22) rfl (Nat.le_of_ble_eq_true rfl) (Nat.le_of_ble_eq_true rfl) dX5_isMissing_22 H
  refine jn_ind (fun (f9 : Mem → Option Rz) => ∀ (m17 : Mem), f9 m17 = some r → AW l D base sc RX5 yX5_isMissing cX5_isMissing 2 (some FieldType.boolean) 1 0 0 ad (E mi) (pI E r) 0 0 (E m17) 17 [] []) (fun m17 H => ?_) (fun j17 hj17 H => ?_) H
  · -- 17
    refine cx_iconst (pc := 17) dX5_isMissing_17 ?_
    refine aw_goto (pc := 18) 22 dX5_isMissing_18 rfl ?_
    exact AW.sel [] rfl (hj22 _ _ (inR_lit _ rfl) H)
  refine cx_if_eq (pc := 5) 17 hx2 dX5_isMissing_5 rfl H (fun H => ?_) (fun H => ?_)
  · -- 5: 17
    exact AW.sel [] rfl (hj17 _ H)
  · -- 5: 8
    refine aw_aload_n (pc := 8) dX5_isMissing_8 rfl ?_
    refine cx_gtC (pc := 9) 56 hE r50 fl_X5_14 rfl rfl (Nat.le_of_ble_eq_true rfl) dX5_isMissing_9 ?_
    refine aw_iload_n (pc := 12) dX5_isMissing_12 rfl ?_
    refine cx_ldI (pc := 13) hE r56 hp1 dX5_isMissing_13 H (fun x13 hx13 H => ?_)
    refine cx_if_ne (pc := 14) 21 hx13 dX5_isMissing_14 rfl H (fun H => ?_) (fun H => ?_)
    · -- 14: 17
      exact AW.sel [] rfl (hj17 _ H)
    · -- 14: 21
      refine cx_iconst (pc := 21) dX5_isMissing_21 ?_
      exact AW.sel [] rfl (hj22 _ _ (inR_lit _ rfl) H)
/-- X5 areAlike (II)Z -/
def f_X5_areAlike (n : Nat) (p1 : Int) (p2 : Int) (mi : Mem) : Option Rz :=
  cal (f_X5_isSheet n p1 mi) fun x2 m2 =>
  jn (fun (s0_36 : Int) (m36 : Mem) =>
    rtZ s0_36 m36
  ) fun (j36 : Int → Mem → Option Rz) =>
  jn (fun (m35 : Mem) =>
    j36 0 m35
  ) fun (j35 : Mem → Option Rz) =>
  if x2 = 0 then (
    j35 m2
  ) else
  cal (f_X5_isSheet n p2 m2) fun x10 m10 =>
  if x10 = 0 then (
    j35 m10
  ) else
  ldI m10 56 p1 fun x21 =>
  ldI m10 56 p2 fun x27 =>
  if x21 = x27 then (
    j36 1 m10
  ) else
  j35 m10
set_option maxRecDepth 100000 in
set_option maxHeartbeats 4000000 in
theorem s_X5_areAlike (l : Launch) (sc : g_S) (E : Mem → g_H) (R : Nat → Prop) (hE : LE E R) (hR : RCL R) (n : Nat)  (p1 : Int) (p2 : Int) (hp1 : inR p1) (hp2 : inR p2) (mi : Mem) (r : Rz) (H : f_X5_areAlike n p1 p2 mi = some r) : AMet l sc yX5_areAlike cX5_areAlike 3 (some FieldType.boolean) 1 0 0 [.ref 50, iv p1, iv p2] (E mi) (pI E r) := by
  have r50 : R 50 := hR.1 50 (Nat.le_of_ble_eq_true rfl) (Nat.le_of_ble_eq_true rfl)
  have r56 : R 56 := hR.1 56 (Nat.le_of_ble_eq_true rfl) (Nat.le_of_ble_eq_true rfl)
  unfold f_X5_areAlike at H
  refine AMet.of (own := RX5) (by decide +kernel) rfl (Nat.le_of_ble_eq_true rfl) [(0, .ref 50), (1, iv p1), (2, iv p2)] rfl (fun D base ad => ?_)
  refine aw_aload_n (pc := 0) dX5_areAlike_0 rfl ?_
  refine aw_iload_n (pc := 1) dX5_areAlike_1 rfl ?_
  refine cx_callV (pc := 2) (P := pI) (dC := 0) (mcC := 0) (msC := 0) [iv p1] hE r50 (fun r1 H1 => s_X5_isSheet l sc E R hE hR n p1 hp1 mi r1 H1) ca_X5_21 rfl ⟨_, rfl, rfl⟩ rfl rfl (Nat.le_of_ble_eq_true rfl) (Nat.le_of_ble_eq_true rfl) (Nat.le_of_ble_eq_true rfl) (Nat.le_of_ble_eq_true rfl) dX5_areAlike_2 H (fun x2 m2 v2 hh2 H hp => ?_)
  refine cx_backI hp (fun hx2 => ?_)
  refine jn_ind (fun (f9 : Int → Mem → Option Rz) => ∀ (s0_36 : Int) (m36 : Mem), inR s0_36 → f9 s0_36 m36 = some r → AW l D base sc RX5 yX5_areAlike cX5_areAlike 3 (some FieldType.boolean) 1 0 0 ad (E mi) (pI E r) 0 0 (E m36) 36 [] [iv s0_36]) (fun s0_36 m36 hs0_36 H => ?_) (fun j36 hj36 H => ?_) H
  · -- 36
    exact cx_zret (pc := 36) rfl (Nat.le_of_ble_eq_true rfl) (Nat.le_of_ble_eq_true rfl) dX5_areAlike_36 H
  refine jn_ind (fun (f9 : Mem → Option Rz) => ∀ (m35 : Mem), f9 m35 = some r → AW l D base sc RX5 yX5_areAlike cX5_areAlike 3 (some FieldType.boolean) 1 0 0 ad (E mi) (pI E r) 0 0 (E m35) 35 [] []) (fun m35 H => ?_) (fun j35 hj35 H => ?_) H
  · -- 35
    refine cx_iconst (pc := 35) dX5_areAlike_35 ?_
    exact AW.sel [] rfl (hj36 _ _ (inR_lit _ rfl) H)
  refine cx_if_eq (pc := 5) 35 hx2 dX5_areAlike_5 rfl H (fun H => ?_) (fun H => ?_)
  · -- 5: 35
    exact AW.sel [] rfl (hj35 _ H)
  · -- 5: 8
    refine aw_aload_n (pc := 8) dX5_areAlike_8 rfl ?_
    refine aw_iload_n (pc := 9) dX5_areAlike_9 rfl ?_
    refine cx_callV (pc := 10) (P := pI) (dC := 0) (mcC := 0) (msC := 0) [iv p2] hE r50 (fun r1 H1 => s_X5_isSheet l sc E R hE hR n p2 hp2 m2 r1 H1) ca_X5_21 rfl ⟨_, rfl, rfl⟩ rfl rfl (Nat.le_of_ble_eq_true rfl) (Nat.le_of_ble_eq_true rfl) (Nat.le_of_ble_eq_true rfl) (Nat.le_of_ble_eq_true rfl) dX5_areAlike_10 H (fun x10 m10 v10 hh10 H hp => ?_)
    refine cx_backI hp (fun hx10 => ?_)
    refine cx_if_eq (pc := 13) 35 hx10 dX5_areAlike_13 rfl H (fun H => ?_) (fun H => ?_)
    · -- 13: 35
      exact AW.sel [] rfl (hj35 _ H)
    · -- 13: 16
      refine aw_aload_n (pc := 16) dX5_areAlike_16 rfl ?_
      refine cx_gtC (pc := 17) 56 hE r50 fl_X5_14 rfl rfl (Nat.le_of_ble_eq_true rfl) dX5_areAlike_17 ?_
      refine aw_iload_n (pc := 20) dX5_areAlike_20 rfl ?_
      refine cx_ldI (pc := 21) hE r56 hp1 dX5_areAlike_21 H (fun x21 hx21 H => ?_)
      refine aw_aload_n (pc := 22) dX5_areAlike_22 rfl ?_
      refine cx_gtC (pc := 23) 56 hE r50 fl_X5_14 rfl rfl (Nat.le_of_ble_eq_true rfl) dX5_areAlike_23 ?_
      refine aw_iload_n (pc := 26) dX5_areAlike_26 rfl ?_
      refine cx_ldI (pc := 27) hE r56 hp2 dX5_areAlike_27 H (fun x27 hx27 H => ?_)
      refine cx_icmp_ne (pc := 28) 35 hx21 hx27 dX5_areAlike_28 rfl H (fun H => ?_) (fun H => ?_)
      · -- 28: 31
        refine cx_iconst (pc := 31) dX5_areAlike_31 ?_
        refine aw_goto (pc := 32) 36 dX5_areAlike_32 rfl ?_
        exact AW.sel [] rfl (hj36 _ _ (inR_lit _ rfl) H)
      · -- 28: 35
        exact AW.sel [] rfl (hj35 _ H)
/-- X5 length (I)I -/
def f_X5_length (n : Nat) (p1 : Int) (mi : Mem) : Option Rz :=
  cal (f_X5_isMissing n p1 mi) fun x2 m2 =>
  jn (fun (s0_18 : Int) (m18 : Mem) =>
    rt s0_18 m18
  ) fun (j18 : Int → Mem → Option Rz) =>
  if x2 = 0 then (
    ldI m2 57 p1 fun x17 =>
    j18 x17 m2
  ) else
  j18 0 m2
set_option maxRecDepth 100000 in
set_option maxHeartbeats 4000000 in
theorem s_X5_length (l : Launch) (sc : g_S) (E : Mem → g_H) (R : Nat → Prop) (hE : LE E R) (hR : RCL R) (n : Nat)  (p1 : Int) (hp1 : inR p1) (mi : Mem) (r : Rz) (H : f_X5_length n p1 mi = some r) : AMet l sc yX5_length cX5_length 2 (some FieldType.int) 2 0 0 [.ref 50, iv p1] (E mi) (pI E r) := by
  have r50 : R 50 := hR.1 50 (Nat.le_of_ble_eq_true rfl) (Nat.le_of_ble_eq_true rfl)
  have r57 : R 57 := hR.1 57 (Nat.le_of_ble_eq_true rfl) (Nat.le_of_ble_eq_true rfl)
  unfold f_X5_length at H
  refine AMet.of (own := RX5) (by decide +kernel) rfl (Nat.le_of_ble_eq_true rfl) [(0, .ref 50), (1, iv p1)] rfl (fun D base ad => ?_)
  refine aw_aload_n (pc := 0) dX5_length_0 rfl ?_
  refine aw_iload_n (pc := 1) dX5_length_1 rfl ?_
  refine cx_callV (pc := 2) (P := pI) (dC := 1) (mcC := 0) (msC := 0) [iv p1] hE r50 (fun r1 H1 => s_X5_isMissing l sc E R hE hR n p1 hp1 mi r1 H1) ca_X5_25 rfl ⟨_, rfl, rfl⟩ rfl rfl (Nat.le_of_ble_eq_true rfl) (Nat.le_of_ble_eq_true rfl) (Nat.le_of_ble_eq_true rfl) (Nat.le_of_ble_eq_true rfl) dX5_length_2 H (fun x2 m2 v2 hh2 H hp => ?_)
  refine cx_backI hp (fun hx2 => ?_)
  refine jn_ind (fun (f9 : Int → Mem → Option Rz) => ∀ (s0_18 : Int) (m18 : Mem), inR s0_18 → f9 s0_18 m18 = some r → AW l D base sc RX5 yX5_length cX5_length 2 (some FieldType.int) 2 0 0 ad (E mi) (pI E r) 0 0 (E m18) 18 [] [iv s0_18]) (fun s0_18 m18 hs0_18 H => ?_) (fun j18 hj18 H => ?_) H
  · -- 18
    exact cx_iret (pc := 18) hs0_18 rfl (Nat.le_of_ble_eq_true rfl) (Nat.le_of_ble_eq_true rfl) dX5_length_18 H
  refine cx_if_eq (pc := 5) 12 hx2 dX5_length_5 rfl H (fun H => ?_) (fun H => ?_)
  · -- 5: 12
    refine aw_aload_n (pc := 12) dX5_length_12 rfl ?_
    refine cx_gtC (pc := 13) 57 hE r50 fl_X5_18 rfl rfl (Nat.le_of_ble_eq_true rfl) dX5_length_13 ?_
    refine aw_iload_n (pc := 16) dX5_length_16 rfl ?_
    refine cx_ldI (pc := 17) hE r57 hp1 dX5_length_17 H (fun x17 hx17 H => ?_)
    exact AW.sel [] rfl (hj18 _ _ hx17 H)
  · -- 5: 8
    refine cx_iconst (pc := 8) dX5_length_8 ?_
    refine aw_goto (pc := 9) 18 dX5_length_9 rfl ?_
    exact AW.sel [] rfl (hj18 _ _ (inR_lit _ rfl) H)
/-- X5 stand (III)Z -/
def f_X5_stand (n : Nat) (p1 : Int) (p2 : Int) (p3 : Int) (mi : Mem) : Option Rz :=
  jn (fun (s0_24 : Int) (m24 : Mem) =>
    rtZ s0_24 m24
  ) fun (j24 : Int → Mem → Option Rz) =>
  jn (fun (m23 : Mem) =>
    j24 0 m23
  ) fun (j23 : Mem → Option Rz) =>
  if p3 < 0 then (
    j23 mi
  ) else
  if p2 < 0 then (
    j23 mi
  ) else
  cal (f_X5_length n p1 mi) fun x11 m11 =>
  if w32 (x11 - p3) < p2 then (
    j23 m11
  ) else
  j24 1 m11
set_option maxRecDepth 100000 in
set_option maxHeartbeats 4000000 in
theorem s_X5_stand (l : Launch) (sc : g_S) (E : Mem → g_H) (R : Nat → Prop) (hE : LE E R) (hR : RCL R) (n : Nat)  (p1 : Int) (p2 : Int) (p3 : Int) (hp1 : inR p1) (hp2 : inR p2) (hp3 : inR p3) (mi : Mem) (r : Rz) (H : f_X5_stand n p1 p2 p3 mi = some r) : AMet l sc yX5_stand cX5_stand 4 (some FieldType.boolean) 3 0 0 [.ref 50, iv p1, iv p2, iv p3] (E mi) (pI E r) := by
  have r50 : R 50 := hR.1 50 (Nat.le_of_ble_eq_true rfl) (Nat.le_of_ble_eq_true rfl)
  unfold f_X5_stand at H
  refine AMet.of (own := RX5) (by decide +kernel) rfl (Nat.le_of_ble_eq_true rfl) [(0, .ref 50), (1, iv p1), (2, iv p2), (3, iv p3)] rfl (fun D base ad => ?_)
  refine aw_iload_n (pc := 0) dX5_stand_0 rfl ?_
  refine jn_ind (fun (f9 : Int → Mem → Option Rz) => ∀ (s0_24 : Int) (m24 : Mem), inR s0_24 → f9 s0_24 m24 = some r → AW l D base sc RX5 yX5_stand cX5_stand 4 (some FieldType.boolean) 3 0 0 ad (E mi) (pI E r) 0 0 (E m24) 24 [] [iv s0_24]) (fun s0_24 m24 hs0_24 H => ?_) (fun j24 hj24 H => ?_) H
  · -- 24
    exact cx_zret (pc := 24) rfl (Nat.le_of_ble_eq_true rfl) (Nat.le_of_ble_eq_true rfl) dX5_stand_24 H
  refine jn_ind (fun (f9 : Mem → Option Rz) => ∀ (m23 : Mem), f9 m23 = some r → AW l D base sc RX5 yX5_stand cX5_stand 4 (some FieldType.boolean) 3 0 0 ad (E mi) (pI E r) 0 0 (E m23) 23 [] []) (fun m23 H => ?_) (fun j23 hj23 H => ?_) H
  · -- 23
    refine cx_iconst (pc := 23) dX5_stand_23 ?_
    exact AW.sel [] rfl (hj24 _ _ (inR_lit _ rfl) H)
  refine cx_if_lt (pc := 1) 23 hp3 dX5_stand_1 rfl H (fun H => ?_) (fun H => ?_)
  · -- 1: 23
    exact AW.sel [] rfl (hj23 _ H)
  · -- 1: 4
    refine aw_iload_n (pc := 4) dX5_stand_4 rfl ?_
    refine cx_if_lt (pc := 5) 23 hp2 dX5_stand_5 rfl H (fun H => ?_) (fun H => ?_)
    · -- 5: 23
      exact AW.sel [] rfl (hj23 _ H)
    · -- 5: 8
      refine aw_iload_n (pc := 8) dX5_stand_8 rfl ?_
      refine aw_aload_n (pc := 9) dX5_stand_9 rfl ?_
      refine aw_iload_n (pc := 10) dX5_stand_10 rfl ?_
      refine cx_callV (pc := 11) (P := pI) (dC := 2) (mcC := 0) (msC := 0) [iv p1] hE r50 (fun r1 H1 => s_X5_length l sc E R hE hR n p1 hp1 mi r1 H1) ca_X5_28 rfl ⟨_, rfl, rfl⟩ rfl rfl (Nat.le_of_ble_eq_true rfl) (Nat.le_of_ble_eq_true rfl) (Nat.le_of_ble_eq_true rfl) (Nat.le_of_ble_eq_true rfl) dX5_stand_11 H (fun x11 m11 v11 hh11 H hp => ?_)
      refine cx_backI hp (fun hx11 => ?_)
      refine aw_iload_n (pc := 14) dX5_stand_14 rfl ?_
      refine cx_isub (pc := 15) dX5_stand_15 ?_
      refine cx_icmp_gt (pc := 16) 23 hp2 (inR_w32 _) dX5_stand_16 rfl H (fun H => ?_) (fun H => ?_)
      · -- 16: 23
        exact AW.sel [] rfl (hj23 _ H)
      · -- 16: 19
        refine cx_iconst (pc := 19) dX5_stand_19 ?_
        refine aw_goto (pc := 20) 24 dX5_stand_20 rfl ?_
        exact AW.sel [] rfl (hj24 _ _ (inR_lit _ rfl) H)
/-- X5 lay (III)I -/
def f_X5_lay (n : Nat) (p1 : Int) (p2 : Int) (p3 : Int) (mi : Mem) : Option Rz :=
  cal (f_X5_isSheet n p1 mi) fun x2 m2 =>
  jn (fun (m42 : Mem) =>
    rt 1 m42
  ) fun (j42 : Mem → Option Rz) =>
  if x2 = 0 then (
    j42 m2
  ) else
  if p3 < 0 then (
    j42 m2
  ) else
  if 24 < p3 then (
    j42 m2
  ) else
  stI m2 56 p1 p2 fun m24 =>
  stI m24 57 p1 p3 fun m31 =>
  ldR m31 51 p1 fun x37 =>
  cal (f_J7_fill_53178 n x37 0 m31) fun _ m39 =>
  j42 m39
set_option maxRecDepth 100000 in
set_option maxHeartbeats 4000000 in
theorem s_X5_lay (l : Launch) (sc : g_S) (E : Mem → g_H) (R : Nat → Prop) (hE : LE E R) (hR : RCL R) (n : Nat)  (p1 : Int) (p2 : Int) (p3 : Int) (hp1 : inR p1) (hp2 : inR p2) (hp3 : inR p3) (mi : Mem) (r : Rz) (H : f_X5_lay n p1 p2 p3 mi = some r) : AMet l sc yX5_lay cX5_lay 4 (some FieldType.int) 1 0 0 [.ref 50, iv p1, iv p2, iv p3] (E mi) (pI E r) := by
  have r50 : R 50 := hR.1 50 (Nat.le_of_ble_eq_true rfl) (Nat.le_of_ble_eq_true rfl)
  have r51 : R 51 := hR.1 51 (Nat.le_of_ble_eq_true rfl) (Nat.le_of_ble_eq_true rfl)
  have r56 : R 56 := hR.1 56 (Nat.le_of_ble_eq_true rfl) (Nat.le_of_ble_eq_true rfl)
  have r57 : R 57 := hR.1 57 (Nat.le_of_ble_eq_true rfl) (Nat.le_of_ble_eq_true rfl)
  unfold f_X5_lay at H
  refine AMet.of (own := RX5) (by decide +kernel) rfl (Nat.le_of_ble_eq_true rfl) [(0, .ref 50), (1, iv p1), (2, iv p2), (3, iv p3)] rfl (fun D base ad => ?_)
  refine aw_aload_n (pc := 0) dX5_lay_0 rfl ?_
  refine aw_iload_n (pc := 1) dX5_lay_1 rfl ?_
  refine cx_callV (pc := 2) (P := pI) (dC := 0) (mcC := 0) (msC := 0) [iv p1] hE r50 (fun r1 H1 => s_X5_isSheet l sc E R hE hR n p1 hp1 mi r1 H1) ca_X5_21 rfl ⟨_, rfl, rfl⟩ rfl rfl (Nat.le_of_ble_eq_true rfl) (Nat.le_of_ble_eq_true rfl) (Nat.le_of_ble_eq_true rfl) (Nat.le_of_ble_eq_true rfl) dX5_lay_2 H (fun x2 m2 v2 hh2 H hp => ?_)
  refine cx_backI hp (fun hx2 => ?_)
  refine jn_ind (fun (f9 : Mem → Option Rz) => ∀ (m42 : Mem), f9 m42 = some r → AW l D base sc RX5 yX5_lay cX5_lay 4 (some FieldType.int) 1 0 0 ad (E mi) (pI E r) 0 0 (E m42) 42 [] []) (fun m42 H => ?_) (fun j42 hj42 H => ?_) H
  · -- 42
    refine cx_iconst (pc := 42) dX5_lay_42 ?_
    exact cx_iret (pc := 43) (inR_lit _ rfl) rfl (Nat.le_of_ble_eq_true rfl) (Nat.le_of_ble_eq_true rfl) dX5_lay_43 H
  refine cx_if_eq (pc := 5) 42 hx2 dX5_lay_5 rfl H (fun H => ?_) (fun H => ?_)
  · -- 5: 42
    exact AW.sel [] rfl (hj42 _ H)
  · -- 5: 8
    refine aw_iload_n (pc := 8) dX5_lay_8 rfl ?_
    refine cx_if_lt (pc := 9) 42 hp3 dX5_lay_9 rfl H (fun H => ?_) (fun H => ?_)
    · -- 9: 42
      exact AW.sel [] rfl (hj42 _ H)
    · -- 9: 12
      refine aw_iload_n (pc := 12) dX5_lay_12 rfl ?_
      refine cx_bipush (pc := 13) dX5_lay_13 (by decide) ?_
      refine cx_icmp_gt (pc := 15) 42 hp3 (inR_lit _ rfl) dX5_lay_15 rfl H (fun H => ?_) (fun H => ?_)
      · -- 15: 42
        exact AW.sel [] rfl (hj42 _ H)
      · -- 15: 18
        refine aw_aload_n (pc := 18) dX5_lay_18 rfl ?_
        refine cx_gtC (pc := 19) 56 hE r50 fl_X5_14 rfl rfl (Nat.le_of_ble_eq_true rfl) dX5_lay_19 ?_
        refine aw_iload_n (pc := 22) dX5_lay_22 rfl ?_
        refine aw_iload_n (pc := 23) dX5_lay_23 rfl ?_
        refine cx_stI (pc := 24) hE r56 hp1 dX5_lay_24 H (fun m24 H => ?_)
        refine aw_aload_n (pc := 25) dX5_lay_25 rfl ?_
        refine cx_gtC (pc := 26) 57 hE r50 fl_X5_18 rfl rfl (Nat.le_of_ble_eq_true rfl) dX5_lay_26 ?_
        refine aw_iload_n (pc := 29) dX5_lay_29 rfl ?_
        refine aw_iload_n (pc := 30) dX5_lay_30 rfl ?_
        refine cx_stI (pc := 31) hE r57 hp1 dX5_lay_31 H (fun m31 H => ?_)
        refine aw_aload_n (pc := 32) dX5_lay_32 rfl ?_
        refine cx_gtC (pc := 33) 51 hE r50 fl_X5_11 rfl rfl (Nat.le_of_ble_eq_true rfl) dX5_lay_33 ?_
        refine aw_iload_n (pc := 36) dX5_lay_36 rfl ?_
        refine cx_ldR (pc := 37) hE r51 hp1 dX5_lay_37 H (fun x37 hx37 H => ?_)
        have rx37 : R x37 := hR.1 x37 (by have h5 : (sKind m31 51).2 = 4 := rfl; omega) (by have h5 : (sKind m31 51).2 = 4 := rfl; omega)
        refine cx_iconst (pc := 38) dX5_lay_38 ?_
        refine cx_callS (pc := 39) (P := pV) (dC := 0) (mcC := 0) (msC := 0) [.ref x37, iv 0] (fun r1 H1 => s_J7_fill_53178 l sc E R hE n x37 0 rx37 (inR_lit _ rfl) m31 r1 H1) ca_X5_32 rfl rfl (Nat.le_of_ble_eq_true rfl) (Nat.le_of_ble_eq_true rfl) (Nat.le_of_ble_eq_true rfl) (Nat.le_of_ble_eq_true rfl) dX5_lay_39 H (fun x39 m39 v39 hh39 H hp => ?_)
        refine cx_backV hp ?_
        exact AW.sel [] rfl (hj42 _ H)
/-- X5 number (II)I -/
def f_X5_number (n : Nat) (p1 : Int) (p2 : Int) (mi : Mem) : Option Rz :=
  cal (f_X5_stand n p1 p2 1 mi) fun x4 m4 =>
  jn (fun (s0_28 : Int) (m28 : Mem) =>
    rt s0_28 m28
  ) fun (j28 : Int → Mem → Option Rz) =>
  jn (fun (m27 : Mem) =>
    j28 0 m27
  ) fun (j27 : Mem → Option Rz) =>
  if x4 = 0 then (
    j27 m4
  ) else
  if p2 < 24 then (
    ldR m4 51 p1 fun x21 =>
    ldI m4 x21 p2 fun x23 =>
    j28 x23 m4
  ) else
  j27 m4
set_option maxRecDepth 100000 in
set_option maxHeartbeats 4000000 in
theorem s_X5_number (l : Launch) (sc : g_S) (E : Mem → g_H) (R : Nat → Prop) (hE : LE E R) (hR : RCL R) (n : Nat)  (p1 : Int) (p2 : Int) (hp1 : inR p1) (hp2 : inR p2) (mi : Mem) (r : Rz) (H : f_X5_number n p1 p2 mi = some r) : AMet l sc yX5_number cX5_number 3 (some FieldType.int) 4 0 0 [.ref 50, iv p1, iv p2] (E mi) (pI E r) := by
  have r50 : R 50 := hR.1 50 (Nat.le_of_ble_eq_true rfl) (Nat.le_of_ble_eq_true rfl)
  have r51 : R 51 := hR.1 51 (Nat.le_of_ble_eq_true rfl) (Nat.le_of_ble_eq_true rfl)
  unfold f_X5_number at H
  refine AMet.of (own := RX5) (by decide +kernel) rfl (Nat.le_of_ble_eq_true rfl) [(0, .ref 50), (1, iv p1), (2, iv p2)] rfl (fun D base ad => ?_)
  refine aw_aload_n (pc := 0) dX5_number_0 rfl ?_
  refine aw_iload_n (pc := 1) dX5_number_1 rfl ?_
  refine aw_iload_n (pc := 2) dX5_number_2 rfl ?_
  refine cx_iconst (pc := 3) dX5_number_3 ?_
  refine cx_callV (pc := 4) (P := pI) (dC := 3) (mcC := 0) (msC := 0) [iv p1, iv p2, iv 1] hE r50 (fun r1 H1 => s_X5_stand l sc E R hE hR n p1 p2 1 hp1 hp2 (inR_lit _ rfl) mi r1 H1) ca_X5_38 rfl ⟨_, rfl, rfl⟩ rfl rfl (Nat.le_of_ble_eq_true rfl) (Nat.le_of_ble_eq_true rfl) (Nat.le_of_ble_eq_true rfl) (Nat.le_of_ble_eq_true rfl) dX5_number_4 H (fun x4 m4 v4 hh4 H hp => ?_)
  refine cx_backI hp (fun hx4 => ?_)
  refine jn_ind (fun (f9 : Int → Mem → Option Rz) => ∀ (s0_28 : Int) (m28 : Mem), inR s0_28 → f9 s0_28 m28 = some r → AW l D base sc RX5 yX5_number cX5_number 3 (some FieldType.int) 4 0 0 ad (E mi) (pI E r) 0 0 (E m28) 28 [] [iv s0_28]) (fun s0_28 m28 hs0_28 H => ?_) (fun j28 hj28 H => ?_) H
  · -- 28
    exact cx_iret (pc := 28) hs0_28 rfl (Nat.le_of_ble_eq_true rfl) (Nat.le_of_ble_eq_true rfl) dX5_number_28 H
  refine jn_ind (fun (f9 : Mem → Option Rz) => ∀ (m27 : Mem), f9 m27 = some r → AW l D base sc RX5 yX5_number cX5_number 3 (some FieldType.int) 4 0 0 ad (E mi) (pI E r) 0 0 (E m27) 27 [] []) (fun m27 H => ?_) (fun j27 hj27 H => ?_) H
  · -- 27
    refine cx_iconst (pc := 27) dX5_number_27 ?_
    exact AW.sel [] rfl (hj28 _ _ (inR_lit _ rfl) H)
  refine cx_if_eq (pc := 7) 27 hx4 dX5_number_7 rfl H (fun H => ?_) (fun H => ?_)
  · -- 7: 27
    exact AW.sel [] rfl (hj27 _ H)
  · -- 7: 10
    refine aw_iload_n (pc := 10) dX5_number_10 rfl ?_
    refine cx_bipush (pc := 11) dX5_number_11 (by decide) ?_
    refine cx_icmp_ge (pc := 13) 27 hp2 (inR_lit _ rfl) dX5_number_13 rfl H (fun H => ?_) (fun H => ?_)
    · -- 13: 16
      refine aw_aload_n (pc := 16) dX5_number_16 rfl ?_
      refine cx_gtC (pc := 17) 51 hE r50 fl_X5_11 rfl rfl (Nat.le_of_ble_eq_true rfl) dX5_number_17 ?_
      refine aw_iload_n (pc := 20) dX5_number_20 rfl ?_
      refine cx_ldR (pc := 21) hE r51 hp1 dX5_number_21 H (fun x21 hx21 H => ?_)
      have rx21 : R x21 := hR.1 x21 (by have h5 : (sKind m4 51).2 = 4 := rfl; omega) (by have h5 : (sKind m4 51).2 = 4 := rfl; omega)
      refine aw_iload_n (pc := 22) dX5_number_22 rfl ?_
      refine cx_ldI (pc := 23) hE rx21 hp2 dX5_number_23 H (fun x23 hx23 H => ?_)
      refine aw_goto (pc := 24) 28 dX5_number_24 rfl ?_
      exact AW.sel [] rfl (hj28 _ _ hx23 H)
    · -- 13: 27
      exact AW.sel [] rfl (hj27 _ H)
/-- X5 lowest (II)I -/
def f_X5_lowest (n : Nat) (p0 : Int) (p1 : Int) (mi : Mem) : Option Rz :=
  if p0 = 8 then (
    rt (i8 p1) mi
  ) else
  jn (fun (s0_21 : Int) (m21 : Mem) =>
    rt s0_21 m21
  ) fun (j21 : Int → Mem → Option Rz) =>
  if p0 = 16 then (
    j21 (i16 p1) mi
  ) else
  j21 p1 mi
set_option maxRecDepth 100000 in
set_option maxHeartbeats 4000000 in
theorem s_X5_lowest (l : Launch) (sc : g_S) (E : Mem → g_H) (R : Nat → Prop) (hE : LE E R) (hR : RCL R) (n : Nat)  (p0 : Int) (p1 : Int) (hp0 : inR p0) (hp1 : inR p1) (mi : Mem) (r : Rz) (H : f_X5_lowest n p0 p1 mi = some r) : AMet l sc yX5_lowest cX5_lowest 2 (some FieldType.int) 0 0 0 [iv p0, iv p1] (E mi) (pI E r) := by
  unfold f_X5_lowest at H
  refine AMet.of (own := RX5) (by decide +kernel) rfl (Nat.le_of_ble_eq_true rfl) [(0, iv p0), (1, iv p1)] rfl (fun D base ad => ?_)
  refine aw_iload_n (pc := 0) dX5_lowest_0 rfl ?_
  refine cx_bipush (pc := 1) dX5_lowest_1 (by decide) ?_
  refine cx_icmp_ne (pc := 3) 9 hp0 (inR_lit _ rfl) dX5_lowest_3 rfl H (fun H => ?_) (fun H => ?_)
  · -- 3: 6
    refine aw_iload_n (pc := 6) dX5_lowest_6 rfl ?_
    refine cx_i2b (pc := 7) dX5_lowest_7 ?_
    exact cx_iret (pc := 8) (inR_32 _) rfl (Nat.le_of_ble_eq_true rfl) (Nat.le_of_ble_eq_true rfl) dX5_lowest_8 H
  · -- 3: 9
    refine aw_iload_n (pc := 9) dX5_lowest_9 rfl ?_
    refine cx_bipush (pc := 10) dX5_lowest_10 (by decide) ?_
    refine jn_ind (fun (f9 : Int → Mem → Option Rz) => ∀ (s0_21 : Int) (m21 : Mem), inR s0_21 → f9 s0_21 m21 = some r → AW l D base sc RX5 yX5_lowest cX5_lowest 2 (some FieldType.int) 0 0 0 ad (E mi) (pI E r) 0 0 (E m21) 21 [] [iv s0_21]) (fun s0_21 m21 hs0_21 H => ?_) (fun j21 hj21 H => ?_) H
    · -- 21
      exact cx_iret (pc := 21) hs0_21 rfl (Nat.le_of_ble_eq_true rfl) (Nat.le_of_ble_eq_true rfl) dX5_lowest_21 H
    refine cx_icmp_ne (pc := 12) 20 hp0 (inR_lit _ rfl) dX5_lowest_12 rfl H (fun H => ?_) (fun H => ?_)
    · -- 12: 15
      refine aw_iload_n (pc := 15) dX5_lowest_15 rfl ?_
      refine cx_i2s (pc := 16) dX5_lowest_16 ?_
      refine aw_goto (pc := 17) 21 dX5_lowest_17 rfl ?_
      exact AW.sel [] rfl (hj21 _ _ (inR_32 _) H)
    · -- 12: 20
      refine aw_iload_n (pc := 20) dX5_lowest_20 rfl ?_
      exact AW.sel [] rfl (hj21 _ _ hp1 H)
/-- X5 write (III)I -/
def f_X5_write (n : Nat) (p1 : Int) (p2 : Int) (p3 : Int) (mi : Mem) : Option Rz :=
  cal (f_X5_stand n p1 p2 1 mi) fun x4 m4 =>
  jn (fun (m34 : Mem) =>
    rt 1 m34
  ) fun (j34 : Mem → Option Rz) =>
  if x4 = 0 then (
    j34 m4
  ) else
  if p2 < 24 then (
    ldR m4 51 p1 fun x21 =>
    ldI m4 56 p1 fun x28 =>
    cal (f_X5_lowest n x28 p3 m4) fun x30 m30 =>
    stI m30 x21 p2 x30 fun m33 =>
    j34 m33
  ) else
  j34 m4
set_option maxRecDepth 100000 in
set_option maxHeartbeats 4000000 in
theorem s_X5_write (l : Launch) (sc : g_S) (E : Mem → g_H) (R : Nat → Prop) (hE : LE E R) (hR : RCL R) (n : Nat)  (p1 : Int) (p2 : Int) (p3 : Int) (hp1 : inR p1) (hp2 : inR p2) (hp3 : inR p3) (mi : Mem) (r : Rz) (H : f_X5_write n p1 p2 p3 mi = some r) : AMet l sc yX5_write cX5_write 4 (some FieldType.int) 4 0 0 [.ref 50, iv p1, iv p2, iv p3] (E mi) (pI E r) := by
  have r50 : R 50 := hR.1 50 (Nat.le_of_ble_eq_true rfl) (Nat.le_of_ble_eq_true rfl)
  have r51 : R 51 := hR.1 51 (Nat.le_of_ble_eq_true rfl) (Nat.le_of_ble_eq_true rfl)
  have r56 : R 56 := hR.1 56 (Nat.le_of_ble_eq_true rfl) (Nat.le_of_ble_eq_true rfl)
  unfold f_X5_write at H
  refine AMet.of (own := RX5) (by decide +kernel) rfl (Nat.le_of_ble_eq_true rfl) [(0, .ref 50), (1, iv p1), (2, iv p2), (3, iv p3)] rfl (fun D base ad => ?_)
  refine aw_aload_n (pc := 0) dX5_write_0 rfl ?_
  refine aw_iload_n (pc := 1) dX5_write_1 rfl ?_
  refine aw_iload_n (pc := 2) dX5_write_2 rfl ?_
  refine cx_iconst (pc := 3) dX5_write_3 ?_
  refine cx_callV (pc := 4) (P := pI) (dC := 3) (mcC := 0) (msC := 0) [iv p1, iv p2, iv 1] hE r50 (fun r1 H1 => s_X5_stand l sc E R hE hR n p1 p2 1 hp1 hp2 (inR_lit _ rfl) mi r1 H1) ca_X5_38 rfl ⟨_, rfl, rfl⟩ rfl rfl (Nat.le_of_ble_eq_true rfl) (Nat.le_of_ble_eq_true rfl) (Nat.le_of_ble_eq_true rfl) (Nat.le_of_ble_eq_true rfl) dX5_write_4 H (fun x4 m4 v4 hh4 H hp => ?_)
  refine cx_backI hp (fun hx4 => ?_)
  refine jn_ind (fun (f9 : Mem → Option Rz) => ∀ (m34 : Mem), f9 m34 = some r → AW l D base sc RX5 yX5_write cX5_write 4 (some FieldType.int) 4 0 0 ad (E mi) (pI E r) 0 0 (E m34) 34 [] []) (fun m34 H => ?_) (fun j34 hj34 H => ?_) H
  · -- 34
    refine cx_iconst (pc := 34) dX5_write_34 ?_
    exact cx_iret (pc := 35) (inR_lit _ rfl) rfl (Nat.le_of_ble_eq_true rfl) (Nat.le_of_ble_eq_true rfl) dX5_write_35 H
  refine cx_if_eq (pc := 7) 34 hx4 dX5_write_7 rfl H (fun H => ?_) (fun H => ?_)
  · -- 7: 34
    exact AW.sel [] rfl (hj34 _ H)
  · -- 7: 10
    refine aw_iload_n (pc := 10) dX5_write_10 rfl ?_
    refine cx_bipush (pc := 11) dX5_write_11 (by decide) ?_
    refine cx_icmp_ge (pc := 13) 34 hp2 (inR_lit _ rfl) dX5_write_13 rfl H (fun H => ?_) (fun H => ?_)
    · -- 13: 16
      refine aw_aload_n (pc := 16) dX5_write_16 rfl ?_
      refine cx_gtC (pc := 17) 51 hE r50 fl_X5_11 rfl rfl (Nat.le_of_ble_eq_true rfl) dX5_write_17 ?_
      refine aw_iload_n (pc := 20) dX5_write_20 rfl ?_
      refine cx_ldR (pc := 21) hE r51 hp1 dX5_write_21 H (fun x21 hx21 H => ?_)
      have rx21 : R x21 := hR.1 x21 (by have h5 : (sKind m4 51).2 = 4 := rfl; omega) (by have h5 : (sKind m4 51).2 = 4 := rfl; omega)
      refine aw_iload_n (pc := 22) dX5_write_22 rfl ?_
      refine aw_aload_n (pc := 23) dX5_write_23 rfl ?_
      refine cx_gtC (pc := 24) 56 hE r50 fl_X5_14 rfl rfl (Nat.le_of_ble_eq_true rfl) dX5_write_24 ?_
      refine aw_iload_n (pc := 27) dX5_write_27 rfl ?_
      refine cx_ldI (pc := 28) hE r56 hp1 dX5_write_28 H (fun x28 hx28 H => ?_)
      refine aw_iload_n (pc := 29) dX5_write_29 rfl ?_
      refine cx_callS (pc := 30) (P := pI) (dC := 0) (mcC := 0) (msC := 0) [iv x28, iv p3] (fun r1 H1 => s_X5_lowest l sc E R hE hR n x28 p3 hx28 hp3 m4 r1 H1) ca_X5_42 rfl rfl (Nat.le_of_ble_eq_true rfl) (Nat.le_of_ble_eq_true rfl) (Nat.le_of_ble_eq_true rfl) (Nat.le_of_ble_eq_true rfl) dX5_write_30 H (fun x30 m30 v30 hh30 H hp => ?_)
      refine cx_backI hp (fun hx30 => ?_)
      refine cx_stI (pc := 33) hE rx21 hp2 dX5_write_33 H (fun m33 H => ?_)
      exact AW.sel [] rfl (hj34 _ H)
    · -- 13: 34
      exact AW.sel [] rfl (hj34 _ H)
/-- X5 laidOnes ()I -/
def f_X5_laidOnes (n : Nat)  (mi : Mem) : Option Rz :=
  lp (F := Int → Int → Mem → Option Rz) (fun _ _ _ => none) (fun w4 v1_4 v2_4 m4 =>
    if v2_4 < 4 then (
      cal (f_X5_isMissing n v2_4 m4) fun x11 m11 =>
      jn (fun (v1_20 : Int) (m20 : Mem) =>
        w4 v1_20 (w32 (v2_4 + 1)) m20
      ) fun (j20 : Int → Mem → Option Rz) =>
      if x11 = 0 then (
        j20 (w32 (v1_4 + 1)) m11
      ) else
      j20 v1_4 m11
    ) else
    rt v1_4 m4
  ) n 0 0 mi
set_option maxRecDepth 100000 in
set_option maxHeartbeats 4000000 in
theorem s_X5_laidOnes (l : Launch) (sc : g_S) (E : Mem → g_H) (R : Nat → Prop) (hE : LE E R) (hR : RCL R) (n : Nat)    (mi : Mem) (r : Rz) (H : f_X5_laidOnes n  mi = some r) : AMet l sc yX5_laidOnes cX5_laidOnes 3 (some FieldType.int) 2 0 0 [.ref 50] (E mi) (pI E r) := by
  have r50 : R 50 := hR.1 50 (Nat.le_of_ble_eq_true rfl) (Nat.le_of_ble_eq_true rfl)
  unfold f_X5_laidOnes at H
  refine AMet.of (own := RX5) (by decide +kernel) rfl (Nat.le_of_ble_eq_true rfl) [(0, .ref 50)] rfl (fun D base ad => ?_)
  refine cx_iconst (pc := 0) dX5_laidOnes_0 ?_
  refine aw_istore_n (pc := 1) [(1, iv 0), (0, .ref 50)] dX5_laidOnes_1 rfl (by decide) ?_
  refine cx_iconst (pc := 2) dX5_laidOnes_2 ?_
  refine aw_istore_n (pc := 3) [(2, iv 0), (1, iv 0), (0, .ref 50)] dX5_laidOnes_3 rfl (by decide) ?_
  refine AW.sel [2, 1, 0] rfl (lp_ind (bot := fun _ _ _ => none) (fun (f9 : Int → Int → Mem → Option Rz) => ∀ (v1_4 : Int) (v2_4 : Int) (m4 : Mem), inR v1_4 → inR v2_4 → f9 v1_4 v2_4 m4 = some r → AW l D base sc RX5 yX5_laidOnes cX5_laidOnes 3 (some FieldType.int) 2 0 0 ad (E mi) (pI E r) 0 0 (E m4) 4 [(0, .ref 50), (1, iv v1_4), (2, iv v2_4)] []) (fun _ _ _ _ _ h9 => nomatch h9) (fun w4 ih4 v1_4 v2_4 m4 hv1_4 hv2_4 H => ?_) n _ _ _ (inR_lit _ rfl) (inR_lit _ rfl) H)
  refine aw_iload_n (pc := 4) dX5_laidOnes_4 rfl ?_
  refine cx_iconst (pc := 5) dX5_laidOnes_5 ?_
  refine cx_icmp_ge (pc := 6) 26 hv2_4 (inR_lit _ rfl) dX5_laidOnes_6 rfl H (fun H => ?_) (fun H => ?_)
  · -- 6: 9
    refine aw_aload_n (pc := 9) dX5_laidOnes_9 rfl ?_
    refine aw_iload_n (pc := 10) dX5_laidOnes_10 rfl ?_
    refine cx_callV (pc := 11) (P := pI) (dC := 1) (mcC := 0) (msC := 0) [iv v2_4] hE r50 (fun r1 H1 => s_X5_isMissing l sc E R hE hR n v2_4 hv2_4 m4 r1 H1) ca_X5_25 rfl ⟨_, rfl, rfl⟩ rfl rfl (Nat.le_of_ble_eq_true rfl) (Nat.le_of_ble_eq_true rfl) (Nat.le_of_ble_eq_true rfl) (Nat.le_of_ble_eq_true rfl) dX5_laidOnes_11 H (fun x11 m11 v11 hh11 H hp => ?_)
    refine cx_backI hp (fun hx11 => ?_)
    refine jn_ind (fun (f9 : Int → Mem → Option Rz) => ∀ (v1_20 : Int) (m20 : Mem), inR v1_20 → f9 v1_20 m20 = some r → AW l D base sc RX5 yX5_laidOnes cX5_laidOnes 3 (some FieldType.int) 2 0 0 ad (E mi) (pI E r) 0 0 (E m20) 20 [(0, .ref 50), (1, iv v1_20), (2, iv v2_4)] []) (fun v1_20 m20 hv1_20 H => ?_) (fun j20 hj20 H => ?_) H
    · -- 20
      refine cx_iinc (pc := 20) [(2, iv (w32 (v2_4 + 1))), (0, .ref 50), (1, iv v1_20)] dX5_laidOnes_20 rfl rfl (by decide) ?_
      refine aw_goto (pc := 23) 4 dX5_laidOnes_23 rfl ?_
      exact AW.sel [1, 2, 0] rfl (ih4 _ _ _ hv1_20 (inR_w32 _) H)
    refine cx_if_ne (pc := 14) 20 hx11 dX5_laidOnes_14 rfl H (fun H => ?_) (fun H => ?_)
    · -- 14: 17
      refine cx_iinc (pc := 17) [(1, iv (w32 (v1_4 + 1))), (0, .ref 50), (2, iv v2_4)] dX5_laidOnes_17 rfl rfl (by decide) ?_
      exact AW.sel [1, 0, 2] rfl (hj20 _ _ (inR_w32 _) H)
    · -- 14: 20
      exact AW.sel [0, 1, 2] rfl (hj20 _ _ hv1_4 H)
  · -- 6: 26
    refine aw_iload_n (pc := 26) dX5_laidOnes_26 rfl ?_
    exact cx_iret (pc := 27) hv1_4 rfl (Nat.le_of_ble_eq_true rfl) (Nat.le_of_ble_eq_true rfl) dX5_laidOnes_27 H
theorem dX7_build_0 : decode cX7_build 0 = .ok (.iconst 0, 1) := by decide +kernel
theorem dX7_build_1 : decode cX7_build 1 = .ok (.istore_n 1, 1) := by decide +kernel
theorem dX7_build_2 : decode cX7_build 2 = .ok (.iconst 0, 1) := by decide +kernel
theorem dX7_build_3 : decode cX7_build 3 = .ok (.istore_n 2, 1) := by decide +kernel
theorem dX7_build_4 : decode cX7_build 4 = .ok (.iload_n 2, 1) := by decide +kernel
theorem dX7_build_5 : decode cX7_build 5 = .ok (.aload_n 0, 1) := by decide +kernel
theorem dX7_build_6 : decode cX7_build 6 = .ok (.getfield 34, 3) := by decide +kernel
theorem dX7_build_9 : decode cX7_build 9 = .ok (.if_icmp .ge 292, 3) := by decide +kernel
theorem dX7_build_12 : decode cX7_build 12 = .ok (.iload_n 2, 1) := by decide +kernel
theorem dX7_build_13 : decode cX7_build 13 = .ok (.aload_n 0, 1) := by decide +kernel
theorem dX7_build_14 : decode cX7_build 14 = .ok (.getfield 13, 3) := by decide +kernel
theorem dX7_build_17 : decode cX7_build 17 = .ok (.arraylength, 1) := by decide +kernel
theorem dX7_build_18 : decode cX7_build 18 = .ok (.if_icmp .ge 283, 3) := by decide +kernel
theorem dX7_build_21 : decode cX7_build 21 = .ok (.aload_n 0, 1) := by decide +kernel
theorem dX7_build_22 : decode cX7_build 22 = .ok (.getfield 13, 3) := by decide +kernel
theorem dX7_build_25 : decode cX7_build 25 = .ok (.iload_n 2, 1) := by decide +kernel
theorem dX7_build_26 : decode cX7_build 26 = .ok (.iaload, 1) := by decide +kernel
theorem dX7_build_27 : decode cX7_build 27 = .ok (.bipush 15, 2) := by decide +kernel
theorem dX7_build_29 : decode cX7_build 29 = .ok (.iand, 1) := by decide +kernel
theorem dX7_build_30 : decode cX7_build 30 = .ok (.istore_n 3, 1) := by decide +kernel
theorem dX7_build_31 : decode cX7_build 31 = .ok (.aload_n 0, 1) := by decide +kernel
theorem dX7_build_32 : decode cX7_build 32 = .ok (.getfield 13, 3) := by decide +kernel
theorem dX7_build_35 : decode cX7_build 35 = .ok (.iload_n 2, 1) := by decide +kernel
theorem dX7_build_36 : decode cX7_build 36 = .ok (.iaload, 1) := by decide +kernel
theorem dX7_build_37 : decode cX7_build 37 = .ok (.iconst 4, 1) := by decide +kernel
theorem dX7_build_38 : decode cX7_build 38 = .ok (.ishr, 1) := by decide +kernel
theorem dX7_build_39 : decode cX7_build 39 = .ok (.sipush 255, 3) := by decide +kernel
theorem dX7_build_42 : decode cX7_build 42 = .ok (.iand, 1) := by decide +kernel
theorem dX7_build_43 : decode cX7_build 43 = .ok (.istore 4, 2) := by decide +kernel
theorem dX7_build_45 : decode cX7_build 45 = .ok (.aload_n 0, 1) := by decide +kernel
theorem dX7_build_46 : decode cX7_build 46 = .ok (.getfield 13, 3) := by decide +kernel
theorem dX7_build_49 : decode cX7_build 49 = .ok (.iload_n 2, 1) := by decide +kernel
theorem dX7_build_50 : decode cX7_build 50 = .ok (.iaload, 1) := by decide +kernel
theorem dX7_build_51 : decode cX7_build 51 = .ok (.bipush 12, 2) := by decide +kernel
theorem dX7_build_53 : decode cX7_build 53 = .ok (.ishr, 1) := by decide +kernel
theorem dX7_build_54 : decode cX7_build 54 = .ok (.sipush 255, 3) := by decide +kernel
theorem dX7_build_57 : decode cX7_build 57 = .ok (.iand, 1) := by decide +kernel
theorem dX7_build_58 : decode cX7_build 58 = .ok (.istore 5, 2) := by decide +kernel
theorem dX7_build_60 : decode cX7_build 60 = .ok (.iload_n 1, 1) := by decide +kernel
theorem dX7_build_61 : decode cX7_build 61 = .ok (.iload_n 3, 1) := by decide +kernel
theorem dX7_build_62 : decode cX7_build 62 = .ok (.iload 4, 2) := by decide +kernel
theorem dX7_build_64 : decode cX7_build 64 = .ok (.iload 5, 2) := by decide +kernel
theorem dX7_build_66 : decode cX7_build 66 = .ok (.invokestatic 71, 3) := by decide +kernel
theorem dX7_build_69 : decode cX7_build 69 = .ok (.isub, 1) := by decide +kernel
theorem dX7_build_70 : decode cX7_build 70 = .ok (.istore 6, 2) := by decide +kernel
theorem dX7_build_72 : decode cX7_build 72 = .ok (.iload 6, 2) := by decide +kernel
theorem dX7_build_74 : decode cX7_build 74 = .ok (.ifCond .lt 22, 3) := by decide +kernel
theorem dX7_build_77 : decode cX7_build 77 = .ok (.iload 6, 2) := by decide +kernel
theorem dX7_build_79 : decode cX7_build 79 = .ok (.aload_n 0, 1) := by decide +kernel
theorem dX7_build_80 : decode cX7_build 80 = .ok (.getfield 19, 3) := by decide +kernel
theorem dX7_build_83 : decode cX7_build 83 = .ok (.arraylength, 1) := by decide +kernel
theorem dX7_build_84 : decode cX7_build 84 = .ok (.if_icmp .ge 12, 3) := by decide +kernel
theorem dX7_build_87 : decode cX7_build 87 = .ok (.iload_n 1, 1) := by decide +kernel
theorem dX7_build_88 : decode cX7_build 88 = .ok (.aload_n 0, 1) := by decide +kernel
theorem dX7_build_89 : decode cX7_build 89 = .ok (.getfield 19, 3) := by decide +kernel
theorem dX7_build_92 : decode cX7_build 92 = .ok (.arraylength, 1) := by decide +kernel
theorem dX7_build_93 : decode cX7_build 93 = .ok (.if_icmp .le 5, 3) := by decide +kernel
theorem dX7_build_96 : decode cX7_build 96 = .ok (.aconst_null, 1) := by decide +kernel
theorem dX7_build_97 : decode cX7_build 97 = .ok (.areturn, 1) := by decide +kernel
theorem dX7_build_98 : decode cX7_build 98 = .ok (.iload_n 1, 1) := by decide +kernel
theorem dX7_build_99 : decode cX7_build 99 = .ok (.ifCond .le 14, 3) := by decide +kernel
theorem dX7_build_102 : decode cX7_build 102 = .ok (.aload_n 0, 1) := by decide +kernel
theorem dX7_build_103 : decode cX7_build 103 = .ok (.getfield 19, 3) := by decide +kernel
theorem dX7_build_106 : decode cX7_build 106 = .ok (.iload_n 1, 1) := by decide +kernel
theorem dX7_build_107 : decode cX7_build 107 = .ok (.iconst 1, 1) := by decide +kernel
theorem dX7_build_108 : decode cX7_build 108 = .ok (.isub, 1) := by decide +kernel
theorem dX7_build_109 : decode cX7_build 109 = .ok (.aaload, 1) := by decide +kernel
theorem dX7_build_110 : decode cX7_build 110 = .ok (.goto 4, 3) := by decide +kernel
theorem dX7_build_113 : decode cX7_build 113 = .ok (.aconst_null, 1) := by decide +kernel
theorem dX7_build_114 : decode cX7_build 114 = .ok (.astore 7, 2) := by decide +kernel
theorem dX7_build_116 : decode cX7_build 116 = .ok (.iload_n 3, 1) := by decide +kernel
theorem dX7_build_117 : decode cX7_build 117 = .ok (.tableswitch 135 0 4 #[35, 54, 73, 90, 109], 35) := by decide +kernel
theorem dX7_build_152 : decode cX7_build 152 = .ok (.aload_n 0, 1) := by decide +kernel
theorem dX7_build_153 : decode cX7_build 153 = .ok (.getfield 19, 3) := by decide +kernel
theorem dX7_build_156 : decode cX7_build 156 = .ok (.iload 6, 2) := by decide +kernel
theorem dX7_build_158 : decode cX7_build 158 = .ok (.aload_n 0, 1) := by decide +kernel
theorem dX7_build_159 : decode cX7_build 159 = .ok (.getfield 23, 3) := by decide +kernel
theorem dX7_build_162 : decode cX7_build 162 = .ok (.iload 4, 2) := by decide +kernel
theorem dX7_build_164 : decode cX7_build 164 = .ok (.invokevirtual 75, 3) := by decide +kernel
theorem dX7_build_167 : decode cX7_build 167 = .ok (.aastore, 1) := by decide +kernel
theorem dX7_build_168 : decode cX7_build 168 = .ok (.goto 110, 3) := by decide +kernel
theorem dX7_build_171 : decode cX7_build 171 = .ok (.aload_n 0, 1) := by decide +kernel
theorem dX7_build_172 : decode cX7_build 172 = .ok (.getfield 19, 3) := by decide +kernel
theorem dX7_build_175 : decode cX7_build 175 = .ok (.iload 6, 2) := by decide +kernel
theorem dX7_build_177 : decode cX7_build 177 = .ok (.aload_n 0, 1) := by decide +kernel
theorem dX7_build_178 : decode cX7_build 178 = .ok (.getfield 23, 3) := by decide +kernel
theorem dX7_build_181 : decode cX7_build 181 = .ok (.iload 4, 2) := by decide +kernel
theorem dX7_build_183 : decode cX7_build 183 = .ok (.invokevirtual 81, 3) := by decide +kernel
theorem dX7_build_186 : decode cX7_build 186 = .ok (.aastore, 1) := by decide +kernel
theorem dX7_build_187 : decode cX7_build 187 = .ok (.goto 91, 3) := by decide +kernel
theorem dX7_build_190 : decode cX7_build 190 = .ok (.aload_n 0, 1) := by decide +kernel
theorem dX7_build_191 : decode cX7_build 191 = .ok (.getfield 19, 3) := by decide +kernel
theorem dX7_build_194 : decode cX7_build 194 = .ok (.iload 6, 2) := by decide +kernel
theorem dX7_build_196 : decode cX7_build 196 = .ok (.aload_n 0, 1) := by decide +kernel
theorem dX7_build_197 : decode cX7_build 197 = .ok (.getfield 23, 3) := by decide +kernel
theorem dX7_build_200 : decode cX7_build 200 = .ok (.invokevirtual 84, 3) := by decide +kernel
theorem dX7_build_203 : decode cX7_build 203 = .ok (.aastore, 1) := by decide +kernel
theorem dX7_build_204 : decode cX7_build 204 = .ok (.goto 74, 3) := by decide +kernel
theorem dX7_build_207 : decode cX7_build 207 = .ok (.aload_n 0, 1) := by decide +kernel
theorem dX7_build_208 : decode cX7_build 208 = .ok (.getfield 19, 3) := by decide +kernel
theorem dX7_build_211 : decode cX7_build 211 = .ok (.iload 6, 2) := by decide +kernel
theorem dX7_build_213 : decode cX7_build 213 = .ok (.aload_n 0, 1) := by decide +kernel
theorem dX7_build_214 : decode cX7_build 214 = .ok (.getfield 23, 3) := by decide +kernel
theorem dX7_build_217 : decode cX7_build 217 = .ok (.aload 7, 2) := by decide +kernel
theorem dX7_build_219 : decode cX7_build 219 = .ok (.invokevirtual 88, 3) := by decide +kernel
theorem dX7_build_222 : decode cX7_build 222 = .ok (.aastore, 1) := by decide +kernel
theorem dX7_build_223 : decode cX7_build 223 = .ok (.goto 55, 3) := by decide +kernel
theorem dX7_build_226 : decode cX7_build 226 = .ok (.aload_n 0, 1) := by decide +kernel
theorem dX7_build_227 : decode cX7_build 227 = .ok (.getfield 19, 3) := by decide +kernel
theorem dX7_build_230 : decode cX7_build 230 = .ok (.iload 6, 2) := by decide +kernel
theorem dX7_build_232 : decode cX7_build 232 = .ok (.aload_n 0, 1) := by decide +kernel
theorem dX7_build_233 : decode cX7_build 233 = .ok (.getfield 23, 3) := by decide +kernel
theorem dX7_build_236 : decode cX7_build 236 = .ok (.aload_n 0, 1) := by decide +kernel
theorem dX7_build_237 : decode cX7_build 237 = .ok (.getfield 19, 3) := by decide +kernel
theorem dX7_build_240 : decode cX7_build 240 = .ok (.iload 6, 2) := by decide +kernel
theorem dX7_build_242 : decode cX7_build 242 = .ok (.aaload, 1) := by decide +kernel
theorem dX7_build_243 : decode cX7_build 243 = .ok (.aload 7, 2) := by decide +kernel
theorem dX7_build_245 : decode cX7_build 245 = .ok (.invokevirtual 92, 3) := by decide +kernel
theorem dX7_build_248 : decode cX7_build 248 = .ok (.aastore, 1) := by decide +kernel
theorem dX7_build_249 : decode cX7_build 249 = .ok (.goto 29, 3) := by decide +kernel
theorem dX7_build_252 : decode cX7_build 252 = .ok (.aload_n 0, 1) := by decide +kernel
theorem dX7_build_253 : decode cX7_build 253 = .ok (.getfield 19, 3) := by decide +kernel
theorem dX7_build_256 : decode cX7_build 256 = .ok (.iload 6, 2) := by decide +kernel
theorem dX7_build_258 : decode cX7_build 258 = .ok (.aload_n 0, 1) := by decide +kernel
theorem dX7_build_259 : decode cX7_build 259 = .ok (.getfield 23, 3) := by decide +kernel
theorem dX7_build_262 : decode cX7_build 262 = .ok (.aload_n 0, 1) := by decide +kernel
theorem dX7_build_263 : decode cX7_build 263 = .ok (.getfield 19, 3) := by decide +kernel
theorem dX7_build_266 : decode cX7_build 266 = .ok (.iload 6, 2) := by decide +kernel
theorem dX7_build_268 : decode cX7_build 268 = .ok (.iload 6, 2) := by decide +kernel
theorem dX7_build_270 : decode cX7_build 270 = .ok (.iload 4, 2) := by decide +kernel
theorem dX7_build_272 : decode cX7_build 272 = .ok (.iadd, 1) := by decide +kernel
theorem dX7_build_273 : decode cX7_build 273 = .ok (.iload_n 1, 1) := by decide +kernel
theorem dX7_build_274 : decode cX7_build 274 = .ok (.invokevirtual 96, 3) := by decide +kernel
theorem dX7_build_277 : decode cX7_build 277 = .ok (.aastore, 1) := by decide +kernel
theorem dX7_build_278 : decode cX7_build 278 = .ok (.aload_n 0, 1) := by decide +kernel
theorem dX7_build_279 : decode cX7_build 279 = .ok (.getfield 19, 3) := by decide +kernel
theorem dX7_build_282 : decode cX7_build 282 = .ok (.iload 6, 2) := by decide +kernel
theorem dX7_build_284 : decode cX7_build 284 = .ok (.aaload, 1) := by decide +kernel
theorem dX7_build_285 : decode cX7_build 285 = .ok (.ifnonnull 5, 3) := by decide +kernel
theorem dX7_build_288 : decode cX7_build 288 = .ok (.aconst_null, 1) := by decide +kernel
theorem dX7_build_289 : decode cX7_build 289 = .ok (.areturn, 1) := by decide +kernel
theorem dX7_build_290 : decode cX7_build 290 = .ok (.iload 6, 2) := by decide +kernel
theorem dX7_build_292 : decode cX7_build 292 = .ok (.iconst 1, 1) := by decide +kernel
theorem dX7_build_293 : decode cX7_build 293 = .ok (.iadd, 1) := by decide +kernel
theorem dX7_build_294 : decode cX7_build 294 = .ok (.istore_n 1, 1) := by decide +kernel
theorem dX7_build_295 : decode cX7_build 295 = .ok (.iinc 2 1, 3) := by decide +kernel
theorem dX7_build_298 : decode cX7_build 298 = .ok (.goto (-294), 3) := by decide +kernel
theorem dX7_build_301 : decode cX7_build 301 = .ok (.aload_n 0, 1) := by decide +kernel
theorem dX7_build_302 : decode cX7_build 302 = .ok (.getfield 19, 3) := by decide +kernel
theorem dX7_build_305 : decode cX7_build 305 = .ok (.iconst 0, 1) := by decide +kernel
theorem dX7_build_306 : decode cX7_build 306 = .ok (.aaload, 1) := by decide +kernel
theorem dX7_build_307 : decode cX7_build 307 = .ok (.areturn, 1) := by decide +kernel
theorem dX7_empty_0 : decode cX7_empty 0 = .ok (.aload_n 0, 1) := by decide +kernel
theorem dX7_empty_1 : decode cX7_empty 1 = .ok (.iconst 0, 1) := by decide +kernel
theorem dX7_empty_2 : decode cX7_empty 2 = .ok (.putfield 27, 3) := by decide +kernel
theorem dX7_empty_5 : decode cX7_empty 5 = .ok (.return_, 1) := by decide +kernel
theorem dX7_failAt_0 : decode cX7_failAt 0 = .ok (.aload_n 0, 1) := by decide +kernel
theorem dX7_failAt_1 : decode cX7_failAt 1 = .ok (.iload_n 1, 1) := by decide +kernel
theorem dX7_failAt_2 : decode cX7_failAt 2 = .ok (.putfield 37, 3) := by decide +kernel
theorem dX7_failAt_5 : decode cX7_failAt 5 = .ok (.iconst 0, 1) := by decide +kernel
theorem dX7_failAt_6 : decode cX7_failAt 6 = .ok (.ireturn, 1) := by decide +kernel
theorem dX7_hasRoom_0 : decode cX7_hasRoom 0 = .ok (.aload_n 0, 1) := by decide +kernel
theorem dX7_hasRoom_1 : decode cX7_hasRoom 1 = .ok (.getfield 27, 3) := by decide +kernel
theorem dX7_hasRoom_4 : decode cX7_hasRoom 4 = .ok (.iload_n 1, 1) := by decide +kernel
theorem dX7_hasRoom_5 : decode cX7_hasRoom 5 = .ok (.iadd, 1) := by decide +kernel
theorem dX7_hasRoom_6 : decode cX7_hasRoom 6 = .ok (.bipush 120, 2) := by decide +kernel
theorem dX7_hasRoom_8 : decode cX7_hasRoom 8 = .ok (.if_icmp .gt 7, 3) := by decide +kernel
theorem dX7_hasRoom_11 : decode cX7_hasRoom 11 = .ok (.iconst 1, 1) := by decide +kernel
theorem dX7_hasRoom_12 : decode cX7_hasRoom 12 = .ok (.goto 4, 3) := by decide +kernel
theorem dX7_hasRoom_15 : decode cX7_hasRoom 15 = .ok (.iconst 0, 1) := by decide +kernel
theorem dX7_hasRoom_16 : decode cX7_hasRoom 16 = .ok (.ireturn, 1) := by decide +kernel
theorem dX7_isDigit_0 : decode cX7_isDigit 0 = .ok (.iload_n 0, 1) := by decide +kernel
theorem dX7_isDigit_1 : decode cX7_isDigit 1 = .ok (.bipush 48, 2) := by decide +kernel
theorem dX7_isDigit_3 : decode cX7_isDigit 3 = .ok (.if_icmp .lt 13, 3) := by decide +kernel
theorem dX7_isDigit_6 : decode cX7_isDigit 6 = .ok (.iload_n 0, 1) := by decide +kernel
theorem dX7_isDigit_7 : decode cX7_isDigit 7 = .ok (.bipush 57, 2) := by decide +kernel
theorem dX7_isDigit_9 : decode cX7_isDigit 9 = .ok (.if_icmp .gt 7, 3) := by decide +kernel
theorem dX7_isDigit_12 : decode cX7_isDigit 12 = .ok (.iconst 1, 1) := by decide +kernel
theorem dX7_isDigit_13 : decode cX7_isDigit 13 = .ok (.goto 4, 3) := by decide +kernel
theorem dX7_isDigit_16 : decode cX7_isDigit 16 = .ok (.iconst 0, 1) := by decide +kernel
theorem dX7_isDigit_17 : decode cX7_isDigit 17 = .ok (.ireturn, 1) := by decide +kernel
theorem dX7_length_0 : decode cX7_length 0 = .ok (.aload_n 0, 1) := by decide +kernel
theorem dX7_length_1 : decode cX7_length 1 = .ok (.getfield 27, 3) := by decide +kernel
theorem dX7_length_4 : decode cX7_length 4 = .ok (.ireturn, 1) := by decide +kernel
theorem dX7_parse_0 : decode cX7_parse 0 = .ok (.aload_n 0, 1) := by decide +kernel
theorem dX7_parse_1 : decode cX7_parse 1 = .ok (.iconst 0, 1) := by decide +kernel
theorem dX7_parse_2 : decode cX7_parse 2 = .ok (.putfield 31, 3) := by decide +kernel
theorem dX7_parse_5 : decode cX7_parse 5 = .ok (.aload_n 0, 1) := by decide +kernel
theorem dX7_parse_6 : decode cX7_parse 6 = .ok (.iconst 0, 1) := by decide +kernel
theorem dX7_parse_7 : decode cX7_parse 7 = .ok (.putfield 34, 3) := by decide +kernel
theorem dX7_parse_10 : decode cX7_parse 10 = .ok (.aload_n 0, 1) := by decide +kernel
theorem dX7_parse_11 : decode cX7_parse 11 = .ok (.iconst (-1), 1) := by decide +kernel
theorem dX7_parse_12 : decode cX7_parse 12 = .ok (.putfield 37, 3) := by decide +kernel
theorem dX7_parse_15 : decode cX7_parse 15 = .ok (.aload_n 0, 1) := by decide +kernel
theorem dX7_parse_16 : decode cX7_parse 16 = .ok (.iconst 0, 1) := by decide +kernel
theorem dX7_parse_17 : decode cX7_parse 17 = .ok (.invokevirtual 40, 3) := by decide +kernel
theorem dX7_parse_20 : decode cX7_parse 20 = .ok (.ifCond .eq 22, 3) := by decide +kernel
theorem dX7_parse_23 : decode cX7_parse 23 = .ok (.aload_n 0, 1) := by decide +kernel
theorem dX7_parse_24 : decode cX7_parse 24 = .ok (.getfield 31, 3) := by decide +kernel
theorem dX7_parse_27 : decode cX7_parse 27 = .ok (.aload_n 0, 1) := by decide +kernel
theorem dX7_parse_28 : decode cX7_parse 28 = .ok (.getfield 27, 3) := by decide +kernel
theorem dX7_parse_31 : decode cX7_parse 31 = .ok (.if_icmp .ge 11, 3) := by decide +kernel
theorem dX7_parse_34 : decode cX7_parse 34 = .ok (.aload_n 0, 1) := by decide +kernel
theorem dX7_parse_35 : decode cX7_parse 35 = .ok (.aload_n 0, 1) := by decide +kernel
theorem dX7_parse_36 : decode cX7_parse 36 = .ok (.getfield 31, 3) := by decide +kernel
theorem dX7_parse_39 : decode cX7_parse 39 = .ok (.putfield 37, 3) := by decide +kernel
theorem dX7_parse_42 : decode cX7_parse 42 = .ok (.aload_n 0, 1) := by decide +kernel
theorem dX7_parse_43 : decode cX7_parse 43 = .ok (.getfield 37, 3) := by decide +kernel
theorem dX7_parse_46 : decode cX7_parse 46 = .ok (.ireturn, 1) := by decide +kernel
theorem dX7_parseNumber_0 : decode cX7_parseNumber 0 = .ok (.aload_n 0, 1) := by decide +kernel
theorem dX7_parseNumber_1 : decode cX7_parseNumber 1 = .ok (.getfield 31, 3) := by decide +kernel
theorem dX7_parseNumber_4 : decode cX7_parseNumber 4 = .ok (.istore_n 2, 1) := by decide +kernel
theorem dX7_parseNumber_5 : decode cX7_parseNumber 5 = .ok (.iconst 0, 1) := by decide +kernel
theorem dX7_parseNumber_6 : decode cX7_parseNumber 6 = .ok (.istore_n 3, 1) := by decide +kernel
theorem dX7_parseNumber_7 : decode cX7_parseNumber 7 = .ok (.aload_n 0, 1) := by decide +kernel
theorem dX7_parseNumber_8 : decode cX7_parseNumber 8 = .ok (.getfield 31, 3) := by decide +kernel
theorem dX7_parseNumber_11 : decode cX7_parseNumber 11 = .ok (.iload_n 2, 1) := by decide +kernel
theorem dX7_parseNumber_12 : decode cX7_parseNumber 12 = .ok (.iconst 2, 1) := by decide +kernel
theorem dX7_parseNumber_13 : decode cX7_parseNumber 13 = .ok (.iadd, 1) := by decide +kernel
theorem dX7_parseNumber_14 : decode cX7_parseNumber 14 = .ok (.if_icmp .ge 39, 3) := by decide +kernel
theorem dX7_parseNumber_17 : decode cX7_parseNumber 17 = .ok (.aload_n 0, 1) := by decide +kernel
theorem dX7_parseNumber_18 : decode cX7_parseNumber 18 = .ok (.invokevirtual 47, 3) := by decide +kernel
theorem dX7_parseNumber_21 : decode cX7_parseNumber 21 = .ok (.invokestatic 61, 3) := by decide +kernel
theorem dX7_parseNumber_24 : decode cX7_parseNumber 24 = .ok (.ifCond .eq 29, 3) := by decide +kernel
theorem dX7_parseNumber_27 : decode cX7_parseNumber 27 = .ok (.iload_n 3, 1) := by decide +kernel
theorem dX7_parseNumber_28 : decode cX7_parseNumber 28 = .ok (.bipush 10, 2) := by decide +kernel
theorem dX7_parseNumber_30 : decode cX7_parseNumber 30 = .ok (.imul, 1) := by decide +kernel
theorem dX7_parseNumber_31 : decode cX7_parseNumber 31 = .ok (.aload_n 0, 1) := by decide +kernel
theorem dX7_parseNumber_32 : decode cX7_parseNumber 32 = .ok (.invokevirtual 47, 3) := by decide +kernel
theorem dX7_parseNumber_35 : decode cX7_parseNumber 35 = .ok (.iadd, 1) := by decide +kernel
theorem dX7_parseNumber_36 : decode cX7_parseNumber 36 = .ok (.bipush 48, 2) := by decide +kernel
theorem dX7_parseNumber_38 : decode cX7_parseNumber 38 = .ok (.isub, 1) := by decide +kernel
theorem dX7_parseNumber_39 : decode cX7_parseNumber 39 = .ok (.istore_n 3, 1) := by decide +kernel
theorem dX7_parseNumber_40 : decode cX7_parseNumber 40 = .ok (.aload_n 0, 1) := by decide +kernel
theorem dX7_parseNumber_41 : decode cX7_parseNumber 41 = .ok (.dup, 1) := by decide +kernel
theorem dX7_parseNumber_42 : decode cX7_parseNumber 42 = .ok (.getfield 31, 3) := by decide +kernel
theorem dX7_parseNumber_45 : decode cX7_parseNumber 45 = .ok (.iconst 1, 1) := by decide +kernel
theorem dX7_parseNumber_46 : decode cX7_parseNumber 46 = .ok (.iadd, 1) := by decide +kernel
theorem dX7_parseNumber_47 : decode cX7_parseNumber 47 = .ok (.putfield 31, 3) := by decide +kernel
theorem dX7_parseNumber_50 : decode cX7_parseNumber 50 = .ok (.goto (-43), 3) := by decide +kernel
theorem dX7_parseNumber_53 : decode cX7_parseNumber 53 = .ok (.iload_n 3, 1) := by decide +kernel
theorem dX7_parseNumber_54 : decode cX7_parseNumber 54 = .ok (.bipush 12, 2) := by decide +kernel
theorem dX7_parseNumber_56 : decode cX7_parseNumber 56 = .ok (.if_icmp .le 11, 3) := by decide +kernel
theorem dX7_parseNumber_59 : decode cX7_parseNumber 59 = .ok (.aload_n 0, 1) := by decide +kernel
theorem dX7_parseNumber_60 : decode cX7_parseNumber 60 = .ok (.iload_n 2, 1) := by decide +kernel
theorem dX7_parseNumber_61 : decode cX7_parseNumber 61 = .ok (.invokevirtual 55, 3) := by decide +kernel
theorem dX7_parseNumber_64 : decode cX7_parseNumber 64 = .ok (.goto 10, 3) := by decide +kernel
theorem dX7_parseNumber_67 : decode cX7_parseNumber 67 = .ok (.aload_n 0, 1) := by decide +kernel
theorem dX7_parseNumber_68 : decode cX7_parseNumber 68 = .ok (.iload_n 1, 1) := by decide +kernel
theorem dX7_parseNumber_69 : decode cX7_parseNumber 69 = .ok (.iload_n 3, 1) := by decide +kernel
theorem dX7_parseNumber_70 : decode cX7_parseNumber 70 = .ok (.iconst 0, 1) := by decide +kernel
theorem dX7_parseNumber_71 : decode cX7_parseNumber 71 = .ok (.invokevirtual 51, 3) := by decide +kernel
theorem dX7_parseNumber_74 : decode cX7_parseNumber 74 = .ok (.ireturn, 1) := by decide +kernel
theorem dX7_parseRow_0 : decode cX7_parseRow 0 = .ok (.aload_n 0, 1) := by decide +kernel
theorem dX7_parseRow_1 : decode cX7_parseRow 1 = .ok (.invokevirtual 47, 3) := by decide +kernel
theorem dX7_parseRow_4 : decode cX7_parseRow 4 = .ok (.iload_n 2, 1) := by decide +kernel
theorem dX7_parseRow_5 : decode cX7_parseRow 5 = .ok (.if_icmp .ne 15, 3) := by decide +kernel
theorem dX7_parseRow_8 : decode cX7_parseRow 8 = .ok (.aload_n 0, 1) := by decide +kernel
theorem dX7_parseRow_9 : decode cX7_parseRow 9 = .ok (.dup, 1) := by decide +kernel
theorem dX7_parseRow_10 : decode cX7_parseRow 10 = .ok (.getfield 31, 3) := by decide +kernel
theorem dX7_parseRow_13 : decode cX7_parseRow 13 = .ok (.iconst 1, 1) := by decide +kernel
theorem dX7_parseRow_14 : decode cX7_parseRow 14 = .ok (.iadd, 1) := by decide +kernel
theorem dX7_parseRow_15 : decode cX7_parseRow 15 = .ok (.putfield 31, 3) := by decide +kernel
theorem dX7_parseRow_18 : decode cX7_parseRow 18 = .ok (.iconst 0, 1) := by decide +kernel
theorem dX7_parseRow_19 : decode cX7_parseRow 19 = .ok (.ireturn, 1) := by decide +kernel
theorem dX7_parseRow_20 : decode cX7_parseRow 20 = .ok (.iconst 0, 1) := by decide +kernel
theorem dX7_parseRow_21 : decode cX7_parseRow 21 = .ok (.istore_n 3, 1) := by decide +kernel
theorem dX7_parseRow_22 : decode cX7_parseRow 22 = .ok (.iload_n 3, 1) := by decide +kernel
theorem dX7_parseRow_23 : decode cX7_parseRow 23 = .ok (.bipush 120, 2) := by decide +kernel
theorem dX7_parseRow_25 : decode cX7_parseRow 25 = .ok (.if_icmp .ge 68, 3) := by decide +kernel
theorem dX7_parseRow_28 : decode cX7_parseRow 28 = .ok (.aload_n 0, 1) := by decide +kernel
theorem dX7_parseRow_29 : decode cX7_parseRow 29 = .ok (.iload_n 1, 1) := by decide +kernel
theorem dX7_parseRow_30 : decode cX7_parseRow 30 = .ok (.invokevirtual 40, 3) := by decide +kernel
theorem dX7_parseRow_33 : decode cX7_parseRow 33 = .ok (.ifCond .ne 5, 3) := by decide +kernel
theorem dX7_parseRow_36 : decode cX7_parseRow 36 = .ok (.iconst (-1), 1) := by decide +kernel
theorem dX7_parseRow_37 : decode cX7_parseRow 37 = .ok (.ireturn, 1) := by decide +kernel
theorem dX7_parseRow_38 : decode cX7_parseRow 38 = .ok (.iinc 3 1, 3) := by decide +kernel
theorem dX7_parseRow_41 : decode cX7_parseRow 41 = .ok (.aload_n 0, 1) := by decide +kernel
theorem dX7_parseRow_42 : decode cX7_parseRow 42 = .ok (.invokevirtual 47, 3) := by decide +kernel
theorem dX7_parseRow_45 : decode cX7_parseRow 45 = .ok (.istore 4, 2) := by decide +kernel
theorem dX7_parseRow_47 : decode cX7_parseRow 47 = .ok (.iload 4, 2) := by decide +kernel
theorem dX7_parseRow_49 : decode cX7_parseRow 49 = .ok (.bipush 44, 2) := by decide +kernel
theorem dX7_parseRow_51 : decode cX7_parseRow 51 = .ok (.if_icmp .eq 20, 3) := by decide +kernel
theorem dX7_parseRow_54 : decode cX7_parseRow 54 = .ok (.iload 4, 2) := by decide +kernel
theorem dX7_parseRow_56 : decode cX7_parseRow 56 = .ok (.iload_n 2, 1) := by decide +kernel
theorem dX7_parseRow_57 : decode cX7_parseRow 57 = .ok (.if_icmp .eq 14, 3) := by decide +kernel
theorem dX7_parseRow_60 : decode cX7_parseRow 60 = .ok (.aload_n 0, 1) := by decide +kernel
theorem dX7_parseRow_61 : decode cX7_parseRow 61 = .ok (.aload_n 0, 1) := by decide +kernel
theorem dX7_parseRow_62 : decode cX7_parseRow 62 = .ok (.getfield 31, 3) := by decide +kernel
theorem dX7_parseRow_65 : decode cX7_parseRow 65 = .ok (.invokevirtual 55, 3) := by decide +kernel
theorem dX7_parseRow_68 : decode cX7_parseRow 68 = .ok (.pop, 1) := by decide +kernel
theorem dX7_parseRow_69 : decode cX7_parseRow 69 = .ok (.iconst (-1), 1) := by decide +kernel
theorem dX7_parseRow_70 : decode cX7_parseRow 70 = .ok (.ireturn, 1) := by decide +kernel
theorem dX7_parseRow_71 : decode cX7_parseRow 71 = .ok (.aload_n 0, 1) := by decide +kernel
theorem dX7_parseRow_72 : decode cX7_parseRow 72 = .ok (.dup, 1) := by decide +kernel
theorem dX7_parseRow_73 : decode cX7_parseRow 73 = .ok (.getfield 31, 3) := by decide +kernel
theorem dX7_parseRow_76 : decode cX7_parseRow 76 = .ok (.iconst 1, 1) := by decide +kernel
theorem dX7_parseRow_77 : decode cX7_parseRow 77 = .ok (.iadd, 1) := by decide +kernel
theorem dX7_parseRow_78 : decode cX7_parseRow 78 = .ok (.putfield 31, 3) := by decide +kernel
theorem dX7_parseRow_81 : decode cX7_parseRow 81 = .ok (.iload 4, 2) := by decide +kernel
theorem dX7_parseRow_83 : decode cX7_parseRow 83 = .ok (.iload_n 2, 1) := by decide +kernel
theorem dX7_parseRow_84 : decode cX7_parseRow 84 = .ok (.if_icmp .ne 6, 3) := by decide +kernel
theorem dX7_parseRow_87 : decode cX7_parseRow 87 = .ok (.goto 6, 3) := by decide +kernel
theorem dX7_parseRow_90 : decode cX7_parseRow 90 = .ok (.goto (-68), 3) := by decide +kernel
theorem dX7_parseRow_93 : decode cX7_parseRow 93 = .ok (.iload_n 3, 1) := by decide +kernel
theorem dX7_parseRow_94 : decode cX7_parseRow 94 = .ok (.ireturn, 1) := by decide +kernel
theorem dX7_parseRows_0 : decode cX7_parseRows 0 = .ok (.aload_n 0, 1) := by decide +kernel
theorem dX7_parseRows_1 : decode cX7_parseRows 1 = .ok (.iload_n 1, 1) := by decide +kernel
theorem dX7_parseRows_2 : decode cX7_parseRows 2 = .ok (.bipush 124, 2) := by decide +kernel
theorem dX7_parseRows_4 : decode cX7_parseRows 4 = .ok (.invokevirtual 67, 3) := by decide +kernel
theorem dX7_parseRows_7 : decode cX7_parseRows 7 = .ok (.istore_n 2, 1) := by decide +kernel
theorem dX7_parseRows_8 : decode cX7_parseRows 8 = .ok (.iload_n 2, 1) := by decide +kernel
theorem dX7_parseRows_9 : decode cX7_parseRows 9 = .ok (.ifCond .ge 5, 3) := by decide +kernel
theorem dX7_parseRows_12 : decode cX7_parseRows 12 = .ok (.iconst 0, 1) := by decide +kernel
theorem dX7_parseRows_13 : decode cX7_parseRows 13 = .ok (.ireturn, 1) := by decide +kernel
theorem dX7_parseRows_14 : decode cX7_parseRows 14 = .ok (.aload_n 0, 1) := by decide +kernel
theorem dX7_parseRows_15 : decode cX7_parseRows 15 = .ok (.iload_n 1, 1) := by decide +kernel
theorem dX7_parseRows_16 : decode cX7_parseRows 16 = .ok (.bipush 125, 2) := by decide +kernel
theorem dX7_parseRows_18 : decode cX7_parseRows 18 = .ok (.invokevirtual 67, 3) := by decide +kernel
theorem dX7_parseRows_21 : decode cX7_parseRows 21 = .ok (.istore_n 3, 1) := by decide +kernel
theorem dX7_parseRows_22 : decode cX7_parseRows 22 = .ok (.iload_n 3, 1) := by decide +kernel
theorem dX7_parseRows_23 : decode cX7_parseRows 23 = .ok (.ifCond .lt 17, 3) := by decide +kernel
theorem dX7_parseRows_26 : decode cX7_parseRows 26 = .ok (.aload_n 0, 1) := by decide +kernel
theorem dX7_parseRows_27 : decode cX7_parseRows 27 = .ok (.iconst 5, 1) := by decide +kernel
theorem dX7_parseRows_28 : decode cX7_parseRows 28 = .ok (.iload_n 2, 1) := by decide +kernel
theorem dX7_parseRows_29 : decode cX7_parseRows 29 = .ok (.iload_n 3, 1) := by decide +kernel
theorem dX7_parseRows_30 : decode cX7_parseRows 30 = .ok (.invokevirtual 51, 3) := by decide +kernel
theorem dX7_parseRows_33 : decode cX7_parseRows 33 = .ok (.ifCond .eq 7, 3) := by decide +kernel
theorem dX7_parseRows_36 : decode cX7_parseRows 36 = .ok (.iconst 1, 1) := by decide +kernel
theorem dX7_parseRows_37 : decode cX7_parseRows 37 = .ok (.goto 4, 3) := by decide +kernel
theorem dX7_parseRows_40 : decode cX7_parseRows 40 = .ok (.iconst 0, 1) := by decide +kernel
theorem dX7_parseRows_41 : decode cX7_parseRows 41 = .ok (.ireturn, 1) := by decide +kernel
theorem dX7_parseSum_0 : decode cX7_parseSum 0 = .ok (.aload_n 0, 1) := by decide +kernel
theorem dX7_parseSum_1 : decode cX7_parseSum 1 = .ok (.iload_n 1, 1) := by decide +kernel
theorem dX7_parseSum_2 : decode cX7_parseSum 2 = .ok (.invokevirtual 44, 3) := by decide +kernel
theorem dX7_parseSum_5 : decode cX7_parseSum 5 = .ok (.ifCond .ne 5, 3) := by decide +kernel
theorem dX7_parseSum_8 : decode cX7_parseSum 8 = .ok (.iconst 0, 1) := by decide +kernel
theorem dX7_parseSum_9 : decode cX7_parseSum 9 = .ok (.ireturn, 1) := by decide +kernel
theorem dX7_parseSum_10 : decode cX7_parseSum 10 = .ok (.aload_n 0, 1) := by decide +kernel
theorem dX7_parseSum_11 : decode cX7_parseSum 11 = .ok (.getfield 31, 3) := by decide +kernel
theorem dX7_parseSum_14 : decode cX7_parseSum 14 = .ok (.aload_n 0, 1) := by decide +kernel
theorem dX7_parseSum_15 : decode cX7_parseSum 15 = .ok (.getfield 27, 3) := by decide +kernel
theorem dX7_parseSum_18 : decode cX7_parseSum 18 = .ok (.if_icmp .ge 43, 3) := by decide +kernel
theorem dX7_parseSum_21 : decode cX7_parseSum 21 = .ok (.aload_n 0, 1) := by decide +kernel
theorem dX7_parseSum_22 : decode cX7_parseSum 22 = .ok (.invokevirtual 47, 3) := by decide +kernel
theorem dX7_parseSum_25 : decode cX7_parseSum 25 = .ok (.bipush 43, 2) := by decide +kernel
theorem dX7_parseSum_27 : decode cX7_parseSum 27 = .ok (.if_icmp .ne 34, 3) := by decide +kernel
theorem dX7_parseSum_30 : decode cX7_parseSum 30 = .ok (.aload_n 0, 1) := by decide +kernel
theorem dX7_parseSum_31 : decode cX7_parseSum 31 = .ok (.dup, 1) := by decide +kernel
theorem dX7_parseSum_32 : decode cX7_parseSum 32 = .ok (.getfield 31, 3) := by decide +kernel
theorem dX7_parseSum_35 : decode cX7_parseSum 35 = .ok (.iconst 1, 1) := by decide +kernel
theorem dX7_parseSum_36 : decode cX7_parseSum 36 = .ok (.iadd, 1) := by decide +kernel
theorem dX7_parseSum_37 : decode cX7_parseSum 37 = .ok (.putfield 31, 3) := by decide +kernel
theorem dX7_parseSum_40 : decode cX7_parseSum 40 = .ok (.aload_n 0, 1) := by decide +kernel
theorem dX7_parseSum_41 : decode cX7_parseSum 41 = .ok (.iload_n 1, 1) := by decide +kernel
theorem dX7_parseSum_42 : decode cX7_parseSum 42 = .ok (.invokevirtual 44, 3) := by decide +kernel
theorem dX7_parseSum_45 : decode cX7_parseSum 45 = .ok (.ifCond .ne 5, 3) := by decide +kernel
theorem dX7_parseSum_48 : decode cX7_parseSum 48 = .ok (.iconst 0, 1) := by decide +kernel
theorem dX7_parseSum_49 : decode cX7_parseSum 49 = .ok (.ireturn, 1) := by decide +kernel
theorem dX7_parseSum_50 : decode cX7_parseSum 50 = .ok (.aload_n 0, 1) := by decide +kernel
theorem dX7_parseSum_51 : decode cX7_parseSum 51 = .ok (.iconst 4, 1) := by decide +kernel
theorem dX7_parseSum_52 : decode cX7_parseSum 52 = .ok (.iconst 0, 1) := by decide +kernel
theorem dX7_parseSum_53 : decode cX7_parseSum 53 = .ok (.iconst 0, 1) := by decide +kernel
theorem dX7_parseSum_54 : decode cX7_parseSum 54 = .ok (.invokevirtual 51, 3) := by decide +kernel
theorem dX7_parseSum_57 : decode cX7_parseSum 57 = .ok (.pop, 1) := by decide +kernel
theorem dX7_parseSum_58 : decode cX7_parseSum 58 = .ok (.goto (-48), 3) := by decide +kernel
theorem dX7_parseSum_61 : decode cX7_parseSum 61 = .ok (.iconst 1, 1) := by decide +kernel
theorem dX7_parseSum_62 : decode cX7_parseSum 62 = .ok (.ireturn, 1) := by decide +kernel
theorem dX7_parseUnit_0 : decode cX7_parseUnit 0 = .ok (.aload_n 0, 1) := by decide +kernel
theorem dX7_parseUnit_1 : decode cX7_parseUnit 1 = .ok (.invokevirtual 47, 3) := by decide +kernel
theorem dX7_parseUnit_4 : decode cX7_parseUnit 4 = .ok (.istore_n 2, 1) := by decide +kernel
theorem dX7_parseUnit_5 : decode cX7_parseUnit 5 = .ok (.iload_n 2, 1) := by decide +kernel
theorem dX7_parseUnit_6 : decode cX7_parseUnit 6 = .ok (.bipush 123, 2) := by decide +kernel
theorem dX7_parseUnit_8 : decode cX7_parseUnit 8 = .ok (.if_icmp .eq 9, 3) := by decide +kernel
theorem dX7_parseUnit_11 : decode cX7_parseUnit 11 = .ok (.iload_n 2, 1) := by decide +kernel
theorem dX7_parseUnit_12 : decode cX7_parseUnit 12 = .ok (.bipush 45, 2) := by decide +kernel
theorem dX7_parseUnit_14 : decode cX7_parseUnit 14 = .ok (.if_icmp .ne 67, 3) := by decide +kernel
theorem dX7_parseUnit_17 : decode cX7_parseUnit 17 = .ok (.iload_n 1, 1) := by decide +kernel
theorem dX7_parseUnit_18 : decode cX7_parseUnit 18 = .ok (.iconst 5, 1) := by decide +kernel
theorem dX7_parseUnit_19 : decode cX7_parseUnit 19 = .ok (.if_icmp .lt 12, 3) := by decide +kernel
theorem dX7_parseUnit_22 : decode cX7_parseUnit 22 = .ok (.aload_n 0, 1) := by decide +kernel
theorem dX7_parseUnit_23 : decode cX7_parseUnit 23 = .ok (.aload_n 0, 1) := by decide +kernel
theorem dX7_parseUnit_24 : decode cX7_parseUnit 24 = .ok (.getfield 31, 3) := by decide +kernel
theorem dX7_parseUnit_27 : decode cX7_parseUnit 27 = .ok (.invokevirtual 55, 3) := by decide +kernel
theorem dX7_parseUnit_30 : decode cX7_parseUnit 30 = .ok (.ireturn, 1) := by decide +kernel
theorem dX7_parseUnit_31 : decode cX7_parseUnit 31 = .ok (.aload_n 0, 1) := by decide +kernel
theorem dX7_parseUnit_32 : decode cX7_parseUnit 32 = .ok (.dup, 1) := by decide +kernel
theorem dX7_parseUnit_33 : decode cX7_parseUnit 33 = .ok (.getfield 31, 3) := by decide +kernel
theorem dX7_parseUnit_36 : decode cX7_parseUnit 36 = .ok (.iconst 1, 1) := by decide +kernel
theorem dX7_parseUnit_37 : decode cX7_parseUnit 37 = .ok (.iadd, 1) := by decide +kernel
theorem dX7_parseUnit_38 : decode cX7_parseUnit 38 = .ok (.putfield 31, 3) := by decide +kernel
theorem dX7_parseUnit_41 : decode cX7_parseUnit 41 = .ok (.iload_n 2, 1) := by decide +kernel
theorem dX7_parseUnit_42 : decode cX7_parseUnit 42 = .ok (.bipush 123, 2) := by decide +kernel
theorem dX7_parseUnit_44 : decode cX7_parseUnit 44 = .ok (.if_icmp .ne 11, 3) := by decide +kernel
theorem dX7_parseUnit_47 : decode cX7_parseUnit 47 = .ok (.aload_n 0, 1) := by decide +kernel
theorem dX7_parseUnit_48 : decode cX7_parseUnit 48 = .ok (.iload_n 1, 1) := by decide +kernel
theorem dX7_parseUnit_49 : decode cX7_parseUnit 49 = .ok (.iconst 1, 1) := by decide +kernel
theorem dX7_parseUnit_50 : decode cX7_parseUnit 50 = .ok (.iadd, 1) := by decide +kernel
theorem dX7_parseUnit_51 : decode cX7_parseUnit 51 = .ok (.invokevirtual 58, 3) := by decide +kernel
theorem dX7_parseUnit_54 : decode cX7_parseUnit 54 = .ok (.ireturn, 1) := by decide +kernel
theorem dX7_parseUnit_55 : decode cX7_parseUnit 55 = .ok (.aload_n 0, 1) := by decide +kernel
theorem dX7_parseUnit_56 : decode cX7_parseUnit 56 = .ok (.iload_n 1, 1) := by decide +kernel
theorem dX7_parseUnit_57 : decode cX7_parseUnit 57 = .ok (.iconst 1, 1) := by decide +kernel
theorem dX7_parseUnit_58 : decode cX7_parseUnit 58 = .ok (.iadd, 1) := by decide +kernel
theorem dX7_parseUnit_59 : decode cX7_parseUnit 59 = .ok (.invokevirtual 44, 3) := by decide +kernel
theorem dX7_parseUnit_62 : decode cX7_parseUnit 62 = .ok (.ifCond .eq 17, 3) := by decide +kernel
theorem dX7_parseUnit_65 : decode cX7_parseUnit 65 = .ok (.aload_n 0, 1) := by decide +kernel
theorem dX7_parseUnit_66 : decode cX7_parseUnit 66 = .ok (.iconst 3, 1) := by decide +kernel
theorem dX7_parseUnit_67 : decode cX7_parseUnit 67 = .ok (.iconst 0, 1) := by decide +kernel
theorem dX7_parseUnit_68 : decode cX7_parseUnit 68 = .ok (.iconst 0, 1) := by decide +kernel
theorem dX7_parseUnit_69 : decode cX7_parseUnit 69 = .ok (.invokevirtual 51, 3) := by decide +kernel
theorem dX7_parseUnit_72 : decode cX7_parseUnit 72 = .ok (.ifCond .eq 7, 3) := by decide +kernel
theorem dX7_parseUnit_75 : decode cX7_parseUnit 75 = .ok (.iconst 1, 1) := by decide +kernel
theorem dX7_parseUnit_76 : decode cX7_parseUnit 76 = .ok (.goto 4, 3) := by decide +kernel
theorem dX7_parseUnit_79 : decode cX7_parseUnit 79 = .ok (.iconst 0, 1) := by decide +kernel
theorem dX7_parseUnit_80 : decode cX7_parseUnit 80 = .ok (.ireturn, 1) := by decide +kernel
theorem dX7_parseUnit_81 : decode cX7_parseUnit 81 = .ok (.iload_n 2, 1) := by decide +kernel
theorem dX7_parseUnit_82 : decode cX7_parseUnit 82 = .ok (.invokestatic 61, 3) := by decide +kernel
theorem dX7_parseUnit_85 : decode cX7_parseUnit 85 = .ok (.ifCond .eq 9, 3) := by decide +kernel
theorem dX7_parseUnit_88 : decode cX7_parseUnit 88 = .ok (.aload_n 0, 1) := by decide +kernel
theorem dX7_parseUnit_89 : decode cX7_parseUnit 89 = .ok (.iconst 0, 1) := by decide +kernel
theorem dX7_parseUnit_90 : decode cX7_parseUnit 90 = .ok (.invokevirtual 64, 3) := by decide +kernel
theorem dX7_parseUnit_93 : decode cX7_parseUnit 93 = .ok (.ireturn, 1) := by decide +kernel
theorem dX7_parseUnit_94 : decode cX7_parseUnit 94 = .ok (.iload_n 2, 1) := by decide +kernel
theorem dX7_parseUnit_95 : decode cX7_parseUnit 95 = .ok (.bipush 94, 2) := by decide +kernel
theorem dX7_parseUnit_97 : decode cX7_parseUnit 97 = .ok (.if_icmp .ne 21, 3) := by decide +kernel
theorem dX7_parseUnit_100 : decode cX7_parseUnit 100 = .ok (.aload_n 0, 1) := by decide +kernel
theorem dX7_parseUnit_101 : decode cX7_parseUnit 101 = .ok (.dup, 1) := by decide +kernel
theorem dX7_parseUnit_102 : decode cX7_parseUnit 102 = .ok (.getfield 31, 3) := by decide +kernel
theorem dX7_parseUnit_105 : decode cX7_parseUnit 105 = .ok (.iconst 1, 1) := by decide +kernel
theorem dX7_parseUnit_106 : decode cX7_parseUnit 106 = .ok (.iadd, 1) := by decide +kernel
theorem dX7_parseUnit_107 : decode cX7_parseUnit 107 = .ok (.putfield 31, 3) := by decide +kernel
theorem dX7_parseUnit_110 : decode cX7_parseUnit 110 = .ok (.aload_n 0, 1) := by decide +kernel
theorem dX7_parseUnit_111 : decode cX7_parseUnit 111 = .ok (.iconst 2, 1) := by decide +kernel
theorem dX7_parseUnit_112 : decode cX7_parseUnit 112 = .ok (.iconst 0, 1) := by decide +kernel
theorem dX7_parseUnit_113 : decode cX7_parseUnit 113 = .ok (.iconst 0, 1) := by decide +kernel
theorem dX7_parseUnit_114 : decode cX7_parseUnit 114 = .ok (.invokevirtual 51, 3) := by decide +kernel
theorem dX7_parseUnit_117 : decode cX7_parseUnit 117 = .ok (.ireturn, 1) := by decide +kernel
theorem dX7_parseUnit_118 : decode cX7_parseUnit 118 = .ok (.iload_n 2, 1) := by decide +kernel
theorem dX7_parseUnit_119 : decode cX7_parseUnit 119 = .ok (.bipush 42, 2) := by decide +kernel
theorem dX7_parseUnit_121 : decode cX7_parseUnit 121 = .ok (.if_icmp .ne 39, 3) := by decide +kernel
theorem dX7_parseUnit_124 : decode cX7_parseUnit 124 = .ok (.aload_n 0, 1) := by decide +kernel
theorem dX7_parseUnit_125 : decode cX7_parseUnit 125 = .ok (.dup, 1) := by decide +kernel
theorem dX7_parseUnit_126 : decode cX7_parseUnit 126 = .ok (.getfield 31, 3) := by decide +kernel
theorem dX7_parseUnit_129 : decode cX7_parseUnit 129 = .ok (.iconst 1, 1) := by decide +kernel
theorem dX7_parseUnit_130 : decode cX7_parseUnit 130 = .ok (.iadd, 1) := by decide +kernel
theorem dX7_parseUnit_131 : decode cX7_parseUnit 131 = .ok (.putfield 31, 3) := by decide +kernel
theorem dX7_parseUnit_134 : decode cX7_parseUnit 134 = .ok (.aload_n 0, 1) := by decide +kernel
theorem dX7_parseUnit_135 : decode cX7_parseUnit 135 = .ok (.invokevirtual 47, 3) := by decide +kernel
theorem dX7_parseUnit_138 : decode cX7_parseUnit 138 = .ok (.invokestatic 61, 3) := by decide +kernel
theorem dX7_parseUnit_141 : decode cX7_parseUnit 141 = .ok (.ifCond .eq 11, 3) := by decide +kernel
theorem dX7_parseUnit_144 : decode cX7_parseUnit 144 = .ok (.aload_n 0, 1) := by decide +kernel
theorem dX7_parseUnit_145 : decode cX7_parseUnit 145 = .ok (.iconst 1, 1) := by decide +kernel
theorem dX7_parseUnit_146 : decode cX7_parseUnit 146 = .ok (.invokevirtual 64, 3) := by decide +kernel
theorem dX7_parseUnit_149 : decode cX7_parseUnit 149 = .ok (.goto 10, 3) := by decide +kernel
theorem dX7_parseUnit_152 : decode cX7_parseUnit 152 = .ok (.aload_n 0, 1) := by decide +kernel
theorem dX7_parseUnit_153 : decode cX7_parseUnit 153 = .ok (.iconst 1, 1) := by decide +kernel
theorem dX7_parseUnit_154 : decode cX7_parseUnit 154 = .ok (.iconst 1, 1) := by decide +kernel
theorem dX7_parseUnit_155 : decode cX7_parseUnit 155 = .ok (.iconst 0, 1) := by decide +kernel
theorem dX7_parseUnit_156 : decode cX7_parseUnit 156 = .ok (.invokevirtual 51, 3) := by decide +kernel
theorem dX7_parseUnit_159 : decode cX7_parseUnit 159 = .ok (.ireturn, 1) := by decide +kernel
theorem dX7_parseUnit_160 : decode cX7_parseUnit 160 = .ok (.aload_n 0, 1) := by decide +kernel
theorem dX7_parseUnit_161 : decode cX7_parseUnit 161 = .ok (.aload_n 0, 1) := by decide +kernel
theorem dX7_parseUnit_162 : decode cX7_parseUnit 162 = .ok (.getfield 31, 3) := by decide +kernel
theorem dX7_parseUnit_165 : decode cX7_parseUnit 165 = .ok (.invokevirtual 55, 3) := by decide +kernel
theorem dX7_parseUnit_168 : decode cX7_parseUnit 168 = .ok (.ireturn, 1) := by decide +kernel
theorem dX7_sign_0 : decode cX7_sign 0 = .ok (.aload_n 0, 1) := by decide +kernel
theorem dX7_sign_1 : decode cX7_sign 1 = .ok (.getfield 31, 3) := by decide +kernel
theorem dX7_sign_4 : decode cX7_sign 4 = .ok (.ifCond .lt 38, 3) := by decide +kernel
theorem dX7_sign_7 : decode cX7_sign 7 = .ok (.aload_n 0, 1) := by decide +kernel
theorem dX7_sign_8 : decode cX7_sign 8 = .ok (.getfield 31, 3) := by decide +kernel
theorem dX7_sign_11 : decode cX7_sign 11 = .ok (.aload_n 0, 1) := by decide +kernel
theorem dX7_sign_12 : decode cX7_sign 12 = .ok (.getfield 27, 3) := by decide +kernel
theorem dX7_sign_15 : decode cX7_sign 15 = .ok (.if_icmp .ge 27, 3) := by decide +kernel
theorem dX7_sign_18 : decode cX7_sign 18 = .ok (.aload_n 0, 1) := by decide +kernel
theorem dX7_sign_19 : decode cX7_sign 19 = .ok (.getfield 31, 3) := by decide +kernel
theorem dX7_sign_22 : decode cX7_sign 22 = .ok (.aload_n 0, 1) := by decide +kernel
theorem dX7_sign_23 : decode cX7_sign 23 = .ok (.getfield 9, 3) := by decide +kernel
theorem dX7_sign_26 : decode cX7_sign 26 = .ok (.arraylength, 1) := by decide +kernel
theorem dX7_sign_27 : decode cX7_sign 27 = .ok (.if_icmp .ge 15, 3) := by decide +kernel
theorem dX7_sign_30 : decode cX7_sign 30 = .ok (.aload_n 0, 1) := by decide +kernel
theorem dX7_sign_31 : decode cX7_sign 31 = .ok (.getfield 9, 3) := by decide +kernel
theorem dX7_sign_34 : decode cX7_sign 34 = .ok (.aload_n 0, 1) := by decide +kernel
theorem dX7_sign_35 : decode cX7_sign 35 = .ok (.getfield 31, 3) := by decide +kernel
theorem dX7_sign_38 : decode cX7_sign 38 = .ok (.baload, 1) := by decide +kernel
theorem dX7_sign_39 : decode cX7_sign 39 = .ok (.goto 4, 3) := by decide +kernel
theorem dX7_sign_42 : decode cX7_sign 42 = .ok (.iconst (-1), 1) := by decide +kernel
theorem dX7_sign_43 : decode cX7_sign 43 = .ok (.ireturn, 1) := by decide +kernel
theorem dX7_step_0 : decode cX7_step 0 = .ok (.aload_n 0, 1) := by decide +kernel
theorem dX7_step_1 : decode cX7_step 1 = .ok (.getfield 34, 3) := by decide +kernel
theorem dX7_step_4 : decode cX7_step 4 = .ok (.ifCond .lt 44, 3) := by decide +kernel
theorem dX7_step_7 : decode cX7_step 7 = .ok (.aload_n 0, 1) := by decide +kernel
theorem dX7_step_8 : decode cX7_step 8 = .ok (.getfield 34, 3) := by decide +kernel
theorem dX7_step_11 : decode cX7_step 11 = .ok (.aload_n 0, 1) := by decide +kernel
theorem dX7_step_12 : decode cX7_step 12 = .ok (.getfield 13, 3) := by decide +kernel
theorem dX7_step_15 : decode cX7_step 15 = .ok (.arraylength, 1) := by decide +kernel
theorem dX7_step_16 : decode cX7_step 16 = .ok (.if_icmp .ge 32, 3) := by decide +kernel
theorem dX7_step_19 : decode cX7_step 19 = .ok (.aload_n 0, 1) := by decide +kernel
theorem dX7_step_20 : decode cX7_step 20 = .ok (.getfield 13, 3) := by decide +kernel
theorem dX7_step_23 : decode cX7_step 23 = .ok (.aload_n 0, 1) := by decide +kernel
theorem dX7_step_24 : decode cX7_step 24 = .ok (.getfield 34, 3) := by decide +kernel
theorem dX7_step_27 : decode cX7_step 27 = .ok (.iload_n 1, 1) := by decide +kernel
theorem dX7_step_28 : decode cX7_step 28 = .ok (.iload_n 2, 1) := by decide +kernel
theorem dX7_step_29 : decode cX7_step 29 = .ok (.iconst 4, 1) := by decide +kernel
theorem dX7_step_30 : decode cX7_step 30 = .ok (.ishl, 1) := by decide +kernel
theorem dX7_step_31 : decode cX7_step 31 = .ok (.ior, 1) := by decide +kernel
theorem dX7_step_32 : decode cX7_step 32 = .ok (.iload_n 3, 1) := by decide +kernel
theorem dX7_step_33 : decode cX7_step 33 = .ok (.bipush 12, 2) := by decide +kernel
theorem dX7_step_35 : decode cX7_step 35 = .ok (.ishl, 1) := by decide +kernel
theorem dX7_step_36 : decode cX7_step 36 = .ok (.ior, 1) := by decide +kernel
theorem dX7_step_37 : decode cX7_step 37 = .ok (.iastore, 1) := by decide +kernel
theorem dX7_step_38 : decode cX7_step 38 = .ok (.aload_n 0, 1) := by decide +kernel
theorem dX7_step_39 : decode cX7_step 39 = .ok (.dup, 1) := by decide +kernel
theorem dX7_step_40 : decode cX7_step 40 = .ok (.getfield 34, 3) := by decide +kernel
theorem dX7_step_43 : decode cX7_step 43 = .ok (.iconst 1, 1) := by decide +kernel
theorem dX7_step_44 : decode cX7_step 44 = .ok (.iadd, 1) := by decide +kernel
theorem dX7_step_45 : decode cX7_step 45 = .ok (.putfield 34, 3) := by decide +kernel
theorem dX7_step_48 : decode cX7_step 48 = .ok (.iconst 1, 1) := by decide +kernel
theorem dX7_step_49 : decode cX7_step 49 = .ok (.ireturn, 1) := by decide +kernel
theorem dX7_take_0 : decode cX7_take 0 = .ok (.iconst 0, 1) := by decide +kernel
theorem dX7_take_1 : decode cX7_take 1 = .ok (.istore 4, 2) := by decide +kernel
theorem dX7_take_3 : decode cX7_take 3 = .ok (.iload 4, 2) := by decide +kernel
theorem dX7_take_5 : decode cX7_take 5 = .ok (.iload_n 3, 1) := by decide +kernel
theorem dX7_take_6 : decode cX7_take 6 = .ok (.if_icmp .ge 56, 3) := by decide +kernel
theorem dX7_take_9 : decode cX7_take 9 = .ok (.aload_n 0, 1) := by decide +kernel
theorem dX7_take_10 : decode cX7_take 10 = .ok (.getfield 27, 3) := by decide +kernel
theorem dX7_take_13 : decode cX7_take 13 = .ok (.ifCond .lt 49, 3) := by decide +kernel
theorem dX7_take_16 : decode cX7_take 16 = .ok (.aload_n 0, 1) := by decide +kernel
theorem dX7_take_17 : decode cX7_take 17 = .ok (.getfield 27, 3) := by decide +kernel
theorem dX7_take_20 : decode cX7_take 20 = .ok (.aload_n 0, 1) := by decide +kernel
theorem dX7_take_21 : decode cX7_take 21 = .ok (.getfield 9, 3) := by decide +kernel
theorem dX7_take_24 : decode cX7_take 24 = .ok (.arraylength, 1) := by decide +kernel
theorem dX7_take_25 : decode cX7_take 25 = .ok (.if_icmp .ge 37, 3) := by decide +kernel
theorem dX7_take_28 : decode cX7_take 28 = .ok (.aload_n 0, 1) := by decide +kernel
theorem dX7_take_29 : decode cX7_take 29 = .ok (.getfield 9, 3) := by decide +kernel
theorem dX7_take_32 : decode cX7_take 32 = .ok (.aload_n 0, 1) := by decide +kernel
theorem dX7_take_33 : decode cX7_take 33 = .ok (.getfield 27, 3) := by decide +kernel
theorem dX7_take_36 : decode cX7_take 36 = .ok (.lload_n 1, 1) := by decide +kernel
theorem dX7_take_37 : decode cX7_take 37 = .ok (.bipush 8, 2) := by decide +kernel
theorem dX7_take_39 : decode cX7_take 39 = .ok (.iload 4, 2) := by decide +kernel
theorem dX7_take_41 : decode cX7_take 41 = .ok (.imul, 1) := by decide +kernel
theorem dX7_take_42 : decode cX7_take 42 = .ok (.lshr, 1) := by decide +kernel
theorem dX7_take_43 : decode cX7_take 43 = .ok (.l2i, 1) := by decide +kernel
theorem dX7_take_44 : decode cX7_take 44 = .ok (.i2b, 1) := by decide +kernel
theorem dX7_take_45 : decode cX7_take 45 = .ok (.bastore, 1) := by decide +kernel
theorem dX7_take_46 : decode cX7_take 46 = .ok (.aload_n 0, 1) := by decide +kernel
theorem dX7_take_47 : decode cX7_take 47 = .ok (.dup, 1) := by decide +kernel
theorem dX7_take_48 : decode cX7_take 48 = .ok (.getfield 27, 3) := by decide +kernel
theorem dX7_take_51 : decode cX7_take 51 = .ok (.iconst 1, 1) := by decide +kernel
theorem dX7_take_52 : decode cX7_take 52 = .ok (.iadd, 1) := by decide +kernel
theorem dX7_take_53 : decode cX7_take 53 = .ok (.putfield 27, 3) := by decide +kernel
theorem dX7_take_56 : decode cX7_take 56 = .ok (.iinc 4 1, 3) := by decide +kernel
theorem dX7_take_59 : decode cX7_take 59 = .ok (.goto (-56), 3) := by decide +kernel
theorem dX7_take_62 : decode cX7_take 62 = .ok (.aload_n 0, 1) := by decide +kernel
theorem dX7_take_63 : decode cX7_take 63 = .ok (.getfield 27, 3) := by decide +kernel
theorem dX7_take_66 : decode cX7_take 66 = .ok (.ireturn, 1) := by decide +kernel
theorem dX7_taken_0 : decode cX7_taken 0 = .ok (.iload_n 0, 1) := by decide +kernel
theorem dX7_taken_1 : decode cX7_taken 1 = .ok (.tableswitch 35 3 5 #[27, 29, 31], 27) := by decide +kernel
theorem dX7_taken_28 : decode cX7_taken 28 = .ok (.iconst 1, 1) := by decide +kernel
theorem dX7_taken_29 : decode cX7_taken 29 = .ok (.ireturn, 1) := by decide +kernel
theorem dX7_taken_30 : decode cX7_taken 30 = .ok (.iconst 2, 1) := by decide +kernel
theorem dX7_taken_31 : decode cX7_taken 31 = .ok (.ireturn, 1) := by decide +kernel
theorem dX7_taken_32 : decode cX7_taken 32 = .ok (.iload_n 1, 1) := by decide +kernel
theorem dX7_taken_33 : decode cX7_taken 33 = .ok (.iload_n 2, 1) := by decide +kernel
theorem dX7_taken_34 : decode cX7_taken 34 = .ok (.iadd, 1) := by decide +kernel
theorem dX7_taken_35 : decode cX7_taken 35 = .ok (.ireturn, 1) := by decide +kernel
theorem dX7_taken_36 : decode cX7_taken 36 = .ok (.iconst 0, 1) := by decide +kernel
theorem dX7_taken_37 : decode cX7_taken 37 = .ok (.ireturn, 1) := by decide +kernel
/-- X7 length ()I -/
def f_X7_length (n : Nat)  (mi : Mem) : Option Rz :=
  gtF mi 41 4 fun x1 =>
  rt x1 mi
set_option maxRecDepth 100000 in
set_option maxHeartbeats 4000000 in
theorem s_X7_length (l : Launch) (sc : g_S) (E : Mem → g_H) (R : Nat → Prop) (hE : LE E R) (hR : RCL R) (n : Nat)    (mi : Mem) (r : Rz) (H : f_X7_length n  mi = some r) : AMet l sc yX7_length cX7_length 1 (some FieldType.int) 0 0 0 [.ref 41] (E mi) (pI E r) := by
  have r41 : R 41 := hR.1 41 (Nat.le_of_ble_eq_true rfl) (Nat.le_of_ble_eq_true rfl)
  unfold f_X7_length at H
  refine AMet.of (own := RX7) (by decide +kernel) rfl (Nat.le_of_ble_eq_true rfl) [(0, .ref 41)] rfl (fun D base ad => ?_)
  refine aw_aload_n (pc := 0) dX7_length_0 rfl ?_
  refine cx_gtF (pc := 1) hE r41 fl_X7_27 rfl rfl (Nat.le_of_ble_eq_true rfl) dX7_length_1 H (fun x1 hx1 H => ?_)
  exact cx_iret (pc := 4) hx1 rfl (Nat.le_of_ble_eq_true rfl) (Nat.le_of_ble_eq_true rfl) dX7_length_4 H
/-- X7 empty ()V -/
def f_X7_empty (n : Nat)  (mi : Mem) : Option Rz :=
  ptF mi 41 4 0 fun m2 =>
  rt 0 m2
set_option maxRecDepth 100000 in
set_option maxHeartbeats 4000000 in
theorem s_X7_empty (l : Launch) (sc : g_S) (E : Mem → g_H) (R : Nat → Prop) (hE : LE E R) (hR : RCL R) (n : Nat)    (mi : Mem) (r : Rz) (H : f_X7_empty n  mi = some r) : AMet l sc yX7_empty cX7_empty 1 none 0 0 0 [.ref 41] (E mi) (pV E r) := by
  have r41 : R 41 := hR.1 41 (Nat.le_of_ble_eq_true rfl) (Nat.le_of_ble_eq_true rfl)
  unfold f_X7_empty at H
  refine AMet.of (own := RX7) (by decide +kernel) rfl (Nat.le_of_ble_eq_true rfl) [(0, .ref 41)] rfl (fun D base ad => ?_)
  refine aw_aload_n (pc := 0) dX7_empty_0 rfl ?_
  refine cx_iconst (pc := 1) dX7_empty_1 ?_
  refine cx_ptF (pc := 2) tyX7 hE r41 fl_X7_27 (fun r h => ⟨gty_X7 r h, by cases h; rfl⟩) rfl rfl rfl (Nat.le_of_ble_eq_true rfl) dX7_empty_2 H (fun m2 H => ?_)
  exact cx_vret (pc := 5) rfl (Nat.le_of_ble_eq_true rfl) (Nat.le_of_ble_eq_true rfl) dX7_empty_5 H
/-- X7 hasRoom (I)Z -/
def f_X7_hasRoom (n : Nat) (p1 : Int) (mi : Mem) : Option Rz :=
  gtF mi 41 4 fun x1 =>
  jn (fun (s0_16 : Int) (m16 : Mem) =>
    rtZ s0_16 m16
  ) fun (j16 : Int → Mem → Option Rz) =>
  if 120 < w32 (x1 + p1) then (
    j16 0 mi
  ) else
  j16 1 mi
set_option maxRecDepth 100000 in
set_option maxHeartbeats 4000000 in
theorem s_X7_hasRoom (l : Launch) (sc : g_S) (E : Mem → g_H) (R : Nat → Prop) (hE : LE E R) (hR : RCL R) (n : Nat)  (p1 : Int) (hp1 : inR p1) (mi : Mem) (r : Rz) (H : f_X7_hasRoom n p1 mi = some r) : AMet l sc yX7_hasRoom cX7_hasRoom 2 (some FieldType.boolean) 0 0 0 [.ref 41, iv p1] (E mi) (pI E r) := by
  have r41 : R 41 := hR.1 41 (Nat.le_of_ble_eq_true rfl) (Nat.le_of_ble_eq_true rfl)
  unfold f_X7_hasRoom at H
  refine AMet.of (own := RX7) (by decide +kernel) rfl (Nat.le_of_ble_eq_true rfl) [(0, .ref 41), (1, iv p1)] rfl (fun D base ad => ?_)
  refine aw_aload_n (pc := 0) dX7_hasRoom_0 rfl ?_
  refine cx_gtF (pc := 1) hE r41 fl_X7_27 rfl rfl (Nat.le_of_ble_eq_true rfl) dX7_hasRoom_1 H (fun x1 hx1 H => ?_)
  refine aw_iload_n (pc := 4) dX7_hasRoom_4 rfl ?_
  refine cx_iadd (pc := 5) dX7_hasRoom_5 ?_
  refine cx_bipush (pc := 6) dX7_hasRoom_6 (by decide) ?_
  refine jn_ind (fun (f9 : Int → Mem → Option Rz) => ∀ (s0_16 : Int) (m16 : Mem), inR s0_16 → f9 s0_16 m16 = some r → AW l D base sc RX7 yX7_hasRoom cX7_hasRoom 2 (some FieldType.boolean) 0 0 0 ad (E mi) (pI E r) 0 0 (E m16) 16 [] [iv s0_16]) (fun s0_16 m16 hs0_16 H => ?_) (fun j16 hj16 H => ?_) H
  · -- 16
    exact cx_zret (pc := 16) rfl (Nat.le_of_ble_eq_true rfl) (Nat.le_of_ble_eq_true rfl) dX7_hasRoom_16 H
  refine cx_icmp_gt (pc := 8) 15 (inR_w32 _) (inR_lit _ rfl) dX7_hasRoom_8 rfl H (fun H => ?_) (fun H => ?_)
  · -- 8: 15
    refine cx_iconst (pc := 15) dX7_hasRoom_15 ?_
    exact AW.sel [] rfl (hj16 _ _ (inR_lit _ rfl) H)
  · -- 8: 11
    refine cx_iconst (pc := 11) dX7_hasRoom_11 ?_
    refine aw_goto (pc := 12) 16 dX7_hasRoom_12 rfl ?_
    exact AW.sel [] rfl (hj16 _ _ (inR_lit _ rfl) H)
/-- X7 take (JI)I -/
def f_X7_take (n : Nat) (p1 : Nat) (p3 : Int) (mi : Mem) : Option Rz :=
  lp (F := Int → Mem → Option Rz) (fun _ _ => none) (fun w3 v4_3 m3 =>
    jn (fun (m62 : Mem) =>
      gtF m62 41 4 fun x63 =>
      rt x63 m62
    ) fun (j62 : Mem → Option Rz) =>
    if v4_3 < p3 then (
      gtF m3 41 4 fun x10 =>
      if x10 < 0 then (
        j62 m3
      ) else
      gtF m3 41 4 fun x17 =>
      if x17 < 120 then (
        gtF m3 41 4 fun x33 =>
        stB m3 42 x33 (i8 (j2i (jshr p1 (w32 (8 * v4_3))))) fun m45 =>
        gtF m45 41 4 fun x48 =>
        ptF m45 41 4 (w32 (x48 + 1)) fun m53 =>
        w3 (w32 (v4_3 + 1)) m53
      ) else
      j62 m3
    ) else
    j62 m3
  ) n 0 mi
set_option maxRecDepth 100000 in
set_option maxHeartbeats 4000000 in
theorem s_X7_take (l : Launch) (sc : g_S) (E : Mem → g_H) (R : Nat → Prop) (hE : LE E R) (hR : RCL R) (n : Nat)  (p1 : Nat) (p3 : Int) (hp3 : inR p3) (mi : Mem) (r : Rz) (H : f_X7_take n p1 p3 mi = some r) : AMet l sc yX7_take cX7_take 5 (some FieldType.int) 0 0 0 [.ref 41, jv p1, iv p3] (E mi) (pI E r) := by
  have r41 : R 41 := hR.1 41 (Nat.le_of_ble_eq_true rfl) (Nat.le_of_ble_eq_true rfl)
  have r42 : R 42 := hR.1 42 (Nat.le_of_ble_eq_true rfl) (Nat.le_of_ble_eq_true rfl)
  unfold f_X7_take at H
  refine AMet.of (own := RX7) (by decide +kernel) rfl (Nat.le_of_ble_eq_true rfl) [(0, .ref 41), (1, jv p1), (3, iv p3)] rfl (fun D base ad => ?_)
  refine cx_iconst (pc := 0) dX7_take_0 ?_
  refine aw_istore (pc := 1) [(4, iv 0), (0, .ref 41), (1, jv p1), (3, iv p3)] dX7_take_1 rfl (by decide) ?_
  refine AW.sel [1, 2, 3, 0] rfl (lp_ind (bot := fun _ _ => none) (fun (f9 : Int → Mem → Option Rz) => ∀ (v4_3 : Int) (m3 : Mem), inR v4_3 → f9 v4_3 m3 = some r → AW l D base sc RX7 yX7_take cX7_take 5 (some FieldType.int) 0 0 0 ad (E mi) (pI E r) 0 0 (E m3) 3 [(0, .ref 41), (1, jv p1), (3, iv p3), (4, iv v4_3)] []) (fun _ _ _ h9 => nomatch h9) (fun w3 ih3 v4_3 m3 hv4_3 H => ?_) n _ _ (inR_lit _ rfl) H)
  refine aw_iload (pc := 3) dX7_take_3 rfl ?_
  refine aw_iload_n (pc := 5) dX7_take_5 rfl ?_
  refine jn_ind (fun (f9 : Mem → Option Rz) => ∀ (m62 : Mem), f9 m62 = some r → AW l D base sc RX7 yX7_take cX7_take 5 (some FieldType.int) 0 0 0 ad (E mi) (pI E r) 0 0 (E m62) 62 [(0, .ref 41)] []) (fun m62 H => ?_) (fun j62 hj62 H => ?_) H
  · -- 62
    refine aw_aload_n (pc := 62) dX7_take_62 rfl ?_
    refine cx_gtF (pc := 63) hE r41 fl_X7_27 rfl rfl (Nat.le_of_ble_eq_true rfl) dX7_take_63 H (fun x63 hx63 H => ?_)
    exact cx_iret (pc := 66) hx63 rfl (Nat.le_of_ble_eq_true rfl) (Nat.le_of_ble_eq_true rfl) dX7_take_66 H
  refine cx_icmp_ge (pc := 6) 62 hv4_3 hp3 dX7_take_6 rfl H (fun H => ?_) (fun H => ?_)
  · -- 6: 9
    refine aw_aload_n (pc := 9) dX7_take_9 rfl ?_
    refine cx_gtF (pc := 10) hE r41 fl_X7_27 rfl rfl (Nat.le_of_ble_eq_true rfl) dX7_take_10 H (fun x10 hx10 H => ?_)
    refine cx_if_lt (pc := 13) 62 hx10 dX7_take_13 rfl H (fun H => ?_) (fun H => ?_)
    · -- 13: 62
      exact AW.sel [0] rfl (hj62 _ H)
    · -- 13: 16
      refine aw_aload_n (pc := 16) dX7_take_16 rfl ?_
      refine cx_gtF (pc := 17) hE r41 fl_X7_27 rfl rfl (Nat.le_of_ble_eq_true rfl) dX7_take_17 H (fun x17 hx17 H => ?_)
      refine aw_aload_n (pc := 20) dX7_take_20 rfl ?_
      refine cx_gtC (pc := 21) 42 hE r41 fl_X7_9 rfl rfl (Nat.le_of_ble_eq_true rfl) dX7_take_21 ?_
      refine cx_lenC (pc := 24) (c := 120) hE r42 (fun _ => ⟨_, _, rfl, rfl⟩) dX7_take_24 ?_
      refine cx_icmp_ge (pc := 25) 62 hx17 (inR_lit _ rfl) dX7_take_25 rfl H (fun H => ?_) (fun H => ?_)
      · -- 25: 28
        refine aw_aload_n (pc := 28) dX7_take_28 rfl ?_
        refine cx_gtC (pc := 29) 42 hE r41 fl_X7_9 rfl rfl (Nat.le_of_ble_eq_true rfl) dX7_take_29 ?_
        refine aw_aload_n (pc := 32) dX7_take_32 rfl ?_
        refine cx_gtF (pc := 33) hE r41 fl_X7_27 rfl rfl (Nat.le_of_ble_eq_true rfl) dX7_take_33 H (fun x33 hx33 H => ?_)
        refine aw_lload_n (pc := 36) dX7_take_36 rfl ?_
        refine cx_bipush (pc := 37) dX7_take_37 (by decide) ?_
        refine aw_iload (pc := 39) dX7_take_39 rfl ?_
        refine cx_imul (pc := 41) dX7_take_41 ?_
        refine cx_lshr (pc := 42) dX7_take_42 ?_
        refine cx_l2i (pc := 43) dX7_take_43 ?_
        refine cx_i2b (pc := 44) dX7_take_44 ?_
        refine cx_stB (pc := 45) hE r42 hx33 dX7_take_45 H (fun m45 H => ?_)
        refine aw_aload_n (pc := 46) dX7_take_46 rfl ?_
        refine aw_dup (pc := 47) dX7_take_47 rfl ?_
        refine cx_gtF (pc := 48) hE r41 fl_X7_27 rfl rfl (Nat.le_of_ble_eq_true rfl) dX7_take_48 H (fun x48 hx48 H => ?_)
        refine cx_iconst (pc := 51) dX7_take_51 ?_
        refine cx_iadd (pc := 52) dX7_take_52 ?_
        refine cx_ptF (pc := 53) tyX7 hE r41 fl_X7_27 (fun r h => ⟨gty_X7 r h, by cases h; rfl⟩) rfl rfl rfl (Nat.le_of_ble_eq_true rfl) dX7_take_53 H (fun m53 H => ?_)
        refine cx_iinc (pc := 56) [(4, iv (w32 (v4_3 + 1))), (0, .ref 41), (1, jv p1), (3, iv p3)] dX7_take_56 rfl rfl (by decide) ?_
        refine aw_goto (pc := 59) 3 dX7_take_59 rfl ?_
        exact AW.sel [1, 2, 3, 0] rfl (ih3 _ _ (inR_w32 _) H)
      · -- 25: 62
        exact AW.sel [0] rfl (hj62 _ H)
  · -- 6: 62
    exact AW.sel [0] rfl (hj62 _ H)
/-- X7 failAt (I)Z -/
def f_X7_failAt (n : Nat) (p1 : Int) (mi : Mem) : Option Rz :=
  ptF mi 41 6 p1 fun m2 =>
  rtZ 0 m2
set_option maxRecDepth 100000 in
set_option maxHeartbeats 4000000 in
theorem s_X7_failAt (l : Launch) (sc : g_S) (E : Mem → g_H) (R : Nat → Prop) (hE : LE E R) (hR : RCL R) (n : Nat)  (p1 : Int) (hp1 : inR p1) (mi : Mem) (r : Rz) (H : f_X7_failAt n p1 mi = some r) : AMet l sc yX7_failAt cX7_failAt 2 (some FieldType.boolean) 0 0 0 [.ref 41, iv p1] (E mi) (pI E r) := by
  have r41 : R 41 := hR.1 41 (Nat.le_of_ble_eq_true rfl) (Nat.le_of_ble_eq_true rfl)
  unfold f_X7_failAt at H
  refine AMet.of (own := RX7) (by decide +kernel) rfl (Nat.le_of_ble_eq_true rfl) [(0, .ref 41), (1, iv p1)] rfl (fun D base ad => ?_)
  refine aw_aload_n (pc := 0) dX7_failAt_0 rfl ?_
  refine aw_iload_n (pc := 1) dX7_failAt_1 rfl ?_
  refine cx_ptF (pc := 2) tyX7 hE r41 fl_X7_37 (fun r h => ⟨gty_X7 r h, by cases h; rfl⟩) rfl rfl rfl (Nat.le_of_ble_eq_true rfl) dX7_failAt_2 H (fun m2 H => ?_)
  refine cx_iconst (pc := 5) dX7_failAt_5 ?_
  exact cx_zret (pc := 6) rfl (Nat.le_of_ble_eq_true rfl) (Nat.le_of_ble_eq_true rfl) dX7_failAt_6 H
/-- X7 isDigit (I)Z -/
def f_X7_isDigit (n : Nat) (p0 : Int) (mi : Mem) : Option Rz :=
  jn (fun (s0_17 : Int) (m17 : Mem) =>
    rtZ s0_17 m17
  ) fun (j17 : Int → Mem → Option Rz) =>
  jn (fun (m16 : Mem) =>
    j17 0 m16
  ) fun (j16 : Mem → Option Rz) =>
  if p0 < 48 then (
    j16 mi
  ) else
  if 57 < p0 then (
    j16 mi
  ) else
  j17 1 mi
set_option maxRecDepth 100000 in
set_option maxHeartbeats 4000000 in
theorem s_X7_isDigit (l : Launch) (sc : g_S) (E : Mem → g_H) (R : Nat → Prop) (hE : LE E R) (hR : RCL R) (n : Nat)  (p0 : Int) (hp0 : inR p0) (mi : Mem) (r : Rz) (H : f_X7_isDigit n p0 mi = some r) : AMet l sc yX7_isDigit cX7_isDigit 1 (some FieldType.boolean) 0 0 0 [iv p0] (E mi) (pI E r) := by
  unfold f_X7_isDigit at H
  refine AMet.of (own := RX7) (by decide +kernel) rfl (Nat.le_of_ble_eq_true rfl) [(0, iv p0)] rfl (fun D base ad => ?_)
  refine aw_iload_n (pc := 0) dX7_isDigit_0 rfl ?_
  refine cx_bipush (pc := 1) dX7_isDigit_1 (by decide) ?_
  refine jn_ind (fun (f9 : Int → Mem → Option Rz) => ∀ (s0_17 : Int) (m17 : Mem), inR s0_17 → f9 s0_17 m17 = some r → AW l D base sc RX7 yX7_isDigit cX7_isDigit 1 (some FieldType.boolean) 0 0 0 ad (E mi) (pI E r) 0 0 (E m17) 17 [] [iv s0_17]) (fun s0_17 m17 hs0_17 H => ?_) (fun j17 hj17 H => ?_) H
  · -- 17
    exact cx_zret (pc := 17) rfl (Nat.le_of_ble_eq_true rfl) (Nat.le_of_ble_eq_true rfl) dX7_isDigit_17 H
  refine jn_ind (fun (f9 : Mem → Option Rz) => ∀ (m16 : Mem), f9 m16 = some r → AW l D base sc RX7 yX7_isDigit cX7_isDigit 1 (some FieldType.boolean) 0 0 0 ad (E mi) (pI E r) 0 0 (E m16) 16 [] []) (fun m16 H => ?_) (fun j16 hj16 H => ?_) H
  · -- 16
    refine cx_iconst (pc := 16) dX7_isDigit_16 ?_
    exact AW.sel [] rfl (hj17 _ _ (inR_lit _ rfl) H)
  refine cx_icmp_lt (pc := 3) 16 hp0 (inR_lit _ rfl) dX7_isDigit_3 rfl H (fun H => ?_) (fun H => ?_)
  · -- 3: 16
    exact AW.sel [] rfl (hj16 _ H)
  · -- 3: 6
    refine aw_iload_n (pc := 6) dX7_isDigit_6 rfl ?_
    refine cx_bipush (pc := 7) dX7_isDigit_7 (by decide) ?_
    refine cx_icmp_gt (pc := 9) 16 hp0 (inR_lit _ rfl) dX7_isDigit_9 rfl H (fun H => ?_) (fun H => ?_)
    · -- 9: 16
      exact AW.sel [] rfl (hj16 _ H)
    · -- 9: 12
      refine cx_iconst (pc := 12) dX7_isDigit_12 ?_
      refine aw_goto (pc := 13) 17 dX7_isDigit_13 rfl ?_
      exact AW.sel [] rfl (hj17 _ _ (inR_lit _ rfl) H)
/-- X7 sign ()I -/
def f_X7_sign (n : Nat)  (mi : Mem) : Option Rz :=
  gtF mi 41 5 fun x1 =>
  jn (fun (s0_43 : Int) (m43 : Mem) =>
    rt s0_43 m43
  ) fun (j43 : Int → Mem → Option Rz) =>
  jn (fun (m42 : Mem) =>
    j43 (-1) m42
  ) fun (j42 : Mem → Option Rz) =>
  if x1 < 0 then (
    j42 mi
  ) else
  gtF mi 41 5 fun x8 =>
  gtF mi 41 4 fun x12 =>
  if x8 < x12 then (
    gtF mi 41 5 fun x19 =>
    if x19 < 120 then (
      gtF mi 41 5 fun x35 =>
      ldB mi 42 x35 fun x38 =>
      j43 x38 mi
    ) else
    j42 mi
  ) else
  j42 mi
set_option maxRecDepth 100000 in
set_option maxHeartbeats 4000000 in
theorem s_X7_sign (l : Launch) (sc : g_S) (E : Mem → g_H) (R : Nat → Prop) (hE : LE E R) (hR : RCL R) (n : Nat)    (mi : Mem) (r : Rz) (H : f_X7_sign n  mi = some r) : AMet l sc yX7_sign cX7_sign 1 (some FieldType.int) 0 0 0 [.ref 41] (E mi) (pI E r) := by
  have r41 : R 41 := hR.1 41 (Nat.le_of_ble_eq_true rfl) (Nat.le_of_ble_eq_true rfl)
  have r42 : R 42 := hR.1 42 (Nat.le_of_ble_eq_true rfl) (Nat.le_of_ble_eq_true rfl)
  unfold f_X7_sign at H
  refine AMet.of (own := RX7) (by decide +kernel) rfl (Nat.le_of_ble_eq_true rfl) [(0, .ref 41)] rfl (fun D base ad => ?_)
  refine aw_aload_n (pc := 0) dX7_sign_0 rfl ?_
  refine cx_gtF (pc := 1) hE r41 fl_X7_31 rfl rfl (Nat.le_of_ble_eq_true rfl) dX7_sign_1 H (fun x1 hx1 H => ?_)
  refine jn_ind (fun (f9 : Int → Mem → Option Rz) => ∀ (s0_43 : Int) (m43 : Mem), inR s0_43 → f9 s0_43 m43 = some r → AW l D base sc RX7 yX7_sign cX7_sign 1 (some FieldType.int) 0 0 0 ad (E mi) (pI E r) 0 0 (E m43) 43 [] [iv s0_43]) (fun s0_43 m43 hs0_43 H => ?_) (fun j43 hj43 H => ?_) H
  · -- 43
    exact cx_iret (pc := 43) hs0_43 rfl (Nat.le_of_ble_eq_true rfl) (Nat.le_of_ble_eq_true rfl) dX7_sign_43 H
  refine jn_ind (fun (f9 : Mem → Option Rz) => ∀ (m42 : Mem), f9 m42 = some r → AW l D base sc RX7 yX7_sign cX7_sign 1 (some FieldType.int) 0 0 0 ad (E mi) (pI E r) 0 0 (E m42) 42 [] []) (fun m42 H => ?_) (fun j42 hj42 H => ?_) H
  · -- 42
    refine cx_iconst (pc := 42) dX7_sign_42 ?_
    exact AW.sel [] rfl (hj43 _ _ (inR_lit _ rfl) H)
  refine cx_if_lt (pc := 4) 42 hx1 dX7_sign_4 rfl H (fun H => ?_) (fun H => ?_)
  · -- 4: 42
    exact AW.sel [] rfl (hj42 _ H)
  · -- 4: 7
    refine aw_aload_n (pc := 7) dX7_sign_7 rfl ?_
    refine cx_gtF (pc := 8) hE r41 fl_X7_31 rfl rfl (Nat.le_of_ble_eq_true rfl) dX7_sign_8 H (fun x8 hx8 H => ?_)
    refine aw_aload_n (pc := 11) dX7_sign_11 rfl ?_
    refine cx_gtF (pc := 12) hE r41 fl_X7_27 rfl rfl (Nat.le_of_ble_eq_true rfl) dX7_sign_12 H (fun x12 hx12 H => ?_)
    refine cx_icmp_ge (pc := 15) 42 hx8 hx12 dX7_sign_15 rfl H (fun H => ?_) (fun H => ?_)
    · -- 15: 18
      refine aw_aload_n (pc := 18) dX7_sign_18 rfl ?_
      refine cx_gtF (pc := 19) hE r41 fl_X7_31 rfl rfl (Nat.le_of_ble_eq_true rfl) dX7_sign_19 H (fun x19 hx19 H => ?_)
      refine aw_aload_n (pc := 22) dX7_sign_22 rfl ?_
      refine cx_gtC (pc := 23) 42 hE r41 fl_X7_9 rfl rfl (Nat.le_of_ble_eq_true rfl) dX7_sign_23 ?_
      refine cx_lenC (pc := 26) (c := 120) hE r42 (fun _ => ⟨_, _, rfl, rfl⟩) dX7_sign_26 ?_
      refine cx_icmp_ge (pc := 27) 42 hx19 (inR_lit _ rfl) dX7_sign_27 rfl H (fun H => ?_) (fun H => ?_)
      · -- 27: 30
        refine aw_aload_n (pc := 30) dX7_sign_30 rfl ?_
        refine cx_gtC (pc := 31) 42 hE r41 fl_X7_9 rfl rfl (Nat.le_of_ble_eq_true rfl) dX7_sign_31 ?_
        refine aw_aload_n (pc := 34) dX7_sign_34 rfl ?_
        refine cx_gtF (pc := 35) hE r41 fl_X7_31 rfl rfl (Nat.le_of_ble_eq_true rfl) dX7_sign_35 H (fun x35 hx35 H => ?_)
        refine cx_ldB (pc := 38) hE r42 hx35 dX7_sign_38 H (fun x38 hx38 H => ?_)
        refine aw_goto (pc := 39) 43 dX7_sign_39 rfl ?_
        exact AW.sel [] rfl (hj43 _ _ hx38 H)
      · -- 27: 42
        exact AW.sel [] rfl (hj42 _ H)
    · -- 15: 42
      exact AW.sel [] rfl (hj42 _ H)
/-- X7 step (III)Z -/
def f_X7_step (n : Nat) (p1 : Int) (p2 : Int) (p3 : Int) (mi : Mem) : Option Rz :=
  gtF mi 41 7 fun x1 =>
  jn (fun (m48 : Mem) =>
    rtZ 1 m48
  ) fun (j48 : Mem → Option Rz) =>
  if x1 < 0 then (
    j48 mi
  ) else
  gtF mi 41 7 fun x8 =>
  if x8 < 120 then (
    gtF mi 41 7 fun x24 =>
    stI mi 43 x24 (ior (ior p1 (ishl p2 4)) (ishl p3 12)) fun m37 =>
    gtF m37 41 7 fun x40 =>
    ptF m37 41 7 (w32 (x40 + 1)) fun m45 =>
    j48 m45
  ) else
  j48 mi
set_option maxRecDepth 100000 in
set_option maxHeartbeats 4000000 in
theorem s_X7_step (l : Launch) (sc : g_S) (E : Mem → g_H) (R : Nat → Prop) (hE : LE E R) (hR : RCL R) (n : Nat)  (p1 : Int) (p2 : Int) (p3 : Int) (hp1 : inR p1) (hp2 : inR p2) (hp3 : inR p3) (mi : Mem) (r : Rz) (H : f_X7_step n p1 p2 p3 mi = some r) : AMet l sc yX7_step cX7_step 4 (some FieldType.boolean) 0 0 0 [.ref 41, iv p1, iv p2, iv p3] (E mi) (pI E r) := by
  have r41 : R 41 := hR.1 41 (Nat.le_of_ble_eq_true rfl) (Nat.le_of_ble_eq_true rfl)
  have r43 : R 43 := hR.1 43 (Nat.le_of_ble_eq_true rfl) (Nat.le_of_ble_eq_true rfl)
  unfold f_X7_step at H
  refine AMet.of (own := RX7) (by decide +kernel) rfl (Nat.le_of_ble_eq_true rfl) [(0, .ref 41), (1, iv p1), (2, iv p2), (3, iv p3)] rfl (fun D base ad => ?_)
  refine aw_aload_n (pc := 0) dX7_step_0 rfl ?_
  refine cx_gtF (pc := 1) hE r41 fl_X7_34 rfl rfl (Nat.le_of_ble_eq_true rfl) dX7_step_1 H (fun x1 hx1 H => ?_)
  refine jn_ind (fun (f9 : Mem → Option Rz) => ∀ (m48 : Mem), f9 m48 = some r → AW l D base sc RX7 yX7_step cX7_step 4 (some FieldType.boolean) 0 0 0 ad (E mi) (pI E r) 0 0 (E m48) 48 [] []) (fun m48 H => ?_) (fun j48 hj48 H => ?_) H
  · -- 48
    refine cx_iconst (pc := 48) dX7_step_48 ?_
    exact cx_zret (pc := 49) rfl (Nat.le_of_ble_eq_true rfl) (Nat.le_of_ble_eq_true rfl) dX7_step_49 H
  refine cx_if_lt (pc := 4) 48 hx1 dX7_step_4 rfl H (fun H => ?_) (fun H => ?_)
  · -- 4: 48
    exact AW.sel [] rfl (hj48 _ H)
  · -- 4: 7
    refine aw_aload_n (pc := 7) dX7_step_7 rfl ?_
    refine cx_gtF (pc := 8) hE r41 fl_X7_34 rfl rfl (Nat.le_of_ble_eq_true rfl) dX7_step_8 H (fun x8 hx8 H => ?_)
    refine aw_aload_n (pc := 11) dX7_step_11 rfl ?_
    refine cx_gtC (pc := 12) 43 hE r41 fl_X7_13 rfl rfl (Nat.le_of_ble_eq_true rfl) dX7_step_12 ?_
    refine cx_lenC (pc := 15) (c := 120) hE r43 (fun _ => ⟨_, _, rfl, rfl⟩) dX7_step_15 ?_
    refine cx_icmp_ge (pc := 16) 48 hx8 (inR_lit _ rfl) dX7_step_16 rfl H (fun H => ?_) (fun H => ?_)
    · -- 16: 19
      refine aw_aload_n (pc := 19) dX7_step_19 rfl ?_
      refine cx_gtC (pc := 20) 43 hE r41 fl_X7_13 rfl rfl (Nat.le_of_ble_eq_true rfl) dX7_step_20 ?_
      refine aw_aload_n (pc := 23) dX7_step_23 rfl ?_
      refine cx_gtF (pc := 24) hE r41 fl_X7_34 rfl rfl (Nat.le_of_ble_eq_true rfl) dX7_step_24 H (fun x24 hx24 H => ?_)
      refine aw_iload_n (pc := 27) dX7_step_27 rfl ?_
      refine aw_iload_n (pc := 28) dX7_step_28 rfl ?_
      refine cx_iconst (pc := 29) dX7_step_29 ?_
      refine cx_ishl (pc := 30) dX7_step_30 ?_
      refine cx_ior (pc := 31) dX7_step_31 ?_
      refine aw_iload_n (pc := 32) dX7_step_32 rfl ?_
      refine cx_bipush (pc := 33) dX7_step_33 (by decide) ?_
      refine cx_ishl (pc := 35) dX7_step_35 ?_
      refine cx_ior (pc := 36) dX7_step_36 ?_
      refine cx_stI (pc := 37) hE r43 hx24 dX7_step_37 H (fun m37 H => ?_)
      refine aw_aload_n (pc := 38) dX7_step_38 rfl ?_
      refine aw_dup (pc := 39) dX7_step_39 rfl ?_
      refine cx_gtF (pc := 40) hE r41 fl_X7_34 rfl rfl (Nat.le_of_ble_eq_true rfl) dX7_step_40 H (fun x40 hx40 H => ?_)
      refine cx_iconst (pc := 43) dX7_step_43 ?_
      refine cx_iadd (pc := 44) dX7_step_44 ?_
      refine cx_ptF (pc := 45) tyX7 hE r41 fl_X7_34 (fun r h => ⟨gty_X7 r h, by cases h; rfl⟩) rfl rfl rfl (Nat.le_of_ble_eq_true rfl) dX7_step_45 H (fun m45 H => ?_)
      exact AW.sel [] rfl (hj48 _ H)
    · -- 16: 48
      exact AW.sel [] rfl (hj48 _ H)
/-- X7 parseNumber (I)Z -/
def f_X7_parseNumber (n : Nat) (p1 : Int) (mi : Mem) : Option Rz :=
  gtF mi 41 5 fun x1 =>
  lp (F := Int → Mem → Option Rz) (fun _ _ => none) (fun w7 v3_7 m7 =>
    gtF m7 41 5 fun x8 =>
    jn (fun (m53 : Mem) =>
      jn (fun (s0_74 : Int) (m74 : Mem) =>
        rtZ s0_74 m74
      ) fun (j74 : Int → Mem → Option Rz) =>
      if 12 < v3_7 then (
        cal (f_X7_failAt n x1 m53) fun x61 m61 =>
        j74 x61 m61
      ) else
      cal (f_X7_step n p1 v3_7 0 m53) fun x71 m71 =>
      j74 x71 m71
    ) fun (j53 : Mem → Option Rz) =>
    if x8 < w32 (x1 + 2) then (
      cal (f_X7_sign n m7) fun x18 m18 =>
      cal (f_X7_isDigit n x18 m18) fun x21 m21 =>
      if x21 = 0 then (
        j53 m21
      ) else
      cal (f_X7_sign n m21) fun x32 m32 =>
      nm (w32 ((w32 ((w32 (v3_7 * 10)) + x32)) - 48)) fun z39 =>
      gtF m32 41 5 fun x42 =>
      ptF m32 41 5 (w32 (x42 + 1)) fun m47 =>
      w7 z39 m47
    ) else
    j53 m7
  ) n 0 mi
set_option maxRecDepth 100000 in
set_option maxHeartbeats 4000000 in
theorem s_X7_parseNumber (l : Launch) (sc : g_S) (E : Mem → g_H) (R : Nat → Prop) (hE : LE E R) (hR : RCL R) (n : Nat)  (p1 : Int) (hp1 : inR p1) (mi : Mem) (r : Rz) (H : f_X7_parseNumber n p1 mi = some r) : AMet l sc yX7_parseNumber cX7_parseNumber 4 (some FieldType.boolean) 1 0 0 [.ref 41, iv p1] (E mi) (pI E r) := by
  have r41 : R 41 := hR.1 41 (Nat.le_of_ble_eq_true rfl) (Nat.le_of_ble_eq_true rfl)
  unfold f_X7_parseNumber at H
  refine AMet.of (own := RX7) (by decide +kernel) rfl (Nat.le_of_ble_eq_true rfl) [(0, .ref 41), (1, iv p1)] rfl (fun D base ad => ?_)
  refine aw_aload_n (pc := 0) dX7_parseNumber_0 rfl ?_
  refine cx_gtF (pc := 1) hE r41 fl_X7_31 rfl rfl (Nat.le_of_ble_eq_true rfl) dX7_parseNumber_1 H (fun x1 hx1 H => ?_)
  refine aw_istore_n (pc := 4) [(2, iv x1), (0, .ref 41), (1, iv p1)] dX7_parseNumber_4 rfl (by decide) ?_
  refine cx_iconst (pc := 5) dX7_parseNumber_5 ?_
  refine aw_istore_n (pc := 6) [(3, iv 0), (2, iv x1), (0, .ref 41), (1, iv p1)] dX7_parseNumber_6 rfl (by decide) ?_
  refine AW.sel [2, 3, 1, 0] rfl (lp_ind (bot := fun _ _ => none) (fun (f9 : Int → Mem → Option Rz) => ∀ (v3_7 : Int) (m7 : Mem), inR v3_7 → f9 v3_7 m7 = some r → AW l D base sc RX7 yX7_parseNumber cX7_parseNumber 4 (some FieldType.boolean) 1 0 0 ad (E mi) (pI E r) 0 0 (E m7) 7 [(0, .ref 41), (1, iv p1), (2, iv x1), (3, iv v3_7)] []) (fun _ _ _ h9 => nomatch h9) (fun w7 ih7 v3_7 m7 hv3_7 H => ?_) n _ _ (inR_lit _ rfl) H)
  refine aw_aload_n (pc := 7) dX7_parseNumber_7 rfl ?_
  refine cx_gtF (pc := 8) hE r41 fl_X7_31 rfl rfl (Nat.le_of_ble_eq_true rfl) dX7_parseNumber_8 H (fun x8 hx8 H => ?_)
  refine aw_iload_n (pc := 11) dX7_parseNumber_11 rfl ?_
  refine cx_iconst (pc := 12) dX7_parseNumber_12 ?_
  refine cx_iadd (pc := 13) dX7_parseNumber_13 ?_
  refine jn_ind (fun (f9 : Mem → Option Rz) => ∀ (m53 : Mem), f9 m53 = some r → AW l D base sc RX7 yX7_parseNumber cX7_parseNumber 4 (some FieldType.boolean) 1 0 0 ad (E mi) (pI E r) 0 0 (E m53) 53 [(0, .ref 41), (1, iv p1), (2, iv x1), (3, iv v3_7)] []) (fun m53 H => ?_) (fun j53 hj53 H => ?_) H
  · -- 53
    refine aw_iload_n (pc := 53) dX7_parseNumber_53 rfl ?_
    refine cx_bipush (pc := 54) dX7_parseNumber_54 (by decide) ?_
    refine jn_ind (fun (f9 : Int → Mem → Option Rz) => ∀ (s0_74 : Int) (m74 : Mem), inR s0_74 → f9 s0_74 m74 = some r → AW l D base sc RX7 yX7_parseNumber cX7_parseNumber 4 (some FieldType.boolean) 1 0 0 ad (E mi) (pI E r) 0 0 (E m74) 74 [] [iv s0_74]) (fun s0_74 m74 hs0_74 H => ?_) (fun j74 hj74 H => ?_) H
    · -- 74
      exact cx_zret (pc := 74) rfl (Nat.le_of_ble_eq_true rfl) (Nat.le_of_ble_eq_true rfl) dX7_parseNumber_74 H
    refine cx_icmp_le (pc := 56) 67 hv3_7 (inR_lit _ rfl) dX7_parseNumber_56 rfl H (fun H => ?_) (fun H => ?_)
    · -- 56: 59
      refine aw_aload_n (pc := 59) dX7_parseNumber_59 rfl ?_
      refine aw_iload_n (pc := 60) dX7_parseNumber_60 rfl ?_
      refine cx_callV (pc := 61) (P := pI) (dC := 0) (mcC := 0) (msC := 0) [iv x1] hE r41 (fun r1 H1 => s_X7_failAt l sc E R hE hR n x1 hx1 m53 r1 H1) ca_X7_55 rfl ⟨_, rfl, rfl⟩ rfl rfl (Nat.le_of_ble_eq_true rfl) (Nat.le_of_ble_eq_true rfl) (Nat.le_of_ble_eq_true rfl) (Nat.le_of_ble_eq_true rfl) dX7_parseNumber_61 H (fun x61 m61 v61 hh61 H hp => ?_)
      refine cx_backI hp (fun hx61 => ?_)
      refine aw_goto (pc := 64) 74 dX7_parseNumber_64 rfl ?_
      exact AW.sel [] rfl (hj74 _ _ hx61 H)
    · -- 56: 67
      refine aw_aload_n (pc := 67) dX7_parseNumber_67 rfl ?_
      refine aw_iload_n (pc := 68) dX7_parseNumber_68 rfl ?_
      refine aw_iload_n (pc := 69) dX7_parseNumber_69 rfl ?_
      refine cx_iconst (pc := 70) dX7_parseNumber_70 ?_
      refine cx_callV (pc := 71) (P := pI) (dC := 0) (mcC := 0) (msC := 0) [iv p1, iv v3_7, iv 0] hE r41 (fun r1 H1 => s_X7_step l sc E R hE hR n p1 v3_7 0 hp1 hv3_7 (inR_lit _ rfl) m53 r1 H1) ca_X7_51 rfl ⟨_, rfl, rfl⟩ rfl rfl (Nat.le_of_ble_eq_true rfl) (Nat.le_of_ble_eq_true rfl) (Nat.le_of_ble_eq_true rfl) (Nat.le_of_ble_eq_true rfl) dX7_parseNumber_71 H (fun x71 m71 v71 hh71 H hp => ?_)
      refine cx_backI hp (fun hx71 => ?_)
      exact AW.sel [] rfl (hj74 _ _ hx71 H)
  refine cx_icmp_ge (pc := 14) 53 hx8 (inR_w32 _) dX7_parseNumber_14 rfl H (fun H => ?_) (fun H => ?_)
  · -- 14: 17
    refine aw_aload_n (pc := 17) dX7_parseNumber_17 rfl ?_
    refine cx_callV (pc := 18) (P := pI) (dC := 0) (mcC := 0) (msC := 0) [] hE r41 (fun r1 H1 => s_X7_sign l sc E R hE hR n m7 r1 H1) ca_X7_47 rfl ⟨_, rfl, rfl⟩ rfl rfl (Nat.le_of_ble_eq_true rfl) (Nat.le_of_ble_eq_true rfl) (Nat.le_of_ble_eq_true rfl) (Nat.le_of_ble_eq_true rfl) dX7_parseNumber_18 H (fun x18 m18 v18 hh18 H hp => ?_)
    refine cx_backI hp (fun hx18 => ?_)
    refine cx_callS (pc := 21) (P := pI) (dC := 0) (mcC := 0) (msC := 0) [iv x18] (fun r1 H1 => s_X7_isDigit l sc E R hE hR n x18 hx18 m18 r1 H1) ca_X7_61 rfl rfl (Nat.le_of_ble_eq_true rfl) (Nat.le_of_ble_eq_true rfl) (Nat.le_of_ble_eq_true rfl) (Nat.le_of_ble_eq_true rfl) dX7_parseNumber_21 H (fun x21 m21 v21 hh21 H hp => ?_)
    refine cx_backI hp (fun hx21 => ?_)
    refine cx_if_eq (pc := 24) 53 hx21 dX7_parseNumber_24 rfl H (fun H => ?_) (fun H => ?_)
    · -- 24: 53
      exact AW.sel [0, 1, 2, 3] rfl (hj53 _ H)
    · -- 24: 27
      refine aw_iload_n (pc := 27) dX7_parseNumber_27 rfl ?_
      refine cx_bipush (pc := 28) dX7_parseNumber_28 (by decide) ?_
      refine cx_imul (pc := 30) dX7_parseNumber_30 ?_
      refine aw_aload_n (pc := 31) dX7_parseNumber_31 rfl ?_
      refine cx_callV (pc := 32) (P := pI) (dC := 0) (mcC := 0) (msC := 0) [] hE r41 (fun r1 H1 => s_X7_sign l sc E R hE hR n m21 r1 H1) ca_X7_47 rfl ⟨_, rfl, rfl⟩ rfl rfl (Nat.le_of_ble_eq_true rfl) (Nat.le_of_ble_eq_true rfl) (Nat.le_of_ble_eq_true rfl) (Nat.le_of_ble_eq_true rfl) dX7_parseNumber_32 H (fun x32 m32 v32 hh32 H hp => ?_)
      refine cx_backI hp (fun hx32 => ?_)
      refine cx_iadd (pc := 35) dX7_parseNumber_35 ?_
      refine cx_bipush (pc := 36) dX7_parseNumber_36 (by decide) ?_
      refine cx_isub (pc := 38) dX7_parseNumber_38 ?_
      refine cx_nm (inR_w32 _) H (fun z39 hz39 H => ?_)
      refine aw_istore_n (pc := 39) [(3, iv z39), (0, .ref 41), (1, iv p1), (2, iv x1)] dX7_parseNumber_39 rfl (by decide) ?_
      refine aw_aload_n (pc := 40) dX7_parseNumber_40 rfl ?_
      refine aw_dup (pc := 41) dX7_parseNumber_41 rfl ?_
      refine cx_gtF (pc := 42) hE r41 fl_X7_31 rfl rfl (Nat.le_of_ble_eq_true rfl) dX7_parseNumber_42 H (fun x42 hx42 H => ?_)
      refine cx_iconst (pc := 45) dX7_parseNumber_45 ?_
      refine cx_iadd (pc := 46) dX7_parseNumber_46 ?_
      refine cx_ptF (pc := 47) tyX7 hE r41 fl_X7_31 (fun r h => ⟨gty_X7 r h, by cases h; rfl⟩) rfl rfl rfl (Nat.le_of_ble_eq_true rfl) dX7_parseNumber_47 H (fun m47 H => ?_)
      refine aw_goto (pc := 50) 7 dX7_parseNumber_50 rfl ?_
      exact AW.sel [1, 2, 3, 0] rfl (ih7 _ _ hz39 H)
  · -- 14: 53
    exact AW.sel [0, 1, 2, 3] rfl (hj53 _ H)
/-- X7 parseRow (II)I -/
def b_X7_parseRow (n : Nat) (g_X7_parseRow : (Int → Int → Mem → Option Rz)) (g_X7_parseRows : (Int → Mem → Option Rz)) (g_X7_parseSum : (Int → Mem → Option Rz)) (g_X7_parseUnit : (Int → Mem → Option Rz)) (p1 : Int) (p2 : Int) (mi : Mem) : Option Rz :=
  cal (f_X7_sign n mi) fun x1 m1 =>
  if x1 = p2 then (
    gtF m1 41 5 fun x10 =>
    ptF m1 41 5 (w32 (x10 + 1)) fun m15 =>
    rt 0 m15
  ) else
  lp (F := Int → Mem → Option Rz) (fun _ _ => none) (fun w22 v3_22 m22 =>
    jn (fun (v3_93 : Int) (m93 : Mem) =>
      rt v3_93 m93
    ) fun (j93 : Int → Mem → Option Rz) =>
    if v3_22 < 120 then (
      cal (g_X7_parseSum p1 m22) fun x30 m30 =>
      if x30 = 0 then (
        rt (-1) m30
      ) else
      cal (f_X7_sign n m30) fun x42 m42 =>
      jn (fun (m71 : Mem) =>
        gtF m71 41 5 fun x73 =>
        ptF m71 41 5 (w32 (x73 + 1)) fun m78 =>
        if x42 = p2 then (
          j93 (w32 (v3_22 + 1)) m78
        ) else
        w22 (w32 (v3_22 + 1)) m78
      ) fun (j71 : Mem → Option Rz) =>
      if x42 = 44 then (
        j71 m42
      ) else
      if x42 = p2 then (
        j71 m42
      ) else
      gtF m42 41 5 fun x62 =>
      cal (f_X7_failAt n x62 m42) fun x65 m65 =>
      rt (-1) m65
    ) else
    j93 v3_22 m22
  ) n 0 m1
/-- X7 parseRows (I)Z -/
def b_X7_parseRows (n : Nat) (g_X7_parseRow : (Int → Int → Mem → Option Rz)) (g_X7_parseRows : (Int → Mem → Option Rz)) (g_X7_parseSum : (Int → Mem → Option Rz)) (g_X7_parseUnit : (Int → Mem → Option Rz)) (p1 : Int) (mi : Mem) : Option Rz :=
  cal (g_X7_parseRow p1 124 mi) fun x4 m4 =>
  if x4 < 0 then (
    rtZ 0 m4
  ) else
  cal (g_X7_parseRow p1 125 m4) fun x18 m18 =>
  jn (fun (s0_41 : Int) (m41 : Mem) =>
    rtZ s0_41 m41
  ) fun (j41 : Int → Mem → Option Rz) =>
  jn (fun (m40 : Mem) =>
    j41 0 m40
  ) fun (j40 : Mem → Option Rz) =>
  if x18 < 0 then (
    j40 m18
  ) else
  cal (f_X7_step n 5 x4 x18 m18) fun x30 m30 =>
  if x30 = 0 then (
    j40 m30
  ) else
  j41 1 m30
/-- X7 parseSum (I)Z -/
def b_X7_parseSum (n : Nat) (g_X7_parseRow : (Int → Int → Mem → Option Rz)) (g_X7_parseRows : (Int → Mem → Option Rz)) (g_X7_parseSum : (Int → Mem → Option Rz)) (g_X7_parseUnit : (Int → Mem → Option Rz)) (p1 : Int) (mi : Mem) : Option Rz :=
  cal (g_X7_parseUnit p1 mi) fun x2 m2 =>
  if x2 = 0 then (
    rtZ 0 m2
  ) else
  lp (F := Mem → Option Rz) (fun  _ => none) (fun w10 m10 =>
    gtF m10 41 5 fun x11 =>
    gtF m10 41 4 fun x15 =>
    jn (fun (m61 : Mem) =>
      rtZ 1 m61
    ) fun (j61 : Mem → Option Rz) =>
    if x11 < x15 then (
      cal (f_X7_sign n m10) fun x22 m22 =>
      if x22 = 43 then (
        gtF m22 41 5 fun x32 =>
        ptF m22 41 5 (w32 (x32 + 1)) fun m37 =>
        cal (g_X7_parseUnit p1 m37) fun x42 m42 =>
        if x42 = 0 then (
          rtZ 0 m42
        ) else
        cal (f_X7_step n 4 0 0 m42) fun x54 m54 =>
        w10 m54
      ) else
      j61 m22
    ) else
    j61 m10
  ) n  m2
/-- X7 parseUnit (I)Z -/
def b_X7_parseUnit (n : Nat) (g_X7_parseRow : (Int → Int → Mem → Option Rz)) (g_X7_parseRows : (Int → Mem → Option Rz)) (g_X7_parseSum : (Int → Mem → Option Rz)) (g_X7_parseUnit : (Int → Mem → Option Rz)) (p1 : Int) (mi : Mem) : Option Rz :=
  cal (f_X7_sign n mi) fun x1 m1 =>
  jn (fun (m17 : Mem) =>
    if p1 < 5 then (
      gtF m17 41 5 fun x33 =>
      ptF m17 41 5 (w32 (x33 + 1)) fun m38 =>
      if x1 = 123 then (
        cal (g_X7_parseRows (w32 (p1 + 1)) m38) fun x51 m51 =>
        rtZ x51 m51
      ) else
      cal (g_X7_parseUnit (w32 (p1 + 1)) m38) fun x59 m59 =>
      jn (fun (s0_80 : Int) (m80 : Mem) =>
        rtZ s0_80 m80
      ) fun (j80 : Int → Mem → Option Rz) =>
      jn (fun (m79 : Mem) =>
        j80 0 m79
      ) fun (j79 : Mem → Option Rz) =>
      if x59 = 0 then (
        j79 m59
      ) else
      cal (f_X7_step n 3 0 0 m59) fun x69 m69 =>
      if x69 = 0 then (
        j79 m69
      ) else
      j80 1 m69
    ) else
    gtF m17 41 5 fun x24 =>
    cal (f_X7_failAt n x24 m17) fun x27 m27 =>
    rtZ x27 m27
  ) fun (j17 : Mem → Option Rz) =>
  if x1 = 123 then (
    j17 m1
  ) else
  if x1 = 45 then (
    j17 m1
  ) else
  cal (f_X7_isDigit n x1 m1) fun x82 m82 =>
  if x82 = 0 then (
    if x1 = 94 then (
      gtF m82 41 5 fun x102 =>
      ptF m82 41 5 (w32 (x102 + 1)) fun m107 =>
      cal (f_X7_step n 2 0 0 m107) fun x114 m114 =>
      rtZ x114 m114
    ) else
    if x1 = 42 then (
      gtF m82 41 5 fun x126 =>
      ptF m82 41 5 (w32 (x126 + 1)) fun m131 =>
      cal (f_X7_sign n m131) fun x135 m135 =>
      cal (f_X7_isDigit n x135 m135) fun x138 m138 =>
      jn (fun (s0_159 : Int) (m159 : Mem) =>
        rtZ s0_159 m159
      ) fun (j159 : Int → Mem → Option Rz) =>
      if x138 = 0 then (
        cal (f_X7_step n 1 1 0 m138) fun x156 m156 =>
        j159 x156 m156
      ) else
      cal (f_X7_parseNumber n 1 m138) fun x146 m146 =>
      j159 x146 m146
    ) else
    gtF m82 41 5 fun x162 =>
    cal (f_X7_failAt n x162 m82) fun x165 m165 =>
    rtZ x165 m165
  ) else
  cal (f_X7_parseNumber n 0 m82) fun x90 m90 =>
  rtZ x90 m90
def t_X7_parseUnit (n : Nat) : Nat → (Int → Int → Mem → Option Rz) × (Int → Mem → Option Rz) × (Int → Mem → Option Rz) × (Int → Mem → Option Rz)
  | 0 => (fun _ _ _ => none, fun _ _ => none, fun _ _ => none, fun _ _ => none)
  | d + 1 => (b_X7_parseRow n (t_X7_parseUnit n d).1 (t_X7_parseUnit n d).2.1 (t_X7_parseUnit n d).2.2.1 (t_X7_parseUnit n d).2.2.2, b_X7_parseRows n (t_X7_parseUnit n d).1 (t_X7_parseUnit n d).2.1 (t_X7_parseUnit n d).2.2.1 (t_X7_parseUnit n d).2.2.2, b_X7_parseSum n (t_X7_parseUnit n d).1 (t_X7_parseUnit n d).2.1 (t_X7_parseUnit n d).2.2.1 (t_X7_parseUnit n d).2.2.2, b_X7_parseUnit n (t_X7_parseUnit n d).1 (t_X7_parseUnit n d).2.1 (t_X7_parseUnit n d).2.2.1 (t_X7_parseUnit n d).2.2.2)
def h_X7_parseRow (n d : Nat) : (Int → Int → Mem → Option Rz) := (t_X7_parseUnit n d).1
def f_X7_parseRow (n : Nat) : (Int → Int → Mem → Option Rz) := h_X7_parseRow n 40
def h_X7_parseRows (n d : Nat) : (Int → Mem → Option Rz) := (t_X7_parseUnit n d).2.1
def f_X7_parseRows (n : Nat) : (Int → Mem → Option Rz) := h_X7_parseRows n 40
def h_X7_parseSum (n d : Nat) : (Int → Mem → Option Rz) := (t_X7_parseUnit n d).2.2.1
def f_X7_parseSum (n : Nat) : (Int → Mem → Option Rz) := h_X7_parseSum n 40
def h_X7_parseUnit (n d : Nat) : (Int → Mem → Option Rz) := (t_X7_parseUnit n d).2.2.2
def f_X7_parseUnit (n : Nat) : (Int → Mem → Option Rz) := h_X7_parseUnit n 40
theorem h_X7_parseRow_s (n d : Nat) (p1 : Int) (p2 : Int) (m : Mem) : h_X7_parseRow n (d + 1) p1 p2 m = b_X7_parseRow n (h_X7_parseRow n d) (h_X7_parseRows n d) (h_X7_parseSum n d) (h_X7_parseUnit n d) p1 p2 m := rfl
theorem h_X7_parseRow_0 (n : Nat) (p1 : Int) (p2 : Int) (m : Mem) : h_X7_parseRow n 0 p1 p2 m = none := rfl
theorem h_X7_parseRows_s (n d : Nat) (p1 : Int) (m : Mem) : h_X7_parseRows n (d + 1) p1 m = b_X7_parseRows n (h_X7_parseRow n d) (h_X7_parseRows n d) (h_X7_parseSum n d) (h_X7_parseUnit n d) p1 m := rfl
theorem h_X7_parseRows_0 (n : Nat) (p1 : Int) (m : Mem) : h_X7_parseRows n 0 p1 m = none := rfl
theorem h_X7_parseSum_s (n d : Nat) (p1 : Int) (m : Mem) : h_X7_parseSum n (d + 1) p1 m = b_X7_parseSum n (h_X7_parseRow n d) (h_X7_parseRows n d) (h_X7_parseSum n d) (h_X7_parseUnit n d) p1 m := rfl
theorem h_X7_parseSum_0 (n : Nat) (p1 : Int) (m : Mem) : h_X7_parseSum n 0 p1 m = none := rfl
theorem h_X7_parseUnit_s (n d : Nat) (p1 : Int) (m : Mem) : h_X7_parseUnit n (d + 1) p1 m = b_X7_parseUnit n (h_X7_parseRow n d) (h_X7_parseRows n d) (h_X7_parseSum n d) (h_X7_parseUnit n d) p1 m := rfl
theorem h_X7_parseUnit_0 (n : Nat) (p1 : Int) (m : Mem) : h_X7_parseUnit n 0 p1 m = none := rfl
def q_X7_parseRow (l : Launch) (sc : g_S) (E : Mem → g_H) (R : Nat → Prop) (dd : Nat) (g : (Int → Int → Mem → Option Rz)) : Prop := ∀ (p1 : Int) (p2 : Int) (m : Mem) (hp1 : inR p1) (hp2 : inR p2) (r : Rz) (H : g p1 p2 m = some r), AMet l sc yX7_parseRow cX7_parseRow 5 (some FieldType.int) dd 0 0 [.ref 41, iv p1, iv p2] (E m) (pI E r)
def q_X7_parseRows (l : Launch) (sc : g_S) (E : Mem → g_H) (R : Nat → Prop) (dd : Nat) (g : (Int → Mem → Option Rz)) : Prop := ∀ (p1 : Int) (m : Mem) (hp1 : inR p1) (r : Rz) (H : g p1 m = some r), AMet l sc yX7_parseRows cX7_parseRows 4 (some FieldType.boolean) dd 0 0 [.ref 41, iv p1] (E m) (pI E r)
def q_X7_parseSum (l : Launch) (sc : g_S) (E : Mem → g_H) (R : Nat → Prop) (dd : Nat) (g : (Int → Mem → Option Rz)) : Prop := ∀ (p1 : Int) (m : Mem) (hp1 : inR p1) (r : Rz) (H : g p1 m = some r), AMet l sc yX7_parseSum cX7_parseSum 2 (some FieldType.boolean) dd 0 0 [.ref 41, iv p1] (E m) (pI E r)
def q_X7_parseUnit (l : Launch) (sc : g_S) (E : Mem → g_H) (R : Nat → Prop) (dd : Nat) (g : (Int → Mem → Option Rz)) : Prop := ∀ (p1 : Int) (m : Mem) (hp1 : inR p1) (r : Rz) (H : g p1 m = some r), AMet l sc yX7_parseUnit cX7_parseUnit 3 (some FieldType.boolean) dd 0 0 [.ref 41, iv p1] (E m) (pI E r)
set_option maxRecDepth 100000 in
set_option maxHeartbeats 4000000 in
theorem sb_X7_parseRow (l : Launch) (sc : g_S) (E : Mem → g_H) (R : Nat → Prop) (hE : LE E R) (hR : RCL R) (n : Nat) (dd : Nat) (hdd : 2 ≤ dd) (g_X7_parseRow : (Int → Int → Mem → Option Rz)) (g_X7_parseRows : (Int → Mem → Option Rz)) (g_X7_parseSum : (Int → Mem → Option Rz)) (g_X7_parseUnit : (Int → Mem → Option Rz)) (hg_X7_parseRow : q_X7_parseRow l sc E R dd g_X7_parseRow) (hg_X7_parseRows : q_X7_parseRows l sc E R dd g_X7_parseRows) (hg_X7_parseSum : q_X7_parseSum l sc E R dd g_X7_parseSum) (hg_X7_parseUnit : q_X7_parseUnit l sc E R dd g_X7_parseUnit) (p1 : Int) (p2 : Int) (mi : Mem) (hp1 : inR p1) (hp2 : inR p2) (r : Rz) (H : b_X7_parseRow n g_X7_parseRow g_X7_parseRows g_X7_parseSum g_X7_parseUnit p1 p2 mi = some r) : AMet l sc yX7_parseRow cX7_parseRow 5 (some FieldType.int) (dd + 1) 0 0 [.ref 41, iv p1, iv p2] (E mi) (pI E r) := by
  have r41 : R 41 := hR.1 41 (Nat.le_of_ble_eq_true rfl) (Nat.le_of_ble_eq_true rfl)
  unfold b_X7_parseRow at H
  refine AMet.of (own := RX7) (by decide +kernel) rfl (Nat.le_of_ble_eq_true rfl) [(0, .ref 41), (1, iv p1), (2, iv p2)] rfl (fun D base ad => ?_)
  refine aw_aload_n (pc := 0) dX7_parseRow_0 rfl ?_
  refine cx_callV (pc := 1) (P := pI) (dC := 0) (mcC := 0) (msC := 0) [] hE r41 (fun r1 H1 => s_X7_sign l sc E R hE hR n mi r1 H1) ca_X7_47 rfl ⟨_, rfl, rfl⟩ rfl rfl (by omega) (Nat.le_of_ble_eq_true rfl) (Nat.le_of_ble_eq_true rfl) (Nat.le_of_ble_eq_true rfl) dX7_parseRow_1 H (fun x1 m1 v1 hh1 H hp => ?_)
  refine cx_backI hp (fun hx1 => ?_)
  refine aw_iload_n (pc := 4) dX7_parseRow_4 rfl ?_
  refine cx_icmp_ne (pc := 5) 20 hx1 hp2 dX7_parseRow_5 rfl H (fun H => ?_) (fun H => ?_)
  · -- 5: 8
    refine aw_aload_n (pc := 8) dX7_parseRow_8 rfl ?_
    refine aw_dup (pc := 9) dX7_parseRow_9 rfl ?_
    refine cx_gtF (pc := 10) hE r41 fl_X7_31 rfl rfl (Nat.le_of_ble_eq_true rfl) dX7_parseRow_10 H (fun x10 hx10 H => ?_)
    refine cx_iconst (pc := 13) dX7_parseRow_13 ?_
    refine cx_iadd (pc := 14) dX7_parseRow_14 ?_
    refine cx_ptF (pc := 15) tyX7 hE r41 fl_X7_31 (fun r h => ⟨gty_X7 r h, by cases h; rfl⟩) rfl rfl rfl (Nat.le_of_ble_eq_true rfl) dX7_parseRow_15 H (fun m15 H => ?_)
    refine cx_iconst (pc := 18) dX7_parseRow_18 ?_
    exact cx_iret (pc := 19) (inR_lit _ rfl) rfl (Nat.le_of_ble_eq_true rfl) (Nat.le_of_ble_eq_true rfl) dX7_parseRow_19 H
  · -- 5: 20
    refine cx_iconst (pc := 20) dX7_parseRow_20 ?_
    refine aw_istore_n (pc := 21) [(3, iv 0), (0, .ref 41), (1, iv p1), (2, iv p2)] dX7_parseRow_21 rfl (by decide) ?_
    refine AW.sel [1, 2, 3, 0] rfl (lp_ind (bot := fun _ _ => none) (fun (f9 : Int → Mem → Option Rz) => ∀ (v3_22 : Int) (m22 : Mem), inR v3_22 → f9 v3_22 m22 = some r → AW l D base sc RX7 yX7_parseRow cX7_parseRow 5 (some FieldType.int) (dd + 1) 0 0 ad (E mi) (pI E r) 0 0 (E m22) 22 [(0, .ref 41), (1, iv p1), (2, iv p2), (3, iv v3_22)] []) (fun _ _ _ h9 => nomatch h9) (fun w22 ih22 v3_22 m22 hv3_22 H => ?_) n _ _ (inR_lit _ rfl) H)
    refine aw_iload_n (pc := 22) dX7_parseRow_22 rfl ?_
    refine cx_bipush (pc := 23) dX7_parseRow_23 (by decide) ?_
    refine jn_ind (fun (f9 : Int → Mem → Option Rz) => ∀ (v3_93 : Int) (m93 : Mem), inR v3_93 → f9 v3_93 m93 = some r → AW l D base sc RX7 yX7_parseRow cX7_parseRow 5 (some FieldType.int) (dd + 1) 0 0 ad (E mi) (pI E r) 0 0 (E m93) 93 [(3, iv v3_93)] []) (fun v3_93 m93 hv3_93 H => ?_) (fun j93 hj93 H => ?_) H
    · -- 93
      refine aw_iload_n (pc := 93) dX7_parseRow_93 rfl ?_
      exact cx_iret (pc := 94) hv3_93 rfl (Nat.le_of_ble_eq_true rfl) (Nat.le_of_ble_eq_true rfl) dX7_parseRow_94 H
    refine cx_icmp_ge (pc := 25) 93 hv3_22 (inR_lit _ rfl) dX7_parseRow_25 rfl H (fun H => ?_) (fun H => ?_)
    · -- 25: 28
      refine aw_aload_n (pc := 28) dX7_parseRow_28 rfl ?_
      refine aw_iload_n (pc := 29) dX7_parseRow_29 rfl ?_
      refine cx_callV (pc := 30) (P := pI) (dC := dd) (mcC := 0) (msC := 0) [iv p1] hE r41 (fun r1 H1 => hg_X7_parseSum p1 m22 hp1 r1 H1) ca_X7_40 rfl ⟨_, rfl, rfl⟩ rfl rfl (by omega) (Nat.le_of_ble_eq_true rfl) (Nat.le_of_ble_eq_true rfl) (Nat.le_of_ble_eq_true rfl) dX7_parseRow_30 H (fun x30 m30 v30 hh30 H hp => ?_)
      refine cx_backI hp (fun hx30 => ?_)
      refine cx_if_ne (pc := 33) 38 hx30 dX7_parseRow_33 rfl H (fun H => ?_) (fun H => ?_)
      · -- 33: 36
        refine cx_iconst (pc := 36) dX7_parseRow_36 ?_
        exact cx_iret (pc := 37) (inR_lit _ rfl) rfl (Nat.le_of_ble_eq_true rfl) (Nat.le_of_ble_eq_true rfl) dX7_parseRow_37 H
      · -- 33: 38
        refine cx_iinc (pc := 38) [(3, iv (w32 (v3_22 + 1))), (0, .ref 41), (1, iv p1), (2, iv p2)] dX7_parseRow_38 rfl rfl (by decide) ?_
        refine aw_aload_n (pc := 41) dX7_parseRow_41 rfl ?_
        refine cx_callV (pc := 42) (P := pI) (dC := 0) (mcC := 0) (msC := 0) [] hE r41 (fun r1 H1 => s_X7_sign l sc E R hE hR n m30 r1 H1) ca_X7_47 rfl ⟨_, rfl, rfl⟩ rfl rfl (by omega) (Nat.le_of_ble_eq_true rfl) (Nat.le_of_ble_eq_true rfl) (Nat.le_of_ble_eq_true rfl) dX7_parseRow_42 H (fun x42 m42 v42 hh42 H hp => ?_)
        refine cx_backI hp (fun hx42 => ?_)
        refine aw_istore (pc := 45) [(4, iv x42), (3, iv (w32 (v3_22 + 1))), (0, .ref 41), (1, iv p1), (2, iv p2)] dX7_parseRow_45 rfl (by decide) ?_
        refine aw_iload (pc := 47) dX7_parseRow_47 rfl ?_
        refine cx_bipush (pc := 49) dX7_parseRow_49 (by decide) ?_
        refine jn_ind (fun (f9 : Mem → Option Rz) => ∀ (m71 : Mem), f9 m71 = some r → AW l D base sc RX7 yX7_parseRow cX7_parseRow 5 (some FieldType.int) (dd + 1) 0 0 ad (E mi) (pI E r) 0 0 (E m71) 71 [(0, .ref 41), (1, iv p1), (2, iv p2), (3, iv (w32 (v3_22 + 1))), (4, iv x42)] []) (fun m71 H => ?_) (fun j71 hj71 H => ?_) H
        · -- 71
          refine aw_aload_n (pc := 71) dX7_parseRow_71 rfl ?_
          refine aw_dup (pc := 72) dX7_parseRow_72 rfl ?_
          refine cx_gtF (pc := 73) hE r41 fl_X7_31 rfl rfl (Nat.le_of_ble_eq_true rfl) dX7_parseRow_73 H (fun x73 hx73 H => ?_)
          refine cx_iconst (pc := 76) dX7_parseRow_76 ?_
          refine cx_iadd (pc := 77) dX7_parseRow_77 ?_
          refine cx_ptF (pc := 78) tyX7 hE r41 fl_X7_31 (fun r h => ⟨gty_X7 r h, by cases h; rfl⟩) rfl rfl rfl (Nat.le_of_ble_eq_true rfl) dX7_parseRow_78 H (fun m78 H => ?_)
          refine aw_iload (pc := 81) dX7_parseRow_81 rfl ?_
          refine aw_iload_n (pc := 83) dX7_parseRow_83 rfl ?_
          refine cx_icmp_ne (pc := 84) 90 hx42 hp2 dX7_parseRow_84 rfl H (fun H => ?_) (fun H => ?_)
          · -- 84: 87
            refine aw_goto (pc := 87) 93 dX7_parseRow_87 rfl ?_
            exact AW.sel [3] rfl (hj93 _ _ (inR_w32 _) H)
          · -- 84: 90
            refine aw_goto (pc := 90) 22 dX7_parseRow_90 rfl ?_
            exact AW.sel [0, 1, 2, 3] rfl (ih22 _ _ (inR_w32 _) H)
        refine cx_icmp_eq (pc := 51) 71 hx42 (inR_lit _ rfl) dX7_parseRow_51 rfl H (fun H => ?_) (fun H => ?_)
        · -- 51: 71
          exact AW.sel [2, 3, 4, 1, 0] rfl (hj71 _ H)
        · -- 51: 54
          refine aw_iload (pc := 54) dX7_parseRow_54 rfl ?_
          refine aw_iload_n (pc := 56) dX7_parseRow_56 rfl ?_
          refine cx_icmp_eq (pc := 57) 71 hx42 hp2 dX7_parseRow_57 rfl H (fun H => ?_) (fun H => ?_)
          · -- 57: 71
            exact AW.sel [2, 3, 4, 1, 0] rfl (hj71 _ H)
          · -- 57: 60
            refine aw_aload_n (pc := 60) dX7_parseRow_60 rfl ?_
            refine aw_aload_n (pc := 61) dX7_parseRow_61 rfl ?_
            refine cx_gtF (pc := 62) hE r41 fl_X7_31 rfl rfl (Nat.le_of_ble_eq_true rfl) dX7_parseRow_62 H (fun x62 hx62 H => ?_)
            refine cx_callV (pc := 65) (P := pI) (dC := 0) (mcC := 0) (msC := 0) [iv x62] hE r41 (fun r1 H1 => s_X7_failAt l sc E R hE hR n x62 hx62 m42 r1 H1) ca_X7_55 rfl ⟨_, rfl, rfl⟩ rfl rfl (by omega) (Nat.le_of_ble_eq_true rfl) (Nat.le_of_ble_eq_true rfl) (Nat.le_of_ble_eq_true rfl) dX7_parseRow_65 H (fun x65 m65 v65 hh65 H hp => ?_)
            refine cx_backI hp (fun hx65 => ?_)
            refine aw_pop (pc := 68) dX7_parseRow_68 rfl ?_
            refine cx_iconst (pc := 69) dX7_parseRow_69 ?_
            exact cx_iret (pc := 70) (inR_lit _ rfl) rfl (Nat.le_of_ble_eq_true rfl) (Nat.le_of_ble_eq_true rfl) dX7_parseRow_70 H
    · -- 25: 93
      exact AW.sel [3] rfl (hj93 _ _ hv3_22 H)
set_option maxRecDepth 100000 in
set_option maxHeartbeats 4000000 in
theorem sb_X7_parseRows (l : Launch) (sc : g_S) (E : Mem → g_H) (R : Nat → Prop) (hE : LE E R) (hR : RCL R) (n : Nat) (dd : Nat) (hdd : 2 ≤ dd) (g_X7_parseRow : (Int → Int → Mem → Option Rz)) (g_X7_parseRows : (Int → Mem → Option Rz)) (g_X7_parseSum : (Int → Mem → Option Rz)) (g_X7_parseUnit : (Int → Mem → Option Rz)) (hg_X7_parseRow : q_X7_parseRow l sc E R dd g_X7_parseRow) (hg_X7_parseRows : q_X7_parseRows l sc E R dd g_X7_parseRows) (hg_X7_parseSum : q_X7_parseSum l sc E R dd g_X7_parseSum) (hg_X7_parseUnit : q_X7_parseUnit l sc E R dd g_X7_parseUnit) (p1 : Int) (mi : Mem) (hp1 : inR p1) (r : Rz) (H : b_X7_parseRows n g_X7_parseRow g_X7_parseRows g_X7_parseSum g_X7_parseUnit p1 mi = some r) : AMet l sc yX7_parseRows cX7_parseRows 4 (some FieldType.boolean) (dd + 1) 0 0 [.ref 41, iv p1] (E mi) (pI E r) := by
  have r41 : R 41 := hR.1 41 (Nat.le_of_ble_eq_true rfl) (Nat.le_of_ble_eq_true rfl)
  unfold b_X7_parseRows at H
  refine AMet.of (own := RX7) (by decide +kernel) rfl (Nat.le_of_ble_eq_true rfl) [(0, .ref 41), (1, iv p1)] rfl (fun D base ad => ?_)
  refine aw_aload_n (pc := 0) dX7_parseRows_0 rfl ?_
  refine aw_iload_n (pc := 1) dX7_parseRows_1 rfl ?_
  refine cx_bipush (pc := 2) dX7_parseRows_2 (by decide) ?_
  refine cx_callV (pc := 4) (P := pI) (dC := dd) (mcC := 0) (msC := 0) [iv p1, iv 124] hE r41 (fun r1 H1 => hg_X7_parseRow p1 124 mi hp1 (inR_lit _ rfl) r1 H1) ca_X7_67 rfl ⟨_, rfl, rfl⟩ rfl rfl (by omega) (Nat.le_of_ble_eq_true rfl) (Nat.le_of_ble_eq_true rfl) (Nat.le_of_ble_eq_true rfl) dX7_parseRows_4 H (fun x4 m4 v4 hh4 H hp => ?_)
  refine cx_backI hp (fun hx4 => ?_)
  refine aw_istore_n (pc := 7) [(2, iv x4), (0, .ref 41), (1, iv p1)] dX7_parseRows_7 rfl (by decide) ?_
  refine aw_iload_n (pc := 8) dX7_parseRows_8 rfl ?_
  refine cx_if_ge (pc := 9) 14 hx4 dX7_parseRows_9 rfl H (fun H => ?_) (fun H => ?_)
  · -- 9: 12
    refine cx_iconst (pc := 12) dX7_parseRows_12 ?_
    exact cx_zret (pc := 13) rfl (Nat.le_of_ble_eq_true rfl) (Nat.le_of_ble_eq_true rfl) dX7_parseRows_13 H
  · -- 9: 14
    refine aw_aload_n (pc := 14) dX7_parseRows_14 rfl ?_
    refine aw_iload_n (pc := 15) dX7_parseRows_15 rfl ?_
    refine cx_bipush (pc := 16) dX7_parseRows_16 (by decide) ?_
    refine cx_callV (pc := 18) (P := pI) (dC := dd) (mcC := 0) (msC := 0) [iv p1, iv 125] hE r41 (fun r1 H1 => hg_X7_parseRow p1 125 m4 hp1 (inR_lit _ rfl) r1 H1) ca_X7_67 rfl ⟨_, rfl, rfl⟩ rfl rfl (by omega) (Nat.le_of_ble_eq_true rfl) (Nat.le_of_ble_eq_true rfl) (Nat.le_of_ble_eq_true rfl) dX7_parseRows_18 H (fun x18 m18 v18 hh18 H hp => ?_)
    refine cx_backI hp (fun hx18 => ?_)
    refine aw_istore_n (pc := 21) [(3, iv x18), (2, iv x4), (0, .ref 41), (1, iv p1)] dX7_parseRows_21 rfl (by decide) ?_
    refine aw_iload_n (pc := 22) dX7_parseRows_22 rfl ?_
    refine jn_ind (fun (f9 : Int → Mem → Option Rz) => ∀ (s0_41 : Int) (m41 : Mem), inR s0_41 → f9 s0_41 m41 = some r → AW l D base sc RX7 yX7_parseRows cX7_parseRows 4 (some FieldType.boolean) (dd + 1) 0 0 ad (E mi) (pI E r) 0 0 (E m41) 41 [] [iv s0_41]) (fun s0_41 m41 hs0_41 H => ?_) (fun j41 hj41 H => ?_) H
    · -- 41
      exact cx_zret (pc := 41) rfl (Nat.le_of_ble_eq_true rfl) (Nat.le_of_ble_eq_true rfl) dX7_parseRows_41 H
    refine jn_ind (fun (f9 : Mem → Option Rz) => ∀ (m40 : Mem), f9 m40 = some r → AW l D base sc RX7 yX7_parseRows cX7_parseRows 4 (some FieldType.boolean) (dd + 1) 0 0 ad (E mi) (pI E r) 0 0 (E m40) 40 [] []) (fun m40 H => ?_) (fun j40 hj40 H => ?_) H
    · -- 40
      refine cx_iconst (pc := 40) dX7_parseRows_40 ?_
      exact AW.sel [] rfl (hj41 _ _ (inR_lit _ rfl) H)
    refine cx_if_lt (pc := 23) 40 hx18 dX7_parseRows_23 rfl H (fun H => ?_) (fun H => ?_)
    · -- 23: 40
      exact AW.sel [] rfl (hj40 _ H)
    · -- 23: 26
      refine aw_aload_n (pc := 26) dX7_parseRows_26 rfl ?_
      refine cx_iconst (pc := 27) dX7_parseRows_27 ?_
      refine aw_iload_n (pc := 28) dX7_parseRows_28 rfl ?_
      refine aw_iload_n (pc := 29) dX7_parseRows_29 rfl ?_
      refine cx_callV (pc := 30) (P := pI) (dC := 0) (mcC := 0) (msC := 0) [iv 5, iv x4, iv x18] hE r41 (fun r1 H1 => s_X7_step l sc E R hE hR n 5 x4 x18 (inR_lit _ rfl) hx4 hx18 m18 r1 H1) ca_X7_51 rfl ⟨_, rfl, rfl⟩ rfl rfl (by omega) (Nat.le_of_ble_eq_true rfl) (Nat.le_of_ble_eq_true rfl) (Nat.le_of_ble_eq_true rfl) dX7_parseRows_30 H (fun x30 m30 v30 hh30 H hp => ?_)
      refine cx_backI hp (fun hx30 => ?_)
      refine cx_if_eq (pc := 33) 40 hx30 dX7_parseRows_33 rfl H (fun H => ?_) (fun H => ?_)
      · -- 33: 40
        exact AW.sel [] rfl (hj40 _ H)
      · -- 33: 36
        refine cx_iconst (pc := 36) dX7_parseRows_36 ?_
        refine aw_goto (pc := 37) 41 dX7_parseRows_37 rfl ?_
        exact AW.sel [] rfl (hj41 _ _ (inR_lit _ rfl) H)
set_option maxRecDepth 100000 in
set_option maxHeartbeats 4000000 in
theorem sb_X7_parseSum (l : Launch) (sc : g_S) (E : Mem → g_H) (R : Nat → Prop) (hE : LE E R) (hR : RCL R) (n : Nat) (dd : Nat) (hdd : 2 ≤ dd) (g_X7_parseRow : (Int → Int → Mem → Option Rz)) (g_X7_parseRows : (Int → Mem → Option Rz)) (g_X7_parseSum : (Int → Mem → Option Rz)) (g_X7_parseUnit : (Int → Mem → Option Rz)) (hg_X7_parseRow : q_X7_parseRow l sc E R dd g_X7_parseRow) (hg_X7_parseRows : q_X7_parseRows l sc E R dd g_X7_parseRows) (hg_X7_parseSum : q_X7_parseSum l sc E R dd g_X7_parseSum) (hg_X7_parseUnit : q_X7_parseUnit l sc E R dd g_X7_parseUnit) (p1 : Int) (mi : Mem) (hp1 : inR p1) (r : Rz) (H : b_X7_parseSum n g_X7_parseRow g_X7_parseRows g_X7_parseSum g_X7_parseUnit p1 mi = some r) : AMet l sc yX7_parseSum cX7_parseSum 2 (some FieldType.boolean) (dd + 1) 0 0 [.ref 41, iv p1] (E mi) (pI E r) := by
  have r41 : R 41 := hR.1 41 (Nat.le_of_ble_eq_true rfl) (Nat.le_of_ble_eq_true rfl)
  unfold b_X7_parseSum at H
  refine AMet.of (own := RX7) (by decide +kernel) rfl (Nat.le_of_ble_eq_true rfl) [(0, .ref 41), (1, iv p1)] rfl (fun D base ad => ?_)
  refine aw_aload_n (pc := 0) dX7_parseSum_0 rfl ?_
  refine aw_iload_n (pc := 1) dX7_parseSum_1 rfl ?_
  refine cx_callV (pc := 2) (P := pI) (dC := dd) (mcC := 0) (msC := 0) [iv p1] hE r41 (fun r1 H1 => hg_X7_parseUnit p1 mi hp1 r1 H1) ca_X7_44 rfl ⟨_, rfl, rfl⟩ rfl rfl (by omega) (Nat.le_of_ble_eq_true rfl) (Nat.le_of_ble_eq_true rfl) (Nat.le_of_ble_eq_true rfl) dX7_parseSum_2 H (fun x2 m2 v2 hh2 H hp => ?_)
  refine cx_backI hp (fun hx2 => ?_)
  refine cx_if_ne (pc := 5) 10 hx2 dX7_parseSum_5 rfl H (fun H => ?_) (fun H => ?_)
  · -- 5: 8
    refine cx_iconst (pc := 8) dX7_parseSum_8 ?_
    exact cx_zret (pc := 9) rfl (Nat.le_of_ble_eq_true rfl) (Nat.le_of_ble_eq_true rfl) dX7_parseSum_9 H
  · -- 5: 10
    refine AW.sel [0, 1] rfl (lp_ind (bot := fun  _ => none) (fun (f9 : Mem → Option Rz) => ∀ (m10 : Mem), f9 m10 = some r → AW l D base sc RX7 yX7_parseSum cX7_parseSum 2 (some FieldType.boolean) (dd + 1) 0 0 ad (E mi) (pI E r) 0 0 (E m10) 10 [(0, .ref 41), (1, iv p1)] []) (fun  _ h9 => nomatch h9) (fun w10 ih10 m10 H => ?_) n  _  H)
    refine aw_aload_n (pc := 10) dX7_parseSum_10 rfl ?_
    refine cx_gtF (pc := 11) hE r41 fl_X7_31 rfl rfl (Nat.le_of_ble_eq_true rfl) dX7_parseSum_11 H (fun x11 hx11 H => ?_)
    refine aw_aload_n (pc := 14) dX7_parseSum_14 rfl ?_
    refine cx_gtF (pc := 15) hE r41 fl_X7_27 rfl rfl (Nat.le_of_ble_eq_true rfl) dX7_parseSum_15 H (fun x15 hx15 H => ?_)
    refine jn_ind (fun (f9 : Mem → Option Rz) => ∀ (m61 : Mem), f9 m61 = some r → AW l D base sc RX7 yX7_parseSum cX7_parseSum 2 (some FieldType.boolean) (dd + 1) 0 0 ad (E mi) (pI E r) 0 0 (E m61) 61 [] []) (fun m61 H => ?_) (fun j61 hj61 H => ?_) H
    · -- 61
      refine cx_iconst (pc := 61) dX7_parseSum_61 ?_
      exact cx_zret (pc := 62) rfl (Nat.le_of_ble_eq_true rfl) (Nat.le_of_ble_eq_true rfl) dX7_parseSum_62 H
    refine cx_icmp_ge (pc := 18) 61 hx11 hx15 dX7_parseSum_18 rfl H (fun H => ?_) (fun H => ?_)
    · -- 18: 21
      refine aw_aload_n (pc := 21) dX7_parseSum_21 rfl ?_
      refine cx_callV (pc := 22) (P := pI) (dC := 0) (mcC := 0) (msC := 0) [] hE r41 (fun r1 H1 => s_X7_sign l sc E R hE hR n m10 r1 H1) ca_X7_47 rfl ⟨_, rfl, rfl⟩ rfl rfl (by omega) (Nat.le_of_ble_eq_true rfl) (Nat.le_of_ble_eq_true rfl) (Nat.le_of_ble_eq_true rfl) dX7_parseSum_22 H (fun x22 m22 v22 hh22 H hp => ?_)
      refine cx_backI hp (fun hx22 => ?_)
      refine cx_bipush (pc := 25) dX7_parseSum_25 (by decide) ?_
      refine cx_icmp_ne (pc := 27) 61 hx22 (inR_lit _ rfl) dX7_parseSum_27 rfl H (fun H => ?_) (fun H => ?_)
      · -- 27: 30
        refine aw_aload_n (pc := 30) dX7_parseSum_30 rfl ?_
        refine aw_dup (pc := 31) dX7_parseSum_31 rfl ?_
        refine cx_gtF (pc := 32) hE r41 fl_X7_31 rfl rfl (Nat.le_of_ble_eq_true rfl) dX7_parseSum_32 H (fun x32 hx32 H => ?_)
        refine cx_iconst (pc := 35) dX7_parseSum_35 ?_
        refine cx_iadd (pc := 36) dX7_parseSum_36 ?_
        refine cx_ptF (pc := 37) tyX7 hE r41 fl_X7_31 (fun r h => ⟨gty_X7 r h, by cases h; rfl⟩) rfl rfl rfl (Nat.le_of_ble_eq_true rfl) dX7_parseSum_37 H (fun m37 H => ?_)
        refine aw_aload_n (pc := 40) dX7_parseSum_40 rfl ?_
        refine aw_iload_n (pc := 41) dX7_parseSum_41 rfl ?_
        refine cx_callV (pc := 42) (P := pI) (dC := dd) (mcC := 0) (msC := 0) [iv p1] hE r41 (fun r1 H1 => hg_X7_parseUnit p1 m37 hp1 r1 H1) ca_X7_44 rfl ⟨_, rfl, rfl⟩ rfl rfl (by omega) (Nat.le_of_ble_eq_true rfl) (Nat.le_of_ble_eq_true rfl) (Nat.le_of_ble_eq_true rfl) dX7_parseSum_42 H (fun x42 m42 v42 hh42 H hp => ?_)
        refine cx_backI hp (fun hx42 => ?_)
        refine cx_if_ne (pc := 45) 50 hx42 dX7_parseSum_45 rfl H (fun H => ?_) (fun H => ?_)
        · -- 45: 48
          refine cx_iconst (pc := 48) dX7_parseSum_48 ?_
          exact cx_zret (pc := 49) rfl (Nat.le_of_ble_eq_true rfl) (Nat.le_of_ble_eq_true rfl) dX7_parseSum_49 H
        · -- 45: 50
          refine aw_aload_n (pc := 50) dX7_parseSum_50 rfl ?_
          refine cx_iconst (pc := 51) dX7_parseSum_51 ?_
          refine cx_iconst (pc := 52) dX7_parseSum_52 ?_
          refine cx_iconst (pc := 53) dX7_parseSum_53 ?_
          refine cx_callV (pc := 54) (P := pI) (dC := 0) (mcC := 0) (msC := 0) [iv 4, iv 0, iv 0] hE r41 (fun r1 H1 => s_X7_step l sc E R hE hR n 4 0 0 (inR_lit _ rfl) (inR_lit _ rfl) (inR_lit _ rfl) m42 r1 H1) ca_X7_51 rfl ⟨_, rfl, rfl⟩ rfl rfl (by omega) (Nat.le_of_ble_eq_true rfl) (Nat.le_of_ble_eq_true rfl) (Nat.le_of_ble_eq_true rfl) dX7_parseSum_54 H (fun x54 m54 v54 hh54 H hp => ?_)
          refine cx_backI hp (fun hx54 => ?_)
          refine aw_pop (pc := 57) dX7_parseSum_57 rfl ?_
          refine aw_goto (pc := 58) 10 dX7_parseSum_58 rfl ?_
          exact AW.sel [0, 1] rfl (ih10 _ H)
      · -- 27: 61
        exact AW.sel [] rfl (hj61 _ H)
    · -- 18: 61
      exact AW.sel [] rfl (hj61 _ H)
set_option maxRecDepth 100000 in
set_option maxHeartbeats 4000000 in
theorem sb_X7_parseUnit (l : Launch) (sc : g_S) (E : Mem → g_H) (R : Nat → Prop) (hE : LE E R) (hR : RCL R) (n : Nat) (dd : Nat) (hdd : 2 ≤ dd) (g_X7_parseRow : (Int → Int → Mem → Option Rz)) (g_X7_parseRows : (Int → Mem → Option Rz)) (g_X7_parseSum : (Int → Mem → Option Rz)) (g_X7_parseUnit : (Int → Mem → Option Rz)) (hg_X7_parseRow : q_X7_parseRow l sc E R dd g_X7_parseRow) (hg_X7_parseRows : q_X7_parseRows l sc E R dd g_X7_parseRows) (hg_X7_parseSum : q_X7_parseSum l sc E R dd g_X7_parseSum) (hg_X7_parseUnit : q_X7_parseUnit l sc E R dd g_X7_parseUnit) (p1 : Int) (mi : Mem) (hp1 : inR p1) (r : Rz) (H : b_X7_parseUnit n g_X7_parseRow g_X7_parseRows g_X7_parseSum g_X7_parseUnit p1 mi = some r) : AMet l sc yX7_parseUnit cX7_parseUnit 3 (some FieldType.boolean) (dd + 1) 0 0 [.ref 41, iv p1] (E mi) (pI E r) := by
  have r41 : R 41 := hR.1 41 (Nat.le_of_ble_eq_true rfl) (Nat.le_of_ble_eq_true rfl)
  unfold b_X7_parseUnit at H
  refine AMet.of (own := RX7) (by decide +kernel) rfl (Nat.le_of_ble_eq_true rfl) [(0, .ref 41), (1, iv p1)] rfl (fun D base ad => ?_)
  refine aw_aload_n (pc := 0) dX7_parseUnit_0 rfl ?_
  refine cx_callV (pc := 1) (P := pI) (dC := 0) (mcC := 0) (msC := 0) [] hE r41 (fun r1 H1 => s_X7_sign l sc E R hE hR n mi r1 H1) ca_X7_47 rfl ⟨_, rfl, rfl⟩ rfl rfl (by omega) (Nat.le_of_ble_eq_true rfl) (Nat.le_of_ble_eq_true rfl) (Nat.le_of_ble_eq_true rfl) dX7_parseUnit_1 H (fun x1 m1 v1 hh1 H hp => ?_)
  refine cx_backI hp (fun hx1 => ?_)
  refine aw_istore_n (pc := 4) [(2, iv x1), (0, .ref 41), (1, iv p1)] dX7_parseUnit_4 rfl (by decide) ?_
  refine aw_iload_n (pc := 5) dX7_parseUnit_5 rfl ?_
  refine cx_bipush (pc := 6) dX7_parseUnit_6 (by decide) ?_
  refine jn_ind (fun (f9 : Mem → Option Rz) => ∀ (m17 : Mem), f9 m17 = some r → AW l D base sc RX7 yX7_parseUnit cX7_parseUnit 3 (some FieldType.boolean) (dd + 1) 0 0 ad (E mi) (pI E r) 0 0 (E m17) 17 [(0, .ref 41), (1, iv p1), (2, iv x1)] []) (fun m17 H => ?_) (fun j17 hj17 H => ?_) H
  · -- 17
    refine aw_iload_n (pc := 17) dX7_parseUnit_17 rfl ?_
    refine cx_iconst (pc := 18) dX7_parseUnit_18 ?_
    refine cx_icmp_lt (pc := 19) 31 hp1 (inR_lit _ rfl) dX7_parseUnit_19 rfl H (fun H => ?_) (fun H => ?_)
    · -- 19: 31
      refine aw_aload_n (pc := 31) dX7_parseUnit_31 rfl ?_
      refine aw_dup (pc := 32) dX7_parseUnit_32 rfl ?_
      refine cx_gtF (pc := 33) hE r41 fl_X7_31 rfl rfl (Nat.le_of_ble_eq_true rfl) dX7_parseUnit_33 H (fun x33 hx33 H => ?_)
      refine cx_iconst (pc := 36) dX7_parseUnit_36 ?_
      refine cx_iadd (pc := 37) dX7_parseUnit_37 ?_
      refine cx_ptF (pc := 38) tyX7 hE r41 fl_X7_31 (fun r h => ⟨gty_X7 r h, by cases h; rfl⟩) rfl rfl rfl (Nat.le_of_ble_eq_true rfl) dX7_parseUnit_38 H (fun m38 H => ?_)
      refine aw_iload_n (pc := 41) dX7_parseUnit_41 rfl ?_
      refine cx_bipush (pc := 42) dX7_parseUnit_42 (by decide) ?_
      refine cx_icmp_ne (pc := 44) 55 hx1 (inR_lit _ rfl) dX7_parseUnit_44 rfl H (fun H => ?_) (fun H => ?_)
      · -- 44: 47
        refine aw_aload_n (pc := 47) dX7_parseUnit_47 rfl ?_
        refine aw_iload_n (pc := 48) dX7_parseUnit_48 rfl ?_
        refine cx_iconst (pc := 49) dX7_parseUnit_49 ?_
        refine cx_iadd (pc := 50) dX7_parseUnit_50 ?_
        refine cx_callV (pc := 51) (P := pI) (dC := dd) (mcC := 0) (msC := 0) [iv (w32 (p1 + 1))] hE r41 (fun r1 H1 => hg_X7_parseRows (w32 (p1 + 1)) m38 (inR_w32 _) r1 H1) ca_X7_58 rfl ⟨_, rfl, rfl⟩ rfl rfl (by omega) (Nat.le_of_ble_eq_true rfl) (Nat.le_of_ble_eq_true rfl) (Nat.le_of_ble_eq_true rfl) dX7_parseUnit_51 H (fun x51 m51 v51 hh51 H hp => ?_)
        refine cx_backI hp (fun hx51 => ?_)
        exact cx_zret (pc := 54) rfl (Nat.le_of_ble_eq_true rfl) (Nat.le_of_ble_eq_true rfl) dX7_parseUnit_54 H
      · -- 44: 55
        refine aw_aload_n (pc := 55) dX7_parseUnit_55 rfl ?_
        refine aw_iload_n (pc := 56) dX7_parseUnit_56 rfl ?_
        refine cx_iconst (pc := 57) dX7_parseUnit_57 ?_
        refine cx_iadd (pc := 58) dX7_parseUnit_58 ?_
        refine cx_callV (pc := 59) (P := pI) (dC := dd) (mcC := 0) (msC := 0) [iv (w32 (p1 + 1))] hE r41 (fun r1 H1 => hg_X7_parseUnit (w32 (p1 + 1)) m38 (inR_w32 _) r1 H1) ca_X7_44 rfl ⟨_, rfl, rfl⟩ rfl rfl (by omega) (Nat.le_of_ble_eq_true rfl) (Nat.le_of_ble_eq_true rfl) (Nat.le_of_ble_eq_true rfl) dX7_parseUnit_59 H (fun x59 m59 v59 hh59 H hp => ?_)
        refine cx_backI hp (fun hx59 => ?_)
        refine jn_ind (fun (f9 : Int → Mem → Option Rz) => ∀ (s0_80 : Int) (m80 : Mem), inR s0_80 → f9 s0_80 m80 = some r → AW l D base sc RX7 yX7_parseUnit cX7_parseUnit 3 (some FieldType.boolean) (dd + 1) 0 0 ad (E mi) (pI E r) 0 0 (E m80) 80 [] [iv s0_80]) (fun s0_80 m80 hs0_80 H => ?_) (fun j80 hj80 H => ?_) H
        · -- 80
          exact cx_zret (pc := 80) rfl (Nat.le_of_ble_eq_true rfl) (Nat.le_of_ble_eq_true rfl) dX7_parseUnit_80 H
        refine jn_ind (fun (f9 : Mem → Option Rz) => ∀ (m79 : Mem), f9 m79 = some r → AW l D base sc RX7 yX7_parseUnit cX7_parseUnit 3 (some FieldType.boolean) (dd + 1) 0 0 ad (E mi) (pI E r) 0 0 (E m79) 79 [] []) (fun m79 H => ?_) (fun j79 hj79 H => ?_) H
        · -- 79
          refine cx_iconst (pc := 79) dX7_parseUnit_79 ?_
          exact AW.sel [] rfl (hj80 _ _ (inR_lit _ rfl) H)
        refine cx_if_eq (pc := 62) 79 hx59 dX7_parseUnit_62 rfl H (fun H => ?_) (fun H => ?_)
        · -- 62: 79
          exact AW.sel [] rfl (hj79 _ H)
        · -- 62: 65
          refine aw_aload_n (pc := 65) dX7_parseUnit_65 rfl ?_
          refine cx_iconst (pc := 66) dX7_parseUnit_66 ?_
          refine cx_iconst (pc := 67) dX7_parseUnit_67 ?_
          refine cx_iconst (pc := 68) dX7_parseUnit_68 ?_
          refine cx_callV (pc := 69) (P := pI) (dC := 0) (mcC := 0) (msC := 0) [iv 3, iv 0, iv 0] hE r41 (fun r1 H1 => s_X7_step l sc E R hE hR n 3 0 0 (inR_lit _ rfl) (inR_lit _ rfl) (inR_lit _ rfl) m59 r1 H1) ca_X7_51 rfl ⟨_, rfl, rfl⟩ rfl rfl (by omega) (Nat.le_of_ble_eq_true rfl) (Nat.le_of_ble_eq_true rfl) (Nat.le_of_ble_eq_true rfl) dX7_parseUnit_69 H (fun x69 m69 v69 hh69 H hp => ?_)
          refine cx_backI hp (fun hx69 => ?_)
          refine cx_if_eq (pc := 72) 79 hx69 dX7_parseUnit_72 rfl H (fun H => ?_) (fun H => ?_)
          · -- 72: 79
            exact AW.sel [] rfl (hj79 _ H)
          · -- 72: 75
            refine cx_iconst (pc := 75) dX7_parseUnit_75 ?_
            refine aw_goto (pc := 76) 80 dX7_parseUnit_76 rfl ?_
            exact AW.sel [] rfl (hj80 _ _ (inR_lit _ rfl) H)
    · -- 19: 22
      refine aw_aload_n (pc := 22) dX7_parseUnit_22 rfl ?_
      refine aw_aload_n (pc := 23) dX7_parseUnit_23 rfl ?_
      refine cx_gtF (pc := 24) hE r41 fl_X7_31 rfl rfl (Nat.le_of_ble_eq_true rfl) dX7_parseUnit_24 H (fun x24 hx24 H => ?_)
      refine cx_callV (pc := 27) (P := pI) (dC := 0) (mcC := 0) (msC := 0) [iv x24] hE r41 (fun r1 H1 => s_X7_failAt l sc E R hE hR n x24 hx24 m17 r1 H1) ca_X7_55 rfl ⟨_, rfl, rfl⟩ rfl rfl (by omega) (Nat.le_of_ble_eq_true rfl) (Nat.le_of_ble_eq_true rfl) (Nat.le_of_ble_eq_true rfl) dX7_parseUnit_27 H (fun x27 m27 v27 hh27 H hp => ?_)
      refine cx_backI hp (fun hx27 => ?_)
      exact cx_zret (pc := 30) rfl (Nat.le_of_ble_eq_true rfl) (Nat.le_of_ble_eq_true rfl) dX7_parseUnit_30 H
  refine cx_icmp_eq (pc := 8) 17 hx1 (inR_lit _ rfl) dX7_parseUnit_8 rfl H (fun H => ?_) (fun H => ?_)
  · -- 8: 17
    exact AW.sel [1, 2, 0] rfl (hj17 _ H)
  · -- 8: 11
    refine aw_iload_n (pc := 11) dX7_parseUnit_11 rfl ?_
    refine cx_bipush (pc := 12) dX7_parseUnit_12 (by decide) ?_
    refine cx_icmp_ne (pc := 14) 81 hx1 (inR_lit _ rfl) dX7_parseUnit_14 rfl H (fun H => ?_) (fun H => ?_)
    · -- 14: 17
      exact AW.sel [1, 2, 0] rfl (hj17 _ H)
    · -- 14: 81
      refine aw_iload_n (pc := 81) dX7_parseUnit_81 rfl ?_
      refine cx_callS (pc := 82) (P := pI) (dC := 0) (mcC := 0) (msC := 0) [iv x1] (fun r1 H1 => s_X7_isDigit l sc E R hE hR n x1 hx1 m1 r1 H1) ca_X7_61 rfl rfl (by omega) (Nat.le_of_ble_eq_true rfl) (Nat.le_of_ble_eq_true rfl) (Nat.le_of_ble_eq_true rfl) dX7_parseUnit_82 H (fun x82 m82 v82 hh82 H hp => ?_)
      refine cx_backI hp (fun hx82 => ?_)
      refine cx_if_eq (pc := 85) 94 hx82 dX7_parseUnit_85 rfl H (fun H => ?_) (fun H => ?_)
      · -- 85: 94
        refine aw_iload_n (pc := 94) dX7_parseUnit_94 rfl ?_
        refine cx_bipush (pc := 95) dX7_parseUnit_95 (by decide) ?_
        refine cx_icmp_ne (pc := 97) 118 hx1 (inR_lit _ rfl) dX7_parseUnit_97 rfl H (fun H => ?_) (fun H => ?_)
        · -- 97: 100
          refine aw_aload_n (pc := 100) dX7_parseUnit_100 rfl ?_
          refine aw_dup (pc := 101) dX7_parseUnit_101 rfl ?_
          refine cx_gtF (pc := 102) hE r41 fl_X7_31 rfl rfl (Nat.le_of_ble_eq_true rfl) dX7_parseUnit_102 H (fun x102 hx102 H => ?_)
          refine cx_iconst (pc := 105) dX7_parseUnit_105 ?_
          refine cx_iadd (pc := 106) dX7_parseUnit_106 ?_
          refine cx_ptF (pc := 107) tyX7 hE r41 fl_X7_31 (fun r h => ⟨gty_X7 r h, by cases h; rfl⟩) rfl rfl rfl (Nat.le_of_ble_eq_true rfl) dX7_parseUnit_107 H (fun m107 H => ?_)
          refine aw_aload_n (pc := 110) dX7_parseUnit_110 rfl ?_
          refine cx_iconst (pc := 111) dX7_parseUnit_111 ?_
          refine cx_iconst (pc := 112) dX7_parseUnit_112 ?_
          refine cx_iconst (pc := 113) dX7_parseUnit_113 ?_
          refine cx_callV (pc := 114) (P := pI) (dC := 0) (mcC := 0) (msC := 0) [iv 2, iv 0, iv 0] hE r41 (fun r1 H1 => s_X7_step l sc E R hE hR n 2 0 0 (inR_lit _ rfl) (inR_lit _ rfl) (inR_lit _ rfl) m107 r1 H1) ca_X7_51 rfl ⟨_, rfl, rfl⟩ rfl rfl (by omega) (Nat.le_of_ble_eq_true rfl) (Nat.le_of_ble_eq_true rfl) (Nat.le_of_ble_eq_true rfl) dX7_parseUnit_114 H (fun x114 m114 v114 hh114 H hp => ?_)
          refine cx_backI hp (fun hx114 => ?_)
          exact cx_zret (pc := 117) rfl (Nat.le_of_ble_eq_true rfl) (Nat.le_of_ble_eq_true rfl) dX7_parseUnit_117 H
        · -- 97: 118
          refine aw_iload_n (pc := 118) dX7_parseUnit_118 rfl ?_
          refine cx_bipush (pc := 119) dX7_parseUnit_119 (by decide) ?_
          refine cx_icmp_ne (pc := 121) 160 hx1 (inR_lit _ rfl) dX7_parseUnit_121 rfl H (fun H => ?_) (fun H => ?_)
          · -- 121: 124
            refine aw_aload_n (pc := 124) dX7_parseUnit_124 rfl ?_
            refine aw_dup (pc := 125) dX7_parseUnit_125 rfl ?_
            refine cx_gtF (pc := 126) hE r41 fl_X7_31 rfl rfl (Nat.le_of_ble_eq_true rfl) dX7_parseUnit_126 H (fun x126 hx126 H => ?_)
            refine cx_iconst (pc := 129) dX7_parseUnit_129 ?_
            refine cx_iadd (pc := 130) dX7_parseUnit_130 ?_
            refine cx_ptF (pc := 131) tyX7 hE r41 fl_X7_31 (fun r h => ⟨gty_X7 r h, by cases h; rfl⟩) rfl rfl rfl (Nat.le_of_ble_eq_true rfl) dX7_parseUnit_131 H (fun m131 H => ?_)
            refine aw_aload_n (pc := 134) dX7_parseUnit_134 rfl ?_
            refine cx_callV (pc := 135) (P := pI) (dC := 0) (mcC := 0) (msC := 0) [] hE r41 (fun r1 H1 => s_X7_sign l sc E R hE hR n m131 r1 H1) ca_X7_47 rfl ⟨_, rfl, rfl⟩ rfl rfl (by omega) (Nat.le_of_ble_eq_true rfl) (Nat.le_of_ble_eq_true rfl) (Nat.le_of_ble_eq_true rfl) dX7_parseUnit_135 H (fun x135 m135 v135 hh135 H hp => ?_)
            refine cx_backI hp (fun hx135 => ?_)
            refine cx_callS (pc := 138) (P := pI) (dC := 0) (mcC := 0) (msC := 0) [iv x135] (fun r1 H1 => s_X7_isDigit l sc E R hE hR n x135 hx135 m135 r1 H1) ca_X7_61 rfl rfl (by omega) (Nat.le_of_ble_eq_true rfl) (Nat.le_of_ble_eq_true rfl) (Nat.le_of_ble_eq_true rfl) dX7_parseUnit_138 H (fun x138 m138 v138 hh138 H hp => ?_)
            refine cx_backI hp (fun hx138 => ?_)
            refine jn_ind (fun (f9 : Int → Mem → Option Rz) => ∀ (s0_159 : Int) (m159 : Mem), inR s0_159 → f9 s0_159 m159 = some r → AW l D base sc RX7 yX7_parseUnit cX7_parseUnit 3 (some FieldType.boolean) (dd + 1) 0 0 ad (E mi) (pI E r) 0 0 (E m159) 159 [] [iv s0_159]) (fun s0_159 m159 hs0_159 H => ?_) (fun j159 hj159 H => ?_) H
            · -- 159
              exact cx_zret (pc := 159) rfl (Nat.le_of_ble_eq_true rfl) (Nat.le_of_ble_eq_true rfl) dX7_parseUnit_159 H
            refine cx_if_eq (pc := 141) 152 hx138 dX7_parseUnit_141 rfl H (fun H => ?_) (fun H => ?_)
            · -- 141: 152
              refine aw_aload_n (pc := 152) dX7_parseUnit_152 rfl ?_
              refine cx_iconst (pc := 153) dX7_parseUnit_153 ?_
              refine cx_iconst (pc := 154) dX7_parseUnit_154 ?_
              refine cx_iconst (pc := 155) dX7_parseUnit_155 ?_
              refine cx_callV (pc := 156) (P := pI) (dC := 0) (mcC := 0) (msC := 0) [iv 1, iv 1, iv 0] hE r41 (fun r1 H1 => s_X7_step l sc E R hE hR n 1 1 0 (inR_lit _ rfl) (inR_lit _ rfl) (inR_lit _ rfl) m138 r1 H1) ca_X7_51 rfl ⟨_, rfl, rfl⟩ rfl rfl (by omega) (Nat.le_of_ble_eq_true rfl) (Nat.le_of_ble_eq_true rfl) (Nat.le_of_ble_eq_true rfl) dX7_parseUnit_156 H (fun x156 m156 v156 hh156 H hp => ?_)
              refine cx_backI hp (fun hx156 => ?_)
              exact AW.sel [] rfl (hj159 _ _ hx156 H)
            · -- 141: 144
              refine aw_aload_n (pc := 144) dX7_parseUnit_144 rfl ?_
              refine cx_iconst (pc := 145) dX7_parseUnit_145 ?_
              refine cx_callV (pc := 146) (P := pI) (dC := 1) (mcC := 0) (msC := 0) [iv 1] hE r41 (fun r1 H1 => s_X7_parseNumber l sc E R hE hR n 1 (inR_lit _ rfl) m138 r1 H1) ca_X7_64 rfl ⟨_, rfl, rfl⟩ rfl rfl (by omega) (Nat.le_of_ble_eq_true rfl) (Nat.le_of_ble_eq_true rfl) (Nat.le_of_ble_eq_true rfl) dX7_parseUnit_146 H (fun x146 m146 v146 hh146 H hp => ?_)
              refine cx_backI hp (fun hx146 => ?_)
              refine aw_goto (pc := 149) 159 dX7_parseUnit_149 rfl ?_
              exact AW.sel [] rfl (hj159 _ _ hx146 H)
          · -- 121: 160
            refine aw_aload_n (pc := 160) dX7_parseUnit_160 rfl ?_
            refine aw_aload_n (pc := 161) dX7_parseUnit_161 rfl ?_
            refine cx_gtF (pc := 162) hE r41 fl_X7_31 rfl rfl (Nat.le_of_ble_eq_true rfl) dX7_parseUnit_162 H (fun x162 hx162 H => ?_)
            refine cx_callV (pc := 165) (P := pI) (dC := 0) (mcC := 0) (msC := 0) [iv x162] hE r41 (fun r1 H1 => s_X7_failAt l sc E R hE hR n x162 hx162 m82 r1 H1) ca_X7_55 rfl ⟨_, rfl, rfl⟩ rfl rfl (by omega) (Nat.le_of_ble_eq_true rfl) (Nat.le_of_ble_eq_true rfl) (Nat.le_of_ble_eq_true rfl) dX7_parseUnit_165 H (fun x165 m165 v165 hh165 H hp => ?_)
            refine cx_backI hp (fun hx165 => ?_)
            exact cx_zret (pc := 168) rfl (Nat.le_of_ble_eq_true rfl) (Nat.le_of_ble_eq_true rfl) dX7_parseUnit_168 H
      · -- 85: 88
        refine aw_aload_n (pc := 88) dX7_parseUnit_88 rfl ?_
        refine cx_iconst (pc := 89) dX7_parseUnit_89 ?_
        refine cx_callV (pc := 90) (P := pI) (dC := 1) (mcC := 0) (msC := 0) [iv 0] hE r41 (fun r1 H1 => s_X7_parseNumber l sc E R hE hR n 0 (inR_lit _ rfl) m82 r1 H1) ca_X7_64 rfl ⟨_, rfl, rfl⟩ rfl rfl (by omega) (Nat.le_of_ble_eq_true rfl) (Nat.le_of_ble_eq_true rfl) (Nat.le_of_ble_eq_true rfl) dX7_parseUnit_90 H (fun x90 m90 v90 hh90 H hp => ?_)
        refine cx_backI hp (fun hx90 => ?_)
        exact cx_zret (pc := 93) rfl (Nat.le_of_ble_eq_true rfl) (Nat.le_of_ble_eq_true rfl) dX7_parseUnit_93 H
theorem sa_X7_parseUnit (l : Launch) (sc : g_S) (E : Mem → g_H) (R : Nat → Prop) (hE : LE E R) (hR : RCL R) (n : Nat) : ∀ dp, q_X7_parseRow l sc E R (2 + dp) (h_X7_parseRow n dp) ∧ q_X7_parseRows l sc E R (2 + dp) (h_X7_parseRows n dp) ∧ q_X7_parseSum l sc E R (2 + dp) (h_X7_parseSum n dp) ∧ q_X7_parseUnit l sc E R (2 + dp) (h_X7_parseUnit n dp)
  | 0 => ⟨(fun _ _ _ _ _ _ H => nomatch H), (fun _ _ _ _ H => nomatch H), (fun _ _ _ _ H => nomatch H), (fun _ _ _ _ H => nomatch H)⟩
  | dp + 1 => by
    have ih := sa_X7_parseUnit l sc E R hE hR n dp
    refine ⟨?_, ?_, ?_, ?_⟩
    · exact fun p1 p2 m hp1 hp2 r H => sb_X7_parseRow l sc E R hE hR n (2 + dp) (Nat.le_add_right _ _) _ _ _ _ ih.1 ih.2.1 ih.2.2.1 ih.2.2.2 p1 p2 m hp1 hp2 r H
    · exact fun p1 m hp1 r H => sb_X7_parseRows l sc E R hE hR n (2 + dp) (Nat.le_add_right _ _) _ _ _ _ ih.1 ih.2.1 ih.2.2.1 ih.2.2.2 p1 m hp1 r H
    · exact fun p1 m hp1 r H => sb_X7_parseSum l sc E R hE hR n (2 + dp) (Nat.le_add_right _ _) _ _ _ _ ih.1 ih.2.1 ih.2.2.1 ih.2.2.2 p1 m hp1 r H
    · exact fun p1 m hp1 r H => sb_X7_parseUnit l sc E R hE hR n (2 + dp) (Nat.le_add_right _ _) _ _ _ _ ih.1 ih.2.1 ih.2.2.1 ih.2.2.2 p1 m hp1 r H
theorem s_X7_parseRow (l : Launch) (sc : g_S) (E : Mem → g_H) (R : Nat → Prop) (hE : LE E R) (hR : RCL R) (n : Nat) (p1 : Int) (p2 : Int) (hp1 : inR p1) (hp2 : inR p2) (m : Mem) (r : Rz) (H : f_X7_parseRow n p1 p2 m = some r) : AMet l sc yX7_parseRow cX7_parseRow 5 (some FieldType.int) 42 0 0 [.ref 41, iv p1, iv p2] (E m) (pI E r) := (sa_X7_parseUnit l sc E R hE hR n 40).1 p1 p2 m hp1 hp2 r H
theorem s_X7_parseRows (l : Launch) (sc : g_S) (E : Mem → g_H) (R : Nat → Prop) (hE : LE E R) (hR : RCL R) (n : Nat) (p1 : Int) (hp1 : inR p1) (m : Mem) (r : Rz) (H : f_X7_parseRows n p1 m = some r) : AMet l sc yX7_parseRows cX7_parseRows 4 (some FieldType.boolean) 42 0 0 [.ref 41, iv p1] (E m) (pI E r) := (sa_X7_parseUnit l sc E R hE hR n 40).2.1 p1 m hp1 r H
theorem s_X7_parseSum (l : Launch) (sc : g_S) (E : Mem → g_H) (R : Nat → Prop) (hE : LE E R) (hR : RCL R) (n : Nat) (p1 : Int) (hp1 : inR p1) (m : Mem) (r : Rz) (H : f_X7_parseSum n p1 m = some r) : AMet l sc yX7_parseSum cX7_parseSum 2 (some FieldType.boolean) 42 0 0 [.ref 41, iv p1] (E m) (pI E r) := (sa_X7_parseUnit l sc E R hE hR n 40).2.2.1 p1 m hp1 r H
theorem s_X7_parseUnit (l : Launch) (sc : g_S) (E : Mem → g_H) (R : Nat → Prop) (hE : LE E R) (hR : RCL R) (n : Nat) (p1 : Int) (hp1 : inR p1) (m : Mem) (r : Rz) (H : f_X7_parseUnit n p1 m = some r) : AMet l sc yX7_parseUnit cX7_parseUnit 3 (some FieldType.boolean) 42 0 0 [.ref 41, iv p1] (E m) (pI E r) := (sa_X7_parseUnit l sc E R hE hR n 40).2.2.2 p1 m hp1 r H
/-- X7 parse ()I -/
def f_X7_parse (n : Nat)  (mi : Mem) : Option Rz :=
  ptF mi 41 5 0 fun m2 =>
  ptF m2 41 7 0 fun m7 =>
  ptF m7 41 6 (-1) fun m12 =>
  cal (f_X7_parseSum n 0 m12) fun x17 m17 =>
  jn (fun (m42 : Mem) =>
    gtF m42 41 6 fun x43 =>
    rt x43 m42
  ) fun (j42 : Mem → Option Rz) =>
  if x17 = 0 then (
    j42 m17
  ) else
  gtF m17 41 5 fun x24 =>
  gtF m17 41 4 fun x28 =>
  if x24 < x28 then (
    gtF m17 41 5 fun x36 =>
    ptF m17 41 6 x36 fun m39 =>
    j42 m39
  ) else
  j42 m17
set_option maxRecDepth 100000 in
set_option maxHeartbeats 4000000 in
theorem s_X7_parse (l : Launch) (sc : g_S) (E : Mem → g_H) (R : Nat → Prop) (hE : LE E R) (hR : RCL R) (n : Nat)    (mi : Mem) (r : Rz) (H : f_X7_parse n  mi = some r) : AMet l sc yX7_parse cX7_parse 1 (some FieldType.int) 43 0 0 [.ref 41] (E mi) (pI E r) := by
  have r41 : R 41 := hR.1 41 (Nat.le_of_ble_eq_true rfl) (Nat.le_of_ble_eq_true rfl)
  unfold f_X7_parse at H
  refine AMet.of (own := RX7) (by decide +kernel) rfl (Nat.le_of_ble_eq_true rfl) [(0, .ref 41)] rfl (fun D base ad => ?_)
  refine aw_aload_n (pc := 0) dX7_parse_0 rfl ?_
  refine cx_iconst (pc := 1) dX7_parse_1 ?_
  refine cx_ptF (pc := 2) tyX7 hE r41 fl_X7_31 (fun r h => ⟨gty_X7 r h, by cases h; rfl⟩) rfl rfl rfl (Nat.le_of_ble_eq_true rfl) dX7_parse_2 H (fun m2 H => ?_)
  refine aw_aload_n (pc := 5) dX7_parse_5 rfl ?_
  refine cx_iconst (pc := 6) dX7_parse_6 ?_
  refine cx_ptF (pc := 7) tyX7 hE r41 fl_X7_34 (fun r h => ⟨gty_X7 r h, by cases h; rfl⟩) rfl rfl rfl (Nat.le_of_ble_eq_true rfl) dX7_parse_7 H (fun m7 H => ?_)
  refine aw_aload_n (pc := 10) dX7_parse_10 rfl ?_
  refine cx_iconst (pc := 11) dX7_parse_11 ?_
  refine cx_ptF (pc := 12) tyX7 hE r41 fl_X7_37 (fun r h => ⟨gty_X7 r h, by cases h; rfl⟩) rfl rfl rfl (Nat.le_of_ble_eq_true rfl) dX7_parse_12 H (fun m12 H => ?_)
  refine aw_aload_n (pc := 15) dX7_parse_15 rfl ?_
  refine cx_iconst (pc := 16) dX7_parse_16 ?_
  refine cx_callV (pc := 17) (P := pI) (dC := 42) (mcC := 0) (msC := 0) [iv 0] hE r41 (fun r1 H1 => s_X7_parseSum l sc E R hE hR n 0 (inR_lit _ rfl) m12 r1 H1) ca_X7_40 rfl ⟨_, rfl, rfl⟩ rfl rfl (Nat.le_of_ble_eq_true rfl) (Nat.le_of_ble_eq_true rfl) (Nat.le_of_ble_eq_true rfl) (Nat.le_of_ble_eq_true rfl) dX7_parse_17 H (fun x17 m17 v17 hh17 H hp => ?_)
  refine cx_backI hp (fun hx17 => ?_)
  refine jn_ind (fun (f9 : Mem → Option Rz) => ∀ (m42 : Mem), f9 m42 = some r → AW l D base sc RX7 yX7_parse cX7_parse 1 (some FieldType.int) 43 0 0 ad (E mi) (pI E r) 0 0 (E m42) 42 [(0, .ref 41)] []) (fun m42 H => ?_) (fun j42 hj42 H => ?_) H
  · -- 42
    refine aw_aload_n (pc := 42) dX7_parse_42 rfl ?_
    refine cx_gtF (pc := 43) hE r41 fl_X7_37 rfl rfl (Nat.le_of_ble_eq_true rfl) dX7_parse_43 H (fun x43 hx43 H => ?_)
    exact cx_iret (pc := 46) hx43 rfl (Nat.le_of_ble_eq_true rfl) (Nat.le_of_ble_eq_true rfl) dX7_parse_46 H
  refine cx_if_eq (pc := 20) 42 hx17 dX7_parse_20 rfl H (fun H => ?_) (fun H => ?_)
  · -- 20: 42
    exact AW.sel [0] rfl (hj42 _ H)
  · -- 20: 23
    refine aw_aload_n (pc := 23) dX7_parse_23 rfl ?_
    refine cx_gtF (pc := 24) hE r41 fl_X7_31 rfl rfl (Nat.le_of_ble_eq_true rfl) dX7_parse_24 H (fun x24 hx24 H => ?_)
    refine aw_aload_n (pc := 27) dX7_parse_27 rfl ?_
    refine cx_gtF (pc := 28) hE r41 fl_X7_27 rfl rfl (Nat.le_of_ble_eq_true rfl) dX7_parse_28 H (fun x28 hx28 H => ?_)
    refine cx_icmp_ge (pc := 31) 42 hx24 hx28 dX7_parse_31 rfl H (fun H => ?_) (fun H => ?_)
    · -- 31: 34
      refine aw_aload_n (pc := 34) dX7_parse_34 rfl ?_
      refine aw_aload_n (pc := 35) dX7_parse_35 rfl ?_
      refine cx_gtF (pc := 36) hE r41 fl_X7_31 rfl rfl (Nat.le_of_ble_eq_true rfl) dX7_parse_36 H (fun x36 hx36 H => ?_)
      refine cx_ptF (pc := 39) tyX7 hE r41 fl_X7_37 (fun r h => ⟨gty_X7 r h, by cases h; rfl⟩) rfl rfl rfl (Nat.le_of_ble_eq_true rfl) dX7_parse_39 H (fun m39 H => ?_)
      exact AW.sel [0] rfl (hj42 _ H)
    · -- 31: 42
      exact AW.sel [0] rfl (hj42 _ H)
/-- X7 taken (III)I -/
def f_X7_taken (n : Nat) (p0 : Int) (p1 : Int) (p2 : Int) (mi : Mem) : Option Rz :=
  if p0 = 3 then (
    rt 1 mi
  ) else
  if p0 = 4 then (
    rt 2 mi
  ) else
  if p0 = 5 then (
    rt (w32 (p1 + p2)) mi
  ) else
  rt 0 mi
set_option maxRecDepth 100000 in
set_option maxHeartbeats 4000000 in
theorem s_X7_taken (l : Launch) (sc : g_S) (E : Mem → g_H) (R : Nat → Prop) (hE : LE E R) (hR : RCL R) (n : Nat)  (p0 : Int) (p1 : Int) (p2 : Int) (hp0 : inR p0) (hp1 : inR p1) (hp2 : inR p2) (mi : Mem) (r : Rz) (H : f_X7_taken n p0 p1 p2 mi = some r) : AMet l sc yX7_taken cX7_taken 3 (some FieldType.int) 0 0 0 [iv p0, iv p1, iv p2] (E mi) (pI E r) := by
  unfold f_X7_taken at H
  refine AMet.of (own := RX7) (by decide +kernel) rfl (Nat.le_of_ble_eq_true rfl) [(0, iv p0), (1, iv p1), (2, iv p2)] rfl (fun D base ad => ?_)
  refine aw_iload_n (pc := 0) dX7_taken_0 rfl ?_
  rcases sw_eq H with ⟨q1_3, H⟩ | ⟨q1_3, H⟩
  · -- 1 case 3
    refine cx_tabIn (pc := 1) 28 3 q1_3 dX7_taken_1 (by decide) (by decide) rfl rfl ?_
    refine cx_iconst (pc := 28) dX7_taken_28 ?_
    exact cx_iret (pc := 29) (inR_lit _ rfl) rfl (Nat.le_of_ble_eq_true rfl) (Nat.le_of_ble_eq_true rfl) dX7_taken_29 H
  rcases sw_eq H with ⟨q1_4, H⟩ | ⟨q1_4, H⟩
  · -- 1 case 4
    refine cx_tabIn (pc := 1) 30 4 q1_4 dX7_taken_1 (by decide) (by decide) rfl rfl ?_
    refine cx_iconst (pc := 30) dX7_taken_30 ?_
    exact cx_iret (pc := 31) (inR_lit _ rfl) rfl (Nat.le_of_ble_eq_true rfl) (Nat.le_of_ble_eq_true rfl) dX7_taken_31 H
  rcases sw_eq H with ⟨q1_5, H⟩ | ⟨q1_5, H⟩
  · -- 1 case 5
    refine cx_tabIn (pc := 1) 32 5 q1_5 dX7_taken_1 (by decide) (by decide) rfl rfl ?_
    refine aw_iload_n (pc := 32) dX7_taken_32 rfl ?_
    refine aw_iload_n (pc := 33) dX7_taken_33 rfl ?_
    refine cx_iadd (pc := 34) dX7_taken_34 ?_
    exact cx_iret (pc := 35) (inR_w32 _) rfl (Nat.le_of_ble_eq_true rfl) (Nat.le_of_ble_eq_true rfl) dX7_taken_35 H
  refine cx_tabOut (pc := 1) 36 hp0 dX7_taken_1 (by omega) rfl ?_
  refine cx_iconst (pc := 36) dX7_taken_36 ?_
  exact cx_iret (pc := 37) (inR_lit _ rfl) rfl (Nat.le_of_ble_eq_true rfl) (Nat.le_of_ble_eq_true rfl) dX7_taken_37 H
