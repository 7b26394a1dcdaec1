theorem dX7_findOrders_4 : decode cX7_findOrders 4 = .ok (.aload_n 1, 1) := by decide +kernel
theorem dX7_findOrders_5 : decode cX7_findOrders 5 = .ok (.invokevirtual 37, 3) := by decide +kernel
theorem dX7_findOrders_8 : decode cX7_findOrders 8 = .ok (.if_icmp .ne 4, 3) := by decide +kernel
theorem dX7_findOrders_11 : decode cX7_findOrders 11 = .ok (.return_, 1) := by decide +kernel
theorem dX7_findOrders_12 : decode cX7_findOrders 12 = .ok (.aload_n 0, 1) := by decide +kernel
theorem dX7_findOrders_13 : decode cX7_findOrders 13 = .ok (.aload_n 1, 1) := by decide +kernel
theorem dX7_findOrders_14 : decode cX7_findOrders 14 = .ok (.invokevirtual 37, 3) := by decide +kernel
theorem dX7_findOrders_17 : decode cX7_findOrders 17 = .ok (.putfield 28, 3) := by decide +kernel
theorem dX7_findOrders_20 : decode cX7_findOrders 20 = .ok (.aload_n 1, 1) := by decide +kernel
theorem dX7_findOrders_21 : decode cX7_findOrders 21 = .ok (.invokevirtual 63, 3) := by decide +kernel
theorem dX7_findOrders_24 : decode cX7_findOrders 24 = .ok (.istore_n 2, 1) := by decide +kernel
theorem dX7_findOrders_25 : decode cX7_findOrders 25 = .ok (.aload_n 0, 1) := by decide +kernel
theorem dX7_findOrders_26 : decode cX7_findOrders 26 = .ok (.getfield 19, 3) := by decide +kernel
theorem dX7_findOrders_29 : decode cX7_findOrders 29 = .ok (.iload_n 2, 1) := by decide +kernel
theorem dX7_findOrders_30 : decode cX7_findOrders 30 = .ok (.iconst 0, 1) := by decide +kernel
theorem dX7_findOrders_31 : decode cX7_findOrders 31 = .ok (.iastore, 1) := by decide +kernel
theorem dX7_findOrders_32 : decode cX7_findOrders 32 = .ok (.aload_n 0, 1) := by decide +kernel
theorem dX7_findOrders_33 : decode cX7_findOrders 33 = .ok (.getfield 22, 3) := by decide +kernel
theorem dX7_findOrders_36 : decode cX7_findOrders 36 = .ok (.iload_n 2, 1) := by decide +kernel
theorem dX7_findOrders_37 : decode cX7_findOrders 37 = .ok (.iconst 1, 1) := by decide +kernel
theorem dX7_findOrders_38 : decode cX7_findOrders 38 = .ok (.iastore, 1) := by decide +kernel
theorem dX7_findOrders_39 : decode cX7_findOrders 39 = .ok (.iload_n 2, 1) := by decide +kernel
theorem dX7_findOrders_40 : decode cX7_findOrders 40 = .ok (.iconst 1, 1) := by decide +kernel
theorem dX7_findOrders_41 : decode cX7_findOrders 41 = .ok (.isub, 1) := by decide +kernel
theorem dX7_findOrders_42 : decode cX7_findOrders 42 = .ok (.istore_n 3, 1) := by decide +kernel
theorem dX7_findOrders_43 : decode cX7_findOrders 43 = .ok (.iload_n 3, 1) := by decide +kernel
theorem dX7_findOrders_44 : decode cX7_findOrders 44 = .ok (.ifCond .lt 35, 3) := by decide +kernel
theorem dX7_findOrders_47 : decode cX7_findOrders 47 = .ok (.aload_n 1, 1) := by decide +kernel
theorem dX7_findOrders_48 : decode cX7_findOrders 48 = .ok (.iload_n 3, 1) := by decide +kernel
theorem dX7_findOrders_49 : decode cX7_findOrders 49 = .ok (.iconst 0, 1) := by decide +kernel
theorem dX7_findOrders_50 : decode cX7_findOrders 50 = .ok (.invokevirtual 77, 3) := by decide +kernel
theorem dX7_findOrders_53 : decode cX7_findOrders 53 = .ok (.ifCond .eq 12, 3) := by decide +kernel
theorem dX7_findOrders_56 : decode cX7_findOrders 56 = .ok (.aload_n 0, 1) := by decide +kernel
theorem dX7_findOrders_57 : decode cX7_findOrders 57 = .ok (.aload_n 1, 1) := by decide +kernel
theorem dX7_findOrders_58 : decode cX7_findOrders 58 = .ok (.iload_n 3, 1) := by decide +kernel
theorem dX7_findOrders_59 : decode cX7_findOrders 59 = .ok (.invokevirtual 80, 3) := by decide +kernel
theorem dX7_findOrders_62 : decode cX7_findOrders 62 = .ok (.goto 11, 3) := by decide +kernel
theorem dX7_findOrders_65 : decode cX7_findOrders 65 = .ok (.aload_n 0, 1) := by decide +kernel
theorem dX7_findOrders_66 : decode cX7_findOrders 66 = .ok (.getfield 19, 3) := by decide +kernel
theorem dX7_findOrders_69 : decode cX7_findOrders 69 = .ok (.iload_n 3, 1) := by decide +kernel
theorem dX7_findOrders_70 : decode cX7_findOrders 70 = .ok (.ldc 84, 2) := by decide +kernel
theorem dX7_findOrders_72 : decode cX7_findOrders 72 = .ok (.iastore, 1) := by decide +kernel
theorem dX7_findOrders_73 : decode cX7_findOrders 73 = .ok (.iinc 3 (-1), 3) := by decide +kernel
theorem dX7_findOrders_76 : decode cX7_findOrders 76 = .ok (.goto (-33), 3) := by decide +kernel
theorem dX7_findOrders_79 : decode cX7_findOrders 79 = .ok (.aload_n 0, 1) := by decide +kernel
theorem dX7_findOrders_80 : decode cX7_findOrders 80 = .ok (.aload_n 1, 1) := by decide +kernel
theorem dX7_findOrders_81 : decode cX7_findOrders 81 = .ok (.invokevirtual 85, 3) := by decide +kernel
theorem dX7_findOrders_84 : decode cX7_findOrders 84 = .ok (.return_, 1) := by decide +kernel
theorem dX7_goOnFrom_0 : decode cX7_goOnFrom 0 = .ok (.aload_n 1, 1) := by decide +kernel
theorem dX7_goOnFrom_1 : decode cX7_goOnFrom 1 = .ok (.invokevirtual 88, 3) := by decide +kernel
theorem dX7_goOnFrom_4 : decode cX7_goOnFrom 4 = .ok (.istore_n 3, 1) := by decide +kernel
theorem dX7_goOnFrom_5 : decode cX7_goOnFrom 5 = .ok (.aload_n 1, 1) := by decide +kernel
theorem dX7_goOnFrom_6 : decode cX7_goOnFrom 6 = .ok (.iload_n 2, 1) := by decide +kernel
theorem dX7_goOnFrom_7 : decode cX7_goOnFrom 7 = .ok (.invokevirtual 70, 3) := by decide +kernel
theorem dX7_goOnFrom_10 : decode cX7_goOnFrom 10 = .ok (.istore 4, 2) := by decide +kernel
theorem dX7_goOnFrom_12 : decode cX7_goOnFrom 12 = .ok (.ldc 84, 2) := by decide +kernel
theorem dX7_goOnFrom_14 : decode cX7_goOnFrom 14 = .ok (.istore 5, 2) := by decide +kernel
theorem dX7_goOnFrom_16 : decode cX7_goOnFrom 16 = .ok (.iconst 0, 1) := by decide +kernel
theorem dX7_goOnFrom_17 : decode cX7_goOnFrom 17 = .ok (.istore 6, 2) := by decide +kernel
theorem dX7_goOnFrom_19 : decode cX7_goOnFrom 19 = .ok (.iconst 0, 1) := by decide +kernel
theorem dX7_goOnFrom_20 : decode cX7_goOnFrom 20 = .ok (.istore 7, 2) := by decide +kernel
theorem dX7_goOnFrom_22 : decode cX7_goOnFrom 22 = .ok (.iload 7, 2) := by decide +kernel
theorem dX7_goOnFrom_24 : decode cX7_goOnFrom 24 = .ok (.iload_n 3, 1) := by decide +kernel
theorem dX7_goOnFrom_25 : decode cX7_goOnFrom 25 = .ok (.if_icmp .ge 87, 3) := by decide +kernel
theorem dX7_goOnFrom_28 : decode cX7_goOnFrom 28 = .ok (.aload_n 1, 1) := by decide +kernel
theorem dX7_goOnFrom_29 : decode cX7_goOnFrom 29 = .ok (.iload_n 2, 1) := by decide +kernel
theorem dX7_goOnFrom_30 : decode cX7_goOnFrom 30 = .ok (.iload 7, 2) := by decide +kernel
theorem dX7_goOnFrom_32 : decode cX7_goOnFrom 32 = .ok (.invokevirtual 91, 3) := by decide +kernel
theorem dX7_goOnFrom_35 : decode cX7_goOnFrom 35 = .ok (.ifCond .eq 71, 3) := by decide +kernel
theorem dX7_goOnFrom_38 : decode cX7_goOnFrom 38 = .ok (.iload_n 2, 1) := by decide +kernel
theorem dX7_goOnFrom_39 : decode cX7_goOnFrom 39 = .ok (.iconst 1, 1) := by decide +kernel
theorem dX7_goOnFrom_40 : decode cX7_goOnFrom 40 = .ok (.iload 7, 2) := by decide +kernel
theorem dX7_goOnFrom_42 : decode cX7_goOnFrom 42 = .ok (.ishl, 1) := by decide +kernel
theorem dX7_goOnFrom_43 : decode cX7_goOnFrom 43 = .ok (.ior, 1) := by decide +kernel
theorem dX7_goOnFrom_44 : decode cX7_goOnFrom 44 = .ok (.istore 8, 2) := by decide +kernel
theorem dX7_goOnFrom_46 : decode cX7_goOnFrom 46 = .ok (.aload_n 1, 1) := by decide +kernel
theorem dX7_goOnFrom_47 : decode cX7_goOnFrom 47 = .ok (.iload 4, 2) := by decide +kernel
theorem dX7_goOnFrom_49 : decode cX7_goOnFrom 49 = .ok (.iload 7, 2) := by decide +kernel
theorem dX7_goOnFrom_51 : decode cX7_goOnFrom 51 = .ok (.invokevirtual 94, 3) := by decide +kernel
theorem dX7_goOnFrom_54 : decode cX7_goOnFrom 54 = .ok (.aload_n 0, 1) := by decide +kernel
theorem dX7_goOnFrom_55 : decode cX7_goOnFrom 55 = .ok (.getfield 19, 3) := by decide +kernel
theorem dX7_goOnFrom_58 : decode cX7_goOnFrom 58 = .ok (.iload 8, 2) := by decide +kernel
theorem dX7_goOnFrom_60 : decode cX7_goOnFrom 60 = .ok (.iaload, 1) := by decide +kernel
theorem dX7_goOnFrom_61 : decode cX7_goOnFrom 61 = .ok (.iadd, 1) := by decide +kernel
theorem dX7_goOnFrom_62 : decode cX7_goOnFrom 62 = .ok (.istore 9, 2) := by decide +kernel
theorem dX7_goOnFrom_64 : decode cX7_goOnFrom 64 = .ok (.iload 9, 2) := by decide +kernel
theorem dX7_goOnFrom_66 : decode cX7_goOnFrom 66 = .ok (.iload 5, 2) := by decide +kernel
theorem dX7_goOnFrom_68 : decode cX7_goOnFrom 68 = .ok (.if_icmp .ge 19, 3) := by decide +kernel
theorem dX7_goOnFrom_71 : decode cX7_goOnFrom 71 = .ok (.iload 9, 2) := by decide +kernel
theorem dX7_goOnFrom_73 : decode cX7_goOnFrom 73 = .ok (.istore 5, 2) := by decide +kernel
theorem dX7_goOnFrom_75 : decode cX7_goOnFrom 75 = .ok (.aload_n 0, 1) := by decide +kernel
theorem dX7_goOnFrom_76 : decode cX7_goOnFrom 76 = .ok (.getfield 22, 3) := by decide +kernel
theorem dX7_goOnFrom_79 : decode cX7_goOnFrom 79 = .ok (.iload 8, 2) := by decide +kernel
theorem dX7_goOnFrom_81 : decode cX7_goOnFrom 81 = .ok (.iaload, 1) := by decide +kernel
theorem dX7_goOnFrom_82 : decode cX7_goOnFrom 82 = .ok (.istore 6, 2) := by decide +kernel
theorem dX7_goOnFrom_84 : decode cX7_goOnFrom 84 = .ok (.goto 22, 3) := by decide +kernel
theorem dX7_goOnFrom_87 : decode cX7_goOnFrom 87 = .ok (.iload 9, 2) := by decide +kernel
theorem dX7_goOnFrom_89 : decode cX7_goOnFrom 89 = .ok (.iload 5, 2) := by decide +kernel
theorem dX7_goOnFrom_91 : decode cX7_goOnFrom 91 = .ok (.if_icmp .ne 15, 3) := by decide +kernel
theorem dX7_goOnFrom_94 : decode cX7_goOnFrom 94 = .ok (.iload 6, 2) := by decide +kernel
theorem dX7_goOnFrom_96 : decode cX7_goOnFrom 96 = .ok (.aload_n 0, 1) := by decide +kernel
theorem dX7_goOnFrom_97 : decode cX7_goOnFrom 97 = .ok (.getfield 22, 3) := by decide +kernel
theorem dX7_goOnFrom_100 : decode cX7_goOnFrom 100 = .ok (.iload 8, 2) := by decide +kernel
theorem dX7_goOnFrom_102 : decode cX7_goOnFrom 102 = .ok (.iaload, 1) := by decide +kernel
theorem dX7_goOnFrom_103 : decode cX7_goOnFrom 103 = .ok (.iadd, 1) := by decide +kernel
theorem dX7_goOnFrom_104 : decode cX7_goOnFrom 104 = .ok (.istore 6, 2) := by decide +kernel
theorem dX7_goOnFrom_106 : decode cX7_goOnFrom 106 = .ok (.iinc 7 1, 3) := by decide +kernel
theorem dX7_goOnFrom_109 : decode cX7_goOnFrom 109 = .ok (.goto (-87), 3) := by decide +kernel
theorem dX7_goOnFrom_112 : decode cX7_goOnFrom 112 = .ok (.aload_n 0, 1) := by decide +kernel
theorem dX7_goOnFrom_113 : decode cX7_goOnFrom 113 = .ok (.getfield 19, 3) := by decide +kernel
theorem dX7_goOnFrom_116 : decode cX7_goOnFrom 116 = .ok (.iload_n 2, 1) := by decide +kernel
theorem dX7_goOnFrom_117 : decode cX7_goOnFrom 117 = .ok (.iload 5, 2) := by decide +kernel
theorem dX7_goOnFrom_119 : decode cX7_goOnFrom 119 = .ok (.iastore, 1) := by decide +kernel
theorem dX7_goOnFrom_120 : decode cX7_goOnFrom 120 = .ok (.aload_n 0, 1) := by decide +kernel
theorem dX7_goOnFrom_121 : decode cX7_goOnFrom 121 = .ok (.getfield 22, 3) := by decide +kernel
theorem dX7_goOnFrom_124 : decode cX7_goOnFrom 124 = .ok (.iload_n 2, 1) := by decide +kernel
theorem dX7_goOnFrom_125 : decode cX7_goOnFrom 125 = .ok (.iload 6, 2) := by decide +kernel
theorem dX7_goOnFrom_127 : decode cX7_goOnFrom 127 = .ok (.iastore, 1) := by decide +kernel
theorem dX7_goOnFrom_128 : decode cX7_goOnFrom 128 = .ok (.return_, 1) := by decide +kernel
theorem dX7_isBestNext_0 : decode cX7_isBestNext 0 = .ok (.aload_n 1, 1) := by decide +kernel
theorem dX7_isBestNext_1 : decode cX7_isBestNext 1 = .ok (.iload_n 2, 1) := by decide +kernel
theorem dX7_isBestNext_2 : decode cX7_isBestNext 2 = .ok (.iload_n 3, 1) := by decide +kernel
theorem dX7_isBestNext_3 : decode cX7_isBestNext 3 = .ok (.invokevirtual 91, 3) := by decide +kernel
theorem dX7_isBestNext_6 : decode cX7_isBestNext 6 = .ok (.ifCond .eq 37, 3) := by decide +kernel
theorem dX7_isBestNext_9 : decode cX7_isBestNext 9 = .ok (.aload_n 1, 1) := by decide +kernel
theorem dX7_isBestNext_10 : decode cX7_isBestNext 10 = .ok (.aload_n 1, 1) := by decide +kernel
theorem dX7_isBestNext_11 : decode cX7_isBestNext 11 = .ok (.iload_n 2, 1) := by decide +kernel
theorem dX7_isBestNext_12 : decode cX7_isBestNext 12 = .ok (.invokevirtual 70, 3) := by decide +kernel
theorem dX7_isBestNext_15 : decode cX7_isBestNext 15 = .ok (.iload_n 3, 1) := by decide +kernel
theorem dX7_isBestNext_16 : decode cX7_isBestNext 16 = .ok (.invokevirtual 94, 3) := by decide +kernel
theorem dX7_isBestNext_19 : decode cX7_isBestNext 19 = .ok (.aload_n 0, 1) := by decide +kernel
theorem dX7_isBestNext_20 : decode cX7_isBestNext 20 = .ok (.getfield 19, 3) := by decide +kernel
theorem dX7_isBestNext_23 : decode cX7_isBestNext 23 = .ok (.iload_n 2, 1) := by decide +kernel
theorem dX7_isBestNext_24 : decode cX7_isBestNext 24 = .ok (.iconst 1, 1) := by decide +kernel
theorem dX7_isBestNext_25 : decode cX7_isBestNext 25 = .ok (.iload_n 3, 1) := by decide +kernel
theorem dX7_isBestNext_26 : decode cX7_isBestNext 26 = .ok (.ishl, 1) := by decide +kernel
theorem dX7_isBestNext_27 : decode cX7_isBestNext 27 = .ok (.ior, 1) := by decide +kernel
theorem dX7_isBestNext_28 : decode cX7_isBestNext 28 = .ok (.iaload, 1) := by decide +kernel
theorem dX7_isBestNext_29 : decode cX7_isBestNext 29 = .ok (.iadd, 1) := by decide +kernel
theorem dX7_isBestNext_30 : decode cX7_isBestNext 30 = .ok (.aload_n 0, 1) := by decide +kernel
theorem dX7_isBestNext_31 : decode cX7_isBestNext 31 = .ok (.getfield 19, 3) := by decide +kernel
theorem dX7_isBestNext_34 : decode cX7_isBestNext 34 = .ok (.iload_n 2, 1) := by decide +kernel
theorem dX7_isBestNext_35 : decode cX7_isBestNext 35 = .ok (.iaload, 1) := by decide +kernel
theorem dX7_isBestNext_36 : decode cX7_isBestNext 36 = .ok (.if_icmp .ne 7, 3) := by decide +kernel
theorem dX7_isBestNext_39 : decode cX7_isBestNext 39 = .ok (.iconst 1, 1) := by decide +kernel
theorem dX7_isBestNext_40 : decode cX7_isBestNext 40 = .ok (.goto 4, 3) := by decide +kernel
theorem dX7_isBestNext_43 : decode cX7_isBestNext 43 = .ok (.iconst 0, 1) := by decide +kernel
theorem dX7_isBestNext_44 : decode cX7_isBestNext 44 = .ok (.ireturn, 1) := by decide +kernel
theorem dX7_readBestRow_0 : decode cX7_readBestRow 0 = .ok (.iconst 0, 1) := by decide +kernel
theorem dX7_readBestRow_1 : decode cX7_readBestRow 1 = .ok (.istore_n 2, 1) := by decide +kernel
theorem dX7_readBestRow_2 : decode cX7_readBestRow 2 = .ok (.iconst 0, 1) := by decide +kernel
theorem dX7_readBestRow_3 : decode cX7_readBestRow 3 = .ok (.istore_n 3, 1) := by decide +kernel
theorem dX7_readBestRow_4 : decode cX7_readBestRow 4 = .ok (.iload_n 3, 1) := by decide +kernel
theorem dX7_readBestRow_5 : decode cX7_readBestRow 5 = .ok (.aload_n 1, 1) := by decide +kernel
theorem dX7_readBestRow_6 : decode cX7_readBestRow 6 = .ok (.invokevirtual 88, 3) := by decide +kernel
theorem dX7_readBestRow_9 : decode cX7_readBestRow 9 = .ok (.if_icmp .ge 32, 3) := by decide +kernel
theorem dX7_readBestRow_12 : decode cX7_readBestRow 12 = .ok (.aload_n 0, 1) := by decide +kernel
theorem dX7_readBestRow_13 : decode cX7_readBestRow 13 = .ok (.aload_n 1, 1) := by decide +kernel
theorem dX7_readBestRow_14 : decode cX7_readBestRow 14 = .ok (.iload_n 2, 1) := by decide +kernel
theorem dX7_readBestRow_15 : decode cX7_readBestRow 15 = .ok (.invokevirtual 98, 3) := by decide +kernel
theorem dX7_readBestRow_18 : decode cX7_readBestRow 18 = .ok (.istore 4, 2) := by decide +kernel
theorem dX7_readBestRow_20 : decode cX7_readBestRow 20 = .ok (.aload_n 0, 1) := by decide +kernel
theorem dX7_readBestRow_21 : decode cX7_readBestRow 21 = .ok (.getfield 25, 3) := by decide +kernel
theorem dX7_readBestRow_24 : decode cX7_readBestRow 24 = .ok (.iload_n 3, 1) := by decide +kernel
theorem dX7_readBestRow_25 : decode cX7_readBestRow 25 = .ok (.iload 4, 2) := by decide +kernel
theorem dX7_readBestRow_27 : decode cX7_readBestRow 27 = .ok (.iastore, 1) := by decide +kernel
theorem dX7_readBestRow_28 : decode cX7_readBestRow 28 = .ok (.iload_n 2, 1) := by decide +kernel
theorem dX7_readBestRow_29 : decode cX7_readBestRow 29 = .ok (.iconst 1, 1) := by decide +kernel
theorem dX7_readBestRow_30 : decode cX7_readBestRow 30 = .ok (.iload 4, 2) := by decide +kernel
theorem dX7_readBestRow_32 : decode cX7_readBestRow 32 = .ok (.ishl, 1) := by decide +kernel
theorem dX7_readBestRow_33 : decode cX7_readBestRow 33 = .ok (.ior, 1) := by decide +kernel
theorem dX7_readBestRow_34 : decode cX7_readBestRow 34 = .ok (.istore_n 2, 1) := by decide +kernel
theorem dX7_readBestRow_35 : decode cX7_readBestRow 35 = .ok (.iinc 3 1, 3) := by decide +kernel
theorem dX7_readBestRow_38 : decode cX7_readBestRow 38 = .ok (.goto (-34), 3) := by decide +kernel
theorem dX7_readBestRow_41 : decode cX7_readBestRow 41 = .ok (.return_, 1) := by decide +kernel
theorem dX7_leastBestNext_0 : decode cX7_leastBestNext 0 = .ok (.iconst 0, 1) := by decide +kernel
theorem dX7_leastBestNext_1 : decode cX7_leastBestNext 1 = .ok (.istore_n 3, 1) := by decide +kernel
theorem dX7_leastBestNext_2 : decode cX7_leastBestNext 2 = .ok (.iload_n 3, 1) := by decide +kernel
theorem dX7_leastBestNext_3 : decode cX7_leastBestNext 3 = .ok (.aload_n 1, 1) := by decide +kernel
theorem dX7_leastBestNext_4 : decode cX7_leastBestNext 4 = .ok (.invokevirtual 88, 3) := by decide +kernel
theorem dX7_leastBestNext_7 : decode cX7_leastBestNext 7 = .ok (.iconst 1, 1) := by decide +kernel
theorem dX7_leastBestNext_8 : decode cX7_leastBestNext 8 = .ok (.isub, 1) := by decide +kernel
theorem dX7_leastBestNext_9 : decode cX7_leastBestNext 9 = .ok (.if_icmp .ge 21, 3) := by decide +kernel
theorem dX7_leastBestNext_12 : decode cX7_leastBestNext 12 = .ok (.aload_n 0, 1) := by decide +kernel
theorem dX7_leastBestNext_13 : decode cX7_leastBestNext 13 = .ok (.aload_n 1, 1) := by decide +kernel
theorem dX7_leastBestNext_14 : decode cX7_leastBestNext 14 = .ok (.iload_n 2, 1) := by decide +kernel
theorem dX7_leastBestNext_15 : decode cX7_leastBestNext 15 = .ok (.iload_n 3, 1) := by decide +kernel
theorem dX7_leastBestNext_16 : decode cX7_leastBestNext 16 = .ok (.invokevirtual 101, 3) := by decide +kernel
theorem dX7_leastBestNext_19 : decode cX7_leastBestNext 19 = .ok (.ifCond .eq 5, 3) := by decide +kernel
theorem dX7_leastBestNext_22 : decode cX7_leastBestNext 22 = .ok (.iload_n 3, 1) := by decide +kernel
theorem dX7_leastBestNext_23 : decode cX7_leastBestNext 23 = .ok (.ireturn, 1) := by decide +kernel
theorem dX7_leastBestNext_24 : decode cX7_leastBestNext 24 = .ok (.iinc 3 1, 3) := by decide +kernel
theorem dX7_leastBestNext_27 : decode cX7_leastBestNext 27 = .ok (.goto (-25), 3) := by decide +kernel
theorem dX7_leastBestNext_30 : decode cX7_leastBestNext 30 = .ok (.aload_n 1, 1) := by decide +kernel
theorem dX7_leastBestNext_31 : decode cX7_leastBestNext 31 = .ok (.invokevirtual 88, 3) := by decide +kernel
theorem dX7_leastBestNext_34 : decode cX7_leastBestNext 34 = .ok (.iconst 1, 1) := by decide +kernel
theorem dX7_leastBestNext_35 : decode cX7_leastBestNext 35 = .ok (.isub, 1) := by decide +kernel
theorem dX7_leastBestNext_36 : decode cX7_leastBestNext 36 = .ok (.ireturn, 1) := by decide +kernel
theorem dX7_findStanding_0 : decode cX7_findStanding 0 = .ok (.iconst 0, 1) := by decide +kernel
theorem dX7_findStanding_1 : decode cX7_findStanding 1 = .ok (.istore_n 2, 1) := by decide +kernel
theorem dX7_findStanding_2 : decode cX7_findStanding 2 = .ok (.iload_n 2, 1) := by decide +kernel
theorem dX7_findStanding_3 : decode cX7_findStanding 3 = .ok (.aload_n 1, 1) := by decide +kernel
theorem dX7_findStanding_4 : decode cX7_findStanding 4 = .ok (.invokevirtual 88, 3) := by decide +kernel
theorem dX7_findStanding_7 : decode cX7_findStanding 7 = .ok (.if_icmp .ge 16, 3) := by decide +kernel
theorem dX7_findStanding_10 : decode cX7_findStanding 10 = .ok (.aload_n 0, 1) := by decide +kernel
theorem dX7_findStanding_11 : decode cX7_findStanding 11 = .ok (.getfield 31, 3) := by decide +kernel
theorem dX7_findStanding_14 : decode cX7_findStanding 14 = .ok (.iload_n 2, 1) := by decide +kernel
theorem dX7_findStanding_15 : decode cX7_findStanding 15 = .ok (.iconst 0, 1) := by decide +kernel
theorem dX7_findStanding_16 : decode cX7_findStanding 16 = .ok (.iastore, 1) := by decide +kernel
theorem dX7_findStanding_17 : decode cX7_findStanding 17 = .ok (.iinc 2 1, 3) := by decide +kernel
theorem dX7_findStanding_20 : decode cX7_findStanding 20 = .ok (.goto (-18), 3) := by decide +kernel
theorem dX7_findStanding_23 : decode cX7_findStanding 23 = .ok (.aload_n 1, 1) := by decide +kernel
theorem dX7_findStanding_24 : decode cX7_findStanding 24 = .ok (.invokevirtual 63, 3) := by decide +kernel
theorem dX7_findStanding_27 : decode cX7_findStanding 27 = .ok (.istore_n 2, 1) := by decide +kernel
theorem dX7_findStanding_28 : decode cX7_findStanding 28 = .ok (.iconst 1, 1) := by decide +kernel
theorem dX7_findStanding_29 : decode cX7_findStanding 29 = .ok (.istore_n 3, 1) := by decide +kernel
theorem dX7_findStanding_30 : decode cX7_findStanding 30 = .ok (.iload_n 3, 1) := by decide +kernel
theorem dX7_findStanding_31 : decode cX7_findStanding 31 = .ok (.iload_n 2, 1) := by decide +kernel
theorem dX7_findStanding_32 : decode cX7_findStanding 32 = .ok (.if_icmp .gt 46, 3) := by decide +kernel
theorem dX7_findStanding_35 : decode cX7_findStanding 35 = .ok (.aload_n 0, 1) := by decide +kernel
theorem dX7_findStanding_36 : decode cX7_findStanding 36 = .ok (.getfield 19, 3) := by decide +kernel
theorem dX7_findStanding_39 : decode cX7_findStanding 39 = .ok (.iload_n 3, 1) := by decide +kernel
theorem dX7_findStanding_40 : decode cX7_findStanding 40 = .ok (.iaload, 1) := by decide +kernel
theorem dX7_findStanding_41 : decode cX7_findStanding 41 = .ok (.ldc 84, 2) := by decide +kernel
theorem dX7_findStanding_43 : decode cX7_findStanding 43 = .ok (.if_icmp .eq 29, 3) := by decide +kernel
theorem dX7_findStanding_46 : decode cX7_findStanding 46 = .ok (.aload_n 0, 1) := by decide +kernel
theorem dX7_findStanding_47 : decode cX7_findStanding 47 = .ok (.aload_n 1, 1) := by decide +kernel
theorem dX7_findStanding_48 : decode cX7_findStanding 48 = .ok (.iload_n 3, 1) := by decide +kernel
theorem dX7_findStanding_49 : decode cX7_findStanding 49 = .ok (.invokevirtual 105, 3) := by decide +kernel
theorem dX7_findStanding_52 : decode cX7_findStanding 52 = .ok (.ifCond .eq 12, 3) := by decide +kernel
theorem dX7_findStanding_55 : decode cX7_findStanding 55 = .ok (.aload_n 0, 1) := by decide +kernel
theorem dX7_findStanding_56 : decode cX7_findStanding 56 = .ok (.aload_n 1, 1) := by decide +kernel
theorem dX7_findStanding_57 : decode cX7_findStanding 57 = .ok (.iload_n 3, 1) := by decide +kernel
theorem dX7_findStanding_58 : decode cX7_findStanding 58 = .ok (.invokevirtual 109, 3) := by decide +kernel
theorem dX7_findStanding_61 : decode cX7_findStanding 61 = .ok (.goto 11, 3) := by decide +kernel
theorem dX7_findStanding_64 : decode cX7_findStanding 64 = .ok (.aload_n 0, 1) := by decide +kernel
theorem dX7_findStanding_65 : decode cX7_findStanding 65 = .ok (.getfield 19, 3) := by decide +kernel
theorem dX7_findStanding_68 : decode cX7_findStanding 68 = .ok (.iload_n 3, 1) := by decide +kernel
theorem dX7_findStanding_69 : decode cX7_findStanding 69 = .ok (.ldc 84, 2) := by decide +kernel
theorem dX7_findStanding_71 : decode cX7_findStanding 71 = .ok (.iastore, 1) := by decide +kernel
theorem dX7_findStanding_72 : decode cX7_findStanding 72 = .ok (.iinc 3 1, 3) := by decide +kernel
theorem dX7_findStanding_75 : decode cX7_findStanding 75 = .ok (.goto (-45), 3) := by decide +kernel
theorem dX7_findStanding_78 : decode cX7_findStanding 78 = .ok (.return_, 1) := by decide +kernel
theorem dX7_beginsBestOrder_0 : decode cX7_beginsBestOrder 0 = .ok (.iconst 0, 1) := by decide +kernel
theorem dX7_beginsBestOrder_1 : decode cX7_beginsBestOrder 1 = .ok (.istore_n 3, 1) := by decide +kernel
theorem dX7_beginsBestOrder_2 : decode cX7_beginsBestOrder 2 = .ok (.iload_n 3, 1) := by decide +kernel
theorem dX7_beginsBestOrder_3 : decode cX7_beginsBestOrder 3 = .ok (.aload_n 1, 1) := by decide +kernel
theorem dX7_beginsBestOrder_4 : decode cX7_beginsBestOrder 4 = .ok (.invokevirtual 88, 3) := by decide +kernel
theorem dX7_beginsBestOrder_7 : decode cX7_beginsBestOrder 7 = .ok (.if_icmp .ge 49, 3) := by decide +kernel
theorem dX7_beginsBestOrder_10 : decode cX7_beginsBestOrder 10 = .ok (.iload_n 2, 1) := by decide +kernel
theorem dX7_beginsBestOrder_11 : decode cX7_beginsBestOrder 11 = .ok (.iconst 1, 1) := by decide +kernel
theorem dX7_beginsBestOrder_12 : decode cX7_beginsBestOrder 12 = .ok (.iload_n 3, 1) := by decide +kernel
theorem dX7_beginsBestOrder_13 : decode cX7_beginsBestOrder 13 = .ok (.ishl, 1) := by decide +kernel
theorem dX7_beginsBestOrder_14 : decode cX7_beginsBestOrder 14 = .ok (.iconst (-1), 1) := by decide +kernel
theorem dX7_beginsBestOrder_15 : decode cX7_beginsBestOrder 15 = .ok (.ixor, 1) := by decide +kernel
theorem dX7_beginsBestOrder_16 : decode cX7_beginsBestOrder 16 = .ok (.iand, 1) := by decide +kernel
theorem dX7_beginsBestOrder_17 : decode cX7_beginsBestOrder 17 = .ok (.istore 4, 2) := by decide +kernel
theorem dX7_beginsBestOrder_19 : decode cX7_beginsBestOrder 19 = .ok (.iload 4, 2) := by decide +kernel
theorem dX7_beginsBestOrder_21 : decode cX7_beginsBestOrder 21 = .ok (.iload_n 2, 1) := by decide +kernel
theorem dX7_beginsBestOrder_22 : decode cX7_beginsBestOrder 22 = .ok (.if_icmp .eq 28, 3) := by decide +kernel
theorem dX7_beginsBestOrder_25 : decode cX7_beginsBestOrder 25 = .ok (.aload_n 0, 1) := by decide +kernel
theorem dX7_beginsBestOrder_26 : decode cX7_beginsBestOrder 26 = .ok (.getfield 19, 3) := by decide +kernel
theorem dX7_beginsBestOrder_29 : decode cX7_beginsBestOrder 29 = .ok (.iload 4, 2) := by decide +kernel
theorem dX7_beginsBestOrder_31 : decode cX7_beginsBestOrder 31 = .ok (.iaload, 1) := by decide +kernel
theorem dX7_beginsBestOrder_32 : decode cX7_beginsBestOrder 32 = .ok (.ldc 84, 2) := by decide +kernel
theorem dX7_beginsBestOrder_34 : decode cX7_beginsBestOrder 34 = .ok (.if_icmp .eq 16, 3) := by decide +kernel
theorem dX7_beginsBestOrder_37 : decode cX7_beginsBestOrder 37 = .ok (.aload_n 0, 1) := by decide +kernel
theorem dX7_beginsBestOrder_38 : decode cX7_beginsBestOrder 38 = .ok (.aload_n 1, 1) := by decide +kernel
theorem dX7_beginsBestOrder_39 : decode cX7_beginsBestOrder 39 = .ok (.iload 4, 2) := by decide +kernel
theorem dX7_beginsBestOrder_41 : decode cX7_beginsBestOrder 41 = .ok (.iload_n 3, 1) := by decide +kernel
theorem dX7_beginsBestOrder_42 : decode cX7_beginsBestOrder 42 = .ok (.invokevirtual 101, 3) := by decide +kernel
theorem dX7_beginsBestOrder_45 : decode cX7_beginsBestOrder 45 = .ok (.ifCond .eq 5, 3) := by decide +kernel
theorem dX7_beginsBestOrder_48 : decode cX7_beginsBestOrder 48 = .ok (.iconst 1, 1) := by decide +kernel
theorem dX7_beginsBestOrder_49 : decode cX7_beginsBestOrder 49 = .ok (.ireturn, 1) := by decide +kernel
theorem dX7_beginsBestOrder_50 : decode cX7_beginsBestOrder 50 = .ok (.iinc 3 1, 3) := by decide +kernel
theorem dX7_beginsBestOrder_53 : decode cX7_beginsBestOrder 53 = .ok (.goto (-51), 3) := by decide +kernel
theorem dX7_beginsBestOrder_56 : decode cX7_beginsBestOrder 56 = .ok (.iconst 0, 1) := by decide +kernel
theorem dX7_beginsBestOrder_57 : decode cX7_beginsBestOrder 57 = .ok (.ireturn, 1) := by decide +kernel
theorem dX7_noteStanding_0 : decode cX7_noteStanding 0 = .ok (.aload_n 1, 1) := by decide +kernel
theorem dX7_noteStanding_1 : decode cX7_noteStanding 1 = .ok (.invokevirtual 88, 3) := by decide +kernel
theorem dX7_noteStanding_4 : decode cX7_noteStanding 4 = .ok (.istore_n 3, 1) := by decide +kernel
theorem dX7_noteStanding_5 : decode cX7_noteStanding 5 = .ok (.aload_n 1, 1) := by decide +kernel
theorem dX7_noteStanding_6 : decode cX7_noteStanding 6 = .ok (.invokevirtual 63, 3) := by decide +kernel
theorem dX7_noteStanding_9 : decode cX7_noteStanding 9 = .ok (.iload_n 2, 1) := by decide +kernel
theorem dX7_noteStanding_10 : decode cX7_noteStanding 10 = .ok (.iconst (-1), 1) := by decide +kernel
theorem dX7_noteStanding_11 : decode cX7_noteStanding 11 = .ok (.ixor, 1) := by decide +kernel
theorem dX7_noteStanding_12 : decode cX7_noteStanding 12 = .ok (.iand, 1) := by decide +kernel
theorem dX7_noteStanding_13 : decode cX7_noteStanding 13 = .ok (.istore 4, 2) := by decide +kernel
theorem dX7_noteStanding_15 : decode cX7_noteStanding 15 = .ok (.iconst 0, 1) := by decide +kernel
theorem dX7_noteStanding_16 : decode cX7_noteStanding 16 = .ok (.istore 5, 2) := by decide +kernel
theorem dX7_noteStanding_18 : decode cX7_noteStanding 18 = .ok (.iload 5, 2) := by decide +kernel
theorem dX7_noteStanding_20 : decode cX7_noteStanding 20 = .ok (.iload_n 3, 1) := by decide +kernel
theorem dX7_noteStanding_21 : decode cX7_noteStanding 21 = .ok (.if_icmp .ge 31, 3) := by decide +kernel
theorem dX7_noteStanding_24 : decode cX7_noteStanding 24 = .ok (.iload_n 2, 1) := by decide +kernel
theorem dX7_noteStanding_25 : decode cX7_noteStanding 25 = .ok (.iload 5, 2) := by decide +kernel
theorem dX7_noteStanding_27 : decode cX7_noteStanding 27 = .ok (.ishr, 1) := by decide +kernel
theorem dX7_noteStanding_28 : decode cX7_noteStanding 28 = .ok (.iconst 1, 1) := by decide +kernel
theorem dX7_noteStanding_29 : decode cX7_noteStanding 29 = .ok (.iand, 1) := by decide +kernel
theorem dX7_noteStanding_30 : decode cX7_noteStanding 30 = .ok (.iconst 1, 1) := by decide +kernel
theorem dX7_noteStanding_31 : decode cX7_noteStanding 31 = .ok (.if_icmp .ne 15, 3) := by decide +kernel
theorem dX7_noteStanding_34 : decode cX7_noteStanding 34 = .ok (.aload_n 0, 1) := by decide +kernel
theorem dX7_noteStanding_35 : decode cX7_noteStanding 35 = .ok (.getfield 31, 3) := by decide +kernel
theorem dX7_noteStanding_38 : decode cX7_noteStanding 38 = .ok (.iload 5, 2) := by decide +kernel
theorem dX7_noteStanding_40 : decode cX7_noteStanding 40 = .ok (.dup2, 1) := by decide +kernel
theorem dX7_noteStanding_41 : decode cX7_noteStanding 41 = .ok (.iaload, 1) := by decide +kernel
theorem dX7_noteStanding_42 : decode cX7_noteStanding 42 = .ok (.iload 4, 2) := by decide +kernel
theorem dX7_noteStanding_44 : decode cX7_noteStanding 44 = .ok (.ior, 1) := by decide +kernel
theorem dX7_noteStanding_45 : decode cX7_noteStanding 45 = .ok (.iastore, 1) := by decide +kernel
theorem dX7_noteStanding_46 : decode cX7_noteStanding 46 = .ok (.iinc 5 1, 3) := by decide +kernel
theorem dX7_noteStanding_49 : decode cX7_noteStanding 49 = .ok (.goto (-31), 3) := by decide +kernel
theorem dX7_noteStanding_52 : decode cX7_noteStanding 52 = .ok (.return_, 1) := by decide +kernel
theorem dX8_init_0 : decode cX8_init 0 = .ok (.aload_n 0, 1) := by decide +kernel
theorem dX8_init_1 : decode cX8_init 1 = .ok (.invokespecial 3, 3) := by decide +kernel
theorem dX8_init_4 : decode cX8_init 4 = .ok (.aload_n 0, 1) := by decide +kernel
theorem dX8_init_5 : decode cX8_init 5 = .ok (.bipush 20, 2) := by decide +kernel
theorem dX8_init_7 : decode cX8_init 7 = .ok (.newarray .int, 2) := by decide +kernel
theorem dX8_init_9 : decode cX8_init 9 = .ok (.putfield 9, 3) := by decide +kernel
theorem dX8_init_12 : decode cX8_init 12 = .ok (.aload_n 0, 1) := by decide +kernel
theorem dX8_init_13 : decode cX8_init 13 = .ok (.iconst (-1), 1) := by decide +kernel
theorem dX8_init_14 : decode cX8_init 14 = .ok (.putfield 15, 3) := by decide +kernel
theorem dX8_init_17 : decode cX8_init 17 = .ok (.return_, 1) := by decide +kernel
theorem dX8_isMissing_0 : decode cX8_isMissing 0 = .ok (.aload_n 0, 1) := by decide +kernel
theorem dX8_isMissing_1 : decode cX8_isMissing 1 = .ok (.getfield 15, 3) := by decide +kernel
theorem dX8_isMissing_4 : decode cX8_isMissing 4 = .ok (.iconst (-1), 1) := by decide +kernel
theorem dX8_isMissing_5 : decode cX8_isMissing 5 = .ok (.if_icmp .ne 7, 3) := by decide +kernel
theorem dX8_isMissing_8 : decode cX8_isMissing 8 = .ok (.iconst 1, 1) := by decide +kernel
theorem dX8_isMissing_9 : decode cX8_isMissing 9 = .ok (.goto 4, 3) := by decide +kernel
theorem dX8_isMissing_12 : decode cX8_isMissing 12 = .ok (.iconst 0, 1) := by decide +kernel
theorem dX8_isMissing_13 : decode cX8_isMissing 13 = .ok (.ireturn, 1) := by decide +kernel
theorem dX8_isOfSort_0 : decode cX8_isOfSort 0 = .ok (.aload_n 0, 1) := by decide +kernel
theorem dX8_isOfSort_1 : decode cX8_isOfSort 1 = .ok (.getfield 15, 3) := by decide +kernel
theorem dX8_isOfSort_4 : decode cX8_isOfSort 4 = .ok (.iload_n 1, 1) := by decide +kernel
theorem dX8_isOfSort_5 : decode cX8_isOfSort 5 = .ok (.if_icmp .ne 7, 3) := by decide +kernel
theorem dX8_isOfSort_8 : decode cX8_isOfSort 8 = .ok (.iconst 1, 1) := by decide +kernel
theorem dX8_isOfSort_9 : decode cX8_isOfSort 9 = .ok (.goto 4, 3) := by decide +kernel
theorem dX8_isOfSort_12 : decode cX8_isOfSort 12 = .ok (.iconst 0, 1) := by decide +kernel
theorem dX8_isOfSort_13 : decode cX8_isOfSort 13 = .ok (.ireturn, 1) := by decide +kernel
theorem dX8_size_0 : decode cX8_size 0 = .ok (.aload_n 0, 1) := by decide +kernel
theorem dX8_size_1 : decode cX8_size 1 = .ok (.getfield 19, 3) := by decide +kernel
theorem dX8_size_4 : decode cX8_size 4 = .ok (.ireturn, 1) := by decide +kernel
theorem dX8_numberAt_0 : decode cX8_numberAt 0 = .ok (.aload_n 0, 1) := by decide +kernel
theorem dX8_numberAt_1 : decode cX8_numberAt 1 = .ok (.getfield 9, 3) := by decide +kernel
theorem dX8_numberAt_4 : decode cX8_numberAt 4 = .ok (.iload_n 1, 1) := by decide +kernel
theorem dX8_numberAt_5 : decode cX8_numberAt 5 = .ok (.iaload, 1) := by decide +kernel
theorem dX8_numberAt_6 : decode cX8_numberAt 6 = .ok (.ireturn, 1) := by decide +kernel
theorem dX8_make_0 : decode cX8_make 0 = .ok (.aload_n 0, 1) := by decide +kernel
theorem dX8_make_1 : decode cX8_make 1 = .ok (.iload_n 1, 1) := by decide +kernel
theorem dX8_make_2 : decode cX8_make 2 = .ok (.putfield 15, 3) := by decide +kernel
theorem dX8_make_5 : decode cX8_make 5 = .ok (.aload_n 0, 1) := by decide +kernel
theorem dX8_make_6 : decode cX8_make 6 = .ok (.iload_n 2, 1) := by decide +kernel
theorem dX8_make_7 : decode cX8_make 7 = .ok (.putfield 19, 3) := by decide +kernel
theorem dX8_make_10 : decode cX8_make 10 = .ok (.iconst 0, 1) := by decide +kernel
theorem dX8_make_11 : decode cX8_make 11 = .ok (.istore_n 3, 1) := by decide +kernel
theorem dX8_make_12 : decode cX8_make 12 = .ok (.iload_n 3, 1) := by decide +kernel
theorem dX8_make_13 : decode cX8_make 13 = .ok (.bipush 20, 2) := by decide +kernel
theorem dX8_make_15 : decode cX8_make 15 = .ok (.if_icmp .ge 16, 3) := by decide +kernel
theorem dX8_make_18 : decode cX8_make 18 = .ok (.aload_n 0, 1) := by decide +kernel
theorem dX8_make_19 : decode cX8_make 19 = .ok (.getfield 9, 3) := by decide +kernel
theorem dX8_make_22 : decode cX8_make 22 = .ok (.iload_n 3, 1) := by decide +kernel
theorem dX8_make_23 : decode cX8_make 23 = .ok (.iconst 0, 1) := by decide +kernel
theorem dX8_make_24 : decode cX8_make 24 = .ok (.iastore, 1) := by decide +kernel
theorem dX8_make_25 : decode cX8_make 25 = .ok (.iinc 3 1, 3) := by decide +kernel
theorem dX8_make_28 : decode cX8_make 28 = .ok (.goto (-16), 3) := by decide +kernel
theorem dX8_make_31 : decode cX8_make 31 = .ok (.return_, 1) := by decide +kernel
theorem dX8_remove_0 : decode cX8_remove 0 = .ok (.aload_n 0, 1) := by decide +kernel
theorem dX8_remove_1 : decode cX8_remove 1 = .ok (.iconst (-1), 1) := by decide +kernel
theorem dX8_remove_2 : decode cX8_remove 2 = .ok (.putfield 15, 3) := by decide +kernel
theorem dX8_remove_5 : decode cX8_remove 5 = .ok (.aload_n 0, 1) := by decide +kernel
theorem dX8_remove_6 : decode cX8_remove 6 = .ok (.iconst 0, 1) := by decide +kernel
theorem dX8_remove_7 : decode cX8_remove 7 = .ok (.putfield 19, 3) := by decide +kernel
theorem dX8_remove_10 : decode cX8_remove 10 = .ok (.return_, 1) := by decide +kernel
theorem dX8_write_0 : decode cX8_write 0 = .ok (.aload_n 0, 1) := by decide +kernel
theorem dX8_write_1 : decode cX8_write 1 = .ok (.getfield 9, 3) := by decide +kernel
theorem dX8_write_4 : decode cX8_write 4 = .ok (.iload_n 1, 1) := by decide +kernel
theorem dX8_write_5 : decode cX8_write 5 = .ok (.aload_n 0, 1) := by decide +kernel
theorem dX8_write_6 : decode cX8_write 6 = .ok (.getfield 15, 3) := by decide +kernel
theorem dX8_write_9 : decode cX8_write 9 = .ok (.ifCond .ne 8, 3) := by decide +kernel
theorem dX8_write_12 : decode cX8_write 12 = .ok (.iload_n 2, 1) := by decide +kernel
theorem dX8_write_13 : decode cX8_write 13 = .ok (.i2s, 1) := by decide +kernel
theorem dX8_write_14 : decode cX8_write 14 = .ok (.goto 4, 3) := by decide +kernel
theorem dX8_write_17 : decode cX8_write 17 = .ok (.iload_n 2, 1) := by decide +kernel
theorem dX8_write_18 : decode cX8_write 18 = .ok (.iastore, 1) := by decide +kernel
theorem dX8_write_19 : decode cX8_write 19 = .ok (.return_, 1) := by decide +kernel
theorem dX8_refusalAs_0 : decode cX8_refusalAs 0 = .ok (.aload_n 0, 1) := by decide +kernel
theorem dX8_refusalAs_1 : decode cX8_refusalAs 1 = .ok (.invokevirtual 22, 3) := by decide +kernel
theorem dX8_refusalAs_4 : decode cX8_refusalAs 4 = .ok (.ifCond .eq 6, 3) := by decide +kernel
theorem dX8_refusalAs_7 : decode cX8_refusalAs 7 = .ok (.bipush 10, 2) := by decide +kernel
theorem dX8_refusalAs_9 : decode cX8_refusalAs 9 = .ok (.ireturn, 1) := by decide +kernel
theorem dX8_refusalAs_10 : decode cX8_refusalAs 10 = .ok (.aload_n 0, 1) := by decide +kernel
theorem dX8_refusalAs_11 : decode cX8_refusalAs 11 = .ok (.iload_n 1, 1) := by decide +kernel
theorem dX8_refusalAs_12 : decode cX8_refusalAs 12 = .ok (.invokevirtual 26, 3) := by decide +kernel
theorem dX8_refusalAs_15 : decode cX8_refusalAs 15 = .ok (.ifCond .eq 7, 3) := by decide +kernel
theorem dX8_refusalAs_18 : decode cX8_refusalAs 18 = .ok (.iconst 0, 1) := by decide +kernel
theorem dX8_refusalAs_19 : decode cX8_refusalAs 19 = .ok (.goto 5, 3) := by decide +kernel
theorem dX8_refusalAs_22 : decode cX8_refusalAs 22 = .ok (.bipush 11, 2) := by decide +kernel
theorem dX8_refusalAs_24 : decode cX8_refusalAs 24 = .ok (.ireturn, 1) := by decide +kernel
theorem dX8_sumFrom_0 : decode cX8_sumFrom 0 = .ok (.iconst 0, 1) := by decide +kernel
theorem dX8_sumFrom_1 : decode cX8_sumFrom 1 = .ok (.istore_n 3, 1) := by decide +kernel
theorem dX8_sumFrom_2 : decode cX8_sumFrom 2 = .ok (.iload_n 1, 1) := by decide +kernel
theorem dX8_sumFrom_3 : decode cX8_sumFrom 3 = .ok (.istore 4, 2) := by decide +kernel
theorem dX8_sumFrom_5 : decode cX8_sumFrom 5 = .ok (.iload 4, 2) := by decide +kernel
theorem dX8_sumFrom_7 : decode cX8_sumFrom 7 = .ok (.iload_n 1, 1) := by decide +kernel
theorem dX8_sumFrom_8 : decode cX8_sumFrom 8 = .ok (.iload_n 2, 1) := by decide +kernel
theorem dX8_sumFrom_9 : decode cX8_sumFrom 9 = .ok (.iadd, 1) := by decide +kernel
theorem dX8_sumFrom_10 : decode cX8_sumFrom 10 = .ok (.if_icmp .ge 19, 3) := by decide +kernel
theorem dX8_sumFrom_13 : decode cX8_sumFrom 13 = .ok (.iload_n 3, 1) := by decide +kernel
theorem dX8_sumFrom_14 : decode cX8_sumFrom 14 = .ok (.aload_n 0, 1) := by decide +kernel
theorem dX8_sumFrom_15 : decode cX8_sumFrom 15 = .ok (.getfield 9, 3) := by decide +kernel
theorem dX8_sumFrom_18 : decode cX8_sumFrom 18 = .ok (.iload 4, 2) := by decide +kernel
theorem dX8_sumFrom_20 : decode cX8_sumFrom 20 = .ok (.iaload, 1) := by decide +kernel
theorem dX8_sumFrom_21 : decode cX8_sumFrom 21 = .ok (.iadd, 1) := by decide +kernel
theorem dX8_sumFrom_22 : decode cX8_sumFrom 22 = .ok (.istore_n 3, 1) := by decide +kernel
theorem dX8_sumFrom_23 : decode cX8_sumFrom 23 = .ok (.iinc 4 1, 3) := by decide +kernel
theorem dX8_sumFrom_26 : decode cX8_sumFrom 26 = .ok (.goto (-21), 3) := by decide +kernel
theorem dX8_sumFrom_29 : decode cX8_sumFrom 29 = .ok (.iload_n 3, 1) := by decide +kernel
theorem dX8_sumFrom_30 : decode cX8_sumFrom 30 = .ok (.ireturn, 1) := by decide +kernel
theorem dX9_init_0 : decode cX9_init 0 = .ok (.aload_n 0, 1) := by decide +kernel
theorem dX9_init_1 : decode cX9_init 1 = .ok (.invokespecial 1, 3) := by decide +kernel
theorem dX9_init_4 : decode cX9_init 4 = .ok (.return_, 1) := by decide +kernel
theorem dX9_last_0 : decode cX9_last 0 = .ok (.aload_n 1, 1) := by decide +kernel
theorem dX9_last_1 : decode cX9_last 1 = .ok (.bipush 20, 2) := by decide +kernel
theorem dX9_last_3 : decode cX9_last 3 = .ok (.invokevirtual 7, 3) := by decide +kernel
theorem dX9_last_6 : decode cX9_last 6 = .ok (.aload_n 0, 1) := by decide +kernel
theorem dX9_last_7 : decode cX9_last 7 = .ok (.aload_n 1, 1) := by decide +kernel
theorem dX9_last_8 : decode cX9_last 8 = .ok (.iload_n 2, 1) := by decide +kernel
theorem dX9_last_9 : decode cX9_last 9 = .ok (.invokespecial 13, 3) := by decide +kernel
theorem dX9_last_12 : decode cX9_last 12 = .ok (.iconst 2, 1) := by decide +kernel
theorem dX9_last_13 : decode cX9_last 13 = .ok (.imul, 1) := by decide +kernel
theorem dX9_last_14 : decode cX9_last 14 = .ok (.ireturn, 1) := by decide +kernel
theorem dX9_tell_0 : decode cX9_tell 0 = .ok (.aload_n 1, 1) := by decide +kernel
theorem dX9_tell_1 : decode cX9_tell 1 = .ok (.bipush 21, 2) := by decide +kernel
theorem dX9_tell_3 : decode cX9_tell 3 = .ok (.invokevirtual 7, 3) := by decide +kernel
theorem dX9_tell_6 : decode cX9_tell 6 = .ok (.aload_n 0, 1) := by decide +kernel
theorem dX9_tell_7 : decode cX9_tell 7 = .ok (.aload_n 1, 1) := by decide +kernel
theorem dX9_tell_8 : decode cX9_tell 8 = .ok (.iload_n 2, 1) := by decide +kernel
theorem dX9_tell_9 : decode cX9_tell 9 = .ok (.iconst 1, 1) := by decide +kernel
theorem dX9_tell_10 : decode cX9_tell 10 = .ok (.iadd, 1) := by decide +kernel
theorem dX9_tell_11 : decode cX9_tell 11 = .ok (.invokespecial 17, 3) := by decide +kernel
theorem dX9_tell_14 : decode cX9_tell 14 = .ok (.iconst 3, 1) := by decide +kernel
theorem dX9_tell_15 : decode cX9_tell 15 = .ok (.ixor, 1) := by decide +kernel
theorem dX9_tell_16 : decode cX9_tell 16 = .ok (.ireturn, 1) := by decide +kernel
theorem dX10_init_0 : decode cX10_init 0 = .ok (.aload_n 0, 1) := by decide +kernel
theorem dX10_init_1 : decode cX10_init 1 = .ok (.invokespecial 5, 3) := by decide +kernel
theorem dX10_init_4 : decode cX10_init 4 = .ok (.aload_n 0, 1) := by decide +kernel
theorem dX10_init_5 : decode cX10_init 5 = .ok (.iconst 3, 1) := by decide +kernel
theorem dX10_init_6 : decode cX10_init 6 = .ok (.bipush 12, 2) := by decide +kernel
theorem dX10_init_8 : decode cX10_init 8 = .ok (.multianewarray 11 2, 4) := by decide +kernel
theorem dX10_init_12 : decode cX10_init 12 = .ok (.putfield 13, 3) := by decide +kernel
theorem dX10_init_15 : decode cX10_init 15 = .ok (.aload_n 0, 1) := by decide +kernel
theorem dX10_init_16 : decode cX10_init 16 = .ok (.bipush 12, 2) := by decide +kernel
theorem dX10_init_18 : decode cX10_init 18 = .ok (.newarray .int, 2) := by decide +kernel
theorem dX10_init_20 : decode cX10_init 20 = .ok (.putfield 16, 3) := by decide +kernel
theorem dX10_init_23 : decode cX10_init 23 = .ok (.aload_n 0, 1) := by decide +kernel
theorem dX10_init_24 : decode cX10_init 24 = .ok (.bipush 12, 2) := by decide +kernel
theorem dX10_init_26 : decode cX10_init 26 = .ok (.newarray .int, 2) := by decide +kernel
theorem dX10_init_28 : decode cX10_init 28 = .ok (.putfield 20, 3) := by decide +kernel
theorem dX10_init_31 : decode cX10_init 31 = .ok (.aload_n 0, 1) := by decide +kernel
theorem dX10_init_32 : decode cX10_init 32 = .ok (.bipush 12, 2) := by decide +kernel
theorem dX10_init_34 : decode cX10_init 34 = .ok (.newarray .int, 2) := by decide +kernel
theorem dX10_init_36 : decode cX10_init 36 = .ok (.putfield 23, 3) := by decide +kernel
theorem dX10_init_39 : decode cX10_init 39 = .ok (.aload_n 0, 1) := by decide +kernel
theorem dX10_init_40 : decode cX10_init 40 = .ok (.sipush 128, 3) := by decide +kernel
theorem dX10_init_43 : decode cX10_init 43 = .ok (.newarray .int, 2) := by decide +kernel
theorem dX10_init_45 : decode cX10_init 45 = .ok (.putfield 26, 3) := by decide +kernel
theorem dX10_init_48 : decode cX10_init 48 = .ok (.aload_n 0, 1) := by decide +kernel
theorem dX10_init_49 : decode cX10_init 49 = .ok (.sipush 128, 3) := by decide +kernel
theorem dX10_init_52 : decode cX10_init 52 = .ok (.newarray .int, 2) := by decide +kernel
theorem dX10_init_54 : decode cX10_init 54 = .ok (.putfield 29, 3) := by decide +kernel
theorem dX10_init_57 : decode cX10_init 57 = .ok (.aload_n 0, 1) := by decide +kernel
theorem dX10_init_58 : decode cX10_init 58 = .ok (.sipush 128, 3) := by decide +kernel
theorem dX10_init_61 : decode cX10_init 61 = .ok (.newarray .int, 2) := by decide +kernel
theorem dX10_init_63 : decode cX10_init 63 = .ok (.putfield 32, 3) := by decide +kernel
theorem dX10_init_66 : decode cX10_init 66 = .ok (.return_, 1) := by decide +kernel
theorem dX10_allows_0 : decode cX10_allows 0 = .ok (.iload_n 0, 1) := by decide +kernel
theorem dX10_allows_1 : decode cX10_allows 1 = .ok (.ifCond .lt 30, 3) := by decide +kernel
theorem dX10_allows_4 : decode cX10_allows 4 = .ok (.iload_n 0, 1) := by decide +kernel
theorem dX10_allows_5 : decode cX10_allows 5 = .ok (.iconst 2, 1) := by decide +kernel
theorem dX10_allows_6 : decode cX10_allows 6 = .ok (.if_icmp .gt 25, 3) := by decide +kernel
theorem dX10_allows_9 : decode cX10_allows 9 = .ok (.iload_n 1, 1) := by decide +kernel
theorem dX10_allows_10 : decode cX10_allows 10 = .ok (.getstatic 35, 3) := by decide +kernel
theorem dX10_allows_13 : decode cX10_allows 13 = .ok (.iload_n 0, 1) := by decide +kernel
theorem dX10_allows_14 : decode cX10_allows 14 = .ok (.iaload, 1) := by decide +kernel
theorem dX10_allows_15 : decode cX10_allows 15 = .ok (.if_icmp .lt 16, 3) := by decide +kernel
theorem dX10_allows_18 : decode cX10_allows 18 = .ok (.iload_n 1, 1) := by decide +kernel
theorem dX10_allows_19 : decode cX10_allows 19 = .ok (.getstatic 38, 3) := by decide +kernel
theorem dX10_allows_22 : decode cX10_allows 22 = .ok (.iload_n 0, 1) := by decide +kernel
theorem dX10_allows_23 : decode cX10_allows 23 = .ok (.iaload, 1) := by decide +kernel
theorem dX10_allows_24 : decode cX10_allows 24 = .ok (.if_icmp .gt 7, 3) := by decide +kernel
theorem dX10_allows_27 : decode cX10_allows 27 = .ok (.iconst 1, 1) := by decide +kernel
theorem dX10_allows_28 : decode cX10_allows 28 = .ok (.goto 4, 3) := by decide +kernel
theorem dX10_allows_31 : decode cX10_allows 31 = .ok (.iconst 0, 1) := by decide +kernel
theorem dX10_allows_32 : decode cX10_allows 32 = .ok (.ireturn, 1) := by decide +kernel
theorem dX10_jobOfCrossing_0 : decode cX10_jobOfCrossing 0 = .ok (.iload_n 0, 1) := by decide +kernel
theorem dX10_jobOfCrossing_1 : decode cX10_jobOfCrossing 1 = .ok (.iconst 4, 1) := by decide +kernel
theorem dX10_jobOfCrossing_2 : decode cX10_jobOfCrossing 2 = .ok (.iload_n 1, 1) := by decide +kernel
theorem dX10_jobOfCrossing_3 : decode cX10_jobOfCrossing 3 = .ok (.imul, 1) := by decide +kernel
theorem dX10_jobOfCrossing_4 : decode cX10_jobOfCrossing 4 = .ok (.ishr, 1) := by decide +kernel
theorem dX10_jobOfCrossing_5 : decode cX10_jobOfCrossing 5 = .ok (.bipush 15, 2) := by decide +kernel
theorem dX10_jobOfCrossing_7 : decode cX10_jobOfCrossing 7 = .ok (.iand, 1) := by decide +kernel
theorem dX10_jobOfCrossing_8 : decode cX10_jobOfCrossing 8 = .ok (.ireturn, 1) := by decide +kernel
theorem dX10_has_0 : decode cX10_has 0 = .ok (.iload_n 1, 1) := by decide +kernel
theorem dX10_has_1 : decode cX10_has 1 = .ok (.ifCond .lt 15, 3) := by decide +kernel
theorem dX10_has_4 : decode cX10_has 4 = .ok (.iload_n 1, 1) := by decide +kernel
theorem dX10_has_5 : decode cX10_has 5 = .ok (.aload_n 0, 1) := by decide +kernel
theorem dX10_has_6 : decode cX10_has 6 = .ok (.getfield 41, 3) := by decide +kernel
theorem dX10_has_9 : decode cX10_has 9 = .ok (.if_icmp .ge 7, 3) := by decide +kernel
theorem dX10_has_12 : decode cX10_has 12 = .ok (.iconst 1, 1) := by decide +kernel
theorem dX10_has_13 : decode cX10_has 13 = .ok (.goto 4, 3) := by decide +kernel
theorem dX10_has_16 : decode cX10_has 16 = .ok (.iconst 0, 1) := by decide +kernel
theorem dX10_has_17 : decode cX10_has 17 = .ok (.ireturn, 1) := by decide +kernel
theorem dX10_isFull_0 : decode cX10_isFull 0 = .ok (.aload_n 0, 1) := by decide +kernel
theorem dX10_isFull_1 : decode cX10_isFull 1 = .ok (.getfield 41, 3) := by decide +kernel
theorem dX10_isFull_4 : decode cX10_isFull 4 = .ok (.bipush 12, 2) := by decide +kernel
theorem dX10_isFull_6 : decode cX10_isFull 6 = .ok (.if_icmp .lt 7, 3) := by decide +kernel
theorem dX10_isFull_9 : decode cX10_isFull 9 = .ok (.iconst 1, 1) := by decide +kernel
theorem dX10_isFull_10 : decode cX10_isFull 10 = .ok (.goto 4, 3) := by decide +kernel
theorem dX10_isFull_13 : decode cX10_isFull 13 = .ok (.iconst 0, 1) := by decide +kernel
theorem dX10_isFull_14 : decode cX10_isFull 14 = .ok (.ireturn, 1) := by decide +kernel
theorem dX10_jobs_0 : decode cX10_jobs 0 = .ok (.aload_n 0, 1) := by decide +kernel
theorem dX10_jobs_1 : decode cX10_jobs 1 = .ok (.getfield 41, 3) := by decide +kernel
theorem dX10_jobs_4 : decode cX10_jobs 4 = .ok (.ireturn, 1) := by decide +kernel
theorem dX10_laidPairs_0 : decode cX10_laidPairs 0 = .ok (.aload_n 0, 1) := by decide +kernel
theorem dX10_laidPairs_1 : decode cX10_laidPairs 1 = .ok (.getfield 45, 3) := by decide +kernel
theorem dX10_laidPairs_4 : decode cX10_laidPairs 4 = .ok (.ireturn, 1) := by decide +kernel
theorem dX10_version_0 : decode cX10_version 0 = .ok (.aload_n 0, 1) := by decide +kernel
theorem dX10_version_1 : decode cX10_version 1 = .ok (.getfield 48, 3) := by decide +kernel
theorem dX10_version_4 : decode cX10_version 4 = .ok (.ireturn, 1) := by decide +kernel
theorem dX10_everyJob_0 : decode cX10_everyJob 0 = .ok (.iconst 1, 1) := by decide +kernel
theorem dX10_everyJob_1 : decode cX10_everyJob 1 = .ok (.aload_n 0, 1) := by decide +kernel
theorem dX10_everyJob_2 : decode cX10_everyJob 2 = .ok (.getfield 41, 3) := by decide +kernel
theorem dX10_everyJob_5 : decode cX10_everyJob 5 = .ok (.ishl, 1) := by decide +kernel
theorem dX10_everyJob_6 : decode cX10_everyJob 6 = .ok (.iconst 1, 1) := by decide +kernel
theorem dX10_everyJob_7 : decode cX10_everyJob 7 = .ok (.isub, 1) := by decide +kernel
theorem dX10_everyJob_8 : decode cX10_everyJob 8 = .ok (.ireturn, 1) := by decide +kernel
theorem dX10_measure_0 : decode cX10_measure 0 = .ok (.aload_n 0, 1) := by decide +kernel
theorem dX10_measure_1 : decode cX10_measure 1 = .ok (.getfield 13, 3) := by decide +kernel
theorem dX10_measure_4 : decode cX10_measure 4 = .ok (.iload_n 2, 1) := by decide +kernel
theorem dX10_measure_5 : decode cX10_measure 5 = .ok (.aaload, 1) := by decide +kernel
theorem dX10_measure_6 : decode cX10_measure 6 = .ok (.iload_n 1, 1) := by decide +kernel
theorem dX10_measure_7 : decode cX10_measure 7 = .ok (.iaload, 1) := by decide +kernel
theorem dX10_measure_8 : decode cX10_measure 8 = .ok (.ireturn, 1) := by decide +kernel
theorem dX10_aheadOf_0 : decode cX10_aheadOf 0 = .ok (.aload_n 0, 1) := by decide +kernel
theorem dX10_aheadOf_1 : decode cX10_aheadOf 1 = .ok (.getfield 20, 3) := by decide +kernel
theorem dX10_aheadOf_4 : decode cX10_aheadOf 4 = .ok (.iload_n 1, 1) := by decide +kernel
theorem dX10_aheadOf_5 : decode cX10_aheadOf 5 = .ok (.iaload, 1) := by decide +kernel
theorem dX10_aheadOf_6 : decode cX10_aheadOf 6 = .ok (.ireturn, 1) := by decide +kernel
theorem dX10_behind_0 : decode cX10_behind 0 = .ok (.aload_n 0, 1) := by decide +kernel
theorem dX10_behind_1 : decode cX10_behind 1 = .ok (.getfield 23, 3) := by decide +kernel
theorem dX10_behind_4 : decode cX10_behind 4 = .ok (.iload_n 1, 1) := by decide +kernel
theorem dX10_behind_5 : decode cX10_behind 5 = .ok (.iaload, 1) := by decide +kernel
theorem dX10_behind_6 : decode cX10_behind 6 = .ok (.ireturn, 1) := by decide +kernel
theorem dX10_isLaid_0 : decode cX10_isLaid 0 = .ok (.aload_n 0, 1) := by decide +kernel
theorem dX10_isLaid_1 : decode cX10_isLaid 1 = .ok (.getfield 16, 3) := by decide +kernel
theorem dX10_isLaid_4 : decode cX10_isLaid 4 = .ok (.iload_n 1, 1) := by decide +kernel
theorem dX10_isLaid_5 : decode cX10_isLaid 5 = .ok (.iaload, 1) := by decide +kernel
theorem dX10_isLaid_6 : decode cX10_isLaid 6 = .ok (.iload_n 2, 1) := by decide +kernel
theorem dX10_isLaid_7 : decode cX10_isLaid 7 = .ok (.invokestatic 51, 3) := by decide +kernel
theorem dX10_isLaid_10 : decode cX10_isLaid 10 = .ok (.ireturn, 1) := by decide +kernel
theorem dX10_isAhead_0 : decode cX10_isAhead 0 = .ok (.aload_n 0, 1) := by decide +kernel
theorem dX10_isAhead_1 : decode cX10_isAhead 1 = .ok (.getfield 23, 3) := by decide +kernel
theorem dX10_isAhead_4 : decode cX10_isAhead 4 = .ok (.iload_n 1, 1) := by decide +kernel
theorem dX10_isAhead_5 : decode cX10_isAhead 5 = .ok (.iaload, 1) := by decide +kernel
theorem dX10_isAhead_6 : decode cX10_isAhead 6 = .ok (.iload_n 2, 1) := by decide +kernel
theorem dX10_isAhead_7 : decode cX10_isAhead 7 = .ok (.invokestatic 51, 3) := by decide +kernel
theorem dX10_isAhead_10 : decode cX10_isAhead 10 = .ok (.ireturn, 1) := by decide +kernel
theorem dX10_add_0 : decode cX10_add 0 = .ok (.aload_n 0, 1) := by decide +kernel
theorem dX10_add_1 : decode cX10_add 1 = .ok (.getfield 41, 3) := by decide +kernel
theorem dX10_add_4 : decode cX10_add 4 = .ok (.istore_n 3, 1) := by decide +kernel
theorem dX10_add_5 : decode cX10_add 5 = .ok (.aload_n 0, 1) := by decide +kernel
theorem dX10_add_6 : decode cX10_add 6 = .ok (.getfield 13, 3) := by decide +kernel
theorem dX10_add_9 : decode cX10_add 9 = .ok (.iconst 0, 1) := by decide +kernel
theorem dX10_add_10 : decode cX10_add 10 = .ok (.aaload, 1) := by decide +kernel
theorem dX10_add_11 : decode cX10_add 11 = .ok (.iload_n 3, 1) := by decide +kernel
theorem dX10_add_12 : decode cX10_add 12 = .ok (.iload_n 1, 1) := by decide +kernel
theorem dX10_add_13 : decode cX10_add 13 = .ok (.iastore, 1) := by decide +kernel
theorem dX10_add_14 : decode cX10_add 14 = .ok (.aload_n 0, 1) := by decide +kernel
theorem dX10_add_15 : decode cX10_add 15 = .ok (.getfield 13, 3) := by decide +kernel
theorem dX10_add_18 : decode cX10_add 18 = .ok (.iconst 1, 1) := by decide +kernel
theorem dX10_add_19 : decode cX10_add 19 = .ok (.aaload, 1) := by decide +kernel
theorem dX10_add_20 : decode cX10_add 20 = .ok (.iload_n 3, 1) := by decide +kernel
theorem dX10_add_21 : decode cX10_add 21 = .ok (.iload_n 2, 1) := by decide +kernel
theorem dX10_add_22 : decode cX10_add 22 = .ok (.iastore, 1) := by decide +kernel
theorem dX10_add_23 : decode cX10_add 23 = .ok (.aload_n 0, 1) := by decide +kernel
theorem dX10_add_24 : decode cX10_add 24 = .ok (.getfield 13, 3) := by decide +kernel
theorem dX10_add_27 : decode cX10_add 27 = .ok (.iconst 2, 1) := by decide +kernel
theorem dX10_add_28 : decode cX10_add 28 = .ok (.aaload, 1) := by decide +kernel
theorem dX10_add_29 : decode cX10_add 29 = .ok (.iload_n 3, 1) := by decide +kernel
theorem dX10_add_30 : decode cX10_add 30 = .ok (.iconst 0, 1) := by decide +kernel
theorem dX10_add_31 : decode cX10_add 31 = .ok (.iastore, 1) := by decide +kernel
theorem dX10_add_32 : decode cX10_add 32 = .ok (.aload_n 0, 1) := by decide +kernel
theorem dX10_add_33 : decode cX10_add 33 = .ok (.dup, 1) := by decide +kernel
theorem dX10_add_34 : decode cX10_add 34 = .ok (.getfield 41, 3) := by decide +kernel
theorem dX10_add_37 : decode cX10_add 37 = .ok (.iconst 1, 1) := by decide +kernel
theorem dX10_add_38 : decode cX10_add 38 = .ok (.iadd, 1) := by decide +kernel
theorem dX10_add_39 : decode cX10_add 39 = .ok (.putfield 41, 3) := by decide +kernel
theorem dX10_add_42 : decode cX10_add 42 = .ok (.aload_n 0, 1) := by decide +kernel
theorem dX10_add_43 : decode cX10_add 43 = .ok (.invokevirtual 55, 3) := by decide +kernel
theorem dX10_add_46 : decode cX10_add 46 = .ok (.iload_n 3, 1) := by decide +kernel
theorem dX10_add_47 : decode cX10_add 47 = .ok (.ireturn, 1) := by decide +kernel
theorem dX10_removeLast_0 : decode cX10_removeLast 0 = .ok (.aload_n 0, 1) := by decide +kernel
theorem dX10_removeLast_1 : decode cX10_removeLast 1 = .ok (.getfield 41, 3) := by decide +kernel
theorem dX10_removeLast_4 : decode cX10_removeLast 4 = .ok (.ifCond .le 13, 3) := by decide +kernel
theorem dX10_removeLast_7 : decode cX10_removeLast 7 = .ok (.aload_n 0, 1) := by decide +kernel
theorem dX10_removeLast_8 : decode cX10_removeLast 8 = .ok (.dup, 1) := by decide +kernel
theorem dX10_removeLast_9 : decode cX10_removeLast 9 = .ok (.getfield 41, 3) := by decide +kernel
theorem dX10_removeLast_12 : decode cX10_removeLast 12 = .ok (.iconst 1, 1) := by decide +kernel
theorem dX10_removeLast_13 : decode cX10_removeLast 13 = .ok (.isub, 1) := by decide +kernel
theorem dX10_removeLast_14 : decode cX10_removeLast 14 = .ok (.putfield 41, 3) := by decide +kernel
theorem dX10_removeLast_17 : decode cX10_removeLast 17 = .ok (.aload_n 0, 1) := by decide +kernel
theorem dX10_removeLast_18 : decode cX10_removeLast 18 = .ok (.invokevirtual 55, 3) := by decide +kernel
theorem dX10_removeLast_21 : decode cX10_removeLast 21 = .ok (.return_, 1) := by decide +kernel
theorem dX10_measureAnew_0 : decode cX10_measureAnew 0 = .ok (.aload_n 0, 1) := by decide +kernel
theorem dX10_measureAnew_1 : decode cX10_measureAnew 1 = .ok (.getfield 13, 3) := by decide +kernel
theorem dX10_measureAnew_4 : decode cX10_measureAnew 4 = .ok (.iload_n 2, 1) := by decide +kernel
theorem dX10_measureAnew_5 : decode cX10_measureAnew 5 = .ok (.aaload, 1) := by decide +kernel
theorem dX10_measureAnew_6 : decode cX10_measureAnew 6 = .ok (.iload_n 1, 1) := by decide +kernel
theorem dX10_measureAnew_7 : decode cX10_measureAnew 7 = .ok (.iload_n 3, 1) := by decide +kernel
theorem dX10_measureAnew_8 : decode cX10_measureAnew 8 = .ok (.iastore, 1) := by decide +kernel
theorem dX10_measureAnew_9 : decode cX10_measureAnew 9 = .ok (.iload_n 2, 1) := by decide +kernel
theorem dX10_measureAnew_10 : decode cX10_measureAnew 10 = .ok (.iconst 2, 1) := by decide +kernel
theorem dX10_measureAnew_11 : decode cX10_measureAnew 11 = .ok (.if_icmp .eq 7, 3) := by decide +kernel
theorem dX10_measureAnew_14 : decode cX10_measureAnew 14 = .ok (.aload_n 0, 1) := by decide +kernel
theorem dX10_measureAnew_15 : decode cX10_measureAnew 15 = .ok (.invokevirtual 55, 3) := by decide +kernel
theorem dX10_measureAnew_18 : decode cX10_measureAnew 18 = .ok (.return_, 1) := by decide +kernel
theorem dX10_bind_0 : decode cX10_bind 0 = .ok (.aload_n 0, 1) := by decide +kernel
theorem dX10_bind_1 : decode cX10_bind 1 = .ok (.getfield 16, 3) := by decide +kernel
theorem dX10_bind_4 : decode cX10_bind 4 = .ok (.iload_n 1, 1) := by decide +kernel
theorem dX10_bind_5 : decode cX10_bind 5 = .ok (.dup2, 1) := by decide +kernel
theorem dX10_bind_6 : decode cX10_bind 6 = .ok (.iaload, 1) := by decide +kernel
theorem dX10_bind_7 : decode cX10_bind 7 = .ok (.iconst 1, 1) := by decide +kernel
theorem dX10_bind_8 : decode cX10_bind 8 = .ok (.iload_n 2, 1) := by decide +kernel
theorem dX10_bind_9 : decode cX10_bind 9 = .ok (.ishl, 1) := by decide +kernel
theorem dX10_bind_10 : decode cX10_bind 10 = .ok (.ior, 1) := by decide +kernel
theorem dX10_bind_11 : decode cX10_bind 11 = .ok (.iastore, 1) := by decide +kernel
theorem dX10_bind_12 : decode cX10_bind 12 = .ok (.aload_n 0, 1) := by decide +kernel
theorem dX10_bind_13 : decode cX10_bind 13 = .ok (.dup, 1) := by decide +kernel
theorem dX10_bind_14 : decode cX10_bind 14 = .ok (.getfield 45, 3) := by decide +kernel
theorem dX10_bind_17 : decode cX10_bind 17 = .ok (.iconst 1, 1) := by decide +kernel
theorem dX10_bind_18 : decode cX10_bind 18 = .ok (.iadd, 1) := by decide +kernel
theorem dX10_bind_19 : decode cX10_bind 19 = .ok (.putfield 45, 3) := by decide +kernel
theorem dX10_bind_22 : decode cX10_bind 22 = .ok (.aload_n 0, 1) := by decide +kernel
theorem dX10_bind_23 : decode cX10_bind 23 = .ok (.invokevirtual 55, 3) := by decide +kernel
theorem dX10_bind_26 : decode cX10_bind 26 = .ok (.return_, 1) := by decide +kernel
theorem dX10_unbind_0 : decode cX10_unbind 0 = .ok (.aload_n 0, 1) := by decide +kernel
theorem dX10_unbind_1 : decode cX10_unbind 1 = .ok (.getfield 16, 3) := by decide +kernel
theorem dX10_unbind_4 : decode cX10_unbind 4 = .ok (.iload_n 1, 1) := by decide +kernel
theorem dX10_unbind_5 : decode cX10_unbind 5 = .ok (.dup2, 1) := by decide +kernel
theorem dX10_unbind_6 : decode cX10_unbind 6 = .ok (.iaload, 1) := by decide +kernel
theorem dX10_unbind_7 : decode cX10_unbind 7 = .ok (.iconst 1, 1) := by decide +kernel
theorem dX10_unbind_8 : decode cX10_unbind 8 = .ok (.iload_n 2, 1) := by decide +kernel
theorem dX10_unbind_9 : decode cX10_unbind 9 = .ok (.ishl, 1) := by decide +kernel
theorem dX10_unbind_10 : decode cX10_unbind 10 = .ok (.iconst (-1), 1) := by decide +kernel
theorem dX10_unbind_11 : decode cX10_unbind 11 = .ok (.ixor, 1) := by decide +kernel
theorem dX10_unbind_12 : decode cX10_unbind 12 = .ok (.iand, 1) := by decide +kernel
theorem dX10_unbind_13 : decode cX10_unbind 13 = .ok (.iastore, 1) := by decide +kernel
theorem dX10_unbind_14 : decode cX10_unbind 14 = .ok (.aload_n 0, 1) := by decide +kernel
theorem dX10_unbind_15 : decode cX10_unbind 15 = .ok (.dup, 1) := by decide +kernel
theorem dX10_unbind_16 : decode cX10_unbind 16 = .ok (.getfield 45, 3) := by decide +kernel
theorem dX10_unbind_19 : decode cX10_unbind 19 = .ok (.iconst 1, 1) := by decide +kernel
theorem dX10_unbind_20 : decode cX10_unbind 20 = .ok (.isub, 1) := by decide +kernel
theorem dX10_unbind_21 : decode cX10_unbind 21 = .ok (.putfield 45, 3) := by decide +kernel
theorem dX10_unbind_24 : decode cX10_unbind 24 = .ok (.aload_n 0, 1) := by decide +kernel
theorem dX10_unbind_25 : decode cX10_unbind 25 = .ok (.invokevirtual 55, 3) := by decide +kernel
theorem dX10_unbind_28 : decode cX10_unbind 28 = .ok (.return_, 1) := by decide +kernel
theorem dX10_kindOf_0 : decode cX10_kindOf 0 = .ok (.aload_n 0, 1) := by decide +kernel
theorem dX10_kindOf_1 : decode cX10_kindOf 1 = .ok (.getfield 13, 3) := by decide +kernel
theorem dX10_kindOf_4 : decode cX10_kindOf 4 = .ok (.iconst 2, 1) := by decide +kernel
theorem dX10_kindOf_5 : decode cX10_kindOf 5 = .ok (.aaload, 1) := by decide +kernel
theorem dX10_kindOf_6 : decode cX10_kindOf 6 = .ok (.iload_n 1, 1) := by decide +kernel
theorem dX10_kindOf_7 : decode cX10_kindOf 7 = .ok (.iaload, 1) := by decide +kernel
theorem dX10_kindOf_8 : decode cX10_kindOf 8 = .ok (.ifCond .le 5, 3) := by decide +kernel
theorem dX10_kindOf_11 : decode cX10_kindOf 11 = .ok (.iconst 4, 1) := by decide +kernel
theorem dX10_kindOf_12 : decode cX10_kindOf 12 = .ok (.ireturn, 1) := by decide +kernel
theorem dX10_kindOf_13 : decode cX10_kindOf 13 = .ok (.aload_n 0, 1) := by decide +kernel
theorem dX10_kindOf_14 : decode cX10_kindOf 14 = .ok (.getfield 13, 3) := by decide +kernel
theorem dX10_kindOf_17 : decode cX10_kindOf 17 = .ok (.iconst 0, 1) := by decide +kernel
theorem dX10_kindOf_18 : decode cX10_kindOf 18 = .ok (.aaload, 1) := by decide +kernel
theorem dX10_kindOf_19 : decode cX10_kindOf 19 = .ok (.iload_n 1, 1) := by decide +kernel
theorem dX10_kindOf_20 : decode cX10_kindOf 20 = .ok (.iaload, 1) := by decide +kernel
theorem dX10_kindOf_21 : decode cX10_kindOf 21 = .ok (.iconst 1, 1) := by decide +kernel
theorem dX10_kindOf_22 : decode cX10_kindOf 22 = .ok (.if_icmp .ne 18, 3) := by decide +kernel
theorem dX10_kindOf_25 : decode cX10_kindOf 25 = .ok (.aload_n 0, 1) := by decide +kernel
theorem dX10_kindOf_26 : decode cX10_kindOf 26 = .ok (.getfield 20, 3) := by decide +kernel
theorem dX10_kindOf_29 : decode cX10_kindOf 29 = .ok (.iload_n 1, 1) := by decide +kernel
theorem dX10_kindOf_30 : decode cX10_kindOf 30 = .ok (.iaload, 1) := by decide +kernel
theorem dX10_kindOf_31 : decode cX10_kindOf 31 = .ok (.ifCond .ne 7, 3) := by decide +kernel
theorem dX10_kindOf_34 : decode cX10_kindOf 34 = .ok (.iconst 3, 1) := by decide +kernel
theorem dX10_kindOf_35 : decode cX10_kindOf 35 = .ok (.goto 4, 3) := by decide +kernel
theorem dX10_kindOf_38 : decode cX10_kindOf 38 = .ok (.iconst 1, 1) := by decide +kernel
theorem dX10_kindOf_39 : decode cX10_kindOf 39 = .ok (.ireturn, 1) := by decide +kernel
theorem dX10_kindOf_40 : decode cX10_kindOf 40 = .ok (.aload_n 0, 1) := by decide +kernel
theorem dX10_kindOf_41 : decode cX10_kindOf 41 = .ok (.getfield 13, 3) := by decide +kernel
theorem dX10_kindOf_44 : decode cX10_kindOf 44 = .ok (.iconst 1, 1) := by decide +kernel
theorem dX10_kindOf_45 : decode cX10_kindOf 45 = .ok (.aaload, 1) := by decide +kernel
theorem dX10_kindOf_46 : decode cX10_kindOf 46 = .ok (.iload_n 1, 1) := by decide +kernel
theorem dX10_kindOf_47 : decode cX10_kindOf 47 = .ok (.iaload, 1) := by decide +kernel
theorem dX10_kindOf_48 : decode cX10_kindOf 48 = .ok (.ifCond .ne 7, 3) := by decide +kernel
theorem dX10_kindOf_51 : decode cX10_kindOf 51 = .ok (.iconst 2, 1) := by decide +kernel
theorem dX10_kindOf_52 : decode cX10_kindOf 52 = .ok (.goto 4, 3) := by decide +kernel
theorem dX10_kindOf_55 : decode cX10_kindOf 55 = .ok (.iconst 0, 1) := by decide +kernel
theorem dX10_kindOf_56 : decode cX10_kindOf 56 = .ok (.ireturn, 1) := by decide +kernel
theorem dX10_lengthOf_0 : decode cX10_lengthOf 0 = .ok (.aload_n 0, 1) := by decide +kernel
theorem dX10_lengthOf_1 : decode cX10_lengthOf 1 = .ok (.getfield 26, 3) := by decide +kernel
theorem dX10_lengthOf_4 : decode cX10_lengthOf 4 = .ok (.iload_n 1, 1) := by decide +kernel
theorem dX10_lengthOf_5 : decode cX10_lengthOf 5 = .ok (.bipush 63, 2) := by decide +kernel
theorem dX10_lengthOf_7 : decode cX10_lengthOf 7 = .ok (.iand, 1) := by decide +kernel
theorem dX10_lengthOf_8 : decode cX10_lengthOf 8 = .ok (.iaload, 1) := by decide +kernel
theorem dX10_lengthOf_9 : decode cX10_lengthOf 9 = .ok (.aload_n 0, 1) := by decide +kernel
theorem dX10_lengthOf_10 : decode cX10_lengthOf 10 = .ok (.getfield 26, 3) := by decide +kernel
theorem dX10_lengthOf_13 : decode cX10_lengthOf 13 = .ok (.bipush 64, 2) := by decide +kernel
theorem dX10_lengthOf_15 : decode cX10_lengthOf 15 = .ok (.iload_n 1, 1) := by decide +kernel
theorem dX10_lengthOf_16 : decode cX10_lengthOf 16 = .ok (.bipush 6, 2) := by decide +kernel
theorem dX10_lengthOf_18 : decode cX10_lengthOf 18 = .ok (.ishr, 1) := by decide +kernel
theorem dX10_lengthOf_19 : decode cX10_lengthOf 19 = .ok (.iadd, 1) := by decide +kernel
theorem dX10_lengthOf_20 : decode cX10_lengthOf 20 = .ok (.iaload, 1) := by decide +kernel
theorem dX10_lengthOf_21 : decode cX10_lengthOf 21 = .ok (.iadd, 1) := by decide +kernel
theorem dX10_lengthOf_22 : decode cX10_lengthOf 22 = .ok (.ireturn, 1) := by decide +kernel
theorem dX10_weightOf_0 : decode cX10_weightOf 0 = .ok (.aload_n 0, 1) := by decide +kernel
theorem dX10_weightOf_1 : decode cX10_weightOf 1 = .ok (.getfield 29, 3) := by decide +kernel
theorem dX10_weightOf_4 : decode cX10_weightOf 4 = .ok (.iload_n 1, 1) := by decide +kernel
theorem dX10_weightOf_5 : decode cX10_weightOf 5 = .ok (.bipush 63, 2) := by decide +kernel
theorem dX10_weightOf_7 : decode cX10_weightOf 7 = .ok (.iand, 1) := by decide +kernel
theorem dX10_weightOf_8 : decode cX10_weightOf 8 = .ok (.iaload, 1) := by decide +kernel
theorem dX10_weightOf_9 : decode cX10_weightOf 9 = .ok (.aload_n 0, 1) := by decide +kernel
theorem dX10_weightOf_10 : decode cX10_weightOf 10 = .ok (.getfield 29, 3) := by decide +kernel
theorem dX10_weightOf_13 : decode cX10_weightOf 13 = .ok (.bipush 64, 2) := by decide +kernel
theorem dX10_weightOf_15 : decode cX10_weightOf 15 = .ok (.iload_n 1, 1) := by decide +kernel
theorem dX10_weightOf_16 : decode cX10_weightOf 16 = .ok (.bipush 6, 2) := by decide +kernel
theorem dX10_weightOf_18 : decode cX10_weightOf 18 = .ok (.ishr, 1) := by decide +kernel
theorem dX10_weightOf_19 : decode cX10_weightOf 19 = .ok (.iadd, 1) := by decide +kernel
theorem dX10_weightOf_20 : decode cX10_weightOf 20 = .ok (.iaload, 1) := by decide +kernel
theorem dX10_weightOf_21 : decode cX10_weightOf 21 = .ok (.iadd, 1) := by decide +kernel
theorem dX10_weightOf_22 : decode cX10_weightOf 22 = .ok (.ireturn, 1) := by decide +kernel
theorem dX10_isBeginning_0 : decode cX10_isBeginning 0 = .ok (.aload_n 0, 1) := by decide +kernel
theorem dX10_isBeginning_1 : decode cX10_isBeginning 1 = .ok (.getfield 32, 3) := by decide +kernel
theorem dX10_isBeginning_4 : decode cX10_isBeginning 4 = .ok (.iload_n 1, 1) := by decide +kernel
theorem dX10_isBeginning_5 : decode cX10_isBeginning 5 = .ok (.bipush 63, 2) := by decide +kernel
theorem dX10_isBeginning_7 : decode cX10_isBeginning 7 = .ok (.iand, 1) := by decide +kernel
theorem dX10_isBeginning_8 : decode cX10_isBeginning 8 = .ok (.iaload, 1) := by decide +kernel
theorem dX10_isBeginning_9 : decode cX10_isBeginning 9 = .ok (.aload_n 0, 1) := by decide +kernel
theorem dX10_isBeginning_10 : decode cX10_isBeginning 10 = .ok (.getfield 32, 3) := by decide +kernel
theorem dX10_isBeginning_13 : decode cX10_isBeginning 13 = .ok (.bipush 64, 2) := by decide +kernel
theorem dX10_isBeginning_15 : decode cX10_isBeginning 15 = .ok (.iload_n 1, 1) := by decide +kernel
theorem dX10_isBeginning_16 : decode cX10_isBeginning 16 = .ok (.bipush 6, 2) := by decide +kernel
theorem dX10_isBeginning_18 : decode cX10_isBeginning 18 = .ok (.ishr, 1) := by decide +kernel
theorem dX10_isBeginning_19 : decode cX10_isBeginning 19 = .ok (.iadd, 1) := by decide +kernel
theorem dX10_isBeginning_20 : decode cX10_isBeginning 20 = .ok (.iaload, 1) := by decide +kernel
theorem dX10_isBeginning_21 : decode cX10_isBeginning 21 = .ok (.ior, 1) := by decide +kernel
theorem dX10_isBeginning_22 : decode cX10_isBeginning 22 = .ok (.istore_n 3, 1) := by decide +kernel
theorem dX10_isBeginning_23 : decode cX10_isBeginning 23 = .ok (.iload_n 3, 1) := by decide +kernel
theorem dX10_isBeginning_24 : decode cX10_isBeginning 24 = .ok (.iload_n 1, 1) := by decide +kernel
theorem dX10_isBeginning_25 : decode cX10_isBeginning 25 = .ok (.iconst (-1), 1) := by decide +kernel
theorem dX10_isBeginning_26 : decode cX10_isBeginning 26 = .ok (.ixor, 1) := by decide +kernel
theorem dX10_isBeginning_27 : decode cX10_isBeginning 27 = .ok (.iand, 1) := by decide +kernel
theorem dX10_isBeginning_28 : decode cX10_isBeginning 28 = .ok (.iload_n 2, 1) := by decide +kernel
theorem dX10_isBeginning_29 : decode cX10_isBeginning 29 = .ok (.iconst (-1), 1) := by decide +kernel
theorem dX10_isBeginning_30 : decode cX10_isBeginning 30 = .ok (.ixor, 1) := by decide +kernel
theorem dX10_isBeginning_31 : decode cX10_isBeginning 31 = .ok (.iand, 1) := by decide +kernel
theorem dX10_isBeginning_32 : decode cX10_isBeginning 32 = .ok (.ifCond .ne 7, 3) := by decide +kernel
theorem dX10_isBeginning_35 : decode cX10_isBeginning 35 = .ok (.iconst 1, 1) := by decide +kernel
theorem dX10_isBeginning_36 : decode cX10_isBeginning 36 = .ok (.goto 4, 3) := by decide +kernel
theorem dX10_isBeginning_39 : decode cX10_isBeginning 39 = .ok (.iconst 0, 1) := by decide +kernel
theorem dX10_isBeginning_40 : decode cX10_isBeginning 40 = .ok (.ireturn, 1) := by decide +kernel
theorem dX10_mayComeNext_0 : decode cX10_mayComeNext 0 = .ok (.iload_n 1, 1) := by decide +kernel
theorem dX10_mayComeNext_1 : decode cX10_mayComeNext 1 = .ok (.iload_n 2, 1) := by decide +kernel
theorem dX10_mayComeNext_2 : decode cX10_mayComeNext 2 = .ok (.ishr, 1) := by decide +kernel
theorem dX10_mayComeNext_3 : decode cX10_mayComeNext 3 = .ok (.iconst 1, 1) := by decide +kernel
theorem dX10_mayComeNext_4 : decode cX10_mayComeNext 4 = .ok (.iand, 1) := by decide +kernel
theorem dX10_mayComeNext_5 : decode cX10_mayComeNext 5 = .ok (.ifCond .ne 20, 3) := by decide +kernel
theorem dX10_mayComeNext_8 : decode cX10_mayComeNext 8 = .ok (.aload_n 0, 1) := by decide +kernel
theorem dX10_mayComeNext_9 : decode cX10_mayComeNext 9 = .ok (.getfield 20, 3) := by decide +kernel
theorem dX10_mayComeNext_12 : decode cX10_mayComeNext 12 = .ok (.iload_n 2, 1) := by decide +kernel
theorem dX10_mayComeNext_13 : decode cX10_mayComeNext 13 = .ok (.iaload, 1) := by decide +kernel
theorem dX10_mayComeNext_14 : decode cX10_mayComeNext 14 = .ok (.iload_n 1, 1) := by decide +kernel
theorem dX10_mayComeNext_15 : decode cX10_mayComeNext 15 = .ok (.iconst (-1), 1) := by decide +kernel
theorem dX10_mayComeNext_16 : decode cX10_mayComeNext 16 = .ok (.ixor, 1) := by decide +kernel
theorem dX10_mayComeNext_17 : decode cX10_mayComeNext 17 = .ok (.iand, 1) := by decide +kernel
theorem dX10_mayComeNext_18 : decode cX10_mayComeNext 18 = .ok (.ifCond .ne 7, 3) := by decide +kernel
theorem dX10_mayComeNext_21 : decode cX10_mayComeNext 21 = .ok (.iconst 1, 1) := by decide +kernel
theorem dX10_mayComeNext_22 : decode cX10_mayComeNext 22 = .ok (.goto 4, 3) := by decide +kernel
theorem dX10_mayComeNext_25 : decode cX10_mayComeNext 25 = .ok (.iconst 0, 1) := by decide +kernel
theorem dX10_mayComeNext_26 : decode cX10_mayComeNext 26 = .ok (.ireturn, 1) := by decide +kernel
theorem dX10_costNext_0 : decode cX10_costNext 0 = .ok (.aload_n 0, 1) := by decide +kernel
theorem dX10_costNext_1 : decode cX10_costNext 1 = .ok (.getfield 13, 3) := by decide +kernel
theorem dX10_costNext_4 : decode cX10_costNext 4 = .ok (.iconst 1, 1) := by decide +kernel
theorem dX10_costNext_5 : decode cX10_costNext 5 = .ok (.aaload, 1) := by decide +kernel
theorem dX10_costNext_6 : decode cX10_costNext 6 = .ok (.iload_n 2, 1) := by decide +kernel
theorem dX10_costNext_7 : decode cX10_costNext 7 = .ok (.iaload, 1) := by decide +kernel
theorem dX10_costNext_8 : decode cX10_costNext 8 = .ok (.iload_n 1, 1) := by decide +kernel
theorem dX10_costNext_9 : decode cX10_costNext 9 = .ok (.aload_n 0, 1) := by decide +kernel
theorem dX10_costNext_10 : decode cX10_costNext 10 = .ok (.getfield 13, 3) := by decide +kernel
theorem dX10_costNext_13 : decode cX10_costNext 13 = .ok (.iconst 0, 1) := by decide +kernel
theorem dX10_costNext_14 : decode cX10_costNext 14 = .ok (.aaload, 1) := by decide +kernel
theorem dX10_costNext_15 : decode cX10_costNext 15 = .ok (.iload_n 2, 1) := by decide +kernel
theorem dX10_costNext_16 : decode cX10_costNext 16 = .ok (.iaload, 1) := by decide +kernel
theorem dX10_costNext_17 : decode cX10_costNext 17 = .ok (.iadd, 1) := by decide +kernel
theorem dX10_costNext_18 : decode cX10_costNext 18 = .ok (.imul, 1) := by decide +kernel
theorem dX10_costNext_19 : decode cX10_costNext 19 = .ok (.ireturn, 1) := by decide +kernel
theorem dX10_beginnings_0 : decode cX10_beginnings 0 = .ok (.iconst 0, 1) := by decide +kernel
theorem dX10_beginnings_1 : decode cX10_beginnings 1 = .ok (.istore_n 1, 1) := by decide +kernel
theorem dX10_beginnings_2 : decode cX10_beginnings 2 = .ok (.aload_n 0, 1) := by decide +kernel
theorem dX10_beginnings_3 : decode cX10_beginnings 3 = .ok (.invokevirtual 58, 3) := by decide +kernel
theorem dX10_beginnings_6 : decode cX10_beginnings 6 = .ok (.istore_n 2, 1) := by decide +kernel
theorem dX10_beginnings_7 : decode cX10_beginnings 7 = .ok (.iconst 0, 1) := by decide +kernel
theorem dX10_beginnings_8 : decode cX10_beginnings 8 = .ok (.istore_n 3, 1) := by decide +kernel
theorem dX10_beginnings_9 : decode cX10_beginnings 9 = .ok (.iload_n 3, 1) := by decide +kernel
theorem dX10_beginnings_10 : decode cX10_beginnings 10 = .ok (.iload_n 2, 1) := by decide +kernel
theorem dX10_beginnings_11 : decode cX10_beginnings 11 = .ok (.if_icmp .gt 21, 3) := by decide +kernel
theorem dX10_beginnings_14 : decode cX10_beginnings 14 = .ok (.aload_n 0, 1) := by decide +kernel
theorem dX10_beginnings_15 : decode cX10_beginnings 15 = .ok (.iload_n 3, 1) := by decide +kernel
theorem dX10_beginnings_16 : decode cX10_beginnings 16 = .ok (.iconst 0, 1) := by decide +kernel
theorem dX10_beginnings_17 : decode cX10_beginnings 17 = .ok (.invokevirtual 62, 3) := by decide +kernel
theorem dX10_beginnings_20 : decode cX10_beginnings 20 = .ok (.ifCond .eq 6, 3) := by decide +kernel
theorem dX10_beginnings_23 : decode cX10_beginnings 23 = .ok (.iinc 1 1, 3) := by decide +kernel
theorem dX10_beginnings_26 : decode cX10_beginnings 26 = .ok (.iinc 3 1, 3) := by decide +kernel
theorem dX10_beginnings_29 : decode cX10_beginnings 29 = .ok (.goto (-20), 3) := by decide +kernel
theorem dX10_beginnings_32 : decode cX10_beginnings 32 = .ok (.iload_n 1, 1) := by decide +kernel
theorem dX10_beginnings_33 : decode cX10_beginnings 33 = .ok (.ireturn, 1) := by decide +kernel
theorem dX10_findCrossing_0 : decode cX10_findCrossing 0 = .ok (.iconst 0, 1) := by decide +kernel
theorem dX10_findCrossing_1 : decode cX10_findCrossing 1 = .ok (.istore_n 1, 1) := by decide +kernel
theorem dX10_findCrossing_2 : decode cX10_findCrossing 2 = .ok (.iload_n 1, 1) := by decide +kernel
theorem dX10_findCrossing_3 : decode cX10_findCrossing 3 = .ok (.aload_n 0, 1) := by decide +kernel
theorem dX10_findCrossing_4 : decode cX10_findCrossing 4 = .ok (.getfield 41, 3) := by decide +kernel
theorem dX10_findCrossing_7 : decode cX10_findCrossing 7 = .ok (.if_icmp .ge 64, 3) := by decide +kernel
theorem dX10_findCrossing_10 : decode cX10_findCrossing 10 = .ok (.iconst 0, 1) := by decide +kernel
theorem dX10_findCrossing_11 : decode cX10_findCrossing 11 = .ok (.istore_n 2, 1) := by decide +kernel
theorem dX10_findCrossing_12 : decode cX10_findCrossing 12 = .ok (.iload_n 2, 1) := by decide +kernel
theorem dX10_findCrossing_13 : decode cX10_findCrossing 13 = .ok (.aload_n 0, 1) := by decide +kernel
theorem dX10_findCrossing_14 : decode cX10_findCrossing 14 = .ok (.getfield 41, 3) := by decide +kernel
theorem dX10_findCrossing_17 : decode cX10_findCrossing 17 = .ok (.if_icmp .ge 48, 3) := by decide +kernel
theorem dX10_findCrossing_20 : decode cX10_findCrossing 20 = .ok (.aload_n 0, 1) := by decide +kernel
theorem dX10_findCrossing_21 : decode cX10_findCrossing 21 = .ok (.iload_n 1, 1) := by decide +kernel
theorem dX10_findCrossing_22 : decode cX10_findCrossing 22 = .ok (.invokevirtual 65, 3) := by decide +kernel
theorem dX10_findCrossing_25 : decode cX10_findCrossing 25 = .ok (.iload_n 2, 1) := by decide +kernel
theorem dX10_findCrossing_26 : decode cX10_findCrossing 26 = .ok (.invokestatic 51, 3) := by decide +kernel
theorem dX10_findCrossing_29 : decode cX10_findCrossing 29 = .ok (.ifCond .eq 12, 3) := by decide +kernel
theorem dX10_findCrossing_32 : decode cX10_findCrossing 32 = .ok (.aload_n 0, 1) := by decide +kernel
theorem dX10_findCrossing_33 : decode cX10_findCrossing 33 = .ok (.iload_n 1, 1) := by decide +kernel
theorem dX10_findCrossing_34 : decode cX10_findCrossing 34 = .ok (.iload_n 2, 1) := by decide +kernel
theorem dX10_findCrossing_35 : decode cX10_findCrossing 35 = .ok (.invokevirtual 69, 3) := by decide +kernel
theorem dX10_findCrossing_38 : decode cX10_findCrossing 38 = .ok (.goto 4, 3) := by decide +kernel
theorem dX10_findCrossing_41 : decode cX10_findCrossing 41 = .ok (.iconst (-1), 1) := by decide +kernel
theorem dX10_findCrossing_42 : decode cX10_findCrossing 42 = .ok (.istore_n 3, 1) := by decide +kernel
theorem dX10_findCrossing_43 : decode cX10_findCrossing 43 = .ok (.iload_n 3, 1) := by decide +kernel
theorem dX10_findCrossing_44 : decode cX10_findCrossing 44 = .ok (.iconst (-1), 1) := by decide +kernel
theorem dX10_findCrossing_45 : decode cX10_findCrossing 45 = .ok (.if_icmp .eq 14, 3) := by decide +kernel
theorem dX10_findCrossing_48 : decode cX10_findCrossing 48 = .ok (.iload_n 1, 1) := by decide +kernel
theorem dX10_findCrossing_49 : decode cX10_findCrossing 49 = .ok (.iload_n 2, 1) := by decide +kernel
theorem dX10_findCrossing_50 : decode cX10_findCrossing 50 = .ok (.iconst 4, 1) := by decide +kernel
theorem dX10_findCrossing_51 : decode cX10_findCrossing 51 = .ok (.ishl, 1) := by decide +kernel
theorem dX10_findCrossing_52 : decode cX10_findCrossing 52 = .ok (.ior, 1) := by decide +kernel
theorem dX10_findCrossing_53 : decode cX10_findCrossing 53 = .ok (.iload_n 3, 1) := by decide +kernel
theorem dX10_findCrossing_54 : decode cX10_findCrossing 54 = .ok (.bipush 8, 2) := by decide +kernel
theorem dX10_findCrossing_56 : decode cX10_findCrossing 56 = .ok (.ishl, 1) := by decide +kernel
theorem dX10_findCrossing_57 : decode cX10_findCrossing 57 = .ok (.ior, 1) := by decide +kernel
theorem dX10_findCrossing_58 : decode cX10_findCrossing 58 = .ok (.ireturn, 1) := by decide +kernel
theorem dX10_findCrossing_59 : decode cX10_findCrossing 59 = .ok (.iinc 2 1, 3) := by decide +kernel
theorem dX10_findCrossing_62 : decode cX10_findCrossing 62 = .ok (.goto (-50), 3) := by decide +kernel
theorem dX10_findCrossing_65 : decode cX10_findCrossing 65 = .ok (.iinc 1 1, 3) := by decide +kernel
theorem dX10_findCrossing_68 : decode cX10_findCrossing 68 = .ok (.goto (-66), 3) := by decide +kernel
theorem dX10_findCrossing_71 : decode cX10_findCrossing 71 = .ok (.iconst (-1), 1) := by decide +kernel
theorem dX10_findCrossing_72 : decode cX10_findCrossing 72 = .ok (.ireturn, 1) := by decide +kernel
theorem dX10_findEnds_0 : decode cX10_findEnds 0 = .ok (.iconst 0, 1) := by decide +kernel
theorem dX10_findEnds_1 : decode cX10_findEnds 1 = .ok (.istore_n 3, 1) := by decide +kernel
theorem dX10_findEnds_2 : decode cX10_findEnds 2 = .ok (.iload_n 3, 1) := by decide +kernel
theorem dX10_findEnds_3 : decode cX10_findEnds 3 = .ok (.aload_n 0, 1) := by decide +kernel
theorem dX10_findEnds_4 : decode cX10_findEnds 4 = .ok (.getfield 41, 3) := by decide +kernel
theorem dX10_findEnds_7 : decode cX10_findEnds 7 = .ok (.if_icmp .ge 64, 3) := by decide +kernel
theorem dX10_findEnds_10 : decode cX10_findEnds 10 = .ok (.aload_n 0, 1) := by decide +kernel
theorem dX10_findEnds_11 : decode cX10_findEnds 11 = .ok (.getfield 23, 3) := by decide +kernel
theorem dX10_findEnds_14 : decode cX10_findEnds 14 = .ok (.iload_n 2, 1) := by decide +kernel
theorem dX10_findEnds_15 : decode cX10_findEnds 15 = .ok (.iaload, 1) := by decide +kernel
theorem dX10_findEnds_16 : decode cX10_findEnds 16 = .ok (.aload_n 0, 1) := by decide +kernel
theorem dX10_findEnds_17 : decode cX10_findEnds 17 = .ok (.iload_n 1, 1) := by decide +kernel
theorem dX10_findEnds_18 : decode cX10_findEnds 18 = .ok (.invokevirtual 65, 3) := by decide +kernel
theorem dX10_findEnds_21 : decode cX10_findEnds 21 = .ok (.iand, 1) := by decide +kernel
theorem dX10_findEnds_22 : decode cX10_findEnds 22 = .ok (.aload_n 0, 1) := by decide +kernel
theorem dX10_findEnds_23 : decode cX10_findEnds 23 = .ok (.iload_n 3, 1) := by decide +kernel
theorem dX10_findEnds_24 : decode cX10_findEnds 24 = .ok (.invokevirtual 65, 3) := by decide +kernel
theorem dX10_findEnds_27 : decode cX10_findEnds 27 = .ok (.iand, 1) := by decide +kernel
theorem dX10_findEnds_28 : decode cX10_findEnds 28 = .ok (.istore 4, 2) := by decide +kernel
theorem dX10_findEnds_30 : decode cX10_findEnds 30 = .ok (.aload_n 0, 1) := by decide +kernel
theorem dX10_findEnds_31 : decode cX10_findEnds 31 = .ok (.getfield 23, 3) := by decide +kernel
theorem dX10_findEnds_34 : decode cX10_findEnds 34 = .ok (.iload_n 1, 1) := by decide +kernel
theorem dX10_findEnds_35 : decode cX10_findEnds 35 = .ok (.iaload, 1) := by decide +kernel
theorem dX10_findEnds_36 : decode cX10_findEnds 36 = .ok (.aload_n 0, 1) := by decide +kernel
theorem dX10_findEnds_37 : decode cX10_findEnds 37 = .ok (.getfield 23, 3) := by decide +kernel
theorem dX10_findEnds_40 : decode cX10_findEnds 40 = .ok (.iload_n 2, 1) := by decide +kernel
theorem dX10_findEnds_41 : decode cX10_findEnds 41 = .ok (.iaload, 1) := by decide +kernel
theorem dX10_findEnds_42 : decode cX10_findEnds 42 = .ok (.iand, 1) := by decide +kernel
theorem dX10_findEnds_43 : decode cX10_findEnds 43 = .ok (.iload_n 3, 1) := by decide +kernel
theorem dX10_findEnds_44 : decode cX10_findEnds 44 = .ok (.invokestatic 51, 3) := by decide +kernel
theorem dX10_findEnds_47 : decode cX10_findEnds 47 = .ok (.ifCond .eq 18, 3) := by decide +kernel
theorem dX10_findEnds_50 : decode cX10_findEnds 50 = .ok (.iload 4, 2) := by decide +kernel
theorem dX10_findEnds_52 : decode cX10_findEnds 52 = .ok (.ifCond .eq 13, 3) := by decide +kernel
theorem dX10_findEnds_55 : decode cX10_findEnds 55 = .ok (.iload_n 3, 1) := by decide +kernel
theorem dX10_findEnds_56 : decode cX10_findEnds 56 = .ok (.iload 4, 2) := by decide +kernel
theorem dX10_findEnds_58 : decode cX10_findEnds 58 = .ok (.invokestatic 73, 3) := by decide +kernel
theorem dX10_findEnds_61 : decode cX10_findEnds 61 = .ok (.iconst 4, 1) := by decide +kernel
theorem dX10_findEnds_62 : decode cX10_findEnds 62 = .ok (.ishl, 1) := by decide +kernel
theorem dX10_findEnds_63 : decode cX10_findEnds 63 = .ok (.ior, 1) := by decide +kernel
theorem dX10_findEnds_64 : decode cX10_findEnds 64 = .ok (.ireturn, 1) := by decide +kernel
theorem dX10_findEnds_65 : decode cX10_findEnds 65 = .ok (.iinc 3 1, 3) := by decide +kernel
theorem dX10_findEnds_68 : decode cX10_findEnds 68 = .ok (.goto (-66), 3) := by decide +kernel
theorem dX10_findEnds_71 : decode cX10_findEnds 71 = .ok (.iconst (-1), 1) := by decide +kernel
theorem dX10_findEnds_72 : decode cX10_findEnds 72 = .ok (.ireturn, 1) := by decide +kernel
theorem dX10_unbound_0 : decode cX10_unbound 0 = .ok (.aload_n 0, 1) := by decide +kernel
theorem dX10_unbound_1 : decode cX10_unbound 1 = .ok (.invokevirtual 58, 3) := by decide +kernel
theorem dX10_unbound_4 : decode cX10_unbound 4 = .ok (.aload_n 0, 1) := by decide +kernel
theorem dX10_unbound_5 : decode cX10_unbound 5 = .ok (.getfield 20, 3) := by decide +kernel
theorem dX10_unbound_8 : decode cX10_unbound 8 = .ok (.iload_n 1, 1) := by decide +kernel
theorem dX10_unbound_9 : decode cX10_unbound 9 = .ok (.iaload, 1) := by decide +kernel
theorem dX10_unbound_10 : decode cX10_unbound 10 = .ok (.aload_n 0, 1) := by decide +kernel
theorem dX10_unbound_11 : decode cX10_unbound 11 = .ok (.getfield 23, 3) := by decide +kernel
theorem dX10_unbound_14 : decode cX10_unbound 14 = .ok (.iload_n 1, 1) := by decide +kernel
theorem dX10_unbound_15 : decode cX10_unbound 15 = .ok (.iaload, 1) := by decide +kernel
theorem dX10_unbound_16 : decode cX10_unbound 16 = .ok (.ior, 1) := by decide +kernel
theorem dX10_unbound_17 : decode cX10_unbound 17 = .ok (.iconst 1, 1) := by decide +kernel
theorem dX10_unbound_18 : decode cX10_unbound 18 = .ok (.iload_n 1, 1) := by decide +kernel
theorem dX10_unbound_19 : decode cX10_unbound 19 = .ok (.ishl, 1) := by decide +kernel
theorem dX10_unbound_20 : decode cX10_unbound 20 = .ok (.ior, 1) := by decide +kernel
theorem dX10_unbound_21 : decode cX10_unbound 21 = .ok (.iconst (-1), 1) := by decide +kernel
theorem dX10_unbound_22 : decode cX10_unbound 22 = .ok (.ixor, 1) := by decide +kernel
theorem dX10_unbound_23 : decode cX10_unbound 23 = .ok (.iand, 1) := by decide +kernel
theorem dX10_unbound_24 : decode cX10_unbound 24 = .ok (.ireturn, 1) := by decide +kernel
theorem dX10_renew_0 : decode cX10_renew 0 = .ok (.aload_n 0, 1) := by decide +kernel
theorem dX10_renew_1 : decode cX10_renew 1 = .ok (.dup, 1) := by decide +kernel
theorem dX10_renew_2 : decode cX10_renew 2 = .ok (.getfield 48, 3) := by decide +kernel
theorem dX10_renew_5 : decode cX10_renew 5 = .ok (.iconst 1, 1) := by decide +kernel
theorem dX10_renew_6 : decode cX10_renew 6 = .ok (.iadd, 1) := by decide +kernel
theorem dX10_renew_7 : decode cX10_renew 7 = .ok (.putfield 48, 3) := by decide +kernel
theorem dX10_renew_10 : decode cX10_renew 10 = .ok (.aload_n 0, 1) := by decide +kernel
theorem dX10_renew_11 : decode cX10_renew 11 = .ok (.invokevirtual 78, 3) := by decide +kernel
theorem dX10_renew_14 : decode cX10_renew 14 = .ok (.aload_n 0, 1) := by decide +kernel
theorem dX10_renew_15 : decode cX10_renew 15 = .ok (.invokevirtual 81, 3) := by decide +kernel
theorem dX10_renew_18 : decode cX10_renew 18 = .ok (.aload_n 0, 1) := by decide +kernel
theorem dX10_renew_19 : decode cX10_renew 19 = .ok (.iconst 0, 1) := by decide +kernel
theorem dX10_renew_20 : decode cX10_renew 20 = .ok (.iconst 0, 1) := by decide +kernel
theorem dX10_renew_21 : decode cX10_renew 21 = .ok (.invokevirtual 84, 3) := by decide +kernel
theorem dX10_renew_24 : decode cX10_renew 24 = .ok (.aload_n 0, 1) := by decide +kernel
theorem dX10_renew_25 : decode cX10_renew 25 = .ok (.bipush 64, 2) := by decide +kernel
theorem dX10_renew_27 : decode cX10_renew 27 = .ok (.bipush 6, 2) := by decide +kernel
theorem dX10_renew_29 : decode cX10_renew 29 = .ok (.invokevirtual 84, 3) := by decide +kernel
theorem dX10_renew_32 : decode cX10_renew 32 = .ok (.return_, 1) := by decide +kernel
theorem dX10_followLaid_0 : decode cX10_followLaid 0 = .ok (.iconst 0, 1) := by decide +kernel
theorem dX10_followLaid_1 : decode cX10_followLaid 1 = .ok (.istore_n 1, 1) := by decide +kernel
theorem dX10_followLaid_2 : decode cX10_followLaid 2 = .ok (.iload_n 1, 1) := by decide +kernel
theorem dX10_followLaid_3 : decode cX10_followLaid 3 = .ok (.aload_n 0, 1) := by decide +kernel
theorem dX10_followLaid_4 : decode cX10_followLaid 4 = .ok (.getfield 41, 3) := by decide +kernel
theorem dX10_followLaid_7 : decode cX10_followLaid 7 = .ok (.if_icmp .ge 21, 3) := by decide +kernel
theorem dX10_followLaid_10 : decode cX10_followLaid 10 = .ok (.aload_n 0, 1) := by decide +kernel
theorem dX10_followLaid_11 : decode cX10_followLaid 11 = .ok (.getfield 23, 3) := by decide +kernel
theorem dX10_followLaid_14 : decode cX10_followLaid 14 = .ok (.iload_n 1, 1) := by decide +kernel
theorem dX10_followLaid_15 : decode cX10_followLaid 15 = .ok (.aload_n 0, 1) := by decide +kernel
theorem dX10_followLaid_16 : decode cX10_followLaid 16 = .ok (.getfield 16, 3) := by decide +kernel
theorem dX10_followLaid_19 : decode cX10_followLaid 19 = .ok (.iload_n 1, 1) := by decide +kernel
theorem dX10_followLaid_20 : decode cX10_followLaid 20 = .ok (.iaload, 1) := by decide +kernel
theorem dX10_followLaid_21 : decode cX10_followLaid 21 = .ok (.iastore, 1) := by decide +kernel
theorem dX10_followLaid_22 : decode cX10_followLaid 22 = .ok (.iinc 1 1, 3) := by decide +kernel
theorem dX10_followLaid_25 : decode cX10_followLaid 25 = .ok (.goto (-23), 3) := by decide +kernel
theorem dX10_followLaid_28 : decode cX10_followLaid 28 = .ok (.iconst 0, 1) := by decide +kernel
theorem dX10_followLaid_29 : decode cX10_followLaid 29 = .ok (.istore_n 1, 1) := by decide +kernel
theorem dX10_followLaid_30 : decode cX10_followLaid 30 = .ok (.iload_n 1, 1) := by decide +kernel
theorem dX10_followLaid_31 : decode cX10_followLaid 31 = .ok (.aload_n 0, 1) := by decide +kernel
theorem dX10_followLaid_32 : decode cX10_followLaid 32 = .ok (.getfield 41, 3) := by decide +kernel
theorem dX10_followLaid_35 : decode cX10_followLaid 35 = .ok (.if_icmp .ge 53, 3) := by decide +kernel
theorem dX10_followLaid_38 : decode cX10_followLaid 38 = .ok (.iconst 0, 1) := by decide +kernel
theorem dX10_followLaid_39 : decode cX10_followLaid 39 = .ok (.istore_n 2, 1) := by decide +kernel
theorem dX10_followLaid_40 : decode cX10_followLaid 40 = .ok (.iload_n 2, 1) := by decide +kernel
theorem dX10_followLaid_41 : decode cX10_followLaid 41 = .ok (.aload_n 0, 1) := by decide +kernel
theorem dX10_followLaid_42 : decode cX10_followLaid 42 = .ok (.getfield 41, 3) := by decide +kernel
theorem dX10_followLaid_45 : decode cX10_followLaid 45 = .ok (.if_icmp .ge 37, 3) := by decide +kernel
theorem dX10_followLaid_48 : decode cX10_followLaid 48 = .ok (.aload_n 0, 1) := by decide +kernel
theorem dX10_followLaid_49 : decode cX10_followLaid 49 = .ok (.getfield 23, 3) := by decide +kernel
theorem dX10_followLaid_52 : decode cX10_followLaid 52 = .ok (.iload_n 2, 1) := by decide +kernel
theorem dX10_followLaid_53 : decode cX10_followLaid 53 = .ok (.iaload, 1) := by decide +kernel
theorem dX10_followLaid_54 : decode cX10_followLaid 54 = .ok (.iload_n 1, 1) := by decide +kernel
theorem dX10_followLaid_55 : decode cX10_followLaid 55 = .ok (.invokestatic 51, 3) := by decide +kernel
theorem dX10_followLaid_58 : decode cX10_followLaid 58 = .ok (.ifCond .eq 18, 3) := by decide +kernel
theorem dX10_followLaid_61 : decode cX10_followLaid 61 = .ok (.aload_n 0, 1) := by decide +kernel
theorem dX10_followLaid_62 : decode cX10_followLaid 62 = .ok (.getfield 23, 3) := by decide +kernel
theorem dX10_followLaid_65 : decode cX10_followLaid 65 = .ok (.iload_n 2, 1) := by decide +kernel
theorem dX10_followLaid_66 : decode cX10_followLaid 66 = .ok (.dup2, 1) := by decide +kernel
theorem dX10_followLaid_67 : decode cX10_followLaid 67 = .ok (.iaload, 1) := by decide +kernel
theorem dX10_followLaid_68 : decode cX10_followLaid 68 = .ok (.aload_n 0, 1) := by decide +kernel
theorem dX10_followLaid_69 : decode cX10_followLaid 69 = .ok (.getfield 23, 3) := by decide +kernel
theorem dX10_followLaid_72 : decode cX10_followLaid 72 = .ok (.iload_n 1, 1) := by decide +kernel
theorem dX10_followLaid_73 : decode cX10_followLaid 73 = .ok (.iaload, 1) := by decide +kernel
theorem dX10_followLaid_74 : decode cX10_followLaid 74 = .ok (.ior, 1) := by decide +kernel
theorem dX10_followLaid_75 : decode cX10_followLaid 75 = .ok (.iastore, 1) := by decide +kernel
theorem dX10_followLaid_76 : decode cX10_followLaid 76 = .ok (.iinc 2 1, 3) := by decide +kernel
theorem dX10_followLaid_79 : decode cX10_followLaid 79 = .ok (.goto (-39), 3) := by decide +kernel
theorem dX10_followLaid_82 : decode cX10_followLaid 82 = .ok (.iinc 1 1, 3) := by decide +kernel
theorem dX10_followLaid_85 : decode cX10_followLaid 85 = .ok (.goto (-55), 3) := by decide +kernel
theorem dX10_followLaid_88 : decode cX10_followLaid 88 = .ok (.return_, 1) := by decide +kernel
theorem dX10_turnBehind_0 : decode cX10_turnBehind 0 = .ok (.iconst 0, 1) := by decide +kernel
theorem dX10_turnBehind_1 : decode cX10_turnBehind 1 = .ok (.istore_n 1, 1) := by decide +kernel
theorem dX10_turnBehind_2 : decode cX10_turnBehind 2 = .ok (.iload_n 1, 1) := by decide +kernel
theorem dX10_turnBehind_3 : decode cX10_turnBehind 3 = .ok (.aload_n 0, 1) := by decide +kernel
theorem dX10_turnBehind_4 : decode cX10_turnBehind 4 = .ok (.getfield 41, 3) := by decide +kernel
theorem dX10_turnBehind_7 : decode cX10_turnBehind 7 = .ok (.if_icmp .ge 53, 3) := by decide +kernel
theorem dX10_turnBehind_10 : decode cX10_turnBehind 10 = .ok (.iconst 0, 1) := by decide +kernel
theorem dX10_turnBehind_11 : decode cX10_turnBehind 11 = .ok (.istore_n 2, 1) := by decide +kernel
theorem dX10_turnBehind_12 : decode cX10_turnBehind 12 = .ok (.iconst 0, 1) := by decide +kernel
theorem dX10_turnBehind_13 : decode cX10_turnBehind 13 = .ok (.istore_n 3, 1) := by decide +kernel
theorem dX10_turnBehind_14 : decode cX10_turnBehind 14 = .ok (.iload_n 3, 1) := by decide +kernel
theorem dX10_turnBehind_15 : decode cX10_turnBehind 15 = .ok (.aload_n 0, 1) := by decide +kernel
theorem dX10_turnBehind_16 : decode cX10_turnBehind 16 = .ok (.getfield 41, 3) := by decide +kernel
theorem dX10_turnBehind_19 : decode cX10_turnBehind 19 = .ok (.if_icmp .ge 28, 3) := by decide +kernel
theorem dX10_turnBehind_22 : decode cX10_turnBehind 22 = .ok (.aload_n 0, 1) := by decide +kernel
theorem dX10_turnBehind_23 : decode cX10_turnBehind 23 = .ok (.getfield 23, 3) := by decide +kernel
theorem dX10_turnBehind_26 : decode cX10_turnBehind 26 = .ok (.iload_n 3, 1) := by decide +kernel
theorem dX10_turnBehind_27 : decode cX10_turnBehind 27 = .ok (.iaload, 1) := by decide +kernel
theorem dX10_turnBehind_28 : decode cX10_turnBehind 28 = .ok (.iload_n 1, 1) := by decide +kernel
theorem dX10_turnBehind_29 : decode cX10_turnBehind 29 = .ok (.invokestatic 51, 3) := by decide +kernel
theorem dX10_turnBehind_32 : decode cX10_turnBehind 32 = .ok (.ifCond .eq 9, 3) := by decide +kernel
theorem dX10_turnBehind_35 : decode cX10_turnBehind 35 = .ok (.iload_n 2, 1) := by decide +kernel
theorem dX10_turnBehind_36 : decode cX10_turnBehind 36 = .ok (.iconst 1, 1) := by decide +kernel
theorem dX10_turnBehind_37 : decode cX10_turnBehind 37 = .ok (.iload_n 3, 1) := by decide +kernel
theorem dX10_turnBehind_38 : decode cX10_turnBehind 38 = .ok (.ishl, 1) := by decide +kernel
theorem dX10_turnBehind_39 : decode cX10_turnBehind 39 = .ok (.ior, 1) := by decide +kernel
theorem dX10_turnBehind_40 : decode cX10_turnBehind 40 = .ok (.istore_n 2, 1) := by decide +kernel
theorem dX10_turnBehind_41 : decode cX10_turnBehind 41 = .ok (.iinc 3 1, 3) := by decide +kernel
theorem dX10_turnBehind_44 : decode cX10_turnBehind 44 = .ok (.goto (-30), 3) := by decide +kernel
theorem dX10_turnBehind_47 : decode cX10_turnBehind 47 = .ok (.aload_n 0, 1) := by decide +kernel
theorem dX10_turnBehind_48 : decode cX10_turnBehind 48 = .ok (.getfield 20, 3) := by decide +kernel
theorem dX10_turnBehind_51 : decode cX10_turnBehind 51 = .ok (.iload_n 1, 1) := by decide +kernel
theorem dX10_turnBehind_52 : decode cX10_turnBehind 52 = .ok (.iload_n 2, 1) := by decide +kernel
theorem dX10_turnBehind_53 : decode cX10_turnBehind 53 = .ok (.iastore, 1) := by decide +kernel
theorem dX10_turnBehind_54 : decode cX10_turnBehind 54 = .ok (.iinc 1 1, 3) := by decide +kernel
theorem dX10_turnBehind_57 : decode cX10_turnBehind 57 = .ok (.goto (-55), 3) := by decide +kernel
theorem dX10_turnBehind_60 : decode cX10_turnBehind 60 = .ok (.return_, 1) := by decide +kernel
theorem dX10_sumHalf_0 : decode cX10_sumHalf 0 = .ok (.aload_n 0, 1) := by decide +kernel
theorem dX10_sumHalf_1 : decode cX10_sumHalf 1 = .ok (.getfield 41, 3) := by decide +kernel
theorem dX10_sumHalf_4 : decode cX10_sumHalf 4 = .ok (.iload_n 2, 1) := by decide +kernel
theorem dX10_sumHalf_5 : decode cX10_sumHalf 5 = .ok (.isub, 1) := by decide +kernel
theorem dX10_sumHalf_6 : decode cX10_sumHalf 6 = .ok (.iconst 0, 1) := by decide +kernel
theorem dX10_sumHalf_7 : decode cX10_sumHalf 7 = .ok (.invokestatic 88, 3) := by decide +kernel
theorem dX10_sumHalf_10 : decode cX10_sumHalf 10 = .ok (.bipush 6, 2) := by decide +kernel
theorem dX10_sumHalf_12 : decode cX10_sumHalf 12 = .ok (.invokestatic 93, 3) := by decide +kernel
theorem dX10_sumHalf_15 : decode cX10_sumHalf 15 = .ok (.istore_n 3, 1) := by decide +kernel
theorem dX10_sumHalf_16 : decode cX10_sumHalf 16 = .ok (.iconst 1, 1) := by decide +kernel
theorem dX10_sumHalf_17 : decode cX10_sumHalf 17 = .ok (.istore 4, 2) := by decide +kernel
theorem dX10_sumHalf_19 : decode cX10_sumHalf 19 = .ok (.iload 4, 2) := by decide +kernel
theorem dX10_sumHalf_21 : decode cX10_sumHalf 21 = .ok (.iconst 1, 1) := by decide +kernel
theorem dX10_sumHalf_22 : decode cX10_sumHalf 22 = .ok (.iload_n 3, 1) := by decide +kernel
theorem dX10_sumHalf_23 : decode cX10_sumHalf 23 = .ok (.ishl, 1) := by decide +kernel
theorem dX10_sumHalf_24 : decode cX10_sumHalf 24 = .ok (.if_icmp .ge 105, 3) := by decide +kernel
theorem dX10_sumHalf_27 : decode cX10_sumHalf 27 = .ok (.iload_n 1, 1) := by decide +kernel
theorem dX10_sumHalf_28 : decode cX10_sumHalf 28 = .ok (.iload 4, 2) := by decide +kernel
theorem dX10_sumHalf_30 : decode cX10_sumHalf 30 = .ok (.iload 4, 2) := by decide +kernel
theorem dX10_sumHalf_32 : decode cX10_sumHalf 32 = .ok (.iconst 1, 1) := by decide +kernel
theorem dX10_sumHalf_33 : decode cX10_sumHalf 33 = .ok (.isub, 1) := by decide +kernel
theorem dX10_sumHalf_34 : decode cX10_sumHalf 34 = .ok (.iand, 1) := by decide +kernel
theorem dX10_sumHalf_35 : decode cX10_sumHalf 35 = .ok (.iadd, 1) := by decide +kernel
theorem dX10_sumHalf_36 : decode cX10_sumHalf 36 = .ok (.istore 5, 2) := by decide +kernel
theorem dX10_sumHalf_38 : decode cX10_sumHalf 38 = .ok (.iload_n 2, 1) := by decide +kernel
theorem dX10_sumHalf_39 : decode cX10_sumHalf 39 = .ok (.iload 4, 2) := by decide +kernel
theorem dX10_sumHalf_41 : decode cX10_sumHalf 41 = .ok (.invokestatic 73, 3) := by decide +kernel
theorem dX10_sumHalf_44 : decode cX10_sumHalf 44 = .ok (.iadd, 1) := by decide +kernel
theorem dX10_sumHalf_45 : decode cX10_sumHalf 45 = .ok (.istore 6, 2) := by decide +kernel
theorem dX10_sumHalf_47 : decode cX10_sumHalf 47 = .ok (.aload_n 0, 1) := by decide +kernel
theorem dX10_sumHalf_48 : decode cX10_sumHalf 48 = .ok (.getfield 26, 3) := by decide +kernel
theorem dX10_sumHalf_51 : decode cX10_sumHalf 51 = .ok (.iload_n 1, 1) := by decide +kernel
theorem dX10_sumHalf_52 : decode cX10_sumHalf 52 = .ok (.iload 4, 2) := by decide +kernel
theorem dX10_sumHalf_54 : decode cX10_sumHalf 54 = .ok (.iadd, 1) := by decide +kernel
theorem dX10_sumHalf_55 : decode cX10_sumHalf 55 = .ok (.aload_n 0, 1) := by decide +kernel
theorem dX10_sumHalf_56 : decode cX10_sumHalf 56 = .ok (.getfield 26, 3) := by decide +kernel
theorem dX10_sumHalf_59 : decode cX10_sumHalf 59 = .ok (.iload 5, 2) := by decide +kernel
theorem dX10_sumHalf_61 : decode cX10_sumHalf 61 = .ok (.iaload, 1) := by decide +kernel
theorem dX10_sumHalf_62 : decode cX10_sumHalf 62 = .ok (.aload_n 0, 1) := by decide +kernel
theorem dX10_sumHalf_63 : decode cX10_sumHalf 63 = .ok (.getfield 13, 3) := by decide +kernel
theorem dX10_sumHalf_66 : decode cX10_sumHalf 66 = .ok (.iconst 0, 1) := by decide +kernel
theorem dX10_sumHalf_67 : decode cX10_sumHalf 67 = .ok (.aaload, 1) := by decide +kernel
theorem dX10_sumHalf_68 : decode cX10_sumHalf 68 = .ok (.iload 6, 2) := by decide +kernel
theorem dX10_sumHalf_70 : decode cX10_sumHalf 70 = .ok (.iaload, 1) := by decide +kernel
theorem dX10_sumHalf_71 : decode cX10_sumHalf 71 = .ok (.iadd, 1) := by decide +kernel
theorem dX10_sumHalf_72 : decode cX10_sumHalf 72 = .ok (.iastore, 1) := by decide +kernel
theorem dX10_sumHalf_73 : decode cX10_sumHalf 73 = .ok (.aload_n 0, 1) := by decide +kernel
theorem dX10_sumHalf_74 : decode cX10_sumHalf 74 = .ok (.getfield 29, 3) := by decide +kernel
theorem dX10_sumHalf_77 : decode cX10_sumHalf 77 = .ok (.iload_n 1, 1) := by decide +kernel
theorem dX10_sumHalf_78 : decode cX10_sumHalf 78 = .ok (.iload 4, 2) := by decide +kernel
theorem dX10_sumHalf_80 : decode cX10_sumHalf 80 = .ok (.iadd, 1) := by decide +kernel
theorem dX10_sumHalf_81 : decode cX10_sumHalf 81 = .ok (.aload_n 0, 1) := by decide +kernel
theorem dX10_sumHalf_82 : decode cX10_sumHalf 82 = .ok (.getfield 29, 3) := by decide +kernel
theorem dX10_sumHalf_85 : decode cX10_sumHalf 85 = .ok (.iload 5, 2) := by decide +kernel
theorem dX10_sumHalf_87 : decode cX10_sumHalf 87 = .ok (.iaload, 1) := by decide +kernel
theorem dX10_sumHalf_88 : decode cX10_sumHalf 88 = .ok (.aload_n 0, 1) := by decide +kernel
theorem dX10_sumHalf_89 : decode cX10_sumHalf 89 = .ok (.getfield 13, 3) := by decide +kernel
theorem dX10_sumHalf_92 : decode cX10_sumHalf 92 = .ok (.iconst 1, 1) := by decide +kernel
theorem dX10_sumHalf_93 : decode cX10_sumHalf 93 = .ok (.aaload, 1) := by decide +kernel
theorem dX10_sumHalf_94 : decode cX10_sumHalf 94 = .ok (.iload 6, 2) := by decide +kernel
theorem dX10_sumHalf_96 : decode cX10_sumHalf 96 = .ok (.iaload, 1) := by decide +kernel
theorem dX10_sumHalf_97 : decode cX10_sumHalf 97 = .ok (.iadd, 1) := by decide +kernel
theorem dX10_sumHalf_98 : decode cX10_sumHalf 98 = .ok (.iastore, 1) := by decide +kernel
theorem dX10_sumHalf_99 : decode cX10_sumHalf 99 = .ok (.aload_n 0, 1) := by decide +kernel
theorem dX10_sumHalf_100 : decode cX10_sumHalf 100 = .ok (.getfield 32, 3) := by decide +kernel
theorem dX10_sumHalf_103 : decode cX10_sumHalf 103 = .ok (.iload_n 1, 1) := by decide +kernel
theorem dX10_sumHalf_104 : decode cX10_sumHalf 104 = .ok (.iload 4, 2) := by decide +kernel
theorem dX10_sumHalf_106 : decode cX10_sumHalf 106 = .ok (.iadd, 1) := by decide +kernel
theorem dX10_sumHalf_107 : decode cX10_sumHalf 107 = .ok (.aload_n 0, 1) := by decide +kernel
theorem dX10_sumHalf_108 : decode cX10_sumHalf 108 = .ok (.getfield 32, 3) := by decide +kernel
theorem dX10_sumHalf_111 : decode cX10_sumHalf 111 = .ok (.iload 5, 2) := by decide +kernel
theorem dX10_sumHalf_113 : decode cX10_sumHalf 113 = .ok (.iaload, 1) := by decide +kernel
theorem dX10_sumHalf_114 : decode cX10_sumHalf 114 = .ok (.aload_n 0, 1) := by decide +kernel
theorem dX10_sumHalf_115 : decode cX10_sumHalf 115 = .ok (.getfield 20, 3) := by decide +kernel
theorem dX10_sumHalf_118 : decode cX10_sumHalf 118 = .ok (.iload 6, 2) := by decide +kernel
theorem dX10_sumHalf_120 : decode cX10_sumHalf 120 = .ok (.iaload, 1) := by decide +kernel
theorem dX10_sumHalf_121 : decode cX10_sumHalf 121 = .ok (.ior, 1) := by decide +kernel
theorem dX10_sumHalf_122 : decode cX10_sumHalf 122 = .ok (.iastore, 1) := by decide +kernel
theorem dX10_sumHalf_123 : decode cX10_sumHalf 123 = .ok (.iinc 4 1, 3) := by decide +kernel
theorem dX10_sumHalf_126 : decode cX10_sumHalf 126 = .ok (.goto (-107), 3) := by decide +kernel
theorem dX10_sumHalf_129 : decode cX10_sumHalf 129 = .ok (.return_, 1) := by decide +kernel
theorem dX11_init_0 : decode cX11_init 0 = .ok (.aload_n 0, 1) := by decide +kernel
theorem dX11_init_1 : decode cX11_init 1 = .ok (.invokespecial 1, 3) := by decide +kernel
theorem dX11_init_4 : decode cX11_init 4 = .ok (.aload_n 0, 1) := by decide +kernel
theorem dX11_init_5 : decode cX11_init 5 = .ok (.new 7, 3) := by decide +kernel
theorem dX11_init_8 : decode cX11_init 8 = .ok (.dup, 1) := by decide +kernel
theorem dX11_init_9 : decode cX11_init 9 = .ok (.invokespecial 9, 3) := by decide +kernel
theorem dX11_init_12 : decode cX11_init 12 = .ok (.putfield 10, 3) := by decide +kernel
theorem dX11_init_15 : decode cX11_init 15 = .ok (.aload_n 0, 1) := by decide +kernel
theorem dX11_init_16 : decode cX11_init 16 = .ok (.new 16, 3) := by decide +kernel
theorem dX11_init_19 : decode cX11_init 19 = .ok (.dup, 1) := by decide +kernel
theorem dX11_init_20 : decode cX11_init 20 = .ok (.invokespecial 18, 3) := by decide +kernel
theorem dX11_init_23 : decode cX11_init 23 = .ok (.putfield 19, 3) := by decide +kernel
theorem dX11_init_26 : decode cX11_init 26 = .ok (.aload_n 0, 1) := by decide +kernel
theorem dX11_init_27 : decode cX11_init 27 = .ok (.new 23, 3) := by decide +kernel
theorem dX11_init_30 : decode cX11_init 30 = .ok (.dup, 1) := by decide +kernel
theorem dX11_init_31 : decode cX11_init 31 = .ok (.invokespecial 25, 3) := by decide +kernel
theorem dX11_init_34 : decode cX11_init 34 = .ok (.putfield 26, 3) := by decide +kernel
theorem dX11_init_37 : decode cX11_init 37 = .ok (.aload_n 0, 1) := by decide +kernel
theorem dX11_init_38 : decode cX11_init 38 = .ok (.new 30, 3) := by decide +kernel
theorem dX11_init_41 : decode cX11_init 41 = .ok (.dup, 1) := by decide +kernel
theorem dX11_init_42 : decode cX11_init 42 = .ok (.invokespecial 32, 3) := by decide +kernel
theorem dX11_init_45 : decode cX11_init 45 = .ok (.putfield 33, 3) := by decide +kernel
theorem dX11_init_48 : decode cX11_init 48 = .ok (.aload_n 0, 1) := by decide +kernel
theorem dX11_init_49 : decode cX11_init 49 = .ok (.new 37, 3) := by decide +kernel
theorem dX11_init_52 : decode cX11_init 52 = .ok (.dup, 1) := by decide +kernel
theorem dX11_init_53 : decode cX11_init 53 = .ok (.invokespecial 39, 3) := by decide +kernel
theorem dX11_init_56 : decode cX11_init 56 = .ok (.putfield 40, 3) := by decide +kernel
theorem dX11_init_59 : decode cX11_init 59 = .ok (.aload_n 0, 1) := by decide +kernel
theorem dX11_init_60 : decode cX11_init 60 = .ok (.iconst 5, 1) := by decide +kernel
theorem dX11_init_61 : decode cX11_init 61 = .ok (.anewarray 44, 3) := by decide +kernel
theorem dX11_init_64 : decode cX11_init 64 = .ok (.dup, 1) := by decide +kernel
theorem dX11_init_65 : decode cX11_init 65 = .ok (.iconst 0, 1) := by decide +kernel
theorem dX11_init_66 : decode cX11_init 66 = .ok (.new 44, 3) := by decide +kernel
theorem dX11_init_69 : decode cX11_init 69 = .ok (.dup, 1) := by decide +kernel
theorem dX11_init_70 : decode cX11_init 70 = .ok (.invokespecial 46, 3) := by decide +kernel
theorem dX11_init_73 : decode cX11_init 73 = .ok (.aastore, 1) := by decide +kernel
theorem dX11_init_74 : decode cX11_init 74 = .ok (.dup, 1) := by decide +kernel
theorem dX11_init_75 : decode cX11_init 75 = .ok (.iconst 1, 1) := by decide +kernel
theorem dX11_init_76 : decode cX11_init 76 = .ok (.new 47, 3) := by decide +kernel
theorem dX11_init_79 : decode cX11_init 79 = .ok (.dup, 1) := by decide +kernel
theorem dX11_init_80 : decode cX11_init 80 = .ok (.invokespecial 49, 3) := by decide +kernel
theorem dX11_init_83 : decode cX11_init 83 = .ok (.aastore, 1) := by decide +kernel
theorem dX11_init_84 : decode cX11_init 84 = .ok (.dup, 1) := by decide +kernel
theorem dX11_init_85 : decode cX11_init 85 = .ok (.iconst 2, 1) := by decide +kernel
theorem dX11_init_86 : decode cX11_init 86 = .ok (.new 50, 3) := by decide +kernel
theorem dX11_init_89 : decode cX11_init 89 = .ok (.dup, 1) := by decide +kernel
theorem dX11_init_90 : decode cX11_init 90 = .ok (.invokespecial 52, 3) := by decide +kernel
theorem dX11_init_93 : decode cX11_init 93 = .ok (.aastore, 1) := by decide +kernel
theorem dX11_init_94 : decode cX11_init 94 = .ok (.dup, 1) := by decide +kernel
theorem dX11_init_95 : decode cX11_init 95 = .ok (.iconst 3, 1) := by decide +kernel
theorem dX11_init_96 : decode cX11_init 96 = .ok (.new 53, 3) := by decide +kernel
theorem dX11_init_99 : decode cX11_init 99 = .ok (.dup, 1) := by decide +kernel
theorem dX11_init_100 : decode cX11_init 100 = .ok (.invokespecial 55, 3) := by decide +kernel
theorem dX11_init_103 : decode cX11_init 103 = .ok (.aastore, 1) := by decide +kernel
theorem dX11_init_104 : decode cX11_init 104 = .ok (.dup, 1) := by decide +kernel
theorem dX11_init_105 : decode cX11_init 105 = .ok (.iconst 4, 1) := by decide +kernel
theorem dX11_init_106 : decode cX11_init 106 = .ok (.new 56, 3) := by decide +kernel
theorem dX11_init_109 : decode cX11_init 109 = .ok (.dup, 1) := by decide +kernel
theorem dX11_init_110 : decode cX11_init 110 = .ok (.invokespecial 58, 3) := by decide +kernel
theorem dX11_init_113 : decode cX11_init 113 = .ok (.aastore, 1) := by decide +kernel
theorem dX11_init_114 : decode cX11_init 114 = .ok (.putfield 59, 3) := by decide +kernel
theorem dX11_init_117 : decode cX11_init 117 = .ok (.aload_n 0, 1) := by decide +kernel
theorem dX11_init_118 : decode cX11_init 118 = .ok (.bipush 6, 2) := by decide +kernel
theorem dX11_init_120 : decode cX11_init 120 = .ok (.anewarray 63, 3) := by decide +kernel
theorem dX11_init_123 : decode cX11_init 123 = .ok (.putfield 65, 3) := by decide +kernel
theorem dX11_init_126 : decode cX11_init 126 = .ok (.iconst 0, 1) := by decide +kernel
theorem dX11_init_127 : decode cX11_init 127 = .ok (.istore_n 1, 1) := by decide +kernel
theorem dX11_init_128 : decode cX11_init 128 = .ok (.iload_n 1, 1) := by decide +kernel
theorem dX11_init_129 : decode cX11_init 129 = .ok (.bipush 6, 2) := by decide +kernel
theorem dX11_init_131 : decode cX11_init 131 = .ok (.if_icmp .ge 22, 3) := by decide +kernel
theorem dX11_init_134 : decode cX11_init 134 = .ok (.aload_n 0, 1) := by decide +kernel
theorem dX11_init_135 : decode cX11_init 135 = .ok (.getfield 65, 3) := by decide +kernel
theorem dX11_init_138 : decode cX11_init 138 = .ok (.iload_n 1, 1) := by decide +kernel
theorem dX11_init_139 : decode cX11_init 139 = .ok (.new 63, 3) := by decide +kernel
theorem dX11_init_142 : decode cX11_init 142 = .ok (.dup, 1) := by decide +kernel
theorem dX11_init_143 : decode cX11_init 143 = .ok (.invokespecial 69, 3) := by decide +kernel
theorem dX11_init_146 : decode cX11_init 146 = .ok (.aastore, 1) := by decide +kernel
theorem dX11_init_147 : decode cX11_init 147 = .ok (.iinc 1 1, 3) := by decide +kernel
theorem dX11_init_150 : decode cX11_init 150 = .ok (.goto (-22), 3) := by decide +kernel
theorem dX11_init_153 : decode cX11_init 153 = .ok (.aload_n 0, 1) := by decide +kernel
theorem dX11_init_154 : decode cX11_init 154 = .ok (.iconst 0, 1) := by decide +kernel
theorem dX11_init_155 : decode cX11_init 155 = .ok (.putfield 70, 3) := by decide +kernel
theorem dX11_init_158 : decode cX11_init 158 = .ok (.return_, 1) := by decide +kernel
theorem dX11_job_0 : decode cX11_job 0 = .ok (.iconst 0, 1) := by decide +kernel
theorem dX11_job_1 : decode cX11_job 1 = .ok (.iload_n 1, 1) := by decide +kernel
theorem dX11_job_2 : decode cX11_job 2 = .ok (.invokestatic 74, 3) := by decide +kernel
theorem dX11_job_5 : decode cX11_job 5 = .ok (.ifCond .eq 11, 3) := by decide +kernel
theorem dX11_job_8 : decode cX11_job 8 = .ok (.iconst 1, 1) := by decide +kernel
theorem dX11_job_9 : decode cX11_job 9 = .ok (.iload_n 2, 1) := by decide +kernel
theorem dX11_job_10 : decode cX11_job 10 = .ok (.invokestatic 74, 3) := by decide +kernel
theorem dX11_job_13 : decode cX11_job 13 = .ok (.ifCond .ne 9, 3) := by decide +kernel
theorem dX11_job_16 : decode cX11_job 16 = .ok (.aload_n 0, 1) := by decide +kernel
theorem dX11_job_17 : decode cX11_job 17 = .ok (.iconst 1, 1) := by decide +kernel
theorem dX11_job_18 : decode cX11_job 18 = .ok (.invokevirtual 78, 3) := by decide +kernel
theorem dX11_job_21 : decode cX11_job 21 = .ok (.ireturn, 1) := by decide +kernel
theorem dX11_job_22 : decode cX11_job 22 = .ok (.aload_n 0, 1) := by decide +kernel
theorem dX11_job_23 : decode cX11_job 23 = .ok (.getfield 10, 3) := by decide +kernel
theorem dX11_job_26 : decode cX11_job 26 = .ok (.invokevirtual 82, 3) := by decide +kernel
theorem dX11_job_29 : decode cX11_job 29 = .ok (.ifCond .eq 9, 3) := by decide +kernel
theorem dX11_job_32 : decode cX11_job 32 = .ok (.aload_n 0, 1) := by decide +kernel
theorem dX11_job_33 : decode cX11_job 33 = .ok (.iconst 2, 1) := by decide +kernel
theorem dX11_job_34 : decode cX11_job 34 = .ok (.invokevirtual 78, 3) := by decide +kernel
theorem dX11_job_37 : decode cX11_job 37 = .ok (.ireturn, 1) := by decide +kernel
theorem dX11_job_38 : decode cX11_job 38 = .ok (.aload_n 0, 1) := by decide +kernel
theorem dX11_job_39 : decode cX11_job 39 = .ok (.aload_n 0, 1) := by decide +kernel
theorem dX11_job_40 : decode cX11_job 40 = .ok (.iload_n 1, 1) := by decide +kernel
theorem dX11_job_41 : decode cX11_job 41 = .ok (.iload_n 2, 1) := by decide +kernel
theorem dX11_job_42 : decode cX11_job 42 = .ok (.invokevirtual 86, 3) := by decide +kernel
theorem dX11_job_45 : decode cX11_job 45 = .ok (.invokevirtual 90, 3) := by decide +kernel
theorem dX11_job_48 : decode cX11_job 48 = .ok (.ireturn, 1) := by decide +kernel
theorem dX11_set_0 : decode cX11_set 0 = .ok (.aload_n 0, 1) := by decide +kernel
theorem dX11_set_1 : decode cX11_set 1 = .ok (.getfield 10, 3) := by decide +kernel
theorem dX11_set_4 : decode cX11_set 4 = .ok (.iload_n 1, 1) := by decide +kernel
theorem dX11_set_5 : decode cX11_set 5 = .ok (.invokevirtual 93, 3) := by decide +kernel
theorem dX11_set_8 : decode cX11_set 8 = .ok (.ifCond .eq 11, 3) := by decide +kernel
theorem dX11_set_11 : decode cX11_set 11 = .ok (.iload_n 2, 1) := by decide +kernel
theorem dX11_set_12 : decode cX11_set 12 = .ok (.iload_n 3, 1) := by decide +kernel
theorem dX11_set_13 : decode cX11_set 13 = .ok (.invokestatic 74, 3) := by decide +kernel
theorem dX11_set_16 : decode cX11_set 16 = .ok (.ifCond .ne 9, 3) := by decide +kernel
theorem dX11_set_19 : decode cX11_set 19 = .ok (.aload_n 0, 1) := by decide +kernel
theorem dX11_set_20 : decode cX11_set 20 = .ok (.iconst 1, 1) := by decide +kernel
theorem dX11_set_21 : decode cX11_set 21 = .ok (.invokevirtual 78, 3) := by decide +kernel
theorem dX11_set_24 : decode cX11_set 24 = .ok (.ireturn, 1) := by decide +kernel
theorem dX11_set_25 : decode cX11_set 25 = .ok (.aload_n 0, 1) := by decide +kernel
theorem dX11_set_26 : decode cX11_set 26 = .ok (.getfield 10, 3) := by decide +kernel
theorem dX11_set_29 : decode cX11_set 29 = .ok (.iload_n 1, 1) := by decide +kernel
theorem dX11_set_30 : decode cX11_set 30 = .ok (.iload_n 2, 1) := by decide +kernel
theorem dX11_set_31 : decode cX11_set 31 = .ok (.invokevirtual 97, 3) := by decide +kernel
theorem dX11_set_34 : decode cX11_set 34 = .ok (.istore 4, 2) := by decide +kernel
theorem dX11_set_36 : decode cX11_set 36 = .ok (.aload_n 0, 1) := by decide +kernel
theorem dX11_set_37 : decode cX11_set 37 = .ok (.getfield 10, 3) := by decide +kernel
theorem dX11_set_40 : decode cX11_set 40 = .ok (.iload_n 1, 1) := by decide +kernel
theorem dX11_set_41 : decode cX11_set 41 = .ok (.iload_n 2, 1) := by decide +kernel
theorem dX11_set_42 : decode cX11_set 42 = .ok (.iload_n 3, 1) := by decide +kernel
theorem dX11_set_43 : decode cX11_set 43 = .ok (.invokevirtual 100, 3) := by decide +kernel
theorem dX11_set_46 : decode cX11_set 46 = .ok (.aload_n 0, 1) := by decide +kernel
theorem dX11_set_47 : decode cX11_set 47 = .ok (.getfield 33, 3) := by decide +kernel
theorem dX11_set_50 : decode cX11_set 50 = .ok (.iconst 1, 1) := by decide +kernel
theorem dX11_set_51 : decode cX11_set 51 = .ok (.iload_n 1, 1) := by decide +kernel
theorem dX11_set_52 : decode cX11_set 52 = .ok (.iload_n 2, 1) := by decide +kernel
theorem dX11_set_53 : decode cX11_set 53 = .ok (.iload 4, 2) := by decide +kernel
theorem dX11_set_55 : decode cX11_set 55 = .ok (.invokevirtual 104, 3) := by decide +kernel
theorem dX11_set_58 : decode cX11_set 58 = .ok (.aload_n 0, 1) := by decide +kernel
theorem dX11_set_59 : decode cX11_set 59 = .ok (.iload 4, 2) := by decide +kernel
theorem dX11_set_61 : decode cX11_set 61 = .ok (.invokevirtual 90, 3) := by decide +kernel
theorem dX11_set_64 : decode cX11_set 64 = .ok (.ireturn, 1) := by decide +kernel
theorem dX11_lay_0 : decode cX11_lay 0 = .ok (.aload_n 0, 1) := by decide +kernel
theorem dX11_lay_1 : decode cX11_lay 1 = .ok (.getfield 10, 3) := by decide +kernel
theorem dX11_lay_4 : decode cX11_lay 4 = .ok (.iload_n 1, 1) := by decide +kernel
theorem dX11_lay_5 : decode cX11_lay 5 = .ok (.invokevirtual 93, 3) := by decide +kernel
theorem dX11_lay_8 : decode cX11_lay 8 = .ok (.ifCond .eq 14, 3) := by decide +kernel
theorem dX11_lay_11 : decode cX11_lay 11 = .ok (.aload_n 0, 1) := by decide +kernel
theorem dX11_lay_12 : decode cX11_lay 12 = .ok (.getfield 10, 3) := by decide +kernel
theorem dX11_lay_15 : decode cX11_lay 15 = .ok (.iload_n 2, 1) := by decide +kernel
theorem dX11_lay_16 : decode cX11_lay 16 = .ok (.invokevirtual 93, 3) := by decide +kernel
theorem dX11_lay_19 : decode cX11_lay 19 = .ok (.ifCond .ne 9, 3) := by decide +kernel
theorem dX11_lay_22 : decode cX11_lay 22 = .ok (.aload_n 0, 1) := by decide +kernel
theorem dX11_lay_23 : decode cX11_lay 23 = .ok (.iconst 1, 1) := by decide +kernel
theorem dX11_lay_24 : decode cX11_lay 24 = .ok (.invokevirtual 78, 3) := by decide +kernel
theorem dX11_lay_27 : decode cX11_lay 27 = .ok (.ireturn, 1) := by decide +kernel
theorem dX11_lay_28 : decode cX11_lay 28 = .ok (.iload_n 1, 1) := by decide +kernel
theorem dX11_lay_29 : decode cX11_lay 29 = .ok (.iload_n 2, 1) := by decide +kernel
theorem dX11_lay_30 : decode cX11_lay 30 = .ok (.if_icmp .eq 27, 3) := by decide +kernel
theorem dX11_lay_33 : decode cX11_lay 33 = .ok (.aload_n 0, 1) := by decide +kernel
theorem dX11_lay_34 : decode cX11_lay 34 = .ok (.getfield 10, 3) := by decide +kernel
theorem dX11_lay_37 : decode cX11_lay 37 = .ok (.iload_n 1, 1) := by decide +kernel
theorem dX11_lay_38 : decode cX11_lay 38 = .ok (.iload_n 2, 1) := by decide +kernel
theorem dX11_lay_39 : decode cX11_lay 39 = .ok (.invokevirtual 108, 3) := by decide +kernel
theorem dX11_lay_42 : decode cX11_lay 42 = .ok (.ifCond .ne 15, 3) := by decide +kernel
theorem dX11_lay_45 : decode cX11_lay 45 = .ok (.aload_n 0, 1) := by decide +kernel
theorem dX11_lay_46 : decode cX11_lay 46 = .ok (.getfield 10, 3) := by decide +kernel
theorem dX11_lay_49 : decode cX11_lay 49 = .ok (.iload_n 2, 1) := by decide +kernel
theorem dX11_lay_50 : decode cX11_lay 50 = .ok (.iload_n 1, 1) := by decide +kernel
theorem dX11_lay_51 : decode cX11_lay 51 = .ok (.invokevirtual 111, 3) := by decide +kernel
theorem dX11_lay_54 : decode cX11_lay 54 = .ok (.ifCond .eq 9, 3) := by decide +kernel
theorem dX11_lay_57 : decode cX11_lay 57 = .ok (.aload_n 0, 1) := by decide +kernel
theorem dX11_lay_58 : decode cX11_lay 58 = .ok (.iconst 3, 1) := by decide +kernel
theorem dX11_lay_59 : decode cX11_lay 59 = .ok (.invokevirtual 78, 3) := by decide +kernel
theorem dX11_lay_62 : decode cX11_lay 62 = .ok (.ireturn, 1) := by decide +kernel
theorem dX11_lay_63 : decode cX11_lay 63 = .ok (.aload_n 0, 1) := by decide +kernel
theorem dX11_lay_64 : decode cX11_lay 64 = .ok (.getfield 10, 3) := by decide +kernel
theorem dX11_lay_67 : decode cX11_lay 67 = .ok (.iload_n 1, 1) := by decide +kernel
theorem dX11_lay_68 : decode cX11_lay 68 = .ok (.iload_n 2, 1) := by decide +kernel
theorem dX11_lay_69 : decode cX11_lay 69 = .ok (.invokevirtual 114, 3) := by decide +kernel
theorem dX11_lay_72 : decode cX11_lay 72 = .ok (.aload_n 0, 1) := by decide +kernel
theorem dX11_lay_73 : decode cX11_lay 73 = .ok (.getfield 33, 3) := by decide +kernel
theorem dX11_lay_76 : decode cX11_lay 76 = .ok (.iconst 2, 1) := by decide +kernel
theorem dX11_lay_77 : decode cX11_lay 77 = .ok (.iload_n 1, 1) := by decide +kernel
theorem dX11_lay_78 : decode cX11_lay 78 = .ok (.iload_n 2, 1) := by decide +kernel
theorem dX11_lay_79 : decode cX11_lay 79 = .ok (.iconst 0, 1) := by decide +kernel
theorem dX11_lay_80 : decode cX11_lay 80 = .ok (.invokevirtual 104, 3) := by decide +kernel
theorem dX11_lay_83 : decode cX11_lay 83 = .ok (.aload_n 0, 1) := by decide +kernel
theorem dX11_lay_84 : decode cX11_lay 84 = .ok (.iconst 1, 1) := by decide +kernel
theorem dX11_lay_85 : decode cX11_lay 85 = .ok (.invokevirtual 90, 3) := by decide +kernel
theorem dX11_lay_88 : decode cX11_lay 88 = .ok (.ireturn, 1) := by decide +kernel
theorem dX11_free_0 : decode cX11_free 0 = .ok (.aload_n 0, 1) := by decide +kernel
theorem dX11_free_1 : decode cX11_free 1 = .ok (.getfield 10, 3) := by decide +kernel
theorem dX11_free_4 : decode cX11_free 4 = .ok (.iload_n 1, 1) := by decide +kernel
theorem dX11_free_5 : decode cX11_free 5 = .ok (.invokevirtual 93, 3) := by decide +kernel
theorem dX11_free_8 : decode cX11_free 8 = .ok (.ifCond .eq 14, 3) := by decide +kernel
theorem dX11_free_11 : decode cX11_free 11 = .ok (.aload_n 0, 1) := by decide +kernel
theorem dX11_free_12 : decode cX11_free 12 = .ok (.getfield 10, 3) := by decide +kernel
theorem dX11_free_15 : decode cX11_free 15 = .ok (.iload_n 2, 1) := by decide +kernel
theorem dX11_free_16 : decode cX11_free 16 = .ok (.invokevirtual 93, 3) := by decide +kernel
theorem dX11_free_19 : decode cX11_free 19 = .ok (.ifCond .ne 9, 3) := by decide +kernel
theorem dX11_free_22 : decode cX11_free 22 = .ok (.aload_n 0, 1) := by decide +kernel
theorem dX11_free_23 : decode cX11_free 23 = .ok (.iconst 1, 1) := by decide +kernel
theorem dX11_free_24 : decode cX11_free 24 = .ok (.invokevirtual 78, 3) := by decide +kernel
theorem dX11_free_27 : decode cX11_free 27 = .ok (.ireturn, 1) := by decide +kernel
theorem dX11_free_28 : decode cX11_free 28 = .ok (.aload_n 0, 1) := by decide +kernel
theorem dX11_free_29 : decode cX11_free 29 = .ok (.getfield 10, 3) := by decide +kernel
theorem dX11_free_32 : decode cX11_free 32 = .ok (.iload_n 1, 1) := by decide +kernel
theorem dX11_free_33 : decode cX11_free 33 = .ok (.iload_n 2, 1) := by decide +kernel
theorem dX11_free_34 : decode cX11_free 34 = .ok (.invokevirtual 108, 3) := by decide +kernel
theorem dX11_free_37 : decode cX11_free 37 = .ok (.ifCond .ne 9, 3) := by decide +kernel
theorem dX11_free_40 : decode cX11_free 40 = .ok (.aload_n 0, 1) := by decide +kernel
theorem dX11_free_41 : decode cX11_free 41 = .ok (.iconst 3, 1) := by decide +kernel
theorem dX11_free_42 : decode cX11_free 42 = .ok (.invokevirtual 78, 3) := by decide +kernel
theorem dX11_free_45 : decode cX11_free 45 = .ok (.ireturn, 1) := by decide +kernel
theorem dX11_free_46 : decode cX11_free 46 = .ok (.aload_n 0, 1) := by decide +kernel
theorem dX11_free_47 : decode cX11_free 47 = .ok (.getfield 10, 3) := by decide +kernel
theorem dX11_free_50 : decode cX11_free 50 = .ok (.iload_n 1, 1) := by decide +kernel
theorem dX11_free_51 : decode cX11_free 51 = .ok (.iload_n 2, 1) := by decide +kernel
theorem dX11_free_52 : decode cX11_free 52 = .ok (.invokevirtual 118, 3) := by decide +kernel
theorem dX11_free_55 : decode cX11_free 55 = .ok (.aload_n 0, 1) := by decide +kernel
theorem dX11_free_56 : decode cX11_free 56 = .ok (.getfield 33, 3) := by decide +kernel
theorem dX11_free_59 : decode cX11_free 59 = .ok (.iconst 3, 1) := by decide +kernel
theorem dX11_free_60 : decode cX11_free 60 = .ok (.iload_n 1, 1) := by decide +kernel
theorem dX11_free_61 : decode cX11_free 61 = .ok (.iload_n 2, 1) := by decide +kernel
theorem dX11_free_62 : decode cX11_free 62 = .ok (.iconst 0, 1) := by decide +kernel
theorem dX11_free_63 : decode cX11_free 63 = .ok (.invokevirtual 104, 3) := by decide +kernel
theorem dX11_free_66 : decode cX11_free 66 = .ok (.aload_n 0, 1) := by decide +kernel
theorem dX11_free_67 : decode cX11_free 67 = .ok (.iconst 1, 1) := by decide +kernel
theorem dX11_free_68 : decode cX11_free 68 = .ok (.invokevirtual 90, 3) := by decide +kernel
theorem dX11_free_71 : decode cX11_free 71 = .ok (.ireturn, 1) := by decide +kernel
theorem dX11_put_0 : decode cX11_put 0 = .ok (.aload_n 0, 1) := by decide +kernel
theorem dX11_put_1 : decode cX11_put 1 = .ok (.getfield 10, 3) := by decide +kernel
theorem dX11_put_4 : decode cX11_put 4 = .ok (.iload_n 1, 1) := by decide +kernel
theorem dX11_put_5 : decode cX11_put 5 = .ok (.invokevirtual 93, 3) := by decide +kernel
theorem dX11_put_8 : decode cX11_put 8 = .ok (.ifCond .ne 9, 3) := by decide +kernel
theorem dX11_put_11 : decode cX11_put 11 = .ok (.aload_n 0, 1) := by decide +kernel
theorem dX11_put_12 : decode cX11_put 12 = .ok (.iconst 1, 1) := by decide +kernel
theorem dX11_put_13 : decode cX11_put 13 = .ok (.invokevirtual 78, 3) := by decide +kernel
theorem dX11_put_16 : decode cX11_put 16 = .ok (.ireturn, 1) := by decide +kernel
theorem dX11_put_17 : decode cX11_put 17 = .ok (.aload_n 0, 1) := by decide +kernel
theorem dX11_put_18 : decode cX11_put 18 = .ok (.getfield 26, 3) := by decide +kernel
theorem dX11_put_21 : decode cX11_put 21 = .ok (.iload_n 1, 1) := by decide +kernel
theorem dX11_put_22 : decode cX11_put 22 = .ok (.invokevirtual 121, 3) := by decide +kernel
theorem dX11_put_25 : decode cX11_put 25 = .ok (.iconst (-1), 1) := by decide +kernel
theorem dX11_put_26 : decode cX11_put 26 = .ok (.if_icmp .eq 9, 3) := by decide +kernel
theorem dX11_put_29 : decode cX11_put 29 = .ok (.aload_n 0, 1) := by decide +kernel
theorem dX11_put_30 : decode cX11_put 30 = .ok (.iconst 3, 1) := by decide +kernel
theorem dX11_put_31 : decode cX11_put 31 = .ok (.invokevirtual 78, 3) := by decide +kernel
theorem dX11_put_34 : decode cX11_put 34 = .ok (.ireturn, 1) := by decide +kernel
theorem dX11_put_35 : decode cX11_put 35 = .ok (.aload_n 0, 1) := by decide +kernel
theorem dX11_put_36 : decode cX11_put 36 = .ok (.getfield 26, 3) := by decide +kernel
theorem dX11_put_39 : decode cX11_put 39 = .ok (.iload_n 1, 1) := by decide +kernel
theorem dX11_put_40 : decode cX11_put 40 = .ok (.invokevirtual 124, 3) := by decide +kernel
theorem dX11_put_43 : decode cX11_put 43 = .ok (.aload_n 0, 1) := by decide +kernel
theorem dX11_put_44 : decode cX11_put 44 = .ok (.aload_n 0, 1) := by decide +kernel
theorem dX11_put_45 : decode cX11_put 45 = .ok (.getfield 26, 3) := by decide +kernel
theorem dX11_put_48 : decode cX11_put 48 = .ok (.invokevirtual 128, 3) := by decide +kernel
theorem dX11_put_51 : decode cX11_put 51 = .ok (.invokevirtual 90, 3) := by decide +kernel
theorem dX11_put_54 : decode cX11_put 54 = .ok (.ireturn, 1) := by decide +kernel
theorem dX11_clear_0 : decode cX11_clear 0 = .ok (.aload_n 0, 1) := by decide +kernel
theorem dX11_clear_1 : decode cX11_clear 1 = .ok (.getfield 26, 3) := by decide +kernel
theorem dX11_clear_4 : decode cX11_clear 4 = .ok (.invokevirtual 128, 3) := by decide +kernel
theorem dX11_clear_7 : decode cX11_clear 7 = .ok (.istore_n 1, 1) := by decide +kernel
theorem dX11_clear_8 : decode cX11_clear 8 = .ok (.aload_n 0, 1) := by decide +kernel
theorem dX11_clear_9 : decode cX11_clear 9 = .ok (.getfield 26, 3) := by decide +kernel
theorem dX11_clear_12 : decode cX11_clear 12 = .ok (.invokevirtual 132, 3) := by decide +kernel
theorem dX11_clear_15 : decode cX11_clear 15 = .ok (.aload_n 0, 1) := by decide +kernel
theorem dX11_clear_16 : decode cX11_clear 16 = .ok (.iload_n 1, 1) := by decide +kernel
theorem dX11_clear_17 : decode cX11_clear 17 = .ok (.invokevirtual 90, 3) := by decide +kernel
theorem dX11_clear_20 : decode cX11_clear 20 = .ok (.ireturn, 1) := by decide +kernel
theorem dX11_told_0 : decode cX11_told 0 = .ok (.aload_n 0, 1) := by decide +kernel
theorem dX11_told_1 : decode cX11_told 1 = .ok (.getfield 10, 3) := by decide +kernel
theorem dX11_told_4 : decode cX11_told 4 = .ok (.iload_n 1, 1) := by decide +kernel
theorem dX11_told_5 : decode cX11_told 5 = .ok (.invokevirtual 93, 3) := by decide +kernel
theorem dX11_told_8 : decode cX11_told 8 = .ok (.ifCond .ne 5, 3) := by decide +kernel
theorem dX11_told_11 : decode cX11_told 11 = .ok (.iconst (-1), 1) := by decide +kernel
theorem dX11_told_12 : decode cX11_told 12 = .ok (.ireturn, 1) := by decide +kernel
theorem dX11_told_13 : decode cX11_told 13 = .ok (.iload_n 2, 1) := by decide +kernel
theorem dX11_told_14 : decode cX11_told 14 = .ok (.tableswitch 111 0 7 #[46, 46, 46, 56, 65, 77, 89, 98], 46) := by decide +kernel
theorem dX11_told_60 : decode cX11_told 60 = .ok (.aload_n 0, 1) := by decide +kernel
theorem dX11_told_61 : decode cX11_told 61 = .ok (.getfield 10, 3) := by decide +kernel
theorem dX11_told_64 : decode cX11_told 64 = .ok (.iload_n 1, 1) := by decide +kernel
theorem dX11_told_65 : decode cX11_told 65 = .ok (.iload_n 2, 1) := by decide +kernel
theorem dX11_told_66 : decode cX11_told 66 = .ok (.invokevirtual 97, 3) := by decide +kernel
theorem dX11_told_69 : decode cX11_told 69 = .ok (.ireturn, 1) := by decide +kernel
theorem dX11_told_70 : decode cX11_told 70 = .ok (.aload_n 0, 1) := by decide +kernel
theorem dX11_told_71 : decode cX11_told 71 = .ok (.getfield 10, 3) := by decide +kernel
theorem dX11_told_74 : decode cX11_told 74 = .ok (.iload_n 1, 1) := by decide +kernel
theorem dX11_told_75 : decode cX11_told 75 = .ok (.invokevirtual 135, 3) := by decide +kernel
theorem dX11_told_78 : decode cX11_told 78 = .ok (.ireturn, 1) := by decide +kernel
theorem dX11_told_79 : decode cX11_told 79 = .ok (.aload_n 0, 1) := by decide +kernel
theorem dX11_told_80 : decode cX11_told 80 = .ok (.getfield 10, 3) := by decide +kernel
theorem dX11_told_83 : decode cX11_told 83 = .ok (.iload_n 1, 1) := by decide +kernel
theorem dX11_told_84 : decode cX11_told 84 = .ok (.invokevirtual 138, 3) := by decide +kernel
theorem dX11_told_87 : decode cX11_told 87 = .ok (.invokestatic 141, 3) := by decide +kernel
theorem dX11_told_90 : decode cX11_told 90 = .ok (.ireturn, 1) := by decide +kernel
theorem dX11_told_91 : decode cX11_told 91 = .ok (.aload_n 0, 1) := by decide +kernel
theorem dX11_told_92 : decode cX11_told 92 = .ok (.getfield 10, 3) := by decide +kernel
theorem dX11_told_95 : decode cX11_told 95 = .ok (.iload_n 1, 1) := by decide +kernel
theorem dX11_told_96 : decode cX11_told 96 = .ok (.invokevirtual 146, 3) := by decide +kernel
theorem dX11_told_99 : decode cX11_told 99 = .ok (.invokestatic 141, 3) := by decide +kernel
theorem dX11_told_102 : decode cX11_told 102 = .ok (.ireturn, 1) := by decide +kernel
theorem dX11_told_103 : decode cX11_told 103 = .ok (.aload_n 0, 1) := by decide +kernel
theorem dX11_told_104 : decode cX11_told 104 = .ok (.getfield 26, 3) := by decide +kernel
theorem dX11_told_107 : decode cX11_told 107 = .ok (.iload_n 1, 1) := by decide +kernel
theorem dX11_told_108 : decode cX11_told 108 = .ok (.invokevirtual 121, 3) := by decide +kernel
theorem dX11_told_111 : decode cX11_told 111 = .ok (.ireturn, 1) := by decide +kernel
theorem dX11_told_112 : decode cX11_told 112 = .ok (.aload_n 0, 1) := by decide +kernel
theorem dX11_told_113 : decode cX11_told 113 = .ok (.getfield 19, 3) := by decide +kernel
theorem dX11_told_116 : decode cX11_told 116 = .ok (.aload_n 0, 1) := by decide +kernel
theorem dX11_told_117 : decode cX11_told 117 = .ok (.getfield 10, 3) := by decide +kernel
theorem dX11_told_120 : decode cX11_told 120 = .ok (.iload_n 1, 1) := by decide +kernel
theorem dX11_told_121 : decode cX11_told 121 = .ok (.invokevirtual 149, 3) := by decide +kernel
theorem dX11_told_124 : decode cX11_told 124 = .ok (.ireturn, 1) := by decide +kernel
theorem dX11_told_125 : decode cX11_told 125 = .ok (.iconst (-1), 1) := by decide +kernel
theorem dX11_told_126 : decode cX11_told 126 = .ok (.ireturn, 1) := by decide +kernel
theorem dX11_ahead_0 : decode cX11_ahead 0 = .ok (.aload_n 0, 1) := by decide +kernel
theorem dX11_ahead_1 : decode cX11_ahead 1 = .ok (.getfield 10, 3) := by decide +kernel
theorem dX11_ahead_4 : decode cX11_ahead 4 = .ok (.iload_n 1, 1) := by decide +kernel
theorem dX11_ahead_5 : decode cX11_ahead 5 = .ok (.invokevirtual 93, 3) := by decide +kernel
theorem dX11_ahead_8 : decode cX11_ahead 8 = .ok (.ifCond .eq 14, 3) := by decide +kernel
theorem dX11_ahead_11 : decode cX11_ahead 11 = .ok (.aload_n 0, 1) := by decide +kernel
theorem dX11_ahead_12 : decode cX11_ahead 12 = .ok (.getfield 10, 3) := by decide +kernel
theorem dX11_ahead_15 : decode cX11_ahead 15 = .ok (.iload_n 2, 1) := by decide +kernel
theorem dX11_ahead_16 : decode cX11_ahead 16 = .ok (.invokevirtual 93, 3) := by decide +kernel
theorem dX11_ahead_19 : decode cX11_ahead 19 = .ok (.ifCond .ne 5, 3) := by decide +kernel
theorem dX11_ahead_22 : decode cX11_ahead 22 = .ok (.iconst (-1), 1) := by decide +kernel
theorem dX11_ahead_23 : decode cX11_ahead 23 = .ok (.ireturn, 1) := by decide +kernel
theorem dX11_ahead_24 : decode cX11_ahead 24 = .ok (.aload_n 0, 1) := by decide +kernel
theorem dX11_ahead_25 : decode cX11_ahead 25 = .ok (.getfield 10, 3) := by decide +kernel
theorem dX11_ahead_28 : decode cX11_ahead 28 = .ok (.iload_n 1, 1) := by decide +kernel
theorem dX11_ahead_29 : decode cX11_ahead 29 = .ok (.iload_n 2, 1) := by decide +kernel
theorem dX11_ahead_30 : decode cX11_ahead 30 = .ok (.invokevirtual 108, 3) := by decide +kernel
theorem dX11_ahead_33 : decode cX11_ahead 33 = .ok (.ifCond .eq 5, 3) := by decide +kernel
theorem dX11_ahead_36 : decode cX11_ahead 36 = .ok (.iconst 2, 1) := by decide +kernel
theorem dX11_ahead_37 : decode cX11_ahead 37 = .ok (.ireturn, 1) := by decide +kernel
theorem dX11_ahead_38 : decode cX11_ahead 38 = .ok (.aload_n 0, 1) := by decide +kernel
theorem dX11_ahead_39 : decode cX11_ahead 39 = .ok (.getfield 10, 3) := by decide +kernel
theorem dX11_ahead_42 : decode cX11_ahead 42 = .ok (.iload_n 1, 1) := by decide +kernel
theorem dX11_ahead_43 : decode cX11_ahead 43 = .ok (.iload_n 2, 1) := by decide +kernel
theorem dX11_ahead_44 : decode cX11_ahead 44 = .ok (.invokevirtual 111, 3) := by decide +kernel
theorem dX11_ahead_47 : decode cX11_ahead 47 = .ok (.invokestatic 153, 3) := by decide +kernel
theorem dX11_ahead_50 : decode cX11_ahead 50 = .ok (.ireturn, 1) := by decide +kernel
theorem dX11_count_0 : decode cX11_count 0 = .ok (.iload_n 1, 1) := by decide +kernel
theorem dX11_count_1 : decode cX11_count 1 = .ok (.tableswitch 103 0 6 #[43, 51, 59, 67, 79, 87, 95], 43) := by decide +kernel
theorem dX11_count_44 : decode cX11_count 44 = .ok (.aload_n 0, 1) := by decide +kernel
theorem dX11_count_45 : decode cX11_count 45 = .ok (.getfield 10, 3) := by decide +kernel
theorem dX11_count_48 : decode cX11_count 48 = .ok (.invokevirtual 157, 3) := by decide +kernel
theorem dX11_count_51 : decode cX11_count 51 = .ok (.ireturn, 1) := by decide +kernel
theorem dX11_count_52 : decode cX11_count 52 = .ok (.aload_n 0, 1) := by decide +kernel
theorem dX11_count_53 : decode cX11_count 53 = .ok (.getfield 10, 3) := by decide +kernel
theorem dX11_count_56 : decode cX11_count 56 = .ok (.invokevirtual 160, 3) := by decide +kernel
theorem dX11_count_59 : decode cX11_count 59 = .ok (.ireturn, 1) := by decide +kernel
theorem dX11_count_60 : decode cX11_count 60 = .ok (.aload_n 0, 1) := by decide +kernel
theorem dX11_count_61 : decode cX11_count 61 = .ok (.getfield 26, 3) := by decide +kernel
theorem dX11_count_64 : decode cX11_count 64 = .ok (.invokevirtual 128, 3) := by decide +kernel
theorem dX11_count_67 : decode cX11_count 67 = .ok (.ireturn, 1) := by decide +kernel
theorem dX11_count_68 : decode cX11_count 68 = .ok (.aload_n 0, 1) := by decide +kernel
theorem dX11_count_69 : decode cX11_count 69 = .ok (.getfield 19, 3) := by decide +kernel
theorem dX11_count_72 : decode cX11_count 72 = .ok (.aload_n 0, 1) := by decide +kernel
theorem dX11_count_73 : decode cX11_count 73 = .ok (.getfield 10, 3) := by decide +kernel
theorem dX11_count_76 : decode cX11_count 76 = .ok (.invokevirtual 163, 3) := by decide +kernel
theorem dX11_count_79 : decode cX11_count 79 = .ok (.ireturn, 1) := by decide +kernel
theorem dX11_count_80 : decode cX11_count 80 = .ok (.aload_n 0, 1) := by decide +kernel
theorem dX11_count_81 : decode cX11_count 81 = .ok (.getfield 10, 3) := by decide +kernel
theorem dX11_count_84 : decode cX11_count 84 = .ok (.invokevirtual 167, 3) := by decide +kernel
theorem dX11_count_87 : decode cX11_count 87 = .ok (.ireturn, 1) := by decide +kernel
theorem dX11_count_88 : decode cX11_count 88 = .ok (.aload_n 0, 1) := by decide +kernel
theorem dX11_count_89 : decode cX11_count 89 = .ok (.getfield 40, 3) := by decide +kernel
theorem dX11_count_92 : decode cX11_count 92 = .ok (.invokevirtual 170, 3) := by decide +kernel
theorem dX11_count_95 : decode cX11_count 95 = .ok (.ireturn, 1) := by decide +kernel
theorem dX11_count_96 : decode cX11_count 96 = .ok (.aload_n 0, 1) := by decide +kernel
theorem dX11_count_97 : decode cX11_count 97 = .ok (.getfield 33, 3) := by decide +kernel
theorem dX11_count_100 : decode cX11_count 100 = .ok (.invokevirtual 173, 3) := by decide +kernel
theorem dX11_count_103 : decode cX11_count 103 = .ok (.ireturn, 1) := by decide +kernel
theorem dX11_count_104 : decode cX11_count 104 = .ok (.iconst (-1), 1) := by decide +kernel
theorem dX11_count_105 : decode cX11_count 105 = .ok (.ireturn, 1) := by decide +kernel
theorem dX11_keeps_0 : decode cX11_keeps 0 = .ok (.aload_n 0, 1) := by decide +kernel
theorem dX11_keeps_1 : decode cX11_keeps 1 = .ok (.getfield 26, 3) := by decide +kernel
theorem dX11_keeps_4 : decode cX11_keeps 4 = .ok (.aload_n 0, 1) := by decide +kernel
theorem dX11_keeps_5 : decode cX11_keeps 5 = .ok (.getfield 10, 3) := by decide +kernel
theorem dX11_keeps_8 : decode cX11_keeps 8 = .ok (.invokevirtual 174, 3) := by decide +kernel
theorem dX11_keeps_11 : decode cX11_keeps 11 = .ok (.invokestatic 153, 3) := by decide +kernel
theorem dX11_keeps_14 : decode cX11_keeps 14 = .ok (.ireturn, 1) := by decide +kernel
theorem dX11_why_0 : decode cX11_why 0 = .ok (.iload_n 1, 1) := by decide +kernel
theorem dX11_why_1 : decode cX11_why 1 = .ok (.ifCond .lt 22, 3) := by decide +kernel
theorem dX11_why_4 : decode cX11_why 4 = .ok (.iload_n 1, 1) := by decide +kernel
theorem dX11_why_5 : decode cX11_why 5 = .ok (.iconst 1, 1) := by decide +kernel
theorem dX11_why_6 : decode cX11_why 6 = .ok (.if_icmp .gt 17, 3) := by decide +kernel
theorem dX11_why_9 : decode cX11_why 9 = .ok (.aload_n 0, 1) := by decide +kernel
theorem dX11_why_10 : decode cX11_why 10 = .ok (.getfield 26, 3) := by decide +kernel
theorem dX11_why_13 : decode cX11_why 13 = .ok (.aload_n 0, 1) := by decide +kernel
theorem dX11_why_14 : decode cX11_why 14 = .ok (.getfield 10, 3) := by decide +kernel
theorem dX11_why_17 : decode cX11_why 17 = .ok (.invokevirtual 174, 3) := by decide +kernel
theorem dX11_why_20 : decode cX11_why 20 = .ok (.ifCond .eq 5, 3) := by decide +kernel
theorem dX11_why_23 : decode cX11_why 23 = .ok (.iconst (-1), 1) := by decide +kernel
theorem dX11_why_24 : decode cX11_why 24 = .ok (.ireturn, 1) := by decide +kernel
theorem dX11_why_25 : decode cX11_why 25 = .ok (.aload_n 0, 1) := by decide +kernel
theorem dX11_why_26 : decode cX11_why 26 = .ok (.getfield 26, 3) := by decide +kernel
theorem dX11_why_29 : decode cX11_why 29 = .ok (.aload_n 0, 1) := by decide +kernel
theorem dX11_why_30 : decode cX11_why 30 = .ok (.getfield 10, 3) := by decide +kernel
theorem dX11_why_33 : decode cX11_why 33 = .ok (.invokevirtual 178, 3) := by decide +kernel
theorem dX11_why_36 : decode cX11_why 36 = .ok (.istore_n 2, 1) := by decide +kernel
theorem dX11_why_37 : decode cX11_why 37 = .ok (.iload_n 1, 1) := by decide +kernel
theorem dX11_why_38 : decode cX11_why 38 = .ok (.ifCond .ne 22, 3) := by decide +kernel
theorem dX11_why_41 : decode cX11_why 41 = .ok (.iload_n 2, 1) := by decide +kernel
theorem dX11_why_42 : decode cX11_why 42 = .ok (.iconst (-1), 1) := by decide +kernel
theorem dX11_why_43 : decode cX11_why 43 = .ok (.if_icmp .ne 8, 3) := by decide +kernel
theorem dX11_why_46 : decode cX11_why 46 = .ok (.bipush (-2), 2) := by decide +kernel
theorem dX11_why_48 : decode cX11_why 48 = .ok (.goto 11, 3) := by decide +kernel
theorem dX11_why_51 : decode cX11_why 51 = .ok (.aload_n 0, 1) := by decide +kernel
theorem dX11_why_52 : decode cX11_why 52 = .ok (.getfield 26, 3) := by decide +kernel
theorem dX11_why_55 : decode cX11_why 55 = .ok (.iload_n 2, 1) := by decide +kernel
theorem dX11_why_56 : decode cX11_why 56 = .ok (.invokevirtual 181, 3) := by decide +kernel
theorem dX11_why_59 : decode cX11_why 59 = .ok (.ireturn, 1) := by decide +kernel
theorem dX11_why_60 : decode cX11_why 60 = .ok (.iload_n 2, 1) := by decide +kernel
theorem dX11_why_61 : decode cX11_why 61 = .ok (.iconst (-1), 1) := by decide +kernel
theorem dX11_why_62 : decode cX11_why 62 = .ok (.if_icmp .ne 30, 3) := by decide +kernel
theorem dX11_why_65 : decode cX11_why 65 = .ok (.aload_n 0, 1) := by decide +kernel
theorem dX11_why_66 : decode cX11_why 66 = .ok (.getfield 10, 3) := by decide +kernel
theorem dX11_why_69 : decode cX11_why 69 = .ok (.invokevirtual 184, 3) := by decide +kernel
theorem dX11_why_72 : decode cX11_why 72 = .ok (.aload_n 0, 1) := by decide +kernel
theorem dX11_why_73 : decode cX11_why 73 = .ok (.getfield 26, 3) := by decide +kernel
theorem dX11_why_76 : decode cX11_why 76 = .ok (.aload_n 0, 1) := by decide +kernel
theorem dX11_why_77 : decode cX11_why 77 = .ok (.getfield 26, 3) := by decide +kernel
theorem dX11_why_80 : decode cX11_why 80 = .ok (.invokevirtual 128, 3) := by decide +kernel
theorem dX11_why_83 : decode cX11_why 83 = .ok (.invokevirtual 187, 3) := by decide +kernel
theorem dX11_why_86 : decode cX11_why 86 = .ok (.iconst (-1), 1) := by decide +kernel
theorem dX11_why_87 : decode cX11_why 87 = .ok (.ixor, 1) := by decide +kernel
theorem dX11_why_88 : decode cX11_why 88 = .ok (.iand, 1) := by decide +kernel
theorem dX11_why_89 : decode cX11_why 89 = .ok (.goto 15, 3) := by decide +kernel
theorem dX11_why_92 : decode cX11_why 92 = .ok (.aload_n 0, 1) := by decide +kernel
theorem dX11_why_93 : decode cX11_why 93 = .ok (.getfield 26, 3) := by decide +kernel
theorem dX11_why_96 : decode cX11_why 96 = .ok (.aload_n 0, 1) := by decide +kernel
theorem dX11_why_97 : decode cX11_why 97 = .ok (.getfield 10, 3) := by decide +kernel
theorem dX11_why_100 : decode cX11_why 100 = .ok (.iload_n 2, 1) := by decide +kernel
theorem dX11_why_101 : decode cX11_why 101 = .ok (.invokevirtual 190, 3) := by decide +kernel
theorem dX11_why_104 : decode cX11_why 104 = .ok (.istore_n 3, 1) := by decide +kernel
theorem dX11_why_105 : decode cX11_why 105 = .ok (.iload_n 3, 1) := by decide +kernel
theorem dX11_why_106 : decode cX11_why 106 = .ok (.invokestatic 193, 3) := by decide +kernel
theorem dX11_why_109 : decode cX11_why 109 = .ok (.ireturn, 1) := by decide +kernel
theorem dX11_cost_0 : decode cX11_cost 0 = .ok (.aload_n 0, 1) := by decide +kernel
theorem dX11_cost_1 : decode cX11_cost 1 = .ok (.getfield 26, 3) := by decide +kernel
theorem dX11_cost_4 : decode cX11_cost 4 = .ok (.aload_n 0, 1) := by decide +kernel
theorem dX11_cost_5 : decode cX11_cost 5 = .ok (.getfield 10, 3) := by decide +kernel
theorem dX11_cost_8 : decode cX11_cost 8 = .ok (.invokevirtual 196, 3) := by decide +kernel
theorem dX11_cost_11 : decode cX11_cost 11 = .ok (.ireturn, 1) := by decide +kernel
theorem dX11_swap_0 : decode cX11_swap 0 = .ok (.iload_n 1, 1) := by decide +kernel
theorem dX11_swap_1 : decode cX11_swap 1 = .ok (.ifCond .lt 16, 3) := by decide +kernel
theorem dX11_swap_4 : decode cX11_swap 4 = .ok (.iload_n 1, 1) := by decide +kernel
theorem dX11_swap_5 : decode cX11_swap 5 = .ok (.aload_n 0, 1) := by decide +kernel
theorem dX11_swap_6 : decode cX11_swap 6 = .ok (.getfield 26, 3) := by decide +kernel
theorem dX11_swap_9 : decode cX11_swap 9 = .ok (.invokevirtual 128, 3) := by decide +kernel
theorem dX11_swap_12 : decode cX11_swap 12 = .ok (.iconst 1, 1) := by decide +kernel
theorem dX11_swap_13 : decode cX11_swap 13 = .ok (.isub, 1) := by decide +kernel
theorem dX11_swap_14 : decode cX11_swap 14 = .ok (.if_icmp .lt 6, 3) := by decide +kernel
theorem dX11_swap_17 : decode cX11_swap 17 = .ok (.ldc 199, 2) := by decide +kernel
theorem dX11_swap_19 : decode cX11_swap 19 = .ok (.ireturn, 1) := by decide +kernel
theorem dX11_swap_20 : decode cX11_swap 20 = .ok (.aload_n 0, 1) := by decide +kernel
theorem dX11_swap_21 : decode cX11_swap 21 = .ok (.getfield 26, 3) := by decide +kernel
theorem dX11_swap_24 : decode cX11_swap 24 = .ok (.aload_n 0, 1) := by decide +kernel
theorem dX11_swap_25 : decode cX11_swap 25 = .ok (.getfield 10, 3) := by decide +kernel
theorem dX11_swap_28 : decode cX11_swap 28 = .ok (.invokevirtual 196, 3) := by decide +kernel
theorem dX11_swap_31 : decode cX11_swap 31 = .ok (.istore_n 2, 1) := by decide +kernel
theorem dX11_swap_32 : decode cX11_swap 32 = .ok (.aload_n 0, 1) := by decide +kernel
theorem dX11_swap_33 : decode cX11_swap 33 = .ok (.getfield 26, 3) := by decide +kernel
theorem dX11_swap_36 : decode cX11_swap 36 = .ok (.iload_n 1, 1) := by decide +kernel
theorem dX11_swap_37 : decode cX11_swap 37 = .ok (.invokevirtual 200, 3) := by decide +kernel
theorem dX11_swap_40 : decode cX11_swap 40 = .ok (.aload_n 0, 1) := by decide +kernel
theorem dX11_swap_41 : decode cX11_swap 41 = .ok (.getfield 26, 3) := by decide +kernel
theorem dX11_swap_44 : decode cX11_swap 44 = .ok (.aload_n 0, 1) := by decide +kernel
theorem dX11_swap_45 : decode cX11_swap 45 = .ok (.getfield 10, 3) := by decide +kernel
theorem dX11_swap_48 : decode cX11_swap 48 = .ok (.invokevirtual 196, 3) := by decide +kernel
theorem dX11_swap_51 : decode cX11_swap 51 = .ok (.istore_n 3, 1) := by decide +kernel
theorem dX11_swap_52 : decode cX11_swap 52 = .ok (.aload_n 0, 1) := by decide +kernel
theorem dX11_swap_53 : decode cX11_swap 53 = .ok (.getfield 26, 3) := by decide +kernel
theorem dX11_swap_56 : decode cX11_swap 56 = .ok (.iload_n 1, 1) := by decide +kernel
theorem dX11_swap_57 : decode cX11_swap 57 = .ok (.invokevirtual 200, 3) := by decide +kernel
theorem dX11_swap_60 : decode cX11_swap 60 = .ok (.iload_n 3, 1) := by decide +kernel
theorem dX11_swap_61 : decode cX11_swap 61 = .ok (.iload_n 2, 1) := by decide +kernel
theorem dX11_swap_62 : decode cX11_swap 62 = .ok (.isub, 1) := by decide +kernel
theorem dX11_swap_63 : decode cX11_swap 63 = .ok (.ireturn, 1) := by decide +kernel
theorem dX11_block_0 : decode cX11_block 0 = .ok (.iload_n 1, 1) := by decide +kernel
theorem dX11_block_1 : decode cX11_block 1 = .ok (.ifCond .lt 18, 3) := by decide +kernel
theorem dX11_block_4 : decode cX11_block 4 = .ok (.iload_n 1, 1) := by decide +kernel
theorem dX11_block_5 : decode cX11_block 5 = .ok (.aload_n 0, 1) := by decide +kernel
theorem dX11_block_6 : decode cX11_block 6 = .ok (.getfield 19, 3) := by decide +kernel
theorem dX11_block_9 : decode cX11_block 9 = .ok (.aload_n 0, 1) := by decide +kernel
theorem dX11_block_10 : decode cX11_block 10 = .ok (.getfield 10, 3) := by decide +kernel
theorem dX11_block_13 : decode cX11_block 13 = .ok (.invokevirtual 163, 3) := by decide +kernel
theorem dX11_block_16 : decode cX11_block 16 = .ok (.if_icmp .lt 5, 3) := by decide +kernel
theorem dX11_block_19 : decode cX11_block 19 = .ok (.iconst (-1), 1) := by decide +kernel
theorem dX11_block_20 : decode cX11_block 20 = .ok (.ireturn, 1) := by decide +kernel
theorem dX11_block_21 : decode cX11_block 21 = .ok (.aload_n 0, 1) := by decide +kernel
theorem dX11_block_22 : decode cX11_block 22 = .ok (.getfield 19, 3) := by decide +kernel
theorem dX11_block_25 : decode cX11_block 25 = .ok (.iload_n 1, 1) := by decide +kernel
theorem dX11_block_26 : decode cX11_block 26 = .ok (.invokevirtual 203, 3) := by decide +kernel
theorem dX11_block_29 : decode cX11_block 29 = .ok (.istore_n 3, 1) := by decide +kernel
theorem dX11_block_30 : decode cX11_block 30 = .ok (.iload_n 2, 1) := by decide +kernel
theorem dX11_block_31 : decode cX11_block 31 = .ok (.tableswitch 45 0 2 #[25, 27, 36], 25) := by decide +kernel
theorem dX11_block_56 : decode cX11_block 56 = .ok (.iload_n 3, 1) := by decide +kernel
theorem dX11_block_57 : decode cX11_block 57 = .ok (.ireturn, 1) := by decide +kernel
theorem dX11_block_58 : decode cX11_block 58 = .ok (.aload_n 0, 1) := by decide +kernel
theorem dX11_block_59 : decode cX11_block 59 = .ok (.getfield 10, 3) := by decide +kernel
theorem dX11_block_62 : decode cX11_block 62 = .ok (.iload_n 3, 1) := by decide +kernel
theorem dX11_block_63 : decode cX11_block 63 = .ok (.invokevirtual 206, 3) := by decide +kernel
theorem dX11_block_66 : decode cX11_block 66 = .ok (.ireturn, 1) := by decide +kernel
theorem dX11_block_67 : decode cX11_block 67 = .ok (.aload_n 0, 1) := by decide +kernel
theorem dX11_block_68 : decode cX11_block 68 = .ok (.getfield 10, 3) := by decide +kernel
theorem dX11_block_71 : decode cX11_block 71 = .ok (.iload_n 3, 1) := by decide +kernel
theorem dX11_block_72 : decode cX11_block 72 = .ok (.invokevirtual 209, 3) := by decide +kernel
theorem dX11_block_75 : decode cX11_block 75 = .ok (.ireturn, 1) := by decide +kernel
theorem dX11_block_76 : decode cX11_block 76 = .ok (.iconst (-1), 1) := by decide +kernel
theorem dX11_block_77 : decode cX11_block 77 = .ok (.ireturn, 1) := by decide +kernel
theorem dX11_least_0 : decode cX11_least 0 = .ok (.aload_n 0, 1) := by decide +kernel
theorem dX11_least_1 : decode cX11_least 1 = .ok (.getfield 19, 3) := by decide +kernel
theorem dX11_least_4 : decode cX11_least 4 = .ok (.aload_n 0, 1) := by decide +kernel
theorem dX11_least_5 : decode cX11_least 5 = .ok (.getfield 10, 3) := by decide +kernel
theorem dX11_least_8 : decode cX11_least 8 = .ok (.invokevirtual 212, 3) := by decide +kernel
theorem dX11_least_11 : decode cX11_least 11 = .ok (.ireturn, 1) := by decide +kernel
theorem dX11_best_0 : decode cX11_best 0 = .ok (.aload_n 0, 1) := by decide +kernel
theorem dX11_best_1 : decode cX11_best 1 = .ok (.getfield 10, 3) := by decide +kernel
theorem dX11_best_4 : decode cX11_best 4 = .ok (.iload_n 1, 1) := by decide +kernel
theorem dX11_best_5 : decode cX11_best 5 = .ok (.invokevirtual 93, 3) := by decide +kernel
