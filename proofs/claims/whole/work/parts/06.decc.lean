theorem dX12_splitPair_10 : decode cX12_splitPair 10 = .ok (.isub, 1) := by decide +kernel
theorem dX12_splitPair_11 : decode cX12_splitPair 11 = .ok (.putfield 137, 3) := by decide +kernel
theorem dX12_splitPair_14 : decode cX12_splitPair 14 = .ok (.aload_n 0, 1) := by decide +kernel
theorem dX12_splitPair_15 : decode cX12_splitPair 15 = .ok (.iload 4, 2) := by decide +kernel
theorem dX12_splitPair_17 : decode cX12_splitPair 17 = .ok (.aload_n 1, 1) := by decide +kernel
theorem dX12_splitPair_18 : decode cX12_splitPair 18 = .ok (.iload_n 2, 1) := by decide +kernel
theorem dX12_splitPair_19 : decode cX12_splitPair 19 = .ok (.iconst 1, 1) := by decide +kernel
theorem dX12_splitPair_20 : decode cX12_splitPair 20 = .ok (.iadd, 1) := by decide +kernel
theorem dX12_splitPair_21 : decode cX12_splitPair 21 = .ok (.iaload, 1) := by decide +kernel
theorem dX12_splitPair_22 : decode cX12_splitPair 22 = .ok (.aload_n 0, 1) := by decide +kernel
theorem dX12_splitPair_23 : decode cX12_splitPair 23 = .ok (.getfield 137, 3) := by decide +kernel
theorem dX12_splitPair_26 : decode cX12_splitPair 26 = .ok (.iadd, 1) := by decide +kernel
theorem dX12_splitPair_27 : decode cX12_splitPair 27 = .ok (.iconst 2, 1) := by decide +kernel
theorem dX12_splitPair_28 : decode cX12_splitPair 28 = .ok (.ishr, 1) := by decide +kernel
theorem dX12_splitPair_29 : decode cX12_splitPair 29 = .ok (.iadd, 1) := by decide +kernel
theorem dX12_splitPair_30 : decode cX12_splitPair 30 = .ok (.putfield 140, 3) := by decide +kernel
theorem dX12_splitPair_33 : decode cX12_splitPair 33 = .ok (.aload_n 1, 1) := by decide +kernel
theorem dX12_splitPair_34 : decode cX12_splitPair 34 = .ok (.iload_n 2, 1) := by decide +kernel
theorem dX12_splitPair_35 : decode cX12_splitPair 35 = .ok (.iload 4, 2) := by decide +kernel
theorem dX12_splitPair_37 : decode cX12_splitPair 37 = .ok (.iastore, 1) := by decide +kernel
theorem dX12_splitPair_38 : decode cX12_splitPair 38 = .ok (.aload_n 1, 1) := by decide +kernel
theorem dX12_splitPair_39 : decode cX12_splitPair 39 = .ok (.iload_n 2, 1) := by decide +kernel
theorem dX12_splitPair_40 : decode cX12_splitPair 40 = .ok (.iconst 1, 1) := by decide +kernel
theorem dX12_splitPair_41 : decode cX12_splitPair 41 = .ok (.iadd, 1) := by decide +kernel
theorem dX12_splitPair_42 : decode cX12_splitPair 42 = .ok (.aload_n 0, 1) := by decide +kernel
theorem dX12_splitPair_43 : decode cX12_splitPair 43 = .ok (.getfield 137, 3) := by decide +kernel
theorem dX12_splitPair_46 : decode cX12_splitPair 46 = .ok (.iastore, 1) := by decide +kernel
theorem dX12_splitPair_47 : decode cX12_splitPair 47 = .ok (.return_, 1) := by decide +kernel
theorem dX12_joinPair_0 : decode cX12_joinPair 0 = .ok (.aload_n 0, 1) := by decide +kernel
theorem dX12_joinPair_1 : decode cX12_joinPair 1 = .ok (.iload_n 3, 1) := by decide +kernel
theorem dX12_joinPair_2 : decode cX12_joinPair 2 = .ok (.aload_n 1, 1) := by decide +kernel
theorem dX12_joinPair_3 : decode cX12_joinPair 3 = .ok (.iload_n 2, 1) := by decide +kernel
theorem dX12_joinPair_4 : decode cX12_joinPair 4 = .ok (.iconst 1, 1) := by decide +kernel
theorem dX12_joinPair_5 : decode cX12_joinPair 5 = .ok (.iadd, 1) := by decide +kernel
theorem dX12_joinPair_6 : decode cX12_joinPair 6 = .ok (.iaload, 1) := by decide +kernel
theorem dX12_joinPair_7 : decode cX12_joinPair 7 = .ok (.iload 4, 2) := by decide +kernel
theorem dX12_joinPair_9 : decode cX12_joinPair 9 = .ok (.iadd, 1) := by decide +kernel
theorem dX12_joinPair_10 : decode cX12_joinPair 10 = .ok (.iconst 2, 1) := by decide +kernel
theorem dX12_joinPair_11 : decode cX12_joinPair 11 = .ok (.ishr, 1) := by decide +kernel
theorem dX12_joinPair_12 : decode cX12_joinPair 12 = .ok (.isub, 1) := by decide +kernel
theorem dX12_joinPair_13 : decode cX12_joinPair 13 = .ok (.putfield 143, 3) := by decide +kernel
theorem dX12_joinPair_16 : decode cX12_joinPair 16 = .ok (.aload_n 0, 1) := by decide +kernel
theorem dX12_joinPair_17 : decode cX12_joinPair 17 = .ok (.iload 4, 2) := by decide +kernel
theorem dX12_joinPair_19 : decode cX12_joinPair 19 = .ok (.aload_n 1, 1) := by decide +kernel
theorem dX12_joinPair_20 : decode cX12_joinPair 20 = .ok (.iload_n 2, 1) := by decide +kernel
theorem dX12_joinPair_21 : decode cX12_joinPair 21 = .ok (.iaload, 1) := by decide +kernel
theorem dX12_joinPair_22 : decode cX12_joinPair 22 = .ok (.aload_n 0, 1) := by decide +kernel
theorem dX12_joinPair_23 : decode cX12_joinPair 23 = .ok (.getfield 143, 3) := by decide +kernel
theorem dX12_joinPair_26 : decode cX12_joinPair 26 = .ok (.iadd, 1) := by decide +kernel
theorem dX12_joinPair_27 : decode cX12_joinPair 27 = .ok (.iconst 1, 1) := by decide +kernel
theorem dX12_joinPair_28 : decode cX12_joinPair 28 = .ok (.ishr, 1) := by decide +kernel
theorem dX12_joinPair_29 : decode cX12_joinPair 29 = .ok (.iadd, 1) := by decide +kernel
theorem dX12_joinPair_30 : decode cX12_joinPair 30 = .ok (.putfield 146, 3) := by decide +kernel
theorem dX12_joinPair_33 : decode cX12_joinPair 33 = .ok (.aload_n 1, 1) := by decide +kernel
theorem dX12_joinPair_34 : decode cX12_joinPair 34 = .ok (.iload_n 2, 1) := by decide +kernel
theorem dX12_joinPair_35 : decode cX12_joinPair 35 = .ok (.aload_n 0, 1) := by decide +kernel
theorem dX12_joinPair_36 : decode cX12_joinPair 36 = .ok (.getfield 143, 3) := by decide +kernel
theorem dX12_joinPair_39 : decode cX12_joinPair 39 = .ok (.iastore, 1) := by decide +kernel
theorem dX12_joinPair_40 : decode cX12_joinPair 40 = .ok (.aload_n 1, 1) := by decide +kernel
theorem dX12_joinPair_41 : decode cX12_joinPair 41 = .ok (.iload_n 2, 1) := by decide +kernel
theorem dX12_joinPair_42 : decode cX12_joinPair 42 = .ok (.iconst 1, 1) := by decide +kernel
theorem dX12_joinPair_43 : decode cX12_joinPair 43 = .ok (.iadd, 1) := by decide +kernel
theorem dX12_joinPair_44 : decode cX12_joinPair 44 = .ok (.iload 4, 2) := by decide +kernel
theorem dX12_joinPair_46 : decode cX12_joinPair 46 = .ok (.iastore, 1) := by decide +kernel
theorem dX12_joinPair_47 : decode cX12_joinPair 47 = .ok (.return_, 1) := by decide +kernel
theorem dX12_splitRow_0 : decode cX12_splitRow 0 = .ok (.iconst 0, 1) := by decide +kernel
theorem dX12_splitRow_1 : decode cX12_splitRow 1 = .ok (.istore 5, 2) := by decide +kernel
theorem dX12_splitRow_3 : decode cX12_splitRow 3 = .ok (.iload 5, 2) := by decide +kernel
theorem dX12_splitRow_5 : decode cX12_splitRow 5 = .ok (.iload 4, 2) := by decide +kernel
theorem dX12_splitRow_7 : decode cX12_splitRow 7 = .ok (.iconst 2, 1) := by decide +kernel
theorem dX12_splitRow_8 : decode cX12_splitRow 8 = .ok (.idiv, 1) := by decide +kernel
theorem dX12_splitRow_9 : decode cX12_splitRow 9 = .ok (.if_icmp .ge 70, 3) := by decide +kernel
theorem dX12_splitRow_12 : decode cX12_splitRow 12 = .ok (.aload_n 0, 1) := by decide +kernel
theorem dX12_splitRow_13 : decode cX12_splitRow 13 = .ok (.aload_n 1, 1) := by decide +kernel
theorem dX12_splitRow_14 : decode cX12_splitRow 14 = .ok (.iload_n 2, 1) := by decide +kernel
theorem dX12_splitRow_15 : decode cX12_splitRow 15 = .ok (.aload_n 0, 1) := by decide +kernel
theorem dX12_splitRow_16 : decode cX12_splitRow 16 = .ok (.getfield 25, 3) := by decide +kernel
theorem dX12_splitRow_19 : decode cX12_splitRow 19 = .ok (.iload_n 3, 1) := by decide +kernel
theorem dX12_splitRow_20 : decode cX12_splitRow 20 = .ok (.iconst 2, 1) := by decide +kernel
theorem dX12_splitRow_21 : decode cX12_splitRow 21 = .ok (.iload 5, 2) := by decide +kernel
theorem dX12_splitRow_23 : decode cX12_splitRow 23 = .ok (.imul, 1) := by decide +kernel
theorem dX12_splitRow_24 : decode cX12_splitRow 24 = .ok (.iadd, 1) := by decide +kernel
theorem dX12_splitRow_25 : decode cX12_splitRow 25 = .ok (.iaload, 1) := by decide +kernel
theorem dX12_splitRow_26 : decode cX12_splitRow 26 = .ok (.aload_n 0, 1) := by decide +kernel
theorem dX12_splitRow_27 : decode cX12_splitRow 27 = .ok (.getfield 25, 3) := by decide +kernel
theorem dX12_splitRow_30 : decode cX12_splitRow 30 = .ok (.iload_n 3, 1) := by decide +kernel
theorem dX12_splitRow_31 : decode cX12_splitRow 31 = .ok (.iconst 2, 1) := by decide +kernel
theorem dX12_splitRow_32 : decode cX12_splitRow 32 = .ok (.iload 5, 2) := by decide +kernel
theorem dX12_splitRow_34 : decode cX12_splitRow 34 = .ok (.imul, 1) := by decide +kernel
theorem dX12_splitRow_35 : decode cX12_splitRow 35 = .ok (.iadd, 1) := by decide +kernel
theorem dX12_splitRow_36 : decode cX12_splitRow 36 = .ok (.iconst 1, 1) := by decide +kernel
theorem dX12_splitRow_37 : decode cX12_splitRow 37 = .ok (.iadd, 1) := by decide +kernel
theorem dX12_splitRow_38 : decode cX12_splitRow 38 = .ok (.iaload, 1) := by decide +kernel
theorem dX12_splitRow_39 : decode cX12_splitRow 39 = .ok (.invokevirtual 149, 3) := by decide +kernel
theorem dX12_splitRow_42 : decode cX12_splitRow 42 = .ok (.aload_n 0, 1) := by decide +kernel
theorem dX12_splitRow_43 : decode cX12_splitRow 43 = .ok (.getfield 28, 3) := by decide +kernel
theorem dX12_splitRow_46 : decode cX12_splitRow 46 = .ok (.iload_n 3, 1) := by decide +kernel
theorem dX12_splitRow_47 : decode cX12_splitRow 47 = .ok (.iload 5, 2) := by decide +kernel
theorem dX12_splitRow_49 : decode cX12_splitRow 49 = .ok (.iadd, 1) := by decide +kernel
theorem dX12_splitRow_50 : decode cX12_splitRow 50 = .ok (.aload_n 0, 1) := by decide +kernel
theorem dX12_splitRow_51 : decode cX12_splitRow 51 = .ok (.getfield 140, 3) := by decide +kernel
theorem dX12_splitRow_54 : decode cX12_splitRow 54 = .ok (.iastore, 1) := by decide +kernel
theorem dX12_splitRow_55 : decode cX12_splitRow 55 = .ok (.aload_n 0, 1) := by decide +kernel
theorem dX12_splitRow_56 : decode cX12_splitRow 56 = .ok (.getfield 28, 3) := by decide +kernel
theorem dX12_splitRow_59 : decode cX12_splitRow 59 = .ok (.iload_n 3, 1) := by decide +kernel
theorem dX12_splitRow_60 : decode cX12_splitRow 60 = .ok (.iload 4, 2) := by decide +kernel
theorem dX12_splitRow_62 : decode cX12_splitRow 62 = .ok (.iconst 2, 1) := by decide +kernel
theorem dX12_splitRow_63 : decode cX12_splitRow 63 = .ok (.idiv, 1) := by decide +kernel
theorem dX12_splitRow_64 : decode cX12_splitRow 64 = .ok (.iadd, 1) := by decide +kernel
theorem dX12_splitRow_65 : decode cX12_splitRow 65 = .ok (.iload 5, 2) := by decide +kernel
theorem dX12_splitRow_67 : decode cX12_splitRow 67 = .ok (.iadd, 1) := by decide +kernel
theorem dX12_splitRow_68 : decode cX12_splitRow 68 = .ok (.aload_n 0, 1) := by decide +kernel
theorem dX12_splitRow_69 : decode cX12_splitRow 69 = .ok (.getfield 137, 3) := by decide +kernel
theorem dX12_splitRow_72 : decode cX12_splitRow 72 = .ok (.iastore, 1) := by decide +kernel
theorem dX12_splitRow_73 : decode cX12_splitRow 73 = .ok (.iinc 5 1, 3) := by decide +kernel
theorem dX12_splitRow_76 : decode cX12_splitRow 76 = .ok (.goto (-73), 3) := by decide +kernel
theorem dX12_splitRow_79 : decode cX12_splitRow 79 = .ok (.iload_n 3, 1) := by decide +kernel
theorem dX12_splitRow_80 : decode cX12_splitRow 80 = .ok (.istore 5, 2) := by decide +kernel
theorem dX12_splitRow_82 : decode cX12_splitRow 82 = .ok (.iload 5, 2) := by decide +kernel
theorem dX12_splitRow_84 : decode cX12_splitRow 84 = .ok (.iload_n 3, 1) := by decide +kernel
theorem dX12_splitRow_85 : decode cX12_splitRow 85 = .ok (.iload 4, 2) := by decide +kernel
theorem dX12_splitRow_87 : decode cX12_splitRow 87 = .ok (.iadd, 1) := by decide +kernel
theorem dX12_splitRow_88 : decode cX12_splitRow 88 = .ok (.if_icmp .ge 23, 3) := by decide +kernel
theorem dX12_splitRow_91 : decode cX12_splitRow 91 = .ok (.aload_n 0, 1) := by decide +kernel
theorem dX12_splitRow_92 : decode cX12_splitRow 92 = .ok (.getfield 25, 3) := by decide +kernel
theorem dX12_splitRow_95 : decode cX12_splitRow 95 = .ok (.iload 5, 2) := by decide +kernel
theorem dX12_splitRow_97 : decode cX12_splitRow 97 = .ok (.aload_n 0, 1) := by decide +kernel
theorem dX12_splitRow_98 : decode cX12_splitRow 98 = .ok (.getfield 28, 3) := by decide +kernel
theorem dX12_splitRow_101 : decode cX12_splitRow 101 = .ok (.iload 5, 2) := by decide +kernel
theorem dX12_splitRow_103 : decode cX12_splitRow 103 = .ok (.iaload, 1) := by decide +kernel
theorem dX12_splitRow_104 : decode cX12_splitRow 104 = .ok (.iastore, 1) := by decide +kernel
theorem dX12_splitRow_105 : decode cX12_splitRow 105 = .ok (.iinc 5 1, 3) := by decide +kernel
theorem dX12_splitRow_108 : decode cX12_splitRow 108 = .ok (.goto (-26), 3) := by decide +kernel
theorem dX12_splitRow_111 : decode cX12_splitRow 111 = .ok (.return_, 1) := by decide +kernel
theorem dX12_joinRow_0 : decode cX12_joinRow 0 = .ok (.iconst 0, 1) := by decide +kernel
theorem dX12_joinRow_1 : decode cX12_joinRow 1 = .ok (.istore 5, 2) := by decide +kernel
theorem dX12_joinRow_3 : decode cX12_joinRow 3 = .ok (.iload 5, 2) := by decide +kernel
theorem dX12_joinRow_5 : decode cX12_joinRow 5 = .ok (.iload 4, 2) := by decide +kernel
theorem dX12_joinRow_7 : decode cX12_joinRow 7 = .ok (.iconst 2, 1) := by decide +kernel
theorem dX12_joinRow_8 : decode cX12_joinRow 8 = .ok (.idiv, 1) := by decide +kernel
theorem dX12_joinRow_9 : decode cX12_joinRow 9 = .ok (.if_icmp .ge 70, 3) := by decide +kernel
theorem dX12_joinRow_12 : decode cX12_joinRow 12 = .ok (.aload_n 0, 1) := by decide +kernel
theorem dX12_joinRow_13 : decode cX12_joinRow 13 = .ok (.aload_n 1, 1) := by decide +kernel
theorem dX12_joinRow_14 : decode cX12_joinRow 14 = .ok (.iload_n 2, 1) := by decide +kernel
theorem dX12_joinRow_15 : decode cX12_joinRow 15 = .ok (.aload_n 0, 1) := by decide +kernel
theorem dX12_joinRow_16 : decode cX12_joinRow 16 = .ok (.getfield 25, 3) := by decide +kernel
theorem dX12_joinRow_19 : decode cX12_joinRow 19 = .ok (.iload_n 3, 1) := by decide +kernel
theorem dX12_joinRow_20 : decode cX12_joinRow 20 = .ok (.iload 5, 2) := by decide +kernel
theorem dX12_joinRow_22 : decode cX12_joinRow 22 = .ok (.iadd, 1) := by decide +kernel
theorem dX12_joinRow_23 : decode cX12_joinRow 23 = .ok (.iaload, 1) := by decide +kernel
theorem dX12_joinRow_24 : decode cX12_joinRow 24 = .ok (.aload_n 0, 1) := by decide +kernel
theorem dX12_joinRow_25 : decode cX12_joinRow 25 = .ok (.getfield 25, 3) := by decide +kernel
theorem dX12_joinRow_28 : decode cX12_joinRow 28 = .ok (.iload_n 3, 1) := by decide +kernel
theorem dX12_joinRow_29 : decode cX12_joinRow 29 = .ok (.iload 4, 2) := by decide +kernel
theorem dX12_joinRow_31 : decode cX12_joinRow 31 = .ok (.iconst 2, 1) := by decide +kernel
theorem dX12_joinRow_32 : decode cX12_joinRow 32 = .ok (.idiv, 1) := by decide +kernel
theorem dX12_joinRow_33 : decode cX12_joinRow 33 = .ok (.iadd, 1) := by decide +kernel
theorem dX12_joinRow_34 : decode cX12_joinRow 34 = .ok (.iload 5, 2) := by decide +kernel
theorem dX12_joinRow_36 : decode cX12_joinRow 36 = .ok (.iadd, 1) := by decide +kernel
theorem dX12_joinRow_37 : decode cX12_joinRow 37 = .ok (.iaload, 1) := by decide +kernel
theorem dX12_joinRow_38 : decode cX12_joinRow 38 = .ok (.invokevirtual 153, 3) := by decide +kernel
theorem dX12_joinRow_41 : decode cX12_joinRow 41 = .ok (.aload_n 0, 1) := by decide +kernel
theorem dX12_joinRow_42 : decode cX12_joinRow 42 = .ok (.getfield 28, 3) := by decide +kernel
theorem dX12_joinRow_45 : decode cX12_joinRow 45 = .ok (.iload_n 3, 1) := by decide +kernel
theorem dX12_joinRow_46 : decode cX12_joinRow 46 = .ok (.iconst 2, 1) := by decide +kernel
theorem dX12_joinRow_47 : decode cX12_joinRow 47 = .ok (.iload 5, 2) := by decide +kernel
theorem dX12_joinRow_49 : decode cX12_joinRow 49 = .ok (.imul, 1) := by decide +kernel
theorem dX12_joinRow_50 : decode cX12_joinRow 50 = .ok (.iadd, 1) := by decide +kernel
theorem dX12_joinRow_51 : decode cX12_joinRow 51 = .ok (.aload_n 0, 1) := by decide +kernel
theorem dX12_joinRow_52 : decode cX12_joinRow 52 = .ok (.getfield 146, 3) := by decide +kernel
theorem dX12_joinRow_55 : decode cX12_joinRow 55 = .ok (.iastore, 1) := by decide +kernel
theorem dX12_joinRow_56 : decode cX12_joinRow 56 = .ok (.aload_n 0, 1) := by decide +kernel
theorem dX12_joinRow_57 : decode cX12_joinRow 57 = .ok (.getfield 28, 3) := by decide +kernel
theorem dX12_joinRow_60 : decode cX12_joinRow 60 = .ok (.iload_n 3, 1) := by decide +kernel
theorem dX12_joinRow_61 : decode cX12_joinRow 61 = .ok (.iconst 2, 1) := by decide +kernel
theorem dX12_joinRow_62 : decode cX12_joinRow 62 = .ok (.iload 5, 2) := by decide +kernel
theorem dX12_joinRow_64 : decode cX12_joinRow 64 = .ok (.imul, 1) := by decide +kernel
theorem dX12_joinRow_65 : decode cX12_joinRow 65 = .ok (.iadd, 1) := by decide +kernel
theorem dX12_joinRow_66 : decode cX12_joinRow 66 = .ok (.iconst 1, 1) := by decide +kernel
theorem dX12_joinRow_67 : decode cX12_joinRow 67 = .ok (.iadd, 1) := by decide +kernel
theorem dX12_joinRow_68 : decode cX12_joinRow 68 = .ok (.aload_n 0, 1) := by decide +kernel
theorem dX12_joinRow_69 : decode cX12_joinRow 69 = .ok (.getfield 143, 3) := by decide +kernel
theorem dX12_joinRow_72 : decode cX12_joinRow 72 = .ok (.iastore, 1) := by decide +kernel
theorem dX12_joinRow_73 : decode cX12_joinRow 73 = .ok (.iinc 5 1, 3) := by decide +kernel
theorem dX12_joinRow_76 : decode cX12_joinRow 76 = .ok (.goto (-73), 3) := by decide +kernel
theorem dX12_joinRow_79 : decode cX12_joinRow 79 = .ok (.iload_n 3, 1) := by decide +kernel
theorem dX12_joinRow_80 : decode cX12_joinRow 80 = .ok (.istore 5, 2) := by decide +kernel
theorem dX12_joinRow_82 : decode cX12_joinRow 82 = .ok (.iload 5, 2) := by decide +kernel
theorem dX12_joinRow_84 : decode cX12_joinRow 84 = .ok (.iload_n 3, 1) := by decide +kernel
theorem dX12_joinRow_85 : decode cX12_joinRow 85 = .ok (.iload 4, 2) := by decide +kernel
theorem dX12_joinRow_87 : decode cX12_joinRow 87 = .ok (.iadd, 1) := by decide +kernel
theorem dX12_joinRow_88 : decode cX12_joinRow 88 = .ok (.if_icmp .ge 23, 3) := by decide +kernel
theorem dX12_joinRow_91 : decode cX12_joinRow 91 = .ok (.aload_n 0, 1) := by decide +kernel
theorem dX12_joinRow_92 : decode cX12_joinRow 92 = .ok (.getfield 25, 3) := by decide +kernel
theorem dX12_joinRow_95 : decode cX12_joinRow 95 = .ok (.iload 5, 2) := by decide +kernel
theorem dX12_joinRow_97 : decode cX12_joinRow 97 = .ok (.aload_n 0, 1) := by decide +kernel
theorem dX12_joinRow_98 : decode cX12_joinRow 98 = .ok (.getfield 28, 3) := by decide +kernel
theorem dX12_joinRow_101 : decode cX12_joinRow 101 = .ok (.iload 5, 2) := by decide +kernel
theorem dX12_joinRow_103 : decode cX12_joinRow 103 = .ok (.iaload, 1) := by decide +kernel
theorem dX12_joinRow_104 : decode cX12_joinRow 104 = .ok (.iastore, 1) := by decide +kernel
theorem dX12_joinRow_105 : decode cX12_joinRow 105 = .ok (.iinc 5 1, 3) := by decide +kernel
theorem dX12_joinRow_108 : decode cX12_joinRow 108 = .ok (.goto (-26), 3) := by decide +kernel
theorem dX12_joinRow_111 : decode cX12_joinRow 111 = .ok (.return_, 1) := by decide +kernel
theorem dX12_splitBlock_0 : decode cX12_splitBlock 0 = .ok (.aload_n 0, 1) := by decide +kernel
theorem dX12_splitBlock_1 : decode cX12_splitBlock 1 = .ok (.aload_n 1, 1) := by decide +kernel
theorem dX12_splitBlock_2 : decode cX12_splitBlock 2 = .ok (.iload_n 2, 1) := by decide +kernel
theorem dX12_splitBlock_3 : decode cX12_splitBlock 3 = .ok (.iconst 0, 1) := by decide +kernel
theorem dX12_splitBlock_4 : decode cX12_splitBlock 4 = .ok (.bipush 8, 2) := by decide +kernel
theorem dX12_splitBlock_6 : decode cX12_splitBlock 6 = .ok (.invokevirtual 156, 3) := by decide +kernel
theorem dX12_splitBlock_9 : decode cX12_splitBlock 9 = .ok (.aload_n 0, 1) := by decide +kernel
theorem dX12_splitBlock_10 : decode cX12_splitBlock 10 = .ok (.aload_n 1, 1) := by decide +kernel
theorem dX12_splitBlock_11 : decode cX12_splitBlock 11 = .ok (.iload_n 2, 1) := by decide +kernel
theorem dX12_splitBlock_12 : decode cX12_splitBlock 12 = .ok (.iconst 2, 1) := by decide +kernel
theorem dX12_splitBlock_13 : decode cX12_splitBlock 13 = .ok (.iadd, 1) := by decide +kernel
theorem dX12_splitBlock_14 : decode cX12_splitBlock 14 = .ok (.iconst 0, 1) := by decide +kernel
theorem dX12_splitBlock_15 : decode cX12_splitBlock 15 = .ok (.iconst 4, 1) := by decide +kernel
theorem dX12_splitBlock_16 : decode cX12_splitBlock 16 = .ok (.invokevirtual 156, 3) := by decide +kernel
theorem dX12_splitBlock_19 : decode cX12_splitBlock 19 = .ok (.aload_n 0, 1) := by decide +kernel
theorem dX12_splitBlock_20 : decode cX12_splitBlock 20 = .ok (.aload_n 1, 1) := by decide +kernel
theorem dX12_splitBlock_21 : decode cX12_splitBlock 21 = .ok (.iload_n 2, 1) := by decide +kernel
theorem dX12_splitBlock_22 : decode cX12_splitBlock 22 = .ok (.iconst 4, 1) := by decide +kernel
theorem dX12_splitBlock_23 : decode cX12_splitBlock 23 = .ok (.iadd, 1) := by decide +kernel
theorem dX12_splitBlock_24 : decode cX12_splitBlock 24 = .ok (.iconst 4, 1) := by decide +kernel
theorem dX12_splitBlock_25 : decode cX12_splitBlock 25 = .ok (.iconst 4, 1) := by decide +kernel
theorem dX12_splitBlock_26 : decode cX12_splitBlock 26 = .ok (.invokevirtual 156, 3) := by decide +kernel
theorem dX12_splitBlock_29 : decode cX12_splitBlock 29 = .ok (.iconst 0, 1) := by decide +kernel
theorem dX12_splitBlock_30 : decode cX12_splitBlock 30 = .ok (.istore_n 3, 1) := by decide +kernel
theorem dX12_splitBlock_31 : decode cX12_splitBlock 31 = .ok (.iload_n 3, 1) := by decide +kernel
theorem dX12_splitBlock_32 : decode cX12_splitBlock 32 = .ok (.iconst 4, 1) := by decide +kernel
theorem dX12_splitBlock_33 : decode cX12_splitBlock 33 = .ok (.if_icmp .ge 26, 3) := by decide +kernel
theorem dX12_splitBlock_36 : decode cX12_splitBlock 36 = .ok (.aload_n 0, 1) := by decide +kernel
theorem dX12_splitBlock_37 : decode cX12_splitBlock 37 = .ok (.aload_n 1, 1) := by decide +kernel
theorem dX12_splitBlock_38 : decode cX12_splitBlock 38 = .ok (.iload_n 2, 1) := by decide +kernel
theorem dX12_splitBlock_39 : decode cX12_splitBlock 39 = .ok (.bipush 6, 2) := by decide +kernel
theorem dX12_splitBlock_41 : decode cX12_splitBlock 41 = .ok (.iadd, 1) := by decide +kernel
theorem dX12_splitBlock_42 : decode cX12_splitBlock 42 = .ok (.iconst 2, 1) := by decide +kernel
theorem dX12_splitBlock_43 : decode cX12_splitBlock 43 = .ok (.iload_n 3, 1) := by decide +kernel
theorem dX12_splitBlock_44 : decode cX12_splitBlock 44 = .ok (.imul, 1) := by decide +kernel
theorem dX12_splitBlock_45 : decode cX12_splitBlock 45 = .ok (.iadd, 1) := by decide +kernel
theorem dX12_splitBlock_46 : decode cX12_splitBlock 46 = .ok (.iconst 2, 1) := by decide +kernel
theorem dX12_splitBlock_47 : decode cX12_splitBlock 47 = .ok (.iload_n 3, 1) := by decide +kernel
theorem dX12_splitBlock_48 : decode cX12_splitBlock 48 = .ok (.imul, 1) := by decide +kernel
theorem dX12_splitBlock_49 : decode cX12_splitBlock 49 = .ok (.iconst 2, 1) := by decide +kernel
theorem dX12_splitBlock_50 : decode cX12_splitBlock 50 = .ok (.invokevirtual 156, 3) := by decide +kernel
theorem dX12_splitBlock_53 : decode cX12_splitBlock 53 = .ok (.iinc 3 1, 3) := by decide +kernel
theorem dX12_splitBlock_56 : decode cX12_splitBlock 56 = .ok (.goto (-25), 3) := by decide +kernel
theorem dX12_splitBlock_59 : decode cX12_splitBlock 59 = .ok (.return_, 1) := by decide +kernel
theorem dX12_joinBlock_0 : decode cX12_joinBlock 0 = .ok (.iconst 0, 1) := by decide +kernel
theorem dX12_joinBlock_1 : decode cX12_joinBlock 1 = .ok (.istore_n 3, 1) := by decide +kernel
theorem dX12_joinBlock_2 : decode cX12_joinBlock 2 = .ok (.iload_n 3, 1) := by decide +kernel
theorem dX12_joinBlock_3 : decode cX12_joinBlock 3 = .ok (.iconst 4, 1) := by decide +kernel
theorem dX12_joinBlock_4 : decode cX12_joinBlock 4 = .ok (.if_icmp .ge 26, 3) := by decide +kernel
theorem dX12_joinBlock_7 : decode cX12_joinBlock 7 = .ok (.aload_n 0, 1) := by decide +kernel
theorem dX12_joinBlock_8 : decode cX12_joinBlock 8 = .ok (.aload_n 1, 1) := by decide +kernel
theorem dX12_joinBlock_9 : decode cX12_joinBlock 9 = .ok (.iload_n 2, 1) := by decide +kernel
theorem dX12_joinBlock_10 : decode cX12_joinBlock 10 = .ok (.bipush 6, 2) := by decide +kernel
theorem dX12_joinBlock_12 : decode cX12_joinBlock 12 = .ok (.iadd, 1) := by decide +kernel
theorem dX12_joinBlock_13 : decode cX12_joinBlock 13 = .ok (.iconst 2, 1) := by decide +kernel
theorem dX12_joinBlock_14 : decode cX12_joinBlock 14 = .ok (.iload_n 3, 1) := by decide +kernel
theorem dX12_joinBlock_15 : decode cX12_joinBlock 15 = .ok (.imul, 1) := by decide +kernel
theorem dX12_joinBlock_16 : decode cX12_joinBlock 16 = .ok (.iadd, 1) := by decide +kernel
theorem dX12_joinBlock_17 : decode cX12_joinBlock 17 = .ok (.iconst 2, 1) := by decide +kernel
theorem dX12_joinBlock_18 : decode cX12_joinBlock 18 = .ok (.iload_n 3, 1) := by decide +kernel
theorem dX12_joinBlock_19 : decode cX12_joinBlock 19 = .ok (.imul, 1) := by decide +kernel
theorem dX12_joinBlock_20 : decode cX12_joinBlock 20 = .ok (.iconst 2, 1) := by decide +kernel
theorem dX12_joinBlock_21 : decode cX12_joinBlock 21 = .ok (.invokevirtual 159, 3) := by decide +kernel
theorem dX12_joinBlock_24 : decode cX12_joinBlock 24 = .ok (.iinc 3 1, 3) := by decide +kernel
theorem dX12_joinBlock_27 : decode cX12_joinBlock 27 = .ok (.goto (-25), 3) := by decide +kernel
theorem dX12_joinBlock_30 : decode cX12_joinBlock 30 = .ok (.aload_n 0, 1) := by decide +kernel
theorem dX12_joinBlock_31 : decode cX12_joinBlock 31 = .ok (.aload_n 1, 1) := by decide +kernel
theorem dX12_joinBlock_32 : decode cX12_joinBlock 32 = .ok (.iload_n 2, 1) := by decide +kernel
theorem dX12_joinBlock_33 : decode cX12_joinBlock 33 = .ok (.iconst 2, 1) := by decide +kernel
theorem dX12_joinBlock_34 : decode cX12_joinBlock 34 = .ok (.iadd, 1) := by decide +kernel
theorem dX12_joinBlock_35 : decode cX12_joinBlock 35 = .ok (.iconst 0, 1) := by decide +kernel
theorem dX12_joinBlock_36 : decode cX12_joinBlock 36 = .ok (.iconst 4, 1) := by decide +kernel
theorem dX12_joinBlock_37 : decode cX12_joinBlock 37 = .ok (.invokevirtual 159, 3) := by decide +kernel
theorem dX12_joinBlock_40 : decode cX12_joinBlock 40 = .ok (.aload_n 0, 1) := by decide +kernel
theorem dX12_joinBlock_41 : decode cX12_joinBlock 41 = .ok (.aload_n 1, 1) := by decide +kernel
theorem dX12_joinBlock_42 : decode cX12_joinBlock 42 = .ok (.iload_n 2, 1) := by decide +kernel
theorem dX12_joinBlock_43 : decode cX12_joinBlock 43 = .ok (.iconst 4, 1) := by decide +kernel
theorem dX12_joinBlock_44 : decode cX12_joinBlock 44 = .ok (.iadd, 1) := by decide +kernel
theorem dX12_joinBlock_45 : decode cX12_joinBlock 45 = .ok (.iconst 4, 1) := by decide +kernel
theorem dX12_joinBlock_46 : decode cX12_joinBlock 46 = .ok (.iconst 4, 1) := by decide +kernel
theorem dX12_joinBlock_47 : decode cX12_joinBlock 47 = .ok (.invokevirtual 159, 3) := by decide +kernel
theorem dX12_joinBlock_50 : decode cX12_joinBlock 50 = .ok (.aload_n 0, 1) := by decide +kernel
theorem dX12_joinBlock_51 : decode cX12_joinBlock 51 = .ok (.aload_n 1, 1) := by decide +kernel
theorem dX12_joinBlock_52 : decode cX12_joinBlock 52 = .ok (.iload_n 2, 1) := by decide +kernel
theorem dX12_joinBlock_53 : decode cX12_joinBlock 53 = .ok (.iconst 0, 1) := by decide +kernel
theorem dX12_joinBlock_54 : decode cX12_joinBlock 54 = .ok (.bipush 8, 2) := by decide +kernel
theorem dX12_joinBlock_56 : decode cX12_joinBlock 56 = .ok (.invokevirtual 159, 3) := by decide +kernel
theorem dX12_joinBlock_59 : decode cX12_joinBlock 59 = .ok (.return_, 1) := by decide +kernel
theorem dX12_bandAt_0 : decode cX12_bandAt 0 = .ok (.bipush 32, 2) := by decide +kernel
theorem dX12_bandAt_2 : decode cX12_bandAt 2 = .ok (.iload_n 0, 1) := by decide +kernel
theorem dX12_bandAt_3 : decode cX12_bandAt 3 = .ok (.imul, 1) := by decide +kernel
theorem dX12_bandAt_4 : decode cX12_bandAt 4 = .ok (.iconst 4, 1) := by decide +kernel
theorem dX12_bandAt_5 : decode cX12_bandAt 5 = .ok (.iload_n 1, 1) := by decide +kernel
theorem dX12_bandAt_6 : decode cX12_bandAt 6 = .ok (.imul, 1) := by decide +kernel
theorem dX12_bandAt_7 : decode cX12_bandAt 7 = .ok (.iadd, 1) := by decide +kernel
theorem dX12_bandAt_8 : decode cX12_bandAt 8 = .ok (.iload_n 2, 1) := by decide +kernel
theorem dX12_bandAt_9 : decode cX12_bandAt 9 = .ok (.iadd, 1) := by decide +kernel
theorem dX12_bandAt_10 : decode cX12_bandAt 10 = .ok (.ireturn, 1) := by decide +kernel
theorem dX12_splitFrame_0 : decode cX12_splitFrame 0 = .ok (.iconst 0, 1) := by decide +kernel
theorem dX12_splitFrame_1 : decode cX12_splitFrame 1 = .ok (.istore_n 2, 1) := by decide +kernel
theorem dX12_splitFrame_2 : decode cX12_splitFrame 2 = .ok (.iload_n 2, 1) := by decide +kernel
theorem dX12_splitFrame_3 : decode cX12_splitFrame 3 = .ok (.iconst 2, 1) := by decide +kernel
theorem dX12_splitFrame_4 : decode cX12_splitFrame 4 = .ok (.if_icmp .ge 116, 3) := by decide +kernel
theorem dX12_splitFrame_7 : decode cX12_splitFrame 7 = .ok (.iconst 0, 1) := by decide +kernel
theorem dX12_splitFrame_8 : decode cX12_splitFrame 8 = .ok (.istore_n 3, 1) := by decide +kernel
theorem dX12_splitFrame_9 : decode cX12_splitFrame 9 = .ok (.iload_n 3, 1) := by decide +kernel
theorem dX12_splitFrame_10 : decode cX12_splitFrame 10 = .ok (.iconst 4, 1) := by decide +kernel
theorem dX12_splitFrame_11 : decode cX12_splitFrame 11 = .ok (.if_icmp .ge 103, 3) := by decide +kernel
theorem dX12_splitFrame_14 : decode cX12_splitFrame 14 = .ok (.iconst 0, 1) := by decide +kernel
theorem dX12_splitFrame_15 : decode cX12_splitFrame 15 = .ok (.istore 4, 2) := by decide +kernel
theorem dX12_splitFrame_17 : decode cX12_splitFrame 17 = .ok (.iload 4, 2) := by decide +kernel
theorem dX12_splitFrame_19 : decode cX12_splitFrame 19 = .ok (.bipush 8, 2) := by decide +kernel
theorem dX12_splitFrame_21 : decode cX12_splitFrame 21 = .ok (.if_icmp .ge 33, 3) := by decide +kernel
theorem dX12_splitFrame_24 : decode cX12_splitFrame 24 = .ok (.aload_n 0, 1) := by decide +kernel
theorem dX12_splitFrame_25 : decode cX12_splitFrame 25 = .ok (.getfield 25, 3) := by decide +kernel
theorem dX12_splitFrame_28 : decode cX12_splitFrame 28 = .ok (.iload 4, 2) := by decide +kernel
theorem dX12_splitFrame_30 : decode cX12_splitFrame 30 = .ok (.aload_n 0, 1) := by decide +kernel
theorem dX12_splitFrame_31 : decode cX12_splitFrame 31 = .ok (.iload_n 2, 1) := by decide +kernel
theorem dX12_splitFrame_32 : decode cX12_splitFrame 32 = .ok (.bipush 32, 2) := by decide +kernel
theorem dX12_splitFrame_34 : decode cX12_splitFrame 34 = .ok (.iload_n 1, 1) := by decide +kernel
theorem dX12_splitFrame_35 : decode cX12_splitFrame 35 = .ok (.imul, 1) := by decide +kernel
theorem dX12_splitFrame_36 : decode cX12_splitFrame 36 = .ok (.bipush 8, 2) := by decide +kernel
theorem dX12_splitFrame_38 : decode cX12_splitFrame 38 = .ok (.iload_n 3, 1) := by decide +kernel
theorem dX12_splitFrame_39 : decode cX12_splitFrame 39 = .ok (.imul, 1) := by decide +kernel
theorem dX12_splitFrame_40 : decode cX12_splitFrame 40 = .ok (.iadd, 1) := by decide +kernel
theorem dX12_splitFrame_41 : decode cX12_splitFrame 41 = .ok (.iload 4, 2) := by decide +kernel
theorem dX12_splitFrame_43 : decode cX12_splitFrame 43 = .ok (.iadd, 1) := by decide +kernel
theorem dX12_splitFrame_44 : decode cX12_splitFrame 44 = .ok (.invokevirtual 132, 3) := by decide +kernel
theorem dX12_splitFrame_47 : decode cX12_splitFrame 47 = .ok (.iastore, 1) := by decide +kernel
theorem dX12_splitFrame_48 : decode cX12_splitFrame 48 = .ok (.iinc 4 1, 3) := by decide +kernel
theorem dX12_splitFrame_51 : decode cX12_splitFrame 51 = .ok (.goto (-34), 3) := by decide +kernel
theorem dX12_splitFrame_54 : decode cX12_splitFrame 54 = .ok (.aload_n 0, 1) := by decide +kernel
theorem dX12_splitFrame_55 : decode cX12_splitFrame 55 = .ok (.aload_n 0, 1) := by decide +kernel
theorem dX12_splitFrame_56 : decode cX12_splitFrame 56 = .ok (.getfield 9, 3) := by decide +kernel
theorem dX12_splitFrame_59 : decode cX12_splitFrame 59 = .ok (.bipush 53, 2) := by decide +kernel
theorem dX12_splitFrame_61 : decode cX12_splitFrame 61 = .ok (.bipush 14, 2) := by decide +kernel
theorem dX12_splitFrame_63 : decode cX12_splitFrame 63 = .ok (.iload_n 2, 1) := by decide +kernel
theorem dX12_splitFrame_64 : decode cX12_splitFrame 64 = .ok (.imul, 1) := by decide +kernel
theorem dX12_splitFrame_65 : decode cX12_splitFrame 65 = .ok (.iadd, 1) := by decide +kernel
theorem dX12_splitFrame_66 : decode cX12_splitFrame 66 = .ok (.invokevirtual 162, 3) := by decide +kernel
theorem dX12_splitFrame_69 : decode cX12_splitFrame 69 = .ok (.iconst 0, 1) := by decide +kernel
theorem dX12_splitFrame_70 : decode cX12_splitFrame 70 = .ok (.istore 4, 2) := by decide +kernel
theorem dX12_splitFrame_72 : decode cX12_splitFrame 72 = .ok (.iload 4, 2) := by decide +kernel
theorem dX12_splitFrame_74 : decode cX12_splitFrame 74 = .ok (.bipush 8, 2) := by decide +kernel
theorem dX12_splitFrame_76 : decode cX12_splitFrame 76 = .ok (.if_icmp .ge 32, 3) := by decide +kernel
theorem dX12_splitFrame_79 : decode cX12_splitFrame 79 = .ok (.aload_n 0, 1) := by decide +kernel
theorem dX12_splitFrame_80 : decode cX12_splitFrame 80 = .ok (.getfield 9, 3) := by decide +kernel
theorem dX12_splitFrame_83 : decode cX12_splitFrame 83 = .ok (.sipush 493, 3) := by decide +kernel
theorem dX12_splitFrame_86 : decode cX12_splitFrame 86 = .ok (.iload_n 2, 1) := by decide +kernel
theorem dX12_splitFrame_87 : decode cX12_splitFrame 87 = .ok (.iload 4, 2) := by decide +kernel
theorem dX12_splitFrame_89 : decode cX12_splitFrame 89 = .ok (.iload_n 3, 1) := by decide +kernel
theorem dX12_splitFrame_90 : decode cX12_splitFrame 90 = .ok (.invokestatic 166, 3) := by decide +kernel
theorem dX12_splitFrame_93 : decode cX12_splitFrame 93 = .ok (.iadd, 1) := by decide +kernel
theorem dX12_splitFrame_94 : decode cX12_splitFrame 94 = .ok (.aload_n 0, 1) := by decide +kernel
theorem dX12_splitFrame_95 : decode cX12_splitFrame 95 = .ok (.getfield 25, 3) := by decide +kernel
theorem dX12_splitFrame_98 : decode cX12_splitFrame 98 = .ok (.iload 4, 2) := by decide +kernel
theorem dX12_splitFrame_100 : decode cX12_splitFrame 100 = .ok (.iaload, 1) := by decide +kernel
theorem dX12_splitFrame_101 : decode cX12_splitFrame 101 = .ok (.iastore, 1) := by decide +kernel
theorem dX12_splitFrame_102 : decode cX12_splitFrame 102 = .ok (.iinc 4 1, 3) := by decide +kernel
theorem dX12_splitFrame_105 : decode cX12_splitFrame 105 = .ok (.goto (-33), 3) := by decide +kernel
theorem dX12_splitFrame_108 : decode cX12_splitFrame 108 = .ok (.iinc 3 1, 3) := by decide +kernel
theorem dX12_splitFrame_111 : decode cX12_splitFrame 111 = .ok (.goto (-102), 3) := by decide +kernel
theorem dX12_splitFrame_114 : decode cX12_splitFrame 114 = .ok (.iinc 2 1, 3) := by decide +kernel
theorem dX12_splitFrame_117 : decode cX12_splitFrame 117 = .ok (.goto (-115), 3) := by decide +kernel
theorem dX12_splitFrame_120 : decode cX12_splitFrame 120 = .ok (.return_, 1) := by decide +kernel
theorem dX12_middle_0 : decode cX12_middle 0 = .ok (.iload_n 0, 1) := by decide +kernel
theorem dX12_middle_1 : decode cX12_middle 1 = .ok (.iload_n 1, 1) := by decide +kernel
theorem dX12_middle_2 : decode cX12_middle 2 = .ok (.iadd, 1) := by decide +kernel
theorem dX12_middle_3 : decode cX12_middle 3 = .ok (.iconst 1, 1) := by decide +kernel
theorem dX12_middle_4 : decode cX12_middle 4 = .ok (.ishr, 1) := by decide +kernel
theorem dX12_middle_5 : decode cX12_middle 5 = .ok (.ireturn, 1) := by decide +kernel
theorem dX12_sizes_0 : decode cX12_sizes 0 = .ok (.iconst 0, 1) := by decide +kernel
theorem dX12_sizes_1 : decode cX12_sizes 1 = .ok (.istore_n 3, 1) := by decide +kernel
theorem dX12_sizes_2 : decode cX12_sizes 2 = .ok (.iconst 0, 1) := by decide +kernel
theorem dX12_sizes_3 : decode cX12_sizes 3 = .ok (.istore 4, 2) := by decide +kernel
theorem dX12_sizes_5 : decode cX12_sizes 5 = .ok (.iload 4, 2) := by decide +kernel
theorem dX12_sizes_7 : decode cX12_sizes 7 = .ok (.iconst 4, 1) := by decide +kernel
theorem dX12_sizes_8 : decode cX12_sizes 8 = .ok (.if_icmp .ge 85, 3) := by decide +kernel
theorem dX12_sizes_11 : decode cX12_sizes 11 = .ok (.aload_n 0, 1) := by decide +kernel
theorem dX12_sizes_12 : decode cX12_sizes 12 = .ok (.getfield 9, 3) := by decide +kernel
theorem dX12_sizes_15 : decode cX12_sizes 15 = .ok (.sipush 493, 3) := by decide +kernel
theorem dX12_sizes_18 : decode cX12_sizes 18 = .ok (.iconst 0, 1) := by decide +kernel
theorem dX12_sizes_19 : decode cX12_sizes 19 = .ok (.iload_n 1, 1) := by decide +kernel
theorem dX12_sizes_20 : decode cX12_sizes 20 = .ok (.iload 4, 2) := by decide +kernel
theorem dX12_sizes_22 : decode cX12_sizes 22 = .ok (.invokestatic 166, 3) := by decide +kernel
theorem dX12_sizes_25 : decode cX12_sizes 25 = .ok (.iadd, 1) := by decide +kernel
theorem dX12_sizes_26 : decode cX12_sizes 26 = .ok (.iaload, 1) := by decide +kernel
theorem dX12_sizes_27 : decode cX12_sizes 27 = .ok (.istore 5, 2) := by decide +kernel
theorem dX12_sizes_29 : decode cX12_sizes 29 = .ok (.aload_n 0, 1) := by decide +kernel
theorem dX12_sizes_30 : decode cX12_sizes 30 = .ok (.getfield 9, 3) := by decide +kernel
theorem dX12_sizes_33 : decode cX12_sizes 33 = .ok (.sipush 493, 3) := by decide +kernel
theorem dX12_sizes_36 : decode cX12_sizes 36 = .ok (.iconst 1, 1) := by decide +kernel
theorem dX12_sizes_37 : decode cX12_sizes 37 = .ok (.iload_n 1, 1) := by decide +kernel
theorem dX12_sizes_38 : decode cX12_sizes 38 = .ok (.iload 4, 2) := by decide +kernel
theorem dX12_sizes_40 : decode cX12_sizes 40 = .ok (.invokestatic 166, 3) := by decide +kernel
theorem dX12_sizes_43 : decode cX12_sizes 43 = .ok (.iadd, 1) := by decide +kernel
theorem dX12_sizes_44 : decode cX12_sizes 44 = .ok (.iaload, 1) := by decide +kernel
theorem dX12_sizes_45 : decode cX12_sizes 45 = .ok (.istore 6, 2) := by decide +kernel
theorem dX12_sizes_47 : decode cX12_sizes 47 = .ok (.iload_n 3, 1) := by decide +kernel
theorem dX12_sizes_48 : decode cX12_sizes 48 = .ok (.iload_n 2, 1) := by decide +kernel
theorem dX12_sizes_49 : decode cX12_sizes 49 = .ok (.ifCond .eq 25, 3) := by decide +kernel
theorem dX12_sizes_52 : decode cX12_sizes 52 = .ok (.iload 5, 2) := by decide +kernel
theorem dX12_sizes_54 : decode cX12_sizes 54 = .ok (.iload 6, 2) := by decide +kernel
theorem dX12_sizes_56 : decode cX12_sizes 56 = .ok (.invokestatic 170, 3) := by decide +kernel
theorem dX12_sizes_59 : decode cX12_sizes 59 = .ok (.invokestatic 173, 3) := by decide +kernel
theorem dX12_sizes_62 : decode cX12_sizes 62 = .ok (.iload 5, 2) := by decide +kernel
theorem dX12_sizes_64 : decode cX12_sizes 64 = .ok (.iload 6, 2) := by decide +kernel
theorem dX12_sizes_66 : decode cX12_sizes 66 = .ok (.isub, 1) := by decide +kernel
theorem dX12_sizes_67 : decode cX12_sizes 67 = .ok (.invokestatic 173, 3) := by decide +kernel
theorem dX12_sizes_70 : decode cX12_sizes 70 = .ok (.iadd, 1) := by decide +kernel
theorem dX12_sizes_71 : decode cX12_sizes 71 = .ok (.goto 14, 3) := by decide +kernel
theorem dX12_sizes_74 : decode cX12_sizes 74 = .ok (.iload 5, 2) := by decide +kernel
theorem dX12_sizes_76 : decode cX12_sizes 76 = .ok (.invokestatic 173, 3) := by decide +kernel
theorem dX12_sizes_79 : decode cX12_sizes 79 = .ok (.iload 6, 2) := by decide +kernel
theorem dX12_sizes_81 : decode cX12_sizes 81 = .ok (.invokestatic 173, 3) := by decide +kernel
theorem dX12_sizes_84 : decode cX12_sizes 84 = .ok (.iadd, 1) := by decide +kernel
theorem dX12_sizes_85 : decode cX12_sizes 85 = .ok (.iadd, 1) := by decide +kernel
theorem dX12_sizes_86 : decode cX12_sizes 86 = .ok (.istore_n 3, 1) := by decide +kernel
theorem dX12_sizes_87 : decode cX12_sizes 87 = .ok (.iinc 4 1, 3) := by decide +kernel
theorem dX12_sizes_90 : decode cX12_sizes 90 = .ok (.goto (-85), 3) := by decide +kernel
theorem dX12_sizes_93 : decode cX12_sizes 93 = .ok (.iload_n 3, 1) := by decide +kernel
theorem dX12_sizes_94 : decode cX12_sizes 94 = .ok (.ireturn, 1) := by decide +kernel
theorem dX12_layCoded_0 : decode cX12_layCoded 0 = .ok (.aload_n 0, 1) := by decide +kernel
theorem dX12_layCoded_1 : decode cX12_layCoded 1 = .ok (.getfield 9, 3) := by decide +kernel
theorem dX12_layCoded_4 : decode cX12_layCoded 4 = .ok (.sipush 653, 3) := by decide +kernel
theorem dX12_layCoded_7 : decode cX12_layCoded 7 = .ok (.iconst 0, 1) := by decide +kernel
theorem dX12_layCoded_8 : decode cX12_layCoded 8 = .ok (.iastore, 1) := by decide +kernel
theorem dX12_layCoded_9 : decode cX12_layCoded 9 = .ok (.iconst 0, 1) := by decide +kernel
theorem dX12_layCoded_10 : decode cX12_layCoded 10 = .ok (.istore_n 1, 1) := by decide +kernel
theorem dX12_layCoded_11 : decode cX12_layCoded 11 = .ok (.iload_n 1, 1) := by decide +kernel
theorem dX12_layCoded_12 : decode cX12_layCoded 12 = .ok (.bipush 8, 2) := by decide +kernel
theorem dX12_layCoded_14 : decode cX12_layCoded 14 = .ok (.if_icmp .ge 176, 3) := by decide +kernel
theorem dX12_layCoded_17 : decode cX12_layCoded 17 = .ok (.iload_n 1, 1) := by decide +kernel
theorem dX12_layCoded_18 : decode cX12_layCoded 18 = .ok (.bipush 7, 2) := by decide +kernel
theorem dX12_layCoded_20 : decode cX12_layCoded 20 = .ok (.if_icmp .ge 33, 3) := by decide +kernel
theorem dX12_layCoded_23 : decode cX12_layCoded 23 = .ok (.aload_n 0, 1) := by decide +kernel
theorem dX12_layCoded_24 : decode cX12_layCoded 24 = .ok (.getfield 9, 3) := by decide +kernel
theorem dX12_layCoded_27 : decode cX12_layCoded 27 = .ok (.bipush 9, 2) := by decide +kernel
theorem dX12_layCoded_29 : decode cX12_layCoded 29 = .ok (.iaload, 1) := by decide +kernel
theorem dX12_layCoded_30 : decode cX12_layCoded 30 = .ok (.iconst 1, 1) := by decide +kernel
theorem dX12_layCoded_31 : decode cX12_layCoded 31 = .ok (.if_icmp .ne 22, 3) := by decide +kernel
theorem dX12_layCoded_34 : decode cX12_layCoded 34 = .ok (.aload_n 0, 1) := by decide +kernel
theorem dX12_layCoded_35 : decode cX12_layCoded 35 = .ok (.iload_n 1, 1) := by decide +kernel
theorem dX12_layCoded_36 : decode cX12_layCoded 36 = .ok (.iconst 1, 1) := by decide +kernel
theorem dX12_layCoded_37 : decode cX12_layCoded 37 = .ok (.invokevirtual 177, 3) := by decide +kernel
theorem dX12_layCoded_40 : decode cX12_layCoded 40 = .ok (.aload_n 0, 1) := by decide +kernel
theorem dX12_layCoded_41 : decode cX12_layCoded 41 = .ok (.iload_n 1, 1) := by decide +kernel
theorem dX12_layCoded_42 : decode cX12_layCoded 42 = .ok (.iconst 0, 1) := by decide +kernel
theorem dX12_layCoded_43 : decode cX12_layCoded 43 = .ok (.invokevirtual 177, 3) := by decide +kernel
theorem dX12_layCoded_46 : decode cX12_layCoded 46 = .ok (.if_icmp .ge 7, 3) := by decide +kernel
theorem dX12_layCoded_49 : decode cX12_layCoded 49 = .ok (.iconst 1, 1) := by decide +kernel
theorem dX12_layCoded_50 : decode cX12_layCoded 50 = .ok (.goto 4, 3) := by decide +kernel
theorem dX12_layCoded_53 : decode cX12_layCoded 53 = .ok (.iconst 0, 1) := by decide +kernel
theorem dX12_layCoded_54 : decode cX12_layCoded 54 = .ok (.istore_n 2, 1) := by decide +kernel
theorem dX12_layCoded_55 : decode cX12_layCoded 55 = .ok (.aload_n 0, 1) := by decide +kernel
theorem dX12_layCoded_56 : decode cX12_layCoded 56 = .ok (.getfield 9, 3) := by decide +kernel
theorem dX12_layCoded_59 : decode cX12_layCoded 59 = .ok (.sipush 653, 3) := by decide +kernel
theorem dX12_layCoded_62 : decode cX12_layCoded 62 = .ok (.dup2, 1) := by decide +kernel
theorem dX12_layCoded_63 : decode cX12_layCoded 63 = .ok (.iaload, 1) := by decide +kernel
theorem dX12_layCoded_64 : decode cX12_layCoded 64 = .ok (.iload_n 2, 1) := by decide +kernel
theorem dX12_layCoded_65 : decode cX12_layCoded 65 = .ok (.ifCond .eq 9, 3) := by decide +kernel
theorem dX12_layCoded_68 : decode cX12_layCoded 68 = .ok (.iconst 1, 1) := by decide +kernel
theorem dX12_layCoded_69 : decode cX12_layCoded 69 = .ok (.iload_n 1, 1) := by decide +kernel
theorem dX12_layCoded_70 : decode cX12_layCoded 70 = .ok (.ishl, 1) := by decide +kernel
theorem dX12_layCoded_71 : decode cX12_layCoded 71 = .ok (.goto 4, 3) := by decide +kernel
theorem dX12_layCoded_74 : decode cX12_layCoded 74 = .ok (.iconst 0, 1) := by decide +kernel
theorem dX12_layCoded_75 : decode cX12_layCoded 75 = .ok (.ior, 1) := by decide +kernel
theorem dX12_layCoded_76 : decode cX12_layCoded 76 = .ok (.iastore, 1) := by decide +kernel
theorem dX12_layCoded_77 : decode cX12_layCoded 77 = .ok (.iconst 0, 1) := by decide +kernel
theorem dX12_layCoded_78 : decode cX12_layCoded 78 = .ok (.istore_n 3, 1) := by decide +kernel
theorem dX12_layCoded_79 : decode cX12_layCoded 79 = .ok (.iload_n 3, 1) := by decide +kernel
theorem dX12_layCoded_80 : decode cX12_layCoded 80 = .ok (.iconst 4, 1) := by decide +kernel
theorem dX12_layCoded_81 : decode cX12_layCoded 81 = .ok (.if_icmp .ge 103, 3) := by decide +kernel
theorem dX12_layCoded_84 : decode cX12_layCoded 84 = .ok (.aload_n 0, 1) := by decide +kernel
theorem dX12_layCoded_85 : decode cX12_layCoded 85 = .ok (.getfield 9, 3) := by decide +kernel
theorem dX12_layCoded_88 : decode cX12_layCoded 88 = .ok (.sipush 493, 3) := by decide +kernel
theorem dX12_layCoded_91 : decode cX12_layCoded 91 = .ok (.iconst 0, 1) := by decide +kernel
theorem dX12_layCoded_92 : decode cX12_layCoded 92 = .ok (.iload_n 1, 1) := by decide +kernel
theorem dX12_layCoded_93 : decode cX12_layCoded 93 = .ok (.iload_n 3, 1) := by decide +kernel
theorem dX12_layCoded_94 : decode cX12_layCoded 94 = .ok (.invokestatic 166, 3) := by decide +kernel
theorem dX12_layCoded_97 : decode cX12_layCoded 97 = .ok (.iadd, 1) := by decide +kernel
theorem dX12_layCoded_98 : decode cX12_layCoded 98 = .ok (.iaload, 1) := by decide +kernel
theorem dX12_layCoded_99 : decode cX12_layCoded 99 = .ok (.istore 4, 2) := by decide +kernel
theorem dX12_layCoded_101 : decode cX12_layCoded 101 = .ok (.aload_n 0, 1) := by decide +kernel
theorem dX12_layCoded_102 : decode cX12_layCoded 102 = .ok (.getfield 9, 3) := by decide +kernel
theorem dX12_layCoded_105 : decode cX12_layCoded 105 = .ok (.sipush 493, 3) := by decide +kernel
theorem dX12_layCoded_108 : decode cX12_layCoded 108 = .ok (.iconst 1, 1) := by decide +kernel
theorem dX12_layCoded_109 : decode cX12_layCoded 109 = .ok (.iload_n 1, 1) := by decide +kernel
theorem dX12_layCoded_110 : decode cX12_layCoded 110 = .ok (.iload_n 3, 1) := by decide +kernel
theorem dX12_layCoded_111 : decode cX12_layCoded 111 = .ok (.invokestatic 166, 3) := by decide +kernel
theorem dX12_layCoded_114 : decode cX12_layCoded 114 = .ok (.iadd, 1) := by decide +kernel
theorem dX12_layCoded_115 : decode cX12_layCoded 115 = .ok (.iaload, 1) := by decide +kernel
theorem dX12_layCoded_116 : decode cX12_layCoded 116 = .ok (.istore 5, 2) := by decide +kernel
theorem dX12_layCoded_118 : decode cX12_layCoded 118 = .ok (.aload_n 0, 1) := by decide +kernel
theorem dX12_layCoded_119 : decode cX12_layCoded 119 = .ok (.getfield 9, 3) := by decide +kernel
theorem dX12_layCoded_122 : decode cX12_layCoded 122 = .ok (.sipush 557, 3) := by decide +kernel
theorem dX12_layCoded_125 : decode cX12_layCoded 125 = .ok (.iconst 0, 1) := by decide +kernel
theorem dX12_layCoded_126 : decode cX12_layCoded 126 = .ok (.iload_n 1, 1) := by decide +kernel
theorem dX12_layCoded_127 : decode cX12_layCoded 127 = .ok (.iload_n 3, 1) := by decide +kernel
theorem dX12_layCoded_128 : decode cX12_layCoded 128 = .ok (.invokestatic 166, 3) := by decide +kernel
theorem dX12_layCoded_131 : decode cX12_layCoded 131 = .ok (.iadd, 1) := by decide +kernel
theorem dX12_layCoded_132 : decode cX12_layCoded 132 = .ok (.iload_n 2, 1) := by decide +kernel
theorem dX12_layCoded_133 : decode cX12_layCoded 133 = .ok (.ifCond .eq 13, 3) := by decide +kernel
theorem dX12_layCoded_136 : decode cX12_layCoded 136 = .ok (.iload 4, 2) := by decide +kernel
theorem dX12_layCoded_138 : decode cX12_layCoded 138 = .ok (.iload 5, 2) := by decide +kernel
theorem dX12_layCoded_140 : decode cX12_layCoded 140 = .ok (.invokestatic 170, 3) := by decide +kernel
theorem dX12_layCoded_143 : decode cX12_layCoded 143 = .ok (.goto 5, 3) := by decide +kernel
theorem dX12_layCoded_146 : decode cX12_layCoded 146 = .ok (.iload 4, 2) := by decide +kernel
theorem dX12_layCoded_148 : decode cX12_layCoded 148 = .ok (.iastore, 1) := by decide +kernel
theorem dX12_layCoded_149 : decode cX12_layCoded 149 = .ok (.aload_n 0, 1) := by decide +kernel
theorem dX12_layCoded_150 : decode cX12_layCoded 150 = .ok (.getfield 9, 3) := by decide +kernel
theorem dX12_layCoded_153 : decode cX12_layCoded 153 = .ok (.sipush 557, 3) := by decide +kernel
theorem dX12_layCoded_156 : decode cX12_layCoded 156 = .ok (.iconst 1, 1) := by decide +kernel
theorem dX12_layCoded_157 : decode cX12_layCoded 157 = .ok (.iload_n 1, 1) := by decide +kernel
theorem dX12_layCoded_158 : decode cX12_layCoded 158 = .ok (.iload_n 3, 1) := by decide +kernel
theorem dX12_layCoded_159 : decode cX12_layCoded 159 = .ok (.invokestatic 166, 3) := by decide +kernel
theorem dX12_layCoded_162 : decode cX12_layCoded 162 = .ok (.iadd, 1) := by decide +kernel
theorem dX12_layCoded_163 : decode cX12_layCoded 163 = .ok (.iload_n 2, 1) := by decide +kernel
theorem dX12_layCoded_164 : decode cX12_layCoded 164 = .ok (.ifCond .eq 11, 3) := by decide +kernel
theorem dX12_layCoded_167 : decode cX12_layCoded 167 = .ok (.iload 4, 2) := by decide +kernel
theorem dX12_layCoded_169 : decode cX12_layCoded 169 = .ok (.iload 5, 2) := by decide +kernel
theorem dX12_layCoded_171 : decode cX12_layCoded 171 = .ok (.isub, 1) := by decide +kernel
theorem dX12_layCoded_172 : decode cX12_layCoded 172 = .ok (.goto 5, 3) := by decide +kernel
theorem dX12_layCoded_175 : decode cX12_layCoded 175 = .ok (.iload 5, 2) := by decide +kernel
theorem dX12_layCoded_177 : decode cX12_layCoded 177 = .ok (.iastore, 1) := by decide +kernel
theorem dX12_layCoded_178 : decode cX12_layCoded 178 = .ok (.iinc 3 1, 3) := by decide +kernel
theorem dX12_layCoded_181 : decode cX12_layCoded 181 = .ok (.goto (-102), 3) := by decide +kernel
theorem dX12_layCoded_184 : decode cX12_layCoded 184 = .ok (.iinc 1 1, 3) := by decide +kernel
theorem dX12_layCoded_187 : decode cX12_layCoded 187 = .ok (.goto (-176), 3) := by decide +kernel
theorem dX12_layCoded_190 : decode cX12_layCoded 190 = .ok (.iconst 0, 1) := by decide +kernel
theorem dX12_layCoded_191 : decode cX12_layCoded 191 = .ok (.istore_n 1, 1) := by decide +kernel
theorem dX12_layCoded_192 : decode cX12_layCoded 192 = .ok (.iload_n 1, 1) := by decide +kernel
theorem dX12_layCoded_193 : decode cX12_layCoded 193 = .ok (.bipush 16, 2) := by decide +kernel
theorem dX12_layCoded_195 : decode cX12_layCoded 195 = .ok (.if_icmp .ge 24, 3) := by decide +kernel
theorem dX12_layCoded_198 : decode cX12_layCoded 198 = .ok (.aload_n 0, 1) := by decide +kernel
theorem dX12_layCoded_199 : decode cX12_layCoded 199 = .ok (.getfield 9, 3) := by decide +kernel
theorem dX12_layCoded_202 : decode cX12_layCoded 202 = .ok (.sipush 621, 3) := by decide +kernel
theorem dX12_layCoded_205 : decode cX12_layCoded 205 = .ok (.iload_n 1, 1) := by decide +kernel
theorem dX12_layCoded_206 : decode cX12_layCoded 206 = .ok (.iadd, 1) := by decide +kernel
theorem dX12_layCoded_207 : decode cX12_layCoded 207 = .ok (.aload_n 0, 1) := by decide +kernel
theorem dX12_layCoded_208 : decode cX12_layCoded 208 = .ok (.iload_n 1, 1) := by decide +kernel
theorem dX12_layCoded_209 : decode cX12_layCoded 209 = .ok (.invokevirtual 181, 3) := by decide +kernel
theorem dX12_layCoded_212 : decode cX12_layCoded 212 = .ok (.iastore, 1) := by decide +kernel
theorem dX12_layCoded_213 : decode cX12_layCoded 213 = .ok (.iinc 1 1, 3) := by decide +kernel
theorem dX12_layCoded_216 : decode cX12_layCoded 216 = .ok (.goto (-24), 3) := by decide +kernel
theorem dX12_layCoded_219 : decode cX12_layCoded 219 = .ok (.return_, 1) := by decide +kernel
theorem dX12_scaleOf_0 : decode cX12_scaleOf 0 = .ok (.iconst 0, 1) := by decide +kernel
theorem dX12_scaleOf_1 : decode cX12_scaleOf 1 = .ok (.istore_n 2, 1) := by decide +kernel
theorem dX12_scaleOf_2 : decode cX12_scaleOf 2 = .ok (.iload_n 2, 1) := by decide +kernel
theorem dX12_scaleOf_3 : decode cX12_scaleOf 3 = .ok (.bipush 15, 2) := by decide +kernel
theorem dX12_scaleOf_5 : decode cX12_scaleOf 5 = .ok (.if_icmp .ge 66, 3) := by decide +kernel
theorem dX12_scaleOf_8 : decode cX12_scaleOf 8 = .ok (.iconst 1, 1) := by decide +kernel
theorem dX12_scaleOf_9 : decode cX12_scaleOf 9 = .ok (.istore_n 3, 1) := by decide +kernel
theorem dX12_scaleOf_10 : decode cX12_scaleOf 10 = .ok (.iconst 0, 1) := by decide +kernel
theorem dX12_scaleOf_11 : decode cX12_scaleOf 11 = .ok (.istore 4, 2) := by decide +kernel
theorem dX12_scaleOf_13 : decode cX12_scaleOf 13 = .ok (.iload 4, 2) := by decide +kernel
theorem dX12_scaleOf_15 : decode cX12_scaleOf 15 = .ok (.iconst 4, 1) := by decide +kernel
theorem dX12_scaleOf_16 : decode cX12_scaleOf 16 = .ok (.if_icmp .ge 43, 3) := by decide +kernel
theorem dX12_scaleOf_19 : decode cX12_scaleOf 19 = .ok (.iload_n 3, 1) := by decide +kernel
theorem dX12_scaleOf_20 : decode cX12_scaleOf 20 = .ok (.ifCond .eq 31, 3) := by decide +kernel
theorem dX12_scaleOf_23 : decode cX12_scaleOf 23 = .ok (.aload_n 0, 1) := by decide +kernel
theorem dX12_scaleOf_24 : decode cX12_scaleOf 24 = .ok (.getfield 9, 3) := by decide +kernel
theorem dX12_scaleOf_27 : decode cX12_scaleOf 27 = .ok (.sipush 557, 3) := by decide +kernel
theorem dX12_scaleOf_30 : decode cX12_scaleOf 30 = .ok (.iconst 4, 1) := by decide +kernel
theorem dX12_scaleOf_31 : decode cX12_scaleOf 31 = .ok (.iload_n 1, 1) := by decide +kernel
theorem dX12_scaleOf_32 : decode cX12_scaleOf 32 = .ok (.imul, 1) := by decide +kernel
theorem dX12_scaleOf_33 : decode cX12_scaleOf 33 = .ok (.iadd, 1) := by decide +kernel
theorem dX12_scaleOf_34 : decode cX12_scaleOf 34 = .ok (.iload 4, 2) := by decide +kernel
theorem dX12_scaleOf_36 : decode cX12_scaleOf 36 = .ok (.iadd, 1) := by decide +kernel
theorem dX12_scaleOf_37 : decode cX12_scaleOf 37 = .ok (.iaload, 1) := by decide +kernel
theorem dX12_scaleOf_38 : decode cX12_scaleOf 38 = .ok (.invokestatic 173, 3) := by decide +kernel
theorem dX12_scaleOf_41 : decode cX12_scaleOf 41 = .ok (.iconst 1, 1) := by decide +kernel
theorem dX12_scaleOf_42 : decode cX12_scaleOf 42 = .ok (.iload_n 2, 1) := by decide +kernel
theorem dX12_scaleOf_43 : decode cX12_scaleOf 43 = .ok (.ishl, 1) := by decide +kernel
theorem dX12_scaleOf_44 : decode cX12_scaleOf 44 = .ok (.if_icmp .ge 7, 3) := by decide +kernel
theorem dX12_scaleOf_47 : decode cX12_scaleOf 47 = .ok (.iconst 1, 1) := by decide +kernel
theorem dX12_scaleOf_48 : decode cX12_scaleOf 48 = .ok (.goto 4, 3) := by decide +kernel
theorem dX12_scaleOf_51 : decode cX12_scaleOf 51 = .ok (.iconst 0, 1) := by decide +kernel
theorem dX12_scaleOf_52 : decode cX12_scaleOf 52 = .ok (.istore_n 3, 1) := by decide +kernel
theorem dX12_scaleOf_53 : decode cX12_scaleOf 53 = .ok (.iinc 4 1, 3) := by decide +kernel
theorem dX12_scaleOf_56 : decode cX12_scaleOf 56 = .ok (.goto (-43), 3) := by decide +kernel
theorem dX12_scaleOf_59 : decode cX12_scaleOf 59 = .ok (.iload_n 3, 1) := by decide +kernel
theorem dX12_scaleOf_60 : decode cX12_scaleOf 60 = .ok (.ifCond .eq 5, 3) := by decide +kernel
theorem dX12_scaleOf_63 : decode cX12_scaleOf 63 = .ok (.iload_n 2, 1) := by decide +kernel
theorem dX12_scaleOf_64 : decode cX12_scaleOf 64 = .ok (.ireturn, 1) := by decide +kernel
theorem dX12_scaleOf_65 : decode cX12_scaleOf 65 = .ok (.iinc 2 1, 3) := by decide +kernel
theorem dX12_scaleOf_68 : decode cX12_scaleOf 68 = .ok (.goto (-66), 3) := by decide +kernel
theorem dX12_scaleOf_71 : decode cX12_scaleOf 71 = .ok (.bipush 15, 2) := by decide +kernel
theorem dX12_scaleOf_73 : decode cX12_scaleOf 73 = .ok (.ireturn, 1) := by decide +kernel
theorem dX12_needOf_0 : decode cX12_needOf 0 = .ok (.aload_n 0, 1) := by decide +kernel
theorem dX12_needOf_1 : decode cX12_needOf 1 = .ok (.getfield 31, 3) := by decide +kernel
theorem dX12_needOf_4 : decode cX12_needOf 4 = .ok (.iload_n 1, 1) := by decide +kernel
theorem dX12_needOf_5 : decode cX12_needOf 5 = .ok (.iaload, 1) := by decide +kernel
theorem dX12_needOf_6 : decode cX12_needOf 6 = .ok (.istore_n 3, 1) := by decide +kernel
theorem dX12_needOf_7 : decode cX12_needOf 7 = .ok (.iload_n 3, 1) := by decide +kernel
theorem dX12_needOf_8 : decode cX12_needOf 8 = .ok (.ifCond .eq 7, 3) := by decide +kernel
theorem dX12_needOf_11 : decode cX12_needOf 11 = .ok (.iload_n 2, 1) := by decide +kernel
theorem dX12_needOf_12 : decode cX12_needOf 12 = .ok (.ifCond .ne 5, 3) := by decide +kernel
theorem dX12_needOf_15 : decode cX12_needOf 15 = .ok (.iload_n 3, 1) := by decide +kernel
theorem dX12_needOf_16 : decode cX12_needOf 16 = .ok (.ireturn, 1) := by decide +kernel
theorem dX12_needOf_17 : decode cX12_needOf 17 = .ok (.iload_n 3, 1) := by decide +kernel
theorem dX12_needOf_18 : decode cX12_needOf 18 = .ok (.aload_n 0, 1) := by decide +kernel
theorem dX12_needOf_19 : decode cX12_needOf 19 = .ok (.getfield 9, 3) := by decide +kernel
theorem dX12_needOf_22 : decode cX12_needOf 22 = .ok (.bipush 17, 2) := by decide +kernel
theorem dX12_needOf_24 : decode cX12_needOf 24 = .ok (.iload_n 1, 1) := by decide +kernel
theorem dX12_needOf_25 : decode cX12_needOf 25 = .ok (.bipush 8, 2) := by decide +kernel
theorem dX12_needOf_27 : decode cX12_needOf 27 = .ok (.irem, 1) := by decide +kernel
theorem dX12_needOf_28 : decode cX12_needOf 28 = .ok (.iadd, 1) := by decide +kernel
theorem dX12_needOf_29 : decode cX12_needOf 29 = .ok (.iaload, 1) := by decide +kernel
theorem dX12_needOf_30 : decode cX12_needOf 30 = .ok (.isub, 1) := by decide +kernel
theorem dX12_needOf_31 : decode cX12_needOf 31 = .ok (.istore 4, 2) := by decide +kernel
theorem dX12_needOf_33 : decode cX12_needOf 33 = .ok (.iload 4, 2) := by decide +kernel
theorem dX12_needOf_35 : decode cX12_needOf 35 = .ok (.ifCond .le 10, 3) := by decide +kernel
theorem dX12_needOf_38 : decode cX12_needOf 38 = .ok (.iload 4, 2) := by decide +kernel
theorem dX12_needOf_40 : decode cX12_needOf 40 = .ok (.iconst 2, 1) := by decide +kernel
theorem dX12_needOf_41 : decode cX12_needOf 41 = .ok (.idiv, 1) := by decide +kernel
theorem dX12_needOf_42 : decode cX12_needOf 42 = .ok (.goto 5, 3) := by decide +kernel
theorem dX12_needOf_45 : decode cX12_needOf 45 = .ok (.iload 4, 2) := by decide +kernel
theorem dX12_needOf_47 : decode cX12_needOf 47 = .ok (.ireturn, 1) := by decide +kernel
theorem dX12_deal_0 : decode cX12_deal 0 = .ok (.iconst 0, 1) := by decide +kernel
theorem dX12_deal_1 : decode cX12_deal 1 = .ok (.istore_n 3, 1) := by decide +kernel
theorem dX12_deal_2 : decode cX12_deal 2 = .ok (.iload_n 3, 1) := by decide +kernel
theorem dX12_deal_3 : decode cX12_deal 3 = .ok (.bipush 16, 2) := by decide +kernel
theorem dX12_deal_5 : decode cX12_deal 5 = .ok (.if_icmp .ge 16, 3) := by decide +kernel
theorem dX12_deal_8 : decode cX12_deal 8 = .ok (.aload_n 0, 1) := by decide +kernel
theorem dX12_deal_9 : decode cX12_deal 9 = .ok (.getfield 34, 3) := by decide +kernel
theorem dX12_deal_12 : decode cX12_deal 12 = .ok (.iload_n 3, 1) := by decide +kernel
theorem dX12_deal_13 : decode cX12_deal 13 = .ok (.iconst 0, 1) := by decide +kernel
theorem dX12_deal_14 : decode cX12_deal 14 = .ok (.iastore, 1) := by decide +kernel
theorem dX12_deal_15 : decode cX12_deal 15 = .ok (.iinc 3 1, 3) := by decide +kernel
theorem dX12_deal_18 : decode cX12_deal 18 = .ok (.goto (-16), 3) := by decide +kernel
theorem dX12_deal_21 : decode cX12_deal 21 = .ok (.iload_n 1, 1) := by decide +kernel
theorem dX12_deal_22 : decode cX12_deal 22 = .ok (.istore_n 3, 1) := by decide +kernel
theorem dX12_deal_23 : decode cX12_deal 23 = .ok (.iconst 1, 1) := by decide +kernel
theorem dX12_deal_24 : decode cX12_deal 24 = .ok (.istore 4, 2) := by decide +kernel
theorem dX12_deal_26 : decode cX12_deal 26 = .ok (.iload 4, 2) := by decide +kernel
theorem dX12_deal_28 : decode cX12_deal 28 = .ok (.ifCond .eq 143, 3) := by decide +kernel
theorem dX12_deal_31 : decode cX12_deal 31 = .ok (.iconst (-1), 1) := by decide +kernel
theorem dX12_deal_32 : decode cX12_deal 32 = .ok (.istore 5, 2) := by decide +kernel
theorem dX12_deal_34 : decode cX12_deal 34 = .ok (.iconst 0, 1) := by decide +kernel
theorem dX12_deal_35 : decode cX12_deal 35 = .ok (.istore 6, 2) := by decide +kernel
theorem dX12_deal_37 : decode cX12_deal 37 = .ok (.iconst 0, 1) := by decide +kernel
theorem dX12_deal_38 : decode cX12_deal 38 = .ok (.istore 7, 2) := by decide +kernel
theorem dX12_deal_40 : decode cX12_deal 40 = .ok (.iload 7, 2) := by decide +kernel
theorem dX12_deal_42 : decode cX12_deal 42 = .ok (.bipush 16, 2) := by decide +kernel
theorem dX12_deal_44 : decode cX12_deal 44 = .ok (.if_icmp .ge 72, 3) := by decide +kernel
theorem dX12_deal_47 : decode cX12_deal 47 = .ok (.aload_n 0, 1) := by decide +kernel
theorem dX12_deal_48 : decode cX12_deal 48 = .ok (.iload 7, 2) := by decide +kernel
theorem dX12_deal_50 : decode cX12_deal 50 = .ok (.iload_n 2, 1) := by decide +kernel
theorem dX12_deal_51 : decode cX12_deal 51 = .ok (.invokevirtual 184, 3) := by decide +kernel
theorem dX12_deal_54 : decode cX12_deal 54 = .ok (.aload_n 0, 1) := by decide +kernel
theorem dX12_deal_55 : decode cX12_deal 55 = .ok (.getfield 34, 3) := by decide +kernel
theorem dX12_deal_58 : decode cX12_deal 58 = .ok (.iload 7, 2) := by decide +kernel
theorem dX12_deal_60 : decode cX12_deal 60 = .ok (.iaload, 1) := by decide +kernel
theorem dX12_deal_61 : decode cX12_deal 61 = .ok (.isub, 1) := by decide +kernel
theorem dX12_deal_62 : decode cX12_deal 62 = .ok (.istore 8, 2) := by decide +kernel
theorem dX12_deal_64 : decode cX12_deal 64 = .ok (.iload 8, 2) := by decide +kernel
theorem dX12_deal_66 : decode cX12_deal 66 = .ok (.iload 6, 2) := by decide +kernel
theorem dX12_deal_68 : decode cX12_deal 68 = .ok (.if_icmp .le 42, 3) := by decide +kernel
theorem dX12_deal_71 : decode cX12_deal 71 = .ok (.aload_n 0, 1) := by decide +kernel
theorem dX12_deal_72 : decode cX12_deal 72 = .ok (.getfield 34, 3) := by decide +kernel
theorem dX12_deal_75 : decode cX12_deal 75 = .ok (.iload 7, 2) := by decide +kernel
theorem dX12_deal_77 : decode cX12_deal 77 = .ok (.iaload, 1) := by decide +kernel
theorem dX12_deal_78 : decode cX12_deal 78 = .ok (.bipush 16, 2) := by decide +kernel
theorem dX12_deal_80 : decode cX12_deal 80 = .ok (.if_icmp .ge 30, 3) := by decide +kernel
theorem dX12_deal_83 : decode cX12_deal 83 = .ok (.iload_n 3, 1) := by decide +kernel
theorem dX12_deal_84 : decode cX12_deal 84 = .ok (.aload_n 0, 1) := by decide +kernel
theorem dX12_deal_85 : decode cX12_deal 85 = .ok (.getfield 34, 3) := by decide +kernel
theorem dX12_deal_88 : decode cX12_deal 88 = .ok (.iload 7, 2) := by decide +kernel
theorem dX12_deal_90 : decode cX12_deal 90 = .ok (.iaload, 1) := by decide +kernel
theorem dX12_deal_91 : decode cX12_deal 91 = .ok (.ifCond .ne 7, 3) := by decide +kernel
theorem dX12_deal_94 : decode cX12_deal 94 = .ok (.iconst 2, 1) := by decide +kernel
theorem dX12_deal_95 : decode cX12_deal 95 = .ok (.goto 4, 3) := by decide +kernel
theorem dX12_deal_98 : decode cX12_deal 98 = .ok (.iconst 1, 1) := by decide +kernel
theorem dX12_deal_99 : decode cX12_deal 99 = .ok (.if_icmp .lt 11, 3) := by decide +kernel
theorem dX12_deal_102 : decode cX12_deal 102 = .ok (.iload 7, 2) := by decide +kernel
theorem dX12_deal_104 : decode cX12_deal 104 = .ok (.istore 5, 2) := by decide +kernel
theorem dX12_deal_106 : decode cX12_deal 106 = .ok (.iload 8, 2) := by decide +kernel
theorem dX12_deal_108 : decode cX12_deal 108 = .ok (.istore 6, 2) := by decide +kernel
theorem dX12_deal_110 : decode cX12_deal 110 = .ok (.iinc 7 1, 3) := by decide +kernel
theorem dX12_deal_113 : decode cX12_deal 113 = .ok (.goto (-73), 3) := by decide +kernel
theorem dX12_deal_116 : decode cX12_deal 116 = .ok (.iload 5, 2) := by decide +kernel
theorem dX12_deal_118 : decode cX12_deal 118 = .ok (.iconst (-1), 1) := by decide +kernel
theorem dX12_deal_119 : decode cX12_deal 119 = .ok (.if_icmp .eq 7, 3) := by decide +kernel
theorem dX12_deal_122 : decode cX12_deal 122 = .ok (.iconst 1, 1) := by decide +kernel
theorem dX12_deal_123 : decode cX12_deal 123 = .ok (.goto 4, 3) := by decide +kernel
theorem dX12_deal_126 : decode cX12_deal 126 = .ok (.iconst 0, 1) := by decide +kernel
theorem dX12_deal_127 : decode cX12_deal 127 = .ok (.istore 4, 2) := by decide +kernel
theorem dX12_deal_129 : decode cX12_deal 129 = .ok (.iload 4, 2) := by decide +kernel
theorem dX12_deal_131 : decode cX12_deal 131 = .ok (.ifCond .eq 37, 3) := by decide +kernel
theorem dX12_deal_134 : decode cX12_deal 134 = .ok (.aload_n 0, 1) := by decide +kernel
theorem dX12_deal_135 : decode cX12_deal 135 = .ok (.getfield 34, 3) := by decide +kernel
theorem dX12_deal_138 : decode cX12_deal 138 = .ok (.iload 5, 2) := by decide +kernel
theorem dX12_deal_140 : decode cX12_deal 140 = .ok (.iaload, 1) := by decide +kernel
theorem dX12_deal_141 : decode cX12_deal 141 = .ok (.ifCond .ne 7, 3) := by decide +kernel
theorem dX12_deal_144 : decode cX12_deal 144 = .ok (.iconst 2, 1) := by decide +kernel
theorem dX12_deal_145 : decode cX12_deal 145 = .ok (.goto 4, 3) := by decide +kernel
theorem dX12_deal_148 : decode cX12_deal 148 = .ok (.iconst 1, 1) := by decide +kernel
theorem dX12_deal_149 : decode cX12_deal 149 = .ok (.istore 7, 2) := by decide +kernel
theorem dX12_deal_151 : decode cX12_deal 151 = .ok (.aload_n 0, 1) := by decide +kernel
theorem dX12_deal_152 : decode cX12_deal 152 = .ok (.getfield 34, 3) := by decide +kernel
theorem dX12_deal_155 : decode cX12_deal 155 = .ok (.iload 5, 2) := by decide +kernel
theorem dX12_deal_157 : decode cX12_deal 157 = .ok (.dup2, 1) := by decide +kernel
theorem dX12_deal_158 : decode cX12_deal 158 = .ok (.iaload, 1) := by decide +kernel
theorem dX12_deal_159 : decode cX12_deal 159 = .ok (.iload 7, 2) := by decide +kernel
theorem dX12_deal_161 : decode cX12_deal 161 = .ok (.iadd, 1) := by decide +kernel
theorem dX12_deal_162 : decode cX12_deal 162 = .ok (.iastore, 1) := by decide +kernel
theorem dX12_deal_163 : decode cX12_deal 163 = .ok (.iload_n 3, 1) := by decide +kernel
theorem dX12_deal_164 : decode cX12_deal 164 = .ok (.iload 7, 2) := by decide +kernel
theorem dX12_deal_166 : decode cX12_deal 166 = .ok (.isub, 1) := by decide +kernel
theorem dX12_deal_167 : decode cX12_deal 167 = .ok (.istore_n 3, 1) := by decide +kernel
theorem dX12_deal_168 : decode cX12_deal 168 = .ok (.goto (-142), 3) := by decide +kernel
theorem dX12_deal_171 : decode cX12_deal 171 = .ok (.return_, 1) := by decide +kernel
theorem dX12_quant_0 : decode cX12_quant 0 = .ok (.lconst 1, 1) := by decide +kernel
theorem dX12_quant_1 : decode cX12_quant 1 = .ok (.iload_n 2, 1) := by decide +kernel
theorem dX12_quant_2 : decode cX12_quant 2 = .ok (.lshl, 1) := by decide +kernel
theorem dX12_quant_3 : decode cX12_quant 3 = .ok (.lconst 1, 1) := by decide +kernel
theorem dX12_quant_4 : decode cX12_quant 4 = .ok (.lsub, 1) := by decide +kernel
theorem dX12_quant_5 : decode cX12_quant 5 = .ok (.lstore_n 3, 1) := by decide +kernel
theorem dX12_quant_6 : decode cX12_quant 6 = .ok (.iload_n 0, 1) := by decide +kernel
theorem dX12_quant_7 : decode cX12_quant 7 = .ok (.i2l, 1) := by decide +kernel
theorem dX12_quant_8 : decode cX12_quant 8 = .ok (.lconst 1, 1) := by decide +kernel
theorem dX12_quant_9 : decode cX12_quant 9 = .ok (.iload_n 1, 1) := by decide +kernel
theorem dX12_quant_10 : decode cX12_quant 10 = .ok (.lshl, 1) := by decide +kernel
theorem dX12_quant_11 : decode cX12_quant 11 = .ok (.ladd, 1) := by decide +kernel
theorem dX12_quant_12 : decode cX12_quant 12 = .ok (.lload_n 3, 1) := by decide +kernel
theorem dX12_quant_13 : decode cX12_quant 13 = .ok (.lmul, 1) := by decide +kernel
theorem dX12_quant_14 : decode cX12_quant 14 = .ok (.lconst 1, 1) := by decide +kernel
theorem dX12_quant_15 : decode cX12_quant 15 = .ok (.iload_n 1, 1) := by decide +kernel
theorem dX12_quant_16 : decode cX12_quant 16 = .ok (.iconst 1, 1) := by decide +kernel
theorem dX12_quant_17 : decode cX12_quant 17 = .ok (.iadd, 1) := by decide +kernel
theorem dX12_quant_18 : decode cX12_quant 18 = .ok (.lshl, 1) := by decide +kernel
theorem dX12_quant_19 : decode cX12_quant 19 = .ok (.invokestatic 187, 3) := by decide +kernel
theorem dX12_quant_22 : decode cX12_quant 22 = .ok (.lconst 0, 1) := by decide +kernel
theorem dX12_quant_23 : decode cX12_quant 23 = .ok (.lload_n 3, 1) := by decide +kernel
theorem dX12_quant_24 : decode cX12_quant 24 = .ok (.lconst 1, 1) := by decide +kernel
theorem dX12_quant_25 : decode cX12_quant 25 = .ok (.lsub, 1) := by decide +kernel
theorem dX12_quant_26 : decode cX12_quant 26 = .ok (.invokestatic 126, 3) := by decide +kernel
theorem dX12_quant_29 : decode cX12_quant 29 = .ok (.ireturn, 1) := by decide +kernel
theorem dX12_unquant_0 : decode cX12_unquant 0 = .ok (.iload_n 2, 1) := by decide +kernel
theorem dX12_unquant_1 : decode cX12_unquant 1 = .ok (.ifCond .ne 5, 3) := by decide +kernel
theorem dX12_unquant_4 : decode cX12_unquant 4 = .ok (.iconst 0, 1) := by decide +kernel
theorem dX12_unquant_5 : decode cX12_unquant 5 = .ok (.ireturn, 1) := by decide +kernel
theorem dX12_unquant_6 : decode cX12_unquant 6 = .ok (.lconst 1, 1) := by decide +kernel
theorem dX12_unquant_7 : decode cX12_unquant 7 = .ok (.iload_n 2, 1) := by decide +kernel
theorem dX12_unquant_8 : decode cX12_unquant 8 = .ok (.lshl, 1) := by decide +kernel
theorem dX12_unquant_9 : decode cX12_unquant 9 = .ok (.lconst 1, 1) := by decide +kernel
theorem dX12_unquant_10 : decode cX12_unquant 10 = .ok (.lsub, 1) := by decide +kernel
theorem dX12_unquant_11 : decode cX12_unquant 11 = .ok (.lstore_n 3, 1) := by decide +kernel
theorem dX12_unquant_12 : decode cX12_unquant 12 = .ok (.ldc2_w 76, 3) := by decide +kernel
theorem dX12_unquant_15 : decode cX12_unquant 15 = .ok (.iload_n 0, 1) := by decide +kernel
theorem dX12_unquant_16 : decode cX12_unquant 16 = .ok (.i2l, 1) := by decide +kernel
theorem dX12_unquant_17 : decode cX12_unquant 17 = .ok (.lmul, 1) := by decide +kernel
theorem dX12_unquant_18 : decode cX12_unquant 18 = .ok (.lconst 1, 1) := by decide +kernel
theorem dX12_unquant_19 : decode cX12_unquant 19 = .ok (.ladd, 1) := by decide +kernel
theorem dX12_unquant_20 : decode cX12_unquant 20 = .ok (.lconst 1, 1) := by decide +kernel
theorem dX12_unquant_21 : decode cX12_unquant 21 = .ok (.iload_n 1, 1) := by decide +kernel
theorem dX12_unquant_22 : decode cX12_unquant 22 = .ok (.lshl, 1) := by decide +kernel
theorem dX12_unquant_23 : decode cX12_unquant 23 = .ok (.lmul, 1) := by decide +kernel
theorem dX12_unquant_24 : decode cX12_unquant 24 = .ok (.lload_n 3, 1) := by decide +kernel
theorem dX12_unquant_25 : decode cX12_unquant 25 = .ok (.invokestatic 187, 3) := by decide +kernel
theorem dX12_unquant_28 : decode cX12_unquant 28 = .ok (.lconst 1, 1) := by decide +kernel
theorem dX12_unquant_29 : decode cX12_unquant 29 = .ok (.iload_n 1, 1) := by decide +kernel
theorem dX12_unquant_30 : decode cX12_unquant 30 = .ok (.lshl, 1) := by decide +kernel
theorem dX12_unquant_31 : decode cX12_unquant 31 = .ok (.lsub, 1) := by decide +kernel
theorem dX12_unquant_32 : decode cX12_unquant 32 = .ok (.l2i, 1) := by decide +kernel
theorem dX12_unquant_33 : decode cX12_unquant 33 = .ok (.ireturn, 1) := by decide +kernel
theorem dX12_putBits_0 : decode cX12_putBits 0 = .ok (.iload_n 2, 1) := by decide +kernel
theorem dX12_putBits_1 : decode cX12_putBits 1 = .ok (.iconst 1, 1) := by decide +kernel
theorem dX12_putBits_2 : decode cX12_putBits 2 = .ok (.isub, 1) := by decide +kernel
theorem dX12_putBits_3 : decode cX12_putBits 3 = .ok (.istore_n 3, 1) := by decide +kernel
theorem dX12_putBits_4 : decode cX12_putBits 4 = .ok (.iload_n 3, 1) := by decide +kernel
theorem dX12_putBits_5 : decode cX12_putBits 5 = .ok (.ifCond .lt 50, 3) := by decide +kernel
theorem dX12_putBits_8 : decode cX12_putBits 8 = .ok (.aload_n 0, 1) := by decide +kernel
theorem dX12_putBits_9 : decode cX12_putBits 9 = .ok (.getfield 37, 3) := by decide +kernel
theorem dX12_putBits_12 : decode cX12_putBits 12 = .ok (.aload_n 0, 1) := by decide +kernel
theorem dX12_putBits_13 : decode cX12_putBits 13 = .ok (.getfield 191, 3) := by decide +kernel
theorem dX12_putBits_16 : decode cX12_putBits 16 = .ok (.bipush 8, 2) := by decide +kernel
theorem dX12_putBits_18 : decode cX12_putBits 18 = .ok (.idiv, 1) := by decide +kernel
theorem dX12_putBits_19 : decode cX12_putBits 19 = .ok (.dup2, 1) := by decide +kernel
theorem dX12_putBits_20 : decode cX12_putBits 20 = .ok (.iaload, 1) := by decide +kernel
theorem dX12_putBits_21 : decode cX12_putBits 21 = .ok (.iload_n 1, 1) := by decide +kernel
theorem dX12_putBits_22 : decode cX12_putBits 22 = .ok (.iload_n 3, 1) := by decide +kernel
theorem dX12_putBits_23 : decode cX12_putBits 23 = .ok (.ishr, 1) := by decide +kernel
theorem dX12_putBits_24 : decode cX12_putBits 24 = .ok (.iconst 1, 1) := by decide +kernel
theorem dX12_putBits_25 : decode cX12_putBits 25 = .ok (.iand, 1) := by decide +kernel
theorem dX12_putBits_26 : decode cX12_putBits 26 = .ok (.bipush 7, 2) := by decide +kernel
theorem dX12_putBits_28 : decode cX12_putBits 28 = .ok (.aload_n 0, 1) := by decide +kernel
theorem dX12_putBits_29 : decode cX12_putBits 29 = .ok (.getfield 191, 3) := by decide +kernel
theorem dX12_putBits_32 : decode cX12_putBits 32 = .ok (.bipush 8, 2) := by decide +kernel
theorem dX12_putBits_34 : decode cX12_putBits 34 = .ok (.irem, 1) := by decide +kernel
theorem dX12_putBits_35 : decode cX12_putBits 35 = .ok (.isub, 1) := by decide +kernel
theorem dX12_putBits_36 : decode cX12_putBits 36 = .ok (.ishl, 1) := by decide +kernel
theorem dX12_putBits_37 : decode cX12_putBits 37 = .ok (.ior, 1) := by decide +kernel
theorem dX12_putBits_38 : decode cX12_putBits 38 = .ok (.iastore, 1) := by decide +kernel
theorem dX12_putBits_39 : decode cX12_putBits 39 = .ok (.aload_n 0, 1) := by decide +kernel
theorem dX12_putBits_40 : decode cX12_putBits 40 = .ok (.dup, 1) := by decide +kernel
theorem dX12_putBits_41 : decode cX12_putBits 41 = .ok (.getfield 191, 3) := by decide +kernel
theorem dX12_putBits_44 : decode cX12_putBits 44 = .ok (.iconst 1, 1) := by decide +kernel
theorem dX12_putBits_45 : decode cX12_putBits 45 = .ok (.iadd, 1) := by decide +kernel
theorem dX12_putBits_46 : decode cX12_putBits 46 = .ok (.putfield 191, 3) := by decide +kernel
theorem dX12_putBits_49 : decode cX12_putBits 49 = .ok (.iinc 3 (-1), 3) := by decide +kernel
theorem dX12_putBits_52 : decode cX12_putBits 52 = .ok (.goto (-48), 3) := by decide +kernel
theorem dX12_putBits_55 : decode cX12_putBits 55 = .ok (.return_, 1) := by decide +kernel
theorem dX12_getBits_0 : decode cX12_getBits 0 = .ok (.iconst 0, 1) := by decide +kernel
theorem dX12_getBits_1 : decode cX12_getBits 1 = .ok (.istore_n 3, 1) := by decide +kernel
theorem dX12_getBits_2 : decode cX12_getBits 2 = .ok (.iconst 0, 1) := by decide +kernel
theorem dX12_getBits_3 : decode cX12_getBits 3 = .ok (.istore 4, 2) := by decide +kernel
theorem dX12_getBits_5 : decode cX12_getBits 5 = .ok (.iload 4, 2) := by decide +kernel
theorem dX12_getBits_7 : decode cX12_getBits 7 = .ok (.iload_n 1, 1) := by decide +kernel
theorem dX12_getBits_8 : decode cX12_getBits 8 = .ok (.if_icmp .ge 61, 3) := by decide +kernel
theorem dX12_getBits_11 : decode cX12_getBits 11 = .ok (.iload_n 3, 1) := by decide +kernel
theorem dX12_getBits_12 : decode cX12_getBits 12 = .ok (.iconst 1, 1) := by decide +kernel
theorem dX12_getBits_13 : decode cX12_getBits 13 = .ok (.ishl, 1) := by decide +kernel
theorem dX12_getBits_14 : decode cX12_getBits 14 = .ok (.aload_n 0, 1) := by decide +kernel
theorem dX12_getBits_15 : decode cX12_getBits 15 = .ok (.getfield 191, 3) := by decide +kernel
theorem dX12_getBits_18 : decode cX12_getBits 18 = .ok (.iload_n 2, 1) := by decide +kernel
theorem dX12_getBits_19 : decode cX12_getBits 19 = .ok (.if_icmp .ge 31, 3) := by decide +kernel
theorem dX12_getBits_22 : decode cX12_getBits 22 = .ok (.aload_n 0, 1) := by decide +kernel
theorem dX12_getBits_23 : decode cX12_getBits 23 = .ok (.getfield 37, 3) := by decide +kernel
theorem dX12_getBits_26 : decode cX12_getBits 26 = .ok (.aload_n 0, 1) := by decide +kernel
theorem dX12_getBits_27 : decode cX12_getBits 27 = .ok (.getfield 191, 3) := by decide +kernel
theorem dX12_getBits_30 : decode cX12_getBits 30 = .ok (.bipush 8, 2) := by decide +kernel
theorem dX12_getBits_32 : decode cX12_getBits 32 = .ok (.idiv, 1) := by decide +kernel
theorem dX12_getBits_33 : decode cX12_getBits 33 = .ok (.iaload, 1) := by decide +kernel
theorem dX12_getBits_34 : decode cX12_getBits 34 = .ok (.bipush 7, 2) := by decide +kernel
theorem dX12_getBits_36 : decode cX12_getBits 36 = .ok (.aload_n 0, 1) := by decide +kernel
theorem dX12_getBits_37 : decode cX12_getBits 37 = .ok (.getfield 191, 3) := by decide +kernel
theorem dX12_getBits_40 : decode cX12_getBits 40 = .ok (.bipush 8, 2) := by decide +kernel
theorem dX12_getBits_42 : decode cX12_getBits 42 = .ok (.irem, 1) := by decide +kernel
theorem dX12_getBits_43 : decode cX12_getBits 43 = .ok (.isub, 1) := by decide +kernel
theorem dX12_getBits_44 : decode cX12_getBits 44 = .ok (.ishr, 1) := by decide +kernel
theorem dX12_getBits_45 : decode cX12_getBits 45 = .ok (.iconst 1, 1) := by decide +kernel
theorem dX12_getBits_46 : decode cX12_getBits 46 = .ok (.iand, 1) := by decide +kernel
theorem dX12_getBits_47 : decode cX12_getBits 47 = .ok (.goto 4, 3) := by decide +kernel
theorem dX12_getBits_50 : decode cX12_getBits 50 = .ok (.iconst 0, 1) := by decide +kernel
theorem dX12_getBits_51 : decode cX12_getBits 51 = .ok (.ior, 1) := by decide +kernel
theorem dX12_getBits_52 : decode cX12_getBits 52 = .ok (.istore_n 3, 1) := by decide +kernel
theorem dX12_getBits_53 : decode cX12_getBits 53 = .ok (.aload_n 0, 1) := by decide +kernel
theorem dX12_getBits_54 : decode cX12_getBits 54 = .ok (.dup, 1) := by decide +kernel
theorem dX12_getBits_55 : decode cX12_getBits 55 = .ok (.getfield 191, 3) := by decide +kernel
theorem dX12_getBits_58 : decode cX12_getBits 58 = .ok (.iconst 1, 1) := by decide +kernel
theorem dX12_getBits_59 : decode cX12_getBits 59 = .ok (.iadd, 1) := by decide +kernel
theorem dX12_getBits_60 : decode cX12_getBits 60 = .ok (.putfield 191, 3) := by decide +kernel
theorem dX12_getBits_63 : decode cX12_getBits 63 = .ok (.iinc 4 1, 3) := by decide +kernel
theorem dX12_getBits_66 : decode cX12_getBits 66 = .ok (.goto (-61), 3) := by decide +kernel
theorem dX12_getBits_69 : decode cX12_getBits 69 = .ok (.iload_n 3, 1) := by decide +kernel
theorem dX12_getBits_70 : decode cX12_getBits 70 = .ok (.ireturn, 1) := by decide +kernel
theorem dX12_check_0 : decode cX12_check 0 = .ok (.bipush 15, 2) := by decide +kernel
theorem dX12_check_2 : decode cX12_check 2 = .ok (.istore_n 2, 1) := by decide +kernel
theorem dX12_check_3 : decode cX12_check 3 = .ok (.iconst 1, 1) := by decide +kernel
theorem dX12_check_4 : decode cX12_check 4 = .ok (.istore_n 3, 1) := by decide +kernel
theorem dX12_check_5 : decode cX12_check 5 = .ok (.iload_n 3, 1) := by decide +kernel
theorem dX12_check_6 : decode cX12_check 6 = .ok (.iload_n 1, 1) := by decide +kernel
theorem dX12_check_7 : decode cX12_check 7 = .ok (.if_icmp .ge 76, 3) := by decide +kernel
theorem dX12_check_10 : decode cX12_check 10 = .ok (.bipush 7, 2) := by decide +kernel
theorem dX12_check_12 : decode cX12_check 12 = .ok (.istore 4, 2) := by decide +kernel
theorem dX12_check_14 : decode cX12_check 14 = .ok (.iload 4, 2) := by decide +kernel
theorem dX12_check_16 : decode cX12_check 16 = .ok (.ifCond .lt 61, 3) := by decide +kernel
theorem dX12_check_19 : decode cX12_check 19 = .ok (.iload_n 3, 1) := by decide +kernel
theorem dX12_check_20 : decode cX12_check 20 = .ok (.iconst 3, 1) := by decide +kernel
theorem dX12_check_21 : decode cX12_check 21 = .ok (.if_icmp .eq 56, 3) := by decide +kernel
theorem dX12_check_24 : decode cX12_check 24 = .ok (.iload_n 2, 1) := by decide +kernel
theorem dX12_check_25 : decode cX12_check 25 = .ok (.bipush 7, 2) := by decide +kernel
theorem dX12_check_27 : decode cX12_check 27 = .ok (.ishr, 1) := by decide +kernel
theorem dX12_check_28 : decode cX12_check 28 = .ok (.iconst 1, 1) := by decide +kernel
theorem dX12_check_29 : decode cX12_check 29 = .ok (.iand, 1) := by decide +kernel
theorem dX12_check_30 : decode cX12_check 30 = .ok (.aload_n 0, 1) := by decide +kernel
theorem dX12_check_31 : decode cX12_check 31 = .ok (.getfield 37, 3) := by decide +kernel
theorem dX12_check_34 : decode cX12_check 34 = .ok (.iload_n 3, 1) := by decide +kernel
theorem dX12_check_35 : decode cX12_check 35 = .ok (.iaload, 1) := by decide +kernel
theorem dX12_check_36 : decode cX12_check 36 = .ok (.iload 4, 2) := by decide +kernel
theorem dX12_check_38 : decode cX12_check 38 = .ok (.ishr, 1) := by decide +kernel
theorem dX12_check_39 : decode cX12_check 39 = .ok (.iconst 1, 1) := by decide +kernel
theorem dX12_check_40 : decode cX12_check 40 = .ok (.iand, 1) := by decide +kernel
theorem dX12_check_41 : decode cX12_check 41 = .ok (.if_icmp .eq 7, 3) := by decide +kernel
theorem dX12_check_44 : decode cX12_check 44 = .ok (.iconst 1, 1) := by decide +kernel
theorem dX12_check_45 : decode cX12_check 45 = .ok (.goto 4, 3) := by decide +kernel
theorem dX12_check_48 : decode cX12_check 48 = .ok (.iconst 0, 1) := by decide +kernel
theorem dX12_check_49 : decode cX12_check 49 = .ok (.istore 5, 2) := by decide +kernel
theorem dX12_check_51 : decode cX12_check 51 = .ok (.iconst 2, 1) := by decide +kernel
theorem dX12_check_52 : decode cX12_check 52 = .ok (.iload_n 2, 1) := by decide +kernel
theorem dX12_check_53 : decode cX12_check 53 = .ok (.imul, 1) := by decide +kernel
theorem dX12_check_54 : decode cX12_check 54 = .ok (.iload 5, 2) := by decide +kernel
theorem dX12_check_56 : decode cX12_check 56 = .ok (.ifCond .eq 8, 3) := by decide +kernel
theorem dX12_check_59 : decode cX12_check 59 = .ok (.bipush 29, 2) := by decide +kernel
theorem dX12_check_61 : decode cX12_check 61 = .ok (.goto 4, 3) := by decide +kernel
theorem dX12_check_64 : decode cX12_check 64 = .ok (.iconst 0, 1) := by decide +kernel
theorem dX12_check_65 : decode cX12_check 65 = .ok (.ixor, 1) := by decide +kernel
theorem dX12_check_66 : decode cX12_check 66 = .ok (.sipush 255, 3) := by decide +kernel
theorem dX12_check_69 : decode cX12_check 69 = .ok (.iand, 1) := by decide +kernel
theorem dX12_check_70 : decode cX12_check 70 = .ok (.istore_n 2, 1) := by decide +kernel
theorem dX12_check_71 : decode cX12_check 71 = .ok (.iinc 4 (-1), 3) := by decide +kernel
theorem dX12_check_74 : decode cX12_check 74 = .ok (.goto (-60), 3) := by decide +kernel
theorem dX12_check_77 : decode cX12_check 77 = .ok (.iinc 3 1, 3) := by decide +kernel
theorem dX12_check_80 : decode cX12_check 80 = .ok (.goto (-75), 3) := by decide +kernel
theorem dX12_check_83 : decode cX12_check 83 = .ok (.iload_n 2, 1) := by decide +kernel
theorem dX12_check_84 : decode cX12_check 84 = .ok (.ireturn, 1) := by decide +kernel
theorem dX12_layCode_0 : decode cX12_layCode 0 = .ok (.iconst 0, 1) := by decide +kernel
theorem dX12_layCode_1 : decode cX12_layCode 1 = .ok (.istore_n 2, 1) := by decide +kernel
theorem dX12_layCode_2 : decode cX12_layCode 2 = .ok (.iload_n 2, 1) := by decide +kernel
theorem dX12_layCode_3 : decode cX12_layCode 3 = .ok (.sipush 160, 3) := by decide +kernel
theorem dX12_layCode_6 : decode cX12_layCode 6 = .ok (.if_icmp .ge 16, 3) := by decide +kernel
theorem dX12_layCode_9 : decode cX12_layCode 9 = .ok (.aload_n 0, 1) := by decide +kernel
theorem dX12_layCode_10 : decode cX12_layCode 10 = .ok (.getfield 37, 3) := by decide +kernel
theorem dX12_layCode_13 : decode cX12_layCode 13 = .ok (.iload_n 2, 1) := by decide +kernel
theorem dX12_layCode_14 : decode cX12_layCode 14 = .ok (.iconst 0, 1) := by decide +kernel
theorem dX12_layCode_15 : decode cX12_layCode 15 = .ok (.iastore, 1) := by decide +kernel
theorem dX12_layCode_16 : decode cX12_layCode 16 = .ok (.iinc 2 1, 3) := by decide +kernel
theorem dX12_layCode_19 : decode cX12_layCode 19 = .ok (.goto (-17), 3) := by decide +kernel
theorem dX12_layCode_22 : decode cX12_layCode 22 = .ok (.aload_n 0, 1) := by decide +kernel
theorem dX12_layCode_23 : decode cX12_layCode 23 = .ok (.getfield 37, 3) := by decide +kernel
theorem dX12_layCode_26 : decode cX12_layCode 26 = .ok (.iconst 0, 1) := by decide +kernel
theorem dX12_layCode_27 : decode cX12_layCode 27 = .ok (.sipush 156, 3) := by decide +kernel
theorem dX12_layCode_30 : decode cX12_layCode 30 = .ok (.iastore, 1) := by decide +kernel
theorem dX12_layCode_31 : decode cX12_layCode 31 = .ok (.aload_n 0, 1) := by decide +kernel
theorem dX12_layCode_32 : decode cX12_layCode 32 = .ok (.getfield 37, 3) := by decide +kernel
theorem dX12_layCode_35 : decode cX12_layCode 35 = .ok (.iconst 1, 1) := by decide +kernel
theorem dX12_layCode_36 : decode cX12_layCode 36 = .ok (.sipush 128, 3) := by decide +kernel
theorem dX12_layCode_39 : decode cX12_layCode 39 = .ok (.aload_n 0, 1) := by decide +kernel
theorem dX12_layCode_40 : decode cX12_layCode 40 = .ok (.getfield 9, 3) := by decide +kernel
theorem dX12_layCode_43 : decode cX12_layCode 43 = .ok (.bipush 8, 2) := by decide +kernel
theorem dX12_layCode_45 : decode cX12_layCode 45 = .ok (.iaload, 1) := by decide +kernel
theorem dX12_layCode_46 : decode cX12_layCode 46 = .ok (.imul, 1) := by decide +kernel
theorem dX12_layCode_47 : decode cX12_layCode 47 = .ok (.bipush 64, 2) := by decide +kernel
theorem dX12_layCode_49 : decode cX12_layCode 49 = .ok (.aload_n 0, 1) := by decide +kernel
theorem dX12_layCode_50 : decode cX12_layCode 50 = .ok (.getfield 9, 3) := by decide +kernel
theorem dX12_layCode_53 : decode cX12_layCode 53 = .ok (.bipush 9, 2) := by decide +kernel
theorem dX12_layCode_55 : decode cX12_layCode 55 = .ok (.iaload, 1) := by decide +kernel
theorem dX12_layCode_56 : decode cX12_layCode 56 = .ok (.imul, 1) := by decide +kernel
theorem dX12_layCode_57 : decode cX12_layCode 57 = .ok (.iadd, 1) := by decide +kernel
theorem dX12_layCode_58 : decode cX12_layCode 58 = .ok (.iload_n 1, 1) := by decide +kernel
theorem dX12_layCode_59 : decode cX12_layCode 59 = .ok (.bipush 64, 2) := by decide +kernel
theorem dX12_layCode_61 : decode cX12_layCode 61 = .ok (.irem, 1) := by decide +kernel
theorem dX12_layCode_62 : decode cX12_layCode 62 = .ok (.iadd, 1) := by decide +kernel
theorem dX12_layCode_63 : decode cX12_layCode 63 = .ok (.iastore, 1) := by decide +kernel
theorem dX12_layCode_64 : decode cX12_layCode 64 = .ok (.aload_n 0, 1) := by decide +kernel
theorem dX12_layCode_65 : decode cX12_layCode 65 = .ok (.getfield 37, 3) := by decide +kernel
theorem dX12_layCode_68 : decode cX12_layCode 68 = .ok (.iconst 2, 1) := by decide +kernel
theorem dX12_layCode_69 : decode cX12_layCode 69 = .ok (.aload_n 0, 1) := by decide +kernel
theorem dX12_layCode_70 : decode cX12_layCode 70 = .ok (.getfield 9, 3) := by decide +kernel
theorem dX12_layCode_73 : decode cX12_layCode 73 = .ok (.bipush 43, 2) := by decide +kernel
theorem dX12_layCode_75 : decode cX12_layCode 75 = .ok (.iaload, 1) := by decide +kernel
theorem dX12_layCode_76 : decode cX12_layCode 76 = .ok (.iastore, 1) := by decide +kernel
theorem dX12_layCode_77 : decode cX12_layCode 77 = .ok (.aload_n 0, 1) := by decide +kernel
theorem dX12_layCode_78 : decode cX12_layCode 78 = .ok (.getfield 37, 3) := by decide +kernel
theorem dX12_layCode_81 : decode cX12_layCode 81 = .ok (.iconst 4, 1) := by decide +kernel
theorem dX12_layCode_82 : decode cX12_layCode 82 = .ok (.aload_n 0, 1) := by decide +kernel
theorem dX12_layCode_83 : decode cX12_layCode 83 = .ok (.getfield 9, 3) := by decide +kernel
theorem dX12_layCode_86 : decode cX12_layCode 86 = .ok (.sipush 653, 3) := by decide +kernel
theorem dX12_layCode_89 : decode cX12_layCode 89 = .ok (.iaload, 1) := by decide +kernel
theorem dX12_layCode_90 : decode cX12_layCode 90 = .ok (.iastore, 1) := by decide +kernel
theorem dX12_layCode_91 : decode cX12_layCode 91 = .ok (.aload_n 0, 1) := by decide +kernel
theorem dX12_layCode_92 : decode cX12_layCode 92 = .ok (.bipush 40, 2) := by decide +kernel
theorem dX12_layCode_94 : decode cX12_layCode 94 = .ok (.putfield 191, 3) := by decide +kernel
theorem dX12_layCode_97 : decode cX12_layCode 97 = .ok (.iconst 0, 1) := by decide +kernel
theorem dX12_layCode_98 : decode cX12_layCode 98 = .ok (.istore_n 2, 1) := by decide +kernel
theorem dX12_layCode_99 : decode cX12_layCode 99 = .ok (.iload_n 2, 1) := by decide +kernel
theorem dX12_layCode_100 : decode cX12_layCode 100 = .ok (.bipush 16, 2) := by decide +kernel
theorem dX12_layCode_102 : decode cX12_layCode 102 = .ok (.if_icmp .ge 36, 3) := by decide +kernel
theorem dX12_layCode_105 : decode cX12_layCode 105 = .ok (.aload_n 0, 1) := by decide +kernel
theorem dX12_layCode_106 : decode cX12_layCode 106 = .ok (.getfield 31, 3) := by decide +kernel
theorem dX12_layCode_109 : decode cX12_layCode 109 = .ok (.iload_n 2, 1) := by decide +kernel
theorem dX12_layCode_110 : decode cX12_layCode 110 = .ok (.aload_n 0, 1) := by decide +kernel
theorem dX12_layCode_111 : decode cX12_layCode 111 = .ok (.getfield 9, 3) := by decide +kernel
theorem dX12_layCode_114 : decode cX12_layCode 114 = .ok (.sipush 621, 3) := by decide +kernel
theorem dX12_layCode_117 : decode cX12_layCode 117 = .ok (.iload_n 2, 1) := by decide +kernel
theorem dX12_layCode_118 : decode cX12_layCode 118 = .ok (.iadd, 1) := by decide +kernel
theorem dX12_layCode_119 : decode cX12_layCode 119 = .ok (.iaload, 1) := by decide +kernel
theorem dX12_layCode_120 : decode cX12_layCode 120 = .ok (.iastore, 1) := by decide +kernel
theorem dX12_layCode_121 : decode cX12_layCode 121 = .ok (.aload_n 0, 1) := by decide +kernel
theorem dX12_layCode_122 : decode cX12_layCode 122 = .ok (.aload_n 0, 1) := by decide +kernel
theorem dX12_layCode_123 : decode cX12_layCode 123 = .ok (.getfield 31, 3) := by decide +kernel
theorem dX12_layCode_126 : decode cX12_layCode 126 = .ok (.iload_n 2, 1) := by decide +kernel
theorem dX12_layCode_127 : decode cX12_layCode 127 = .ok (.iaload, 1) := by decide +kernel
theorem dX12_layCode_128 : decode cX12_layCode 128 = .ok (.iconst 4, 1) := by decide +kernel
theorem dX12_layCode_129 : decode cX12_layCode 129 = .ok (.invokevirtual 194, 3) := by decide +kernel
theorem dX12_layCode_132 : decode cX12_layCode 132 = .ok (.iinc 2 1, 3) := by decide +kernel
theorem dX12_layCode_135 : decode cX12_layCode 135 = .ok (.goto (-36), 3) := by decide +kernel
theorem dX12_layCode_138 : decode cX12_layCode 138 = .ok (.aload_n 0, 1) := by decide +kernel
theorem dX12_layCode_139 : decode cX12_layCode 139 = .ok (.aload_n 0, 1) := by decide +kernel
theorem dX12_layCode_140 : decode cX12_layCode 140 = .ok (.getfield 9, 3) := by decide +kernel
theorem dX12_layCode_143 : decode cX12_layCode 143 = .ok (.bipush 43, 2) := by decide +kernel
theorem dX12_layCode_145 : decode cX12_layCode 145 = .ok (.iaload, 1) := by decide +kernel
theorem dX12_layCode_146 : decode cX12_layCode 146 = .ok (.aload_n 0, 1) := by decide +kernel
theorem dX12_layCode_147 : decode cX12_layCode 147 = .ok (.getfield 9, 3) := by decide +kernel
theorem dX12_layCode_150 : decode cX12_layCode 150 = .ok (.bipush 8, 2) := by decide +kernel
theorem dX12_layCode_152 : decode cX12_layCode 152 = .ok (.iaload, 1) := by decide +kernel
theorem dX12_layCode_153 : decode cX12_layCode 153 = .ok (.invokevirtual 198, 3) := by decide +kernel
theorem dX12_layCode_156 : decode cX12_layCode 156 = .ok (.iconst 0, 1) := by decide +kernel
theorem dX12_layCode_157 : decode cX12_layCode 157 = .ok (.istore_n 2, 1) := by decide +kernel
theorem dX12_layCode_158 : decode cX12_layCode 158 = .ok (.iload_n 2, 1) := by decide +kernel
theorem dX12_layCode_159 : decode cX12_layCode 159 = .ok (.bipush 16, 2) := by decide +kernel
theorem dX12_layCode_161 : decode cX12_layCode 161 = .ok (.if_icmp .ge 25, 3) := by decide +kernel
theorem dX12_layCode_164 : decode cX12_layCode 164 = .ok (.aload_n 0, 1) := by decide +kernel
theorem dX12_layCode_165 : decode cX12_layCode 165 = .ok (.getfield 9, 3) := by decide +kernel
theorem dX12_layCode_168 : decode cX12_layCode 168 = .ok (.sipush 637, 3) := by decide +kernel
theorem dX12_layCode_171 : decode cX12_layCode 171 = .ok (.iload_n 2, 1) := by decide +kernel
theorem dX12_layCode_172 : decode cX12_layCode 172 = .ok (.iadd, 1) := by decide +kernel
theorem dX12_layCode_173 : decode cX12_layCode 173 = .ok (.aload_n 0, 1) := by decide +kernel
theorem dX12_layCode_174 : decode cX12_layCode 174 = .ok (.getfield 34, 3) := by decide +kernel
theorem dX12_layCode_177 : decode cX12_layCode 177 = .ok (.iload_n 2, 1) := by decide +kernel
theorem dX12_layCode_178 : decode cX12_layCode 178 = .ok (.iaload, 1) := by decide +kernel
theorem dX12_layCode_179 : decode cX12_layCode 179 = .ok (.iastore, 1) := by decide +kernel
theorem dX12_layCode_180 : decode cX12_layCode 180 = .ok (.iinc 2 1, 3) := by decide +kernel
theorem dX12_layCode_183 : decode cX12_layCode 183 = .ok (.goto (-25), 3) := by decide +kernel
theorem dX12_layCode_186 : decode cX12_layCode 186 = .ok (.iconst 0, 1) := by decide +kernel
theorem dX12_layCode_187 : decode cX12_layCode 187 = .ok (.istore_n 2, 1) := by decide +kernel
theorem dX12_layCode_188 : decode cX12_layCode 188 = .ok (.iload_n 2, 1) := by decide +kernel
theorem dX12_layCode_189 : decode cX12_layCode 189 = .ok (.iconst 4, 1) := by decide +kernel
theorem dX12_layCode_190 : decode cX12_layCode 190 = .ok (.if_icmp .ge 71, 3) := by decide +kernel
theorem dX12_layCode_193 : decode cX12_layCode 193 = .ok (.iconst 0, 1) := by decide +kernel
theorem dX12_layCode_194 : decode cX12_layCode 194 = .ok (.istore_n 3, 1) := by decide +kernel
theorem dX12_layCode_195 : decode cX12_layCode 195 = .ok (.iload_n 3, 1) := by decide +kernel
theorem dX12_layCode_196 : decode cX12_layCode 196 = .ok (.bipush 16, 2) := by decide +kernel
theorem dX12_layCode_198 : decode cX12_layCode 198 = .ok (.if_icmp .ge 57, 3) := by decide +kernel
theorem dX12_layCode_201 : decode cX12_layCode 201 = .ok (.aload_n 0, 1) := by decide +kernel
theorem dX12_layCode_202 : decode cX12_layCode 202 = .ok (.getfield 34, 3) := by decide +kernel
theorem dX12_layCode_205 : decode cX12_layCode 205 = .ok (.iload_n 3, 1) := by decide +kernel
theorem dX12_layCode_206 : decode cX12_layCode 206 = .ok (.iaload, 1) := by decide +kernel
theorem dX12_layCode_207 : decode cX12_layCode 207 = .ok (.ifCond .le 42, 3) := by decide +kernel
theorem dX12_layCode_210 : decode cX12_layCode 210 = .ok (.aload_n 0, 1) := by decide +kernel
theorem dX12_layCode_211 : decode cX12_layCode 211 = .ok (.aload_n 0, 1) := by decide +kernel
theorem dX12_layCode_212 : decode cX12_layCode 212 = .ok (.getfield 9, 3) := by decide +kernel
theorem dX12_layCode_215 : decode cX12_layCode 215 = .ok (.sipush 557, 3) := by decide +kernel
theorem dX12_layCode_218 : decode cX12_layCode 218 = .ok (.iconst 4, 1) := by decide +kernel
theorem dX12_layCode_219 : decode cX12_layCode 219 = .ok (.iload_n 3, 1) := by decide +kernel
theorem dX12_layCode_220 : decode cX12_layCode 220 = .ok (.imul, 1) := by decide +kernel
theorem dX12_layCode_221 : decode cX12_layCode 221 = .ok (.iadd, 1) := by decide +kernel
theorem dX12_layCode_222 : decode cX12_layCode 222 = .ok (.iload_n 2, 1) := by decide +kernel
theorem dX12_layCode_223 : decode cX12_layCode 223 = .ok (.iadd, 1) := by decide +kernel
theorem dX12_layCode_224 : decode cX12_layCode 224 = .ok (.iaload, 1) := by decide +kernel
theorem dX12_layCode_225 : decode cX12_layCode 225 = .ok (.aload_n 0, 1) := by decide +kernel
theorem dX12_layCode_226 : decode cX12_layCode 226 = .ok (.getfield 31, 3) := by decide +kernel
theorem dX12_layCode_229 : decode cX12_layCode 229 = .ok (.iload_n 3, 1) := by decide +kernel
theorem dX12_layCode_230 : decode cX12_layCode 230 = .ok (.iaload, 1) := by decide +kernel
theorem dX12_layCode_231 : decode cX12_layCode 231 = .ok (.aload_n 0, 1) := by decide +kernel
theorem dX12_layCode_232 : decode cX12_layCode 232 = .ok (.getfield 34, 3) := by decide +kernel
theorem dX12_layCode_235 : decode cX12_layCode 235 = .ok (.iload_n 3, 1) := by decide +kernel
theorem dX12_layCode_236 : decode cX12_layCode 236 = .ok (.iaload, 1) := by decide +kernel
theorem dX12_layCode_237 : decode cX12_layCode 237 = .ok (.invokestatic 201, 3) := by decide +kernel
theorem dX12_layCode_240 : decode cX12_layCode 240 = .ok (.aload_n 0, 1) := by decide +kernel
theorem dX12_layCode_241 : decode cX12_layCode 241 = .ok (.getfield 34, 3) := by decide +kernel
theorem dX12_layCode_244 : decode cX12_layCode 244 = .ok (.iload_n 3, 1) := by decide +kernel
theorem dX12_layCode_245 : decode cX12_layCode 245 = .ok (.iaload, 1) := by decide +kernel
theorem dX12_layCode_246 : decode cX12_layCode 246 = .ok (.invokevirtual 194, 3) := by decide +kernel
theorem dX12_layCode_249 : decode cX12_layCode 249 = .ok (.iinc 3 1, 3) := by decide +kernel
theorem dX12_layCode_252 : decode cX12_layCode 252 = .ok (.goto (-57), 3) := by decide +kernel
theorem dX12_layCode_255 : decode cX12_layCode 255 = .ok (.iinc 2 1, 3) := by decide +kernel
theorem dX12_layCode_258 : decode cX12_layCode 258 = .ok (.goto (-70), 3) := by decide +kernel
theorem dX12_layCode_261 : decode cX12_layCode 261 = .ok (.aload_n 0, 1) := by decide +kernel
theorem dX12_layCode_262 : decode cX12_layCode 262 = .ok (.getfield 191, 3) := by decide +kernel
theorem dX12_layCode_265 : decode cX12_layCode 265 = .ok (.bipush 7, 2) := by decide +kernel
theorem dX12_layCode_267 : decode cX12_layCode 267 = .ok (.iadd, 1) := by decide +kernel
theorem dX12_layCode_268 : decode cX12_layCode 268 = .ok (.bipush 8, 2) := by decide +kernel
theorem dX12_layCode_270 : decode cX12_layCode 270 = .ok (.idiv, 1) := by decide +kernel
theorem dX12_layCode_271 : decode cX12_layCode 271 = .ok (.istore_n 2, 1) := by decide +kernel
theorem dX12_layCode_272 : decode cX12_layCode 272 = .ok (.aload_n 0, 1) := by decide +kernel
theorem dX12_layCode_273 : decode cX12_layCode 273 = .ok (.getfield 37, 3) := by decide +kernel
theorem dX12_layCode_276 : decode cX12_layCode 276 = .ok (.iconst 3, 1) := by decide +kernel
theorem dX12_layCode_277 : decode cX12_layCode 277 = .ok (.aload_n 0, 1) := by decide +kernel
theorem dX12_layCode_278 : decode cX12_layCode 278 = .ok (.iload_n 2, 1) := by decide +kernel
theorem dX12_layCode_279 : decode cX12_layCode 279 = .ok (.invokevirtual 204, 3) := by decide +kernel
theorem dX12_layCode_282 : decode cX12_layCode 282 = .ok (.iastore, 1) := by decide +kernel
theorem dX12_layCode_283 : decode cX12_layCode 283 = .ok (.aload_n 0, 1) := by decide +kernel
theorem dX12_layCode_284 : decode cX12_layCode 284 = .ok (.getfield 9, 3) := by decide +kernel
theorem dX12_layCode_287 : decode cX12_layCode 287 = .ok (.sipush 654, 3) := by decide +kernel
theorem dX12_layCode_290 : decode cX12_layCode 290 = .ok (.iload_n 2, 1) := by decide +kernel
theorem dX12_layCode_291 : decode cX12_layCode 291 = .ok (.iastore, 1) := by decide +kernel
theorem dX12_layCode_292 : decode cX12_layCode 292 = .ok (.iconst 0, 1) := by decide +kernel
theorem dX12_layCode_293 : decode cX12_layCode 293 = .ok (.istore_n 3, 1) := by decide +kernel
theorem dX12_layCode_294 : decode cX12_layCode 294 = .ok (.iload_n 3, 1) := by decide +kernel
theorem dX12_layCode_295 : decode cX12_layCode 295 = .ok (.bipush 80, 2) := by decide +kernel
theorem dX12_layCode_297 : decode cX12_layCode 297 = .ok (.if_icmp .ge 34, 3) := by decide +kernel
theorem dX12_layCode_300 : decode cX12_layCode 300 = .ok (.aload_n 0, 1) := by decide +kernel
theorem dX12_layCode_301 : decode cX12_layCode 301 = .ok (.getfield 9, 3) := by decide +kernel
theorem dX12_layCode_304 : decode cX12_layCode 304 = .ok (.sipush 655, 3) := by decide +kernel
theorem dX12_layCode_307 : decode cX12_layCode 307 = .ok (.iload_n 3, 1) := by decide +kernel
theorem dX12_layCode_308 : decode cX12_layCode 308 = .ok (.iadd, 1) := by decide +kernel
theorem dX12_layCode_309 : decode cX12_layCode 309 = .ok (.iload_n 3, 1) := by decide +kernel
theorem dX12_layCode_310 : decode cX12_layCode 310 = .ok (.iload_n 2, 1) := by decide +kernel
theorem dX12_layCode_311 : decode cX12_layCode 311 = .ok (.if_icmp .ge 12, 3) := by decide +kernel
theorem dX12_layCode_314 : decode cX12_layCode 314 = .ok (.aload_n 0, 1) := by decide +kernel
theorem dX12_layCode_315 : decode cX12_layCode 315 = .ok (.getfield 37, 3) := by decide +kernel
theorem dX12_layCode_318 : decode cX12_layCode 318 = .ok (.iload_n 3, 1) := by decide +kernel
theorem dX12_layCode_319 : decode cX12_layCode 319 = .ok (.iaload, 1) := by decide +kernel
theorem dX12_layCode_320 : decode cX12_layCode 320 = .ok (.goto 4, 3) := by decide +kernel
theorem dX12_layCode_323 : decode cX12_layCode 323 = .ok (.iconst 0, 1) := by decide +kernel
theorem dX12_layCode_324 : decode cX12_layCode 324 = .ok (.iastore, 1) := by decide +kernel
theorem dX12_layCode_325 : decode cX12_layCode 325 = .ok (.iinc 3 1, 3) := by decide +kernel
theorem dX12_layCode_328 : decode cX12_layCode 328 = .ok (.goto (-34), 3) := by decide +kernel
theorem dX12_layCode_331 : decode cX12_layCode 331 = .ok (.return_, 1) := by decide +kernel
theorem dX12_lineAt_0 : decode cX12_lineAt 0 = .ok (.sipush 735, 3) := by decide +kernel
theorem dX12_lineAt_3 : decode cX12_lineAt 3 = .ok (.sipush 170, 3) := by decide +kernel
theorem dX12_lineAt_6 : decode cX12_lineAt 6 = .ok (.iload_n 0, 1) := by decide +kernel
theorem dX12_lineAt_7 : decode cX12_lineAt 7 = .ok (.imul, 1) := by decide +kernel
theorem dX12_lineAt_8 : decode cX12_lineAt 8 = .ok (.iadd, 1) := by decide +kernel
theorem dX12_lineAt_9 : decode cX12_lineAt 9 = .ok (.ireturn, 1) := by decide +kernel
theorem dX12_packetAt_0 : decode cX12_packetAt 0 = .ok (.sipush 3385, 3) := by decide +kernel
theorem dX12_packetAt_3 : decode cX12_packetAt 3 = .ok (.iconst 4, 1) := by decide +kernel
theorem dX12_packetAt_4 : decode cX12_packetAt 4 = .ok (.iload_n 0, 1) := by decide +kernel
theorem dX12_packetAt_5 : decode cX12_packetAt 5 = .ok (.imul, 1) := by decide +kernel
theorem dX12_packetAt_6 : decode cX12_packetAt 6 = .ok (.iadd, 1) := by decide +kernel
theorem dX12_packetAt_7 : decode cX12_packetAt 7 = .ok (.ireturn, 1) := by decide +kernel
theorem dX12_codeFrame_0 : decode cX12_codeFrame 0 = .ok (.aload_n 0, 1) := by decide +kernel
theorem dX12_codeFrame_1 : decode cX12_codeFrame 1 = .ok (.iload_n 1, 1) := by decide +kernel
theorem dX12_codeFrame_2 : decode cX12_codeFrame 2 = .ok (.invokevirtual 207, 3) := by decide +kernel
theorem dX12_codeFrame_5 : decode cX12_codeFrame 5 = .ok (.aload_n 0, 1) := by decide +kernel
theorem dX12_codeFrame_6 : decode cX12_codeFrame 6 = .ok (.invokevirtual 211, 3) := by decide +kernel
theorem dX12_codeFrame_9 : decode cX12_codeFrame 9 = .ok (.aload_n 0, 1) := by decide +kernel
theorem dX12_codeFrame_10 : decode cX12_codeFrame 10 = .ok (.iload_n 1, 1) := by decide +kernel
theorem dX12_codeFrame_11 : decode cX12_codeFrame 11 = .ok (.invokevirtual 214, 3) := by decide +kernel
theorem dX12_codeFrame_14 : decode cX12_codeFrame 14 = .ok (.aload_n 0, 1) := by decide +kernel
theorem dX12_codeFrame_15 : decode cX12_codeFrame 15 = .ok (.getfield 9, 3) := by decide +kernel
theorem dX12_codeFrame_18 : decode cX12_codeFrame 18 = .ok (.bipush 51, 2) := by decide +kernel
theorem dX12_codeFrame_20 : decode cX12_codeFrame 20 = .ok (.iaload, 1) := by decide +kernel
theorem dX12_codeFrame_21 : decode cX12_codeFrame 21 = .ok (.invokestatic 217, 3) := by decide +kernel
theorem dX12_codeFrame_24 : decode cX12_codeFrame 24 = .ok (.istore_n 2, 1) := by decide +kernel
theorem dX12_codeFrame_25 : decode cX12_codeFrame 25 = .ok (.aload_n 0, 1) := by decide +kernel
theorem dX12_codeFrame_26 : decode cX12_codeFrame 26 = .ok (.getfield 9, 3) := by decide +kernel
theorem dX12_codeFrame_29 : decode cX12_codeFrame 29 = .ok (.iload_n 2, 1) := by decide +kernel
theorem dX12_codeFrame_30 : decode cX12_codeFrame 30 = .ok (.iconst 0, 1) := by decide +kernel
theorem dX12_codeFrame_31 : decode cX12_codeFrame 31 = .ok (.iadd, 1) := by decide +kernel
theorem dX12_codeFrame_32 : decode cX12_codeFrame 32 = .ok (.iload_n 1, 1) := by decide +kernel
theorem dX12_codeFrame_33 : decode cX12_codeFrame 33 = .ok (.iastore, 1) := by decide +kernel
theorem dX12_codeFrame_34 : decode cX12_codeFrame 34 = .ok (.aload_n 0, 1) := by decide +kernel
theorem dX12_codeFrame_35 : decode cX12_codeFrame 35 = .ok (.getfield 9, 3) := by decide +kernel
theorem dX12_codeFrame_38 : decode cX12_codeFrame 38 = .ok (.iload_n 2, 1) := by decide +kernel
theorem dX12_codeFrame_39 : decode cX12_codeFrame 39 = .ok (.iconst 1, 1) := by decide +kernel
theorem dX12_codeFrame_40 : decode cX12_codeFrame 40 = .ok (.iadd, 1) := by decide +kernel
theorem dX12_codeFrame_41 : decode cX12_codeFrame 41 = .ok (.aload_n 0, 1) := by decide +kernel
theorem dX12_codeFrame_42 : decode cX12_codeFrame 42 = .ok (.getfield 9, 3) := by decide +kernel
theorem dX12_codeFrame_45 : decode cX12_codeFrame 45 = .ok (.sipush 654, 3) := by decide +kernel
theorem dX12_codeFrame_48 : decode cX12_codeFrame 48 = .ok (.iaload, 1) := by decide +kernel
theorem dX12_codeFrame_49 : decode cX12_codeFrame 49 = .ok (.iastore, 1) := by decide +kernel
theorem dX12_codeFrame_50 : decode cX12_codeFrame 50 = .ok (.aload_n 0, 1) := by decide +kernel
theorem dX12_codeFrame_51 : decode cX12_codeFrame 51 = .ok (.getfield 9, 3) := by decide +kernel
theorem dX12_codeFrame_54 : decode cX12_codeFrame 54 = .ok (.iload_n 2, 1) := by decide +kernel
theorem dX12_codeFrame_55 : decode cX12_codeFrame 55 = .ok (.iconst 2, 1) := by decide +kernel
theorem dX12_codeFrame_56 : decode cX12_codeFrame 56 = .ok (.iadd, 1) := by decide +kernel
theorem dX12_codeFrame_57 : decode cX12_codeFrame 57 = .ok (.aload_n 0, 1) := by decide +kernel
theorem dX12_codeFrame_58 : decode cX12_codeFrame 58 = .ok (.getfield 9, 3) := by decide +kernel
theorem dX12_codeFrame_61 : decode cX12_codeFrame 61 = .ok (.bipush 14, 2) := by decide +kernel
theorem dX12_codeFrame_63 : decode cX12_codeFrame 63 = .ok (.iaload, 1) := by decide +kernel
theorem dX12_codeFrame_64 : decode cX12_codeFrame 64 = .ok (.iastore, 1) := by decide +kernel
theorem dX12_codeFrame_65 : decode cX12_codeFrame 65 = .ok (.aload_n 0, 1) := by decide +kernel
theorem dX12_codeFrame_66 : decode cX12_codeFrame 66 = .ok (.getfield 9, 3) := by decide +kernel
theorem dX12_codeFrame_69 : decode cX12_codeFrame 69 = .ok (.iload_n 2, 1) := by decide +kernel
theorem dX12_codeFrame_70 : decode cX12_codeFrame 70 = .ok (.iconst 3, 1) := by decide +kernel
theorem dX12_codeFrame_71 : decode cX12_codeFrame 71 = .ok (.iadd, 1) := by decide +kernel
theorem dX12_codeFrame_72 : decode cX12_codeFrame 72 = .ok (.iconst 0, 1) := by decide +kernel
theorem dX12_codeFrame_73 : decode cX12_codeFrame 73 = .ok (.iastore, 1) := by decide +kernel
theorem dX12_codeFrame_74 : decode cX12_codeFrame 74 = .ok (.iconst 0, 1) := by decide +kernel
theorem dX12_codeFrame_75 : decode cX12_codeFrame 75 = .ok (.istore_n 3, 1) := by decide +kernel
theorem dX12_codeFrame_76 : decode cX12_codeFrame 76 = .ok (.iload_n 3, 1) := by decide +kernel
theorem dX12_codeFrame_77 : decode cX12_codeFrame 77 = .ok (.bipush 80, 2) := by decide +kernel
theorem dX12_codeFrame_79 : decode cX12_codeFrame 79 = .ok (.if_icmp .ge 50, 3) := by decide +kernel
theorem dX12_codeFrame_82 : decode cX12_codeFrame 82 = .ok (.aload_n 0, 1) := by decide +kernel
theorem dX12_codeFrame_83 : decode cX12_codeFrame 83 = .ok (.getfield 9, 3) := by decide +kernel
theorem dX12_codeFrame_86 : decode cX12_codeFrame 86 = .ok (.iload_n 2, 1) := by decide +kernel
theorem dX12_codeFrame_87 : decode cX12_codeFrame 87 = .ok (.iconst 4, 1) := by decide +kernel
theorem dX12_codeFrame_88 : decode cX12_codeFrame 88 = .ok (.iadd, 1) := by decide +kernel
theorem dX12_codeFrame_89 : decode cX12_codeFrame 89 = .ok (.iload_n 3, 1) := by decide +kernel
theorem dX12_codeFrame_90 : decode cX12_codeFrame 90 = .ok (.iadd, 1) := by decide +kernel
theorem dX12_codeFrame_91 : decode cX12_codeFrame 91 = .ok (.aload_n 0, 1) := by decide +kernel
theorem dX12_codeFrame_92 : decode cX12_codeFrame 92 = .ok (.getfield 9, 3) := by decide +kernel
theorem dX12_codeFrame_95 : decode cX12_codeFrame 95 = .ok (.sipush 655, 3) := by decide +kernel
theorem dX12_codeFrame_98 : decode cX12_codeFrame 98 = .ok (.iload_n 3, 1) := by decide +kernel
theorem dX12_codeFrame_99 : decode cX12_codeFrame 99 = .ok (.iadd, 1) := by decide +kernel
theorem dX12_codeFrame_100 : decode cX12_codeFrame 100 = .ok (.iaload, 1) := by decide +kernel
theorem dX12_codeFrame_101 : decode cX12_codeFrame 101 = .ok (.iastore, 1) := by decide +kernel
theorem dX12_codeFrame_102 : decode cX12_codeFrame 102 = .ok (.aload_n 0, 1) := by decide +kernel
theorem dX12_codeFrame_103 : decode cX12_codeFrame 103 = .ok (.getfield 9, 3) := by decide +kernel
theorem dX12_codeFrame_106 : decode cX12_codeFrame 106 = .ok (.iload_n 2, 1) := by decide +kernel
theorem dX12_codeFrame_107 : decode cX12_codeFrame 107 = .ok (.bipush 84, 2) := by decide +kernel
theorem dX12_codeFrame_109 : decode cX12_codeFrame 109 = .ok (.iadd, 1) := by decide +kernel
theorem dX12_codeFrame_110 : decode cX12_codeFrame 110 = .ok (.iload_n 3, 1) := by decide +kernel
theorem dX12_codeFrame_111 : decode cX12_codeFrame 111 = .ok (.iadd, 1) := by decide +kernel
theorem dX12_codeFrame_112 : decode cX12_codeFrame 112 = .ok (.aload_n 0, 1) := by decide +kernel
theorem dX12_codeFrame_113 : decode cX12_codeFrame 113 = .ok (.getfield 9, 3) := by decide +kernel
theorem dX12_codeFrame_116 : decode cX12_codeFrame 116 = .ok (.sipush 655, 3) := by decide +kernel
theorem dX12_codeFrame_119 : decode cX12_codeFrame 119 = .ok (.iload_n 3, 1) := by decide +kernel
theorem dX12_codeFrame_120 : decode cX12_codeFrame 120 = .ok (.iadd, 1) := by decide +kernel
theorem dX12_codeFrame_121 : decode cX12_codeFrame 121 = .ok (.iaload, 1) := by decide +kernel
theorem dX12_codeFrame_122 : decode cX12_codeFrame 122 = .ok (.iastore, 1) := by decide +kernel
theorem dX12_codeFrame_123 : decode cX12_codeFrame 123 = .ok (.iinc 3 1, 3) := by decide +kernel
theorem dX12_codeFrame_126 : decode cX12_codeFrame 126 = .ok (.goto (-50), 3) := by decide +kernel
theorem dX12_codeFrame_129 : decode cX12_codeFrame 129 = .ok (.aload_n 0, 1) := by decide +kernel
theorem dX12_codeFrame_130 : decode cX12_codeFrame 130 = .ok (.getfield 9, 3) := by decide +kernel
theorem dX12_codeFrame_133 : decode cX12_codeFrame 133 = .ok (.bipush 51, 2) := by decide +kernel
theorem dX12_codeFrame_135 : decode cX12_codeFrame 135 = .ok (.dup2, 1) := by decide +kernel
theorem dX12_codeFrame_136 : decode cX12_codeFrame 136 = .ok (.iaload, 1) := by decide +kernel
theorem dX12_codeFrame_137 : decode cX12_codeFrame 137 = .ok (.iconst 1, 1) := by decide +kernel
theorem dX12_codeFrame_138 : decode cX12_codeFrame 138 = .ok (.iadd, 1) := by decide +kernel
theorem dX12_codeFrame_139 : decode cX12_codeFrame 139 = .ok (.iastore, 1) := by decide +kernel
theorem dX12_codeFrame_140 : decode cX12_codeFrame 140 = .ok (.aload_n 0, 1) := by decide +kernel
theorem dX12_codeFrame_141 : decode cX12_codeFrame 141 = .ok (.getfield 9, 3) := by decide +kernel
theorem dX12_codeFrame_144 : decode cX12_codeFrame 144 = .ok (.iload_n 1, 1) := by decide +kernel
theorem dX12_codeFrame_145 : decode cX12_codeFrame 145 = .ok (.invokestatic 220, 3) := by decide +kernel
theorem dX12_codeFrame_148 : decode cX12_codeFrame 148 = .ok (.iconst 0, 1) := by decide +kernel
theorem dX12_codeFrame_149 : decode cX12_codeFrame 149 = .ok (.iadd, 1) := by decide +kernel
theorem dX12_codeFrame_150 : decode cX12_codeFrame 150 = .ok (.iconst 1, 1) := by decide +kernel
theorem dX12_codeFrame_151 : decode cX12_codeFrame 151 = .ok (.iastore, 1) := by decide +kernel
theorem dX12_codeFrame_152 : decode cX12_codeFrame 152 = .ok (.aload_n 0, 1) := by decide +kernel
theorem dX12_codeFrame_153 : decode cX12_codeFrame 153 = .ok (.getfield 9, 3) := by decide +kernel
theorem dX12_codeFrame_156 : decode cX12_codeFrame 156 = .ok (.iload_n 1, 1) := by decide +kernel
theorem dX12_codeFrame_157 : decode cX12_codeFrame 157 = .ok (.invokestatic 220, 3) := by decide +kernel
theorem dX12_codeFrame_160 : decode cX12_codeFrame 160 = .ok (.iconst 3, 1) := by decide +kernel
theorem dX12_codeFrame_161 : decode cX12_codeFrame 161 = .ok (.iadd, 1) := by decide +kernel
theorem dX12_codeFrame_162 : decode cX12_codeFrame 162 = .ok (.iconst (-1), 1) := by decide +kernel
theorem dX12_codeFrame_163 : decode cX12_codeFrame 163 = .ok (.iastore, 1) := by decide +kernel
theorem dX12_codeFrame_164 : decode cX12_codeFrame 164 = .ok (.aload_n 0, 1) := by decide +kernel
theorem dX12_codeFrame_165 : decode cX12_codeFrame 165 = .ok (.getfield 9, 3) := by decide +kernel
theorem dX12_codeFrame_168 : decode cX12_codeFrame 168 = .ok (.bipush 26, 2) := by decide +kernel
theorem dX12_codeFrame_170 : decode cX12_codeFrame 170 = .ok (.dup2, 1) := by decide +kernel
theorem dX12_codeFrame_171 : decode cX12_codeFrame 171 = .ok (.iaload, 1) := by decide +kernel
theorem dX12_codeFrame_172 : decode cX12_codeFrame 172 = .ok (.iconst 1, 1) := by decide +kernel
theorem dX12_codeFrame_173 : decode cX12_codeFrame 173 = .ok (.iadd, 1) := by decide +kernel
theorem dX12_codeFrame_174 : decode cX12_codeFrame 174 = .ok (.iastore, 1) := by decide +kernel
theorem dX12_codeFrame_175 : decode cX12_codeFrame 175 = .ok (.aload_n 0, 1) := by decide +kernel
theorem dX12_codeFrame_176 : decode cX12_codeFrame 176 = .ok (.getfield 9, 3) := by decide +kernel
theorem dX12_codeFrame_179 : decode cX12_codeFrame 179 = .ok (.bipush 42, 2) := by decide +kernel
theorem dX12_codeFrame_181 : decode cX12_codeFrame 181 = .ok (.dup2, 1) := by decide +kernel
theorem dX12_codeFrame_182 : decode cX12_codeFrame 182 = .ok (.iaload, 1) := by decide +kernel
theorem dX12_codeFrame_183 : decode cX12_codeFrame 183 = .ok (.aload_n 0, 1) := by decide +kernel
theorem dX12_codeFrame_184 : decode cX12_codeFrame 184 = .ok (.getfield 9, 3) := by decide +kernel
theorem dX12_codeFrame_187 : decode cX12_codeFrame 187 = .ok (.sipush 654, 3) := by decide +kernel
theorem dX12_codeFrame_190 : decode cX12_codeFrame 190 = .ok (.iaload, 1) := by decide +kernel
theorem dX12_codeFrame_191 : decode cX12_codeFrame 191 = .ok (.iadd, 1) := by decide +kernel
theorem dX12_codeFrame_192 : decode cX12_codeFrame 192 = .ok (.iastore, 1) := by decide +kernel
theorem dX12_codeFrame_193 : decode cX12_codeFrame 193 = .ok (.iload_n 1, 1) := by decide +kernel
theorem dX12_codeFrame_194 : decode cX12_codeFrame 194 = .ok (.bipush 8, 2) := by decide +kernel
theorem dX12_codeFrame_196 : decode cX12_codeFrame 196 = .ok (.irem, 1) := by decide +kernel
theorem dX12_codeFrame_197 : decode cX12_codeFrame 197 = .ok (.bipush 7, 2) := by decide +kernel
theorem dX12_codeFrame_199 : decode cX12_codeFrame 199 = .ok (.if_icmp .ne 7, 3) := by decide +kernel
theorem dX12_codeFrame_202 : decode cX12_codeFrame 202 = .ok (.aload_n 0, 1) := by decide +kernel
theorem dX12_codeFrame_203 : decode cX12_codeFrame 203 = .ok (.invokevirtual 223, 3) := by decide +kernel
theorem dX12_codeFrame_206 : decode cX12_codeFrame 206 = .ok (.return_, 1) := by decide +kernel
theorem dX12_steers_0 : decode cX12_steers 0 = .ok (.aload_n 0, 1) := by decide +kernel
theorem dX12_steers_1 : decode cX12_steers 1 = .ok (.getfield 9, 3) := by decide +kernel
theorem dX12_steers_4 : decode cX12_steers 4 = .ok (.bipush 15, 2) := by decide +kernel
theorem dX12_steers_6 : decode cX12_steers 6 = .ok (.iaload, 1) := by decide +kernel
theorem dX12_steers_7 : decode cX12_steers 7 = .ok (.iconst 1, 1) := by decide +kernel
theorem dX12_steers_8 : decode cX12_steers 8 = .ok (.if_icmp .ne 66, 3) := by decide +kernel
theorem dX12_steers_11 : decode cX12_steers 11 = .ok (.aload_n 0, 1) := by decide +kernel
theorem dX12_steers_12 : decode cX12_steers 12 = .ok (.getfield 9, 3) := by decide +kernel
theorem dX12_steers_15 : decode cX12_steers 15 = .ok (.bipush 43, 2) := by decide +kernel
theorem dX12_steers_17 : decode cX12_steers 17 = .ok (.iaload, 1) := by decide +kernel
theorem dX12_steers_18 : decode cX12_steers 18 = .ok (.istore_n 1, 1) := by decide +kernel
theorem dX12_steers_19 : decode cX12_steers 19 = .ok (.aload_n 0, 1) := by decide +kernel
theorem dX12_steers_20 : decode cX12_steers 20 = .ok (.getfield 9, 3) := by decide +kernel
theorem dX12_steers_23 : decode cX12_steers 23 = .ok (.bipush 43, 2) := by decide +kernel
theorem dX12_steers_25 : decode cX12_steers 25 = .ok (.aload_n 0, 1) := by decide +kernel
theorem dX12_steers_26 : decode cX12_steers 26 = .ok (.getfield 9, 3) := by decide +kernel
theorem dX12_steers_29 : decode cX12_steers 29 = .ok (.bipush 50, 2) := by decide +kernel
theorem dX12_steers_31 : decode cX12_steers 31 = .ok (.iaload, 1) := by decide +kernel
theorem dX12_steers_32 : decode cX12_steers 32 = .ok (.ifCond .le 21, 3) := by decide +kernel
theorem dX12_steers_35 : decode cX12_steers 35 = .ok (.iconst 3, 1) := by decide +kernel
theorem dX12_steers_36 : decode cX12_steers 36 = .ok (.iload_n 1, 1) := by decide +kernel
theorem dX12_steers_37 : decode cX12_steers 37 = .ok (.imul, 1) := by decide +kernel
theorem dX12_steers_38 : decode cX12_steers 38 = .ok (.iconst 4, 1) := by decide +kernel
theorem dX12_steers_39 : decode cX12_steers 39 = .ok (.idiv, 1) := by decide +kernel
theorem dX12_steers_40 : decode cX12_steers 40 = .ok (.i2l, 1) := by decide +kernel
theorem dX12_steers_41 : decode cX12_steers 41 = .ok (.ldc2_w 76, 3) := by decide +kernel
theorem dX12_steers_44 : decode cX12_steers 44 = .ok (.ldc2_w 86, 3) := by decide +kernel
theorem dX12_steers_47 : decode cX12_steers 47 = .ok (.invokestatic 126, 3) := by decide +kernel
theorem dX12_steers_50 : decode cX12_steers 50 = .ok (.goto 23, 3) := by decide +kernel
theorem dX12_steers_53 : decode cX12_steers 53 = .ok (.iload_n 1, 1) := by decide +kernel
theorem dX12_steers_54 : decode cX12_steers 54 = .ok (.i2l, 1) := by decide +kernel
theorem dX12_steers_55 : decode cX12_steers 55 = .ok (.ldc2_w 76, 3) := by decide +kernel
theorem dX12_steers_58 : decode cX12_steers 58 = .ok (.ladd, 1) := by decide +kernel
theorem dX12_steers_59 : decode cX12_steers 59 = .ok (.ldc2_w 76, 3) := by decide +kernel
theorem dX12_steers_62 : decode cX12_steers 62 = .ok (.aload_n 0, 1) := by decide +kernel
theorem dX12_steers_63 : decode cX12_steers 63 = .ok (.getfield 9, 3) := by decide +kernel
theorem dX12_steers_66 : decode cX12_steers 66 = .ok (.bipush 7, 2) := by decide +kernel
theorem dX12_steers_68 : decode cX12_steers 68 = .ok (.iaload, 1) := by decide +kernel
theorem dX12_steers_69 : decode cX12_steers 69 = .ok (.i2l, 1) := by decide +kernel
theorem dX12_steers_70 : decode cX12_steers 70 = .ok (.invokestatic 126, 3) := by decide +kernel
theorem dX12_steers_73 : decode cX12_steers 73 = .ok (.iastore, 1) := by decide +kernel
theorem dX12_steers_74 : decode cX12_steers 74 = .ok (.aload_n 0, 1) := by decide +kernel
theorem dX12_steers_75 : decode cX12_steers 75 = .ok (.getfield 9, 3) := by decide +kernel
theorem dX12_steers_78 : decode cX12_steers 78 = .ok (.bipush 50, 2) := by decide +kernel
theorem dX12_steers_80 : decode cX12_steers 80 = .ok (.iconst 0, 1) := by decide +kernel
theorem dX12_steers_81 : decode cX12_steers 81 = .ok (.iastore, 1) := by decide +kernel
theorem dX12_steers_82 : decode cX12_steers 82 = .ok (.return_, 1) := by decide +kernel
theorem dX12_dropFirst_0 : decode cX12_dropFirst 0 = .ok (.aload_n 0, 1) := by decide +kernel
theorem dX12_dropFirst_1 : decode cX12_dropFirst 1 = .ok (.getfield 9, 3) := by decide +kernel
theorem dX12_dropFirst_4 : decode cX12_dropFirst 4 = .ok (.bipush 51, 2) := by decide +kernel
theorem dX12_dropFirst_6 : decode cX12_dropFirst 6 = .ok (.dup2, 1) := by decide +kernel
theorem dX12_dropFirst_7 : decode cX12_dropFirst 7 = .ok (.iaload, 1) := by decide +kernel
theorem dX12_dropFirst_8 : decode cX12_dropFirst 8 = .ok (.iconst 1, 1) := by decide +kernel
theorem dX12_dropFirst_9 : decode cX12_dropFirst 9 = .ok (.isub, 1) := by decide +kernel
theorem dX12_dropFirst_10 : decode cX12_dropFirst 10 = .ok (.iastore, 1) := by decide +kernel
theorem dX12_dropFirst_11 : decode cX12_dropFirst 11 = .ok (.sipush 735, 3) := by decide +kernel
theorem dX12_dropFirst_14 : decode cX12_dropFirst 14 = .ok (.istore_n 1, 1) := by decide +kernel
theorem dX12_dropFirst_15 : decode cX12_dropFirst 15 = .ok (.iload_n 1, 1) := by decide +kernel
theorem dX12_dropFirst_16 : decode cX12_dropFirst 16 = .ok (.aload_n 0, 1) := by decide +kernel
theorem dX12_dropFirst_17 : decode cX12_dropFirst 17 = .ok (.getfield 9, 3) := by decide +kernel
theorem dX12_dropFirst_20 : decode cX12_dropFirst 20 = .ok (.bipush 51, 2) := by decide +kernel
theorem dX12_dropFirst_22 : decode cX12_dropFirst 22 = .ok (.iaload, 1) := by decide +kernel
theorem dX12_dropFirst_23 : decode cX12_dropFirst 23 = .ok (.invokestatic 217, 3) := by decide +kernel
theorem dX12_dropFirst_26 : decode cX12_dropFirst 26 = .ok (.if_icmp .ge 25, 3) := by decide +kernel
theorem dX12_dropFirst_29 : decode cX12_dropFirst 29 = .ok (.aload_n 0, 1) := by decide +kernel
theorem dX12_dropFirst_30 : decode cX12_dropFirst 30 = .ok (.getfield 9, 3) := by decide +kernel
theorem dX12_dropFirst_33 : decode cX12_dropFirst 33 = .ok (.iload_n 1, 1) := by decide +kernel
theorem dX12_dropFirst_34 : decode cX12_dropFirst 34 = .ok (.aload_n 0, 1) := by decide +kernel
theorem dX12_dropFirst_35 : decode cX12_dropFirst 35 = .ok (.getfield 9, 3) := by decide +kernel
theorem dX12_dropFirst_38 : decode cX12_dropFirst 38 = .ok (.iload_n 1, 1) := by decide +kernel
theorem dX12_dropFirst_39 : decode cX12_dropFirst 39 = .ok (.sipush 170, 3) := by decide +kernel
theorem dX12_dropFirst_42 : decode cX12_dropFirst 42 = .ok (.iadd, 1) := by decide +kernel
theorem dX12_dropFirst_43 : decode cX12_dropFirst 43 = .ok (.iaload, 1) := by decide +kernel
theorem dX12_dropFirst_44 : decode cX12_dropFirst 44 = .ok (.iastore, 1) := by decide +kernel
theorem dX12_dropFirst_45 : decode cX12_dropFirst 45 = .ok (.iinc 1 1, 3) := by decide +kernel
theorem dX12_dropFirst_48 : decode cX12_dropFirst 48 = .ok (.goto (-33), 3) := by decide +kernel
theorem dX12_dropFirst_51 : decode cX12_dropFirst 51 = .ok (.return_, 1) := by decide +kernel
theorem dX12_givesUp_0 : decode cX12_givesUp 0 = .ok (.aload_n 0, 1) := by decide +kernel
theorem dX12_givesUp_1 : decode cX12_givesUp 1 = .ok (.getfield 9, 3) := by decide +kernel
theorem dX12_givesUp_4 : decode cX12_givesUp 4 = .ok (.iload_n 1, 1) := by decide +kernel
theorem dX12_givesUp_5 : decode cX12_givesUp 5 = .ok (.invokestatic 220, 3) := by decide +kernel
theorem dX12_givesUp_8 : decode cX12_givesUp 8 = .ok (.iconst 0, 1) := by decide +kernel
theorem dX12_givesUp_9 : decode cX12_givesUp 9 = .ok (.iadd, 1) := by decide +kernel
theorem dX12_givesUp_10 : decode cX12_givesUp 10 = .ok (.iconst 3, 1) := by decide +kernel
theorem dX12_givesUp_11 : decode cX12_givesUp 11 = .ok (.iastore, 1) := by decide +kernel
theorem dX12_givesUp_12 : decode cX12_givesUp 12 = .ok (.aload_n 0, 1) := by decide +kernel
theorem dX12_givesUp_13 : decode cX12_givesUp 13 = .ok (.getfield 9, 3) := by decide +kernel
theorem dX12_givesUp_16 : decode cX12_givesUp 16 = .ok (.bipush 29, 2) := by decide +kernel
theorem dX12_givesUp_18 : decode cX12_givesUp 18 = .ok (.dup2, 1) := by decide +kernel
theorem dX12_givesUp_19 : decode cX12_givesUp 19 = .ok (.iaload, 1) := by decide +kernel
theorem dX12_givesUp_20 : decode cX12_givesUp 20 = .ok (.iconst 1, 1) := by decide +kernel
theorem dX12_givesUp_21 : decode cX12_givesUp 21 = .ok (.iadd, 1) := by decide +kernel
theorem dX12_givesUp_22 : decode cX12_givesUp 22 = .ok (.iastore, 1) := by decide +kernel
theorem dX12_givesUp_23 : decode cX12_givesUp 23 = .ok (.return_, 1) := by decide +kernel
theorem dX12_piecesOf_0 : decode cX12_piecesOf 0 = .ok (.iload_n 0, 1) := by decide +kernel
theorem dX12_piecesOf_1 : decode cX12_piecesOf 1 = .ok (.iload_n 1, 1) := by decide +kernel
theorem dX12_piecesOf_2 : decode cX12_piecesOf 2 = .ok (.iadd, 1) := by decide +kernel
theorem dX12_piecesOf_3 : decode cX12_piecesOf 3 = .ok (.iconst 1, 1) := by decide +kernel
theorem dX12_piecesOf_4 : decode cX12_piecesOf 4 = .ok (.isub, 1) := by decide +kernel
theorem dX12_piecesOf_5 : decode cX12_piecesOf 5 = .ok (.iload_n 1, 1) := by decide +kernel
theorem dX12_piecesOf_6 : decode cX12_piecesOf 6 = .ok (.idiv, 1) := by decide +kernel
theorem dX12_piecesOf_7 : decode cX12_piecesOf 7 = .ok (.ireturn, 1) := by decide +kernel
theorem dX12_level_0 : decode cX12_level 0 = .ok (.iconst 0, 1) := by decide +kernel
theorem dX12_level_1 : decode cX12_level 1 = .ok (.istore_n 1, 1) := by decide +kernel
theorem dX12_level_2 : decode cX12_level 2 = .ok (.iconst 0, 1) := by decide +kernel
theorem dX12_level_3 : decode cX12_level 3 = .ok (.istore_n 2, 1) := by decide +kernel
theorem dX12_level_4 : decode cX12_level 4 = .ok (.iload_n 2, 1) := by decide +kernel
theorem dX12_level_5 : decode cX12_level 5 = .ok (.bipush 14, 2) := by decide +kernel
theorem dX12_level_7 : decode cX12_level 7 = .ok (.if_icmp .ge 40, 3) := by decide +kernel
theorem dX12_level_10 : decode cX12_level 10 = .ok (.iload_n 1, 1) := by decide +kernel
theorem dX12_level_11 : decode cX12_level 11 = .ok (.aload_n 0, 1) := by decide +kernel
theorem dX12_level_12 : decode cX12_level 12 = .ok (.getfield 9, 3) := by decide +kernel
theorem dX12_level_15 : decode cX12_level 15 = .ok (.sipush 2095, 3) := by decide +kernel
theorem dX12_level_18 : decode cX12_level 18 = .ok (.bipush 83, 2) := by decide +kernel
theorem dX12_level_20 : decode cX12_level 20 = .ok (.iload_n 2, 1) := by decide +kernel
theorem dX12_level_21 : decode cX12_level 21 = .ok (.imul, 1) := by decide +kernel
theorem dX12_level_22 : decode cX12_level 22 = .ok (.iadd, 1) := by decide +kernel
theorem dX12_level_23 : decode cX12_level 23 = .ok (.iaload, 1) := by decide +kernel
theorem dX12_level_24 : decode cX12_level 24 = .ok (.aload_n 0, 1) := by decide +kernel
theorem dX12_level_25 : decode cX12_level 25 = .ok (.getfield 9, 3) := by decide +kernel
theorem dX12_level_28 : decode cX12_level 28 = .ok (.bipush 30, 2) := by decide +kernel
theorem dX12_level_30 : decode cX12_level 30 = .ok (.iaload, 1) := by decide +kernel
theorem dX12_level_31 : decode cX12_level 31 = .ok (.if_icmp .le 7, 3) := by decide +kernel
theorem dX12_level_34 : decode cX12_level 34 = .ok (.iconst 1, 1) := by decide +kernel
theorem dX12_level_35 : decode cX12_level 35 = .ok (.goto 4, 3) := by decide +kernel
theorem dX12_level_38 : decode cX12_level 38 = .ok (.iconst 0, 1) := by decide +kernel
theorem dX12_level_39 : decode cX12_level 39 = .ok (.iadd, 1) := by decide +kernel
theorem dX12_level_40 : decode cX12_level 40 = .ok (.istore_n 1, 1) := by decide +kernel
theorem dX12_level_41 : decode cX12_level 41 = .ok (.iinc 2 1, 3) := by decide +kernel
theorem dX12_level_44 : decode cX12_level 44 = .ok (.goto (-40), 3) := by decide +kernel
theorem dX12_level_47 : decode cX12_level 47 = .ok (.iload_n 1, 1) := by decide +kernel
theorem dX12_level_48 : decode cX12_level 48 = .ok (.ireturn, 1) := by decide +kernel
theorem dX12_damages_0 : decode cX12_damages 0 = .ok (.aload_n 0, 1) := by decide +kernel
theorem dX12_damages_1 : decode cX12_damages 1 = .ok (.getfield 9, 3) := by decide +kernel
theorem dX12_damages_4 : decode cX12_damages 4 = .ok (.bipush 16, 2) := by decide +kernel
theorem dX12_damages_6 : decode cX12_damages 6 = .ok (.iaload, 1) := by decide +kernel
theorem dX12_damages_7 : decode cX12_damages 7 = .ok (.ifCond .eq 21, 3) := by decide +kernel
theorem dX12_damages_10 : decode cX12_damages 10 = .ok (.aload_n 0, 1) := by decide +kernel
theorem dX12_damages_11 : decode cX12_damages 11 = .ok (.invokevirtual 226, 3) := by decide +kernel
theorem dX12_damages_14 : decode cX12_damages 14 = .ok (.sipush 1000, 3) := by decide +kernel
theorem dX12_damages_17 : decode cX12_damages 17 = .ok (.irem, 1) := by decide +kernel
theorem dX12_damages_18 : decode cX12_damages 18 = .ok (.aload_n 0, 1) := by decide +kernel
theorem dX12_damages_19 : decode cX12_damages 19 = .ok (.getfield 9, 3) := by decide +kernel
theorem dX12_damages_22 : decode cX12_damages 22 = .ok (.bipush 16, 2) := by decide +kernel
theorem dX12_damages_24 : decode cX12_damages 24 = .ok (.iaload, 1) := by decide +kernel
theorem dX12_damages_25 : decode cX12_damages 25 = .ok (.if_icmp .lt 4, 3) := by decide +kernel
theorem dX12_damages_28 : decode cX12_damages 28 = .ok (.return_, 1) := by decide +kernel
theorem dX12_damages_29 : decode cX12_damages 29 = .ok (.aload_n 0, 1) := by decide +kernel
theorem dX12_damages_30 : decode cX12_damages 30 = .ok (.getfield 9, 3) := by decide +kernel
theorem dX12_damages_33 : decode cX12_damages 33 = .ok (.bipush 45, 2) := by decide +kernel
theorem dX12_damages_35 : decode cX12_damages 35 = .ok (.dup2, 1) := by decide +kernel
theorem dX12_damages_36 : decode cX12_damages 36 = .ok (.iaload, 1) := by decide +kernel
theorem dX12_damages_37 : decode cX12_damages 37 = .ok (.iconst 1, 1) := by decide +kernel
theorem dX12_damages_38 : decode cX12_damages 38 = .ok (.iadd, 1) := by decide +kernel
theorem dX12_damages_39 : decode cX12_damages 39 = .ok (.iastore, 1) := by decide +kernel
theorem dX12_damages_40 : decode cX12_damages 40 = .ok (.aload_n 0, 1) := by decide +kernel
theorem dX12_damages_41 : decode cX12_damages 41 = .ok (.invokevirtual 226, 3) := by decide +kernel
theorem dX12_damages_44 : decode cX12_damages 44 = .ok (.bipush 8, 2) := by decide +kernel
theorem dX12_damages_46 : decode cX12_damages 46 = .ok (.iload_n 3, 1) := by decide +kernel
theorem dX12_damages_47 : decode cX12_damages 47 = .ok (.imul, 1) := by decide +kernel
theorem dX12_damages_48 : decode cX12_damages 48 = .ok (.irem, 1) := by decide +kernel
theorem dX12_damages_49 : decode cX12_damages 49 = .ok (.istore 4, 2) := by decide +kernel
theorem dX12_damages_51 : decode cX12_damages 51 = .ok (.aload_n 0, 1) := by decide +kernel
theorem dX12_damages_52 : decode cX12_damages 52 = .ok (.getfield 9, 3) := by decide +kernel
theorem dX12_damages_55 : decode cX12_damages 55 = .ok (.iload_n 1, 1) := by decide +kernel
theorem dX12_damages_56 : decode cX12_damages 56 = .ok (.bipush 84, 2) := by decide +kernel
theorem dX12_damages_58 : decode cX12_damages 58 = .ok (.iadd, 1) := by decide +kernel
theorem dX12_damages_59 : decode cX12_damages 59 = .ok (.iload_n 2, 1) := by decide +kernel
theorem dX12_damages_60 : decode cX12_damages 60 = .ok (.iadd, 1) := by decide +kernel
theorem dX12_damages_61 : decode cX12_damages 61 = .ok (.iload 4, 2) := by decide +kernel
theorem dX12_damages_63 : decode cX12_damages 63 = .ok (.bipush 8, 2) := by decide +kernel
theorem dX12_damages_65 : decode cX12_damages 65 = .ok (.idiv, 1) := by decide +kernel
theorem dX12_damages_66 : decode cX12_damages 66 = .ok (.iadd, 1) := by decide +kernel
theorem dX12_damages_67 : decode cX12_damages 67 = .ok (.dup2, 1) := by decide +kernel
theorem dX12_damages_68 : decode cX12_damages 68 = .ok (.iaload, 1) := by decide +kernel
theorem dX12_damages_69 : decode cX12_damages 69 = .ok (.iconst 1, 1) := by decide +kernel
theorem dX12_damages_70 : decode cX12_damages 70 = .ok (.bipush 7, 2) := by decide +kernel
theorem dX12_damages_72 : decode cX12_damages 72 = .ok (.iload 4, 2) := by decide +kernel
theorem dX12_damages_74 : decode cX12_damages 74 = .ok (.bipush 8, 2) := by decide +kernel
theorem dX12_damages_76 : decode cX12_damages 76 = .ok (.irem, 1) := by decide +kernel
theorem dX12_damages_77 : decode cX12_damages 77 = .ok (.isub, 1) := by decide +kernel
theorem dX12_damages_78 : decode cX12_damages 78 = .ok (.ishl, 1) := by decide +kernel
theorem dX12_damages_79 : decode cX12_damages 79 = .ok (.ixor, 1) := by decide +kernel
theorem dX12_damages_80 : decode cX12_damages 80 = .ok (.iastore, 1) := by decide +kernel
theorem dX12_damages_81 : decode cX12_damages 81 = .ok (.return_, 1) := by decide +kernel
theorem dX12_sends_0 : decode cX12_sends 0 = .ok (.aload_n 0, 1) := by decide +kernel
theorem dX12_sends_1 : decode cX12_sends 1 = .ok (.getfield 9, 3) := by decide +kernel
theorem dX12_sends_4 : decode cX12_sends 4 = .ok (.bipush 51, 2) := by decide +kernel
theorem dX12_sends_6 : decode cX12_sends 6 = .ok (.iaload, 1) := by decide +kernel
theorem dX12_sends_7 : decode cX12_sends 7 = .ok (.ifCond .ne 15, 3) := by decide +kernel
theorem dX12_sends_10 : decode cX12_sends 10 = .ok (.aload_n 0, 1) := by decide +kernel
theorem dX12_sends_11 : decode cX12_sends 11 = .ok (.getfield 9, 3) := by decide +kernel
theorem dX12_sends_14 : decode cX12_sends 14 = .ok (.bipush 47, 2) := by decide +kernel
theorem dX12_sends_16 : decode cX12_sends 16 = .ok (.dup2, 1) := by decide +kernel
theorem dX12_sends_17 : decode cX12_sends 17 = .ok (.iaload, 1) := by decide +kernel
theorem dX12_sends_18 : decode cX12_sends 18 = .ok (.iconst 1, 1) := by decide +kernel
theorem dX12_sends_19 : decode cX12_sends 19 = .ok (.iadd, 1) := by decide +kernel
theorem dX12_sends_20 : decode cX12_sends 20 = .ok (.iastore, 1) := by decide +kernel
theorem dX12_sends_21 : decode cX12_sends 21 = .ok (.return_, 1) := by decide +kernel
theorem dX12_sends_22 : decode cX12_sends 22 = .ok (.iconst 0, 1) := by decide +kernel
theorem dX12_sends_23 : decode cX12_sends 23 = .ok (.invokestatic 217, 3) := by decide +kernel
theorem dX12_sends_26 : decode cX12_sends 26 = .ok (.istore_n 1, 1) := by decide +kernel
theorem dX12_sends_27 : decode cX12_sends 27 = .ok (.aload_n 0, 1) := by decide +kernel
theorem dX12_sends_28 : decode cX12_sends 28 = .ok (.getfield 9, 3) := by decide +kernel
theorem dX12_sends_31 : decode cX12_sends 31 = .ok (.iload_n 1, 1) := by decide +kernel
theorem dX12_sends_32 : decode cX12_sends 32 = .ok (.iconst 0, 1) := by decide +kernel
theorem dX12_sends_33 : decode cX12_sends 33 = .ok (.iadd, 1) := by decide +kernel
theorem dX12_sends_34 : decode cX12_sends 34 = .ok (.iaload, 1) := by decide +kernel
theorem dX12_sends_35 : decode cX12_sends 35 = .ok (.istore_n 2, 1) := by decide +kernel
theorem dX12_sends_36 : decode cX12_sends 36 = .ok (.aload_n 0, 1) := by decide +kernel
theorem dX12_sends_37 : decode cX12_sends 37 = .ok (.getfield 9, 3) := by decide +kernel
theorem dX12_sends_40 : decode cX12_sends 40 = .ok (.bipush 27, 2) := by decide +kernel
theorem dX12_sends_42 : decode cX12_sends 42 = .ok (.dup2, 1) := by decide +kernel
theorem dX12_sends_43 : decode cX12_sends 43 = .ok (.iaload, 1) := by decide +kernel
theorem dX12_sends_44 : decode cX12_sends 44 = .ok (.iconst 1, 1) := by decide +kernel
theorem dX12_sends_45 : decode cX12_sends 45 = .ok (.iadd, 1) := by decide +kernel
theorem dX12_sends_46 : decode cX12_sends 46 = .ok (.iastore, 1) := by decide +kernel
theorem dX12_sends_47 : decode cX12_sends 47 = .ok (.aload_n 0, 1) := by decide +kernel
theorem dX12_sends_48 : decode cX12_sends 48 = .ok (.getfield 9, 3) := by decide +kernel
theorem dX12_sends_51 : decode cX12_sends 51 = .ok (.iload_n 2, 1) := by decide +kernel
theorem dX12_sends_52 : decode cX12_sends 52 = .ok (.invokestatic 220, 3) := by decide +kernel
theorem dX12_sends_55 : decode cX12_sends 55 = .ok (.iconst 1, 1) := by decide +kernel
theorem dX12_sends_56 : decode cX12_sends 56 = .ok (.iadd, 1) := by decide +kernel
theorem dX12_sends_57 : decode cX12_sends 57 = .ok (.dup2, 1) := by decide +kernel
theorem dX12_sends_58 : decode cX12_sends 58 = .ok (.iaload, 1) := by decide +kernel
theorem dX12_sends_59 : decode cX12_sends 59 = .ok (.iconst 1, 1) := by decide +kernel
theorem dX12_sends_60 : decode cX12_sends 60 = .ok (.iadd, 1) := by decide +kernel
theorem dX12_sends_61 : decode cX12_sends 61 = .ok (.iastore, 1) := by decide +kernel
theorem dX12_sends_62 : decode cX12_sends 62 = .ok (.aload_n 0, 1) := by decide +kernel
theorem dX12_sends_63 : decode cX12_sends 63 = .ok (.getfield 9, 3) := by decide +kernel
theorem dX12_sends_66 : decode cX12_sends 66 = .ok (.bipush 48, 2) := by decide +kernel
theorem dX12_sends_68 : decode cX12_sends 68 = .ok (.iaload, 1) := by decide +kernel
theorem dX12_sends_69 : decode cX12_sends 69 = .ok (.ifCond .le 15, 3) := by decide +kernel
theorem dX12_sends_72 : decode cX12_sends 72 = .ok (.aload_n 0, 1) := by decide +kernel
theorem dX12_sends_73 : decode cX12_sends 73 = .ok (.getfield 9, 3) := by decide +kernel
theorem dX12_sends_76 : decode cX12_sends 76 = .ok (.bipush 48, 2) := by decide +kernel
theorem dX12_sends_78 : decode cX12_sends 78 = .ok (.dup2, 1) := by decide +kernel
theorem dX12_sends_79 : decode cX12_sends 79 = .ok (.iaload, 1) := by decide +kernel
theorem dX12_sends_80 : decode cX12_sends 80 = .ok (.iconst 1, 1) := by decide +kernel
theorem dX12_sends_81 : decode cX12_sends 81 = .ok (.isub, 1) := by decide +kernel
theorem dX12_sends_82 : decode cX12_sends 82 = .ok (.iastore, 1) := by decide +kernel
theorem dX12_sends_83 : decode cX12_sends 83 = .ok (.return_, 1) := by decide +kernel
theorem dX12_sends_84 : decode cX12_sends 84 = .ok (.aload_n 0, 1) := by decide +kernel
theorem dX12_sends_85 : decode cX12_sends 85 = .ok (.invokevirtual 226, 3) := by decide +kernel
theorem dX12_sends_88 : decode cX12_sends 88 = .ok (.bipush 100, 2) := by decide +kernel
theorem dX12_sends_90 : decode cX12_sends 90 = .ok (.irem, 1) := by decide +kernel
theorem dX12_sends_91 : decode cX12_sends 91 = .ok (.aload_n 0, 1) := by decide +kernel
theorem dX12_sends_92 : decode cX12_sends 92 = .ok (.getfield 9, 3) := by decide +kernel
theorem dX12_sends_95 : decode cX12_sends 95 = .ok (.bipush 11, 2) := by decide +kernel
theorem dX12_sends_97 : decode cX12_sends 97 = .ok (.iaload, 1) := by decide +kernel
theorem dX12_sends_98 : decode cX12_sends 98 = .ok (.if_icmp .ge 4, 3) := by decide +kernel
theorem dX12_sends_101 : decode cX12_sends 101 = .ok (.return_, 1) := by decide +kernel
theorem dX12_sends_102 : decode cX12_sends 102 = .ok (.aload_n 0, 1) := by decide +kernel
theorem dX12_sends_103 : decode cX12_sends 103 = .ok (.getfield 9, 3) := by decide +kernel
theorem dX12_sends_106 : decode cX12_sends 106 = .ok (.bipush 44, 2) := by decide +kernel
theorem dX12_sends_108 : decode cX12_sends 108 = .ok (.dup2, 1) := by decide +kernel
theorem dX12_sends_109 : decode cX12_sends 109 = .ok (.iaload, 1) := by decide +kernel
theorem dX12_sends_110 : decode cX12_sends 110 = .ok (.iconst 1, 1) := by decide +kernel
theorem dX12_sends_111 : decode cX12_sends 111 = .ok (.iadd, 1) := by decide +kernel
theorem dX12_sends_112 : decode cX12_sends 112 = .ok (.iastore, 1) := by decide +kernel
theorem dX12_sends_113 : decode cX12_sends 113 = .ok (.aload_n 0, 1) := by decide +kernel
theorem dX12_sends_114 : decode cX12_sends 114 = .ok (.getfield 9, 3) := by decide +kernel
theorem dX12_sends_117 : decode cX12_sends 117 = .ok (.iload_n 1, 1) := by decide +kernel
theorem dX12_sends_118 : decode cX12_sends 118 = .ok (.iconst 3, 1) := by decide +kernel
theorem dX12_sends_119 : decode cX12_sends 119 = .ok (.iadd, 1) := by decide +kernel
theorem dX12_sends_120 : decode cX12_sends 120 = .ok (.iaload, 1) := by decide +kernel
theorem dX12_sends_121 : decode cX12_sends 121 = .ok (.aload_n 0, 1) := by decide +kernel
theorem dX12_sends_122 : decode cX12_sends 122 = .ok (.getfield 9, 3) := by decide +kernel
theorem dX12_sends_125 : decode cX12_sends 125 = .ok (.iload_n 1, 1) := by decide +kernel
theorem dX12_sends_126 : decode cX12_sends 126 = .ok (.iconst 2, 1) := by decide +kernel
theorem dX12_sends_127 : decode cX12_sends 127 = .ok (.iadd, 1) := by decide +kernel
theorem dX12_sends_128 : decode cX12_sends 128 = .ok (.iaload, 1) := by decide +kernel
theorem dX12_sends_129 : decode cX12_sends 129 = .ok (.imul, 1) := by decide +kernel
theorem dX12_sends_130 : decode cX12_sends 130 = .ok (.istore_n 3, 1) := by decide +kernel
theorem dX12_sends_131 : decode cX12_sends 131 = .ok (.aload_n 0, 1) := by decide +kernel
theorem dX12_sends_132 : decode cX12_sends 132 = .ok (.getfield 9, 3) := by decide +kernel
theorem dX12_sends_135 : decode cX12_sends 135 = .ok (.iload_n 1, 1) := by decide +kernel
theorem dX12_sends_136 : decode cX12_sends 136 = .ok (.iconst 1, 1) := by decide +kernel
theorem dX12_sends_137 : decode cX12_sends 137 = .ok (.iadd, 1) := by decide +kernel
theorem dX12_sends_138 : decode cX12_sends 138 = .ok (.iaload, 1) := by decide +kernel
theorem dX12_sends_139 : decode cX12_sends 139 = .ok (.iload_n 3, 1) := by decide +kernel
theorem dX12_sends_140 : decode cX12_sends 140 = .ok (.isub, 1) := by decide +kernel
theorem dX12_sends_141 : decode cX12_sends 141 = .ok (.istore 4, 2) := by decide +kernel
theorem dX12_sends_143 : decode cX12_sends 143 = .ok (.aload_n 0, 1) := by decide +kernel
theorem dX12_sends_144 : decode cX12_sends 144 = .ok (.iload_n 1, 1) := by decide +kernel
theorem dX12_sends_145 : decode cX12_sends 145 = .ok (.iload_n 3, 1) := by decide +kernel
theorem dX12_sends_146 : decode cX12_sends 146 = .ok (.iload 4, 2) := by decide +kernel
theorem dX12_sends_148 : decode cX12_sends 148 = .ok (.aload_n 0, 1) := by decide +kernel
theorem dX12_sends_149 : decode cX12_sends 149 = .ok (.getfield 9, 3) := by decide +kernel
theorem dX12_sends_152 : decode cX12_sends 152 = .ok (.iload_n 1, 1) := by decide +kernel
theorem dX12_sends_153 : decode cX12_sends 153 = .ok (.iconst 2, 1) := by decide +kernel
theorem dX12_sends_154 : decode cX12_sends 154 = .ok (.iadd, 1) := by decide +kernel
theorem dX12_sends_155 : decode cX12_sends 155 = .ok (.iaload, 1) := by decide +kernel
theorem dX12_sends_156 : decode cX12_sends 156 = .ok (.if_icmp .ge 8, 3) := by decide +kernel
theorem dX12_sends_159 : decode cX12_sends 159 = .ok (.iload 4, 2) := by decide +kernel
theorem dX12_sends_161 : decode cX12_sends 161 = .ok (.goto 11, 3) := by decide +kernel
theorem dX12_sends_164 : decode cX12_sends 164 = .ok (.aload_n 0, 1) := by decide +kernel
theorem dX12_sends_165 : decode cX12_sends 165 = .ok (.getfield 9, 3) := by decide +kernel
theorem dX12_sends_168 : decode cX12_sends 168 = .ok (.iload_n 1, 1) := by decide +kernel
theorem dX12_sends_169 : decode cX12_sends 169 = .ok (.iconst 2, 1) := by decide +kernel
theorem dX12_sends_170 : decode cX12_sends 170 = .ok (.iadd, 1) := by decide +kernel
theorem dX12_sends_171 : decode cX12_sends 171 = .ok (.iaload, 1) := by decide +kernel
theorem dX12_sends_172 : decode cX12_sends 172 = .ok (.invokevirtual 230, 3) := by decide +kernel
theorem dX12_sends_175 : decode cX12_sends 175 = .ok (.aload_n 0, 1) := by decide +kernel
theorem dX12_sends_176 : decode cX12_sends 176 = .ok (.getfield 9, 3) := by decide +kernel
theorem dX12_sends_179 : decode cX12_sends 179 = .ok (.iload_n 1, 1) := by decide +kernel
theorem dX12_sends_180 : decode cX12_sends 180 = .ok (.iconst 3, 1) := by decide +kernel
theorem dX12_sends_181 : decode cX12_sends 181 = .ok (.iadd, 1) := by decide +kernel
theorem dX12_sends_182 : decode cX12_sends 182 = .ok (.dup2, 1) := by decide +kernel
theorem dX12_sends_183 : decode cX12_sends 183 = .ok (.iaload, 1) := by decide +kernel
theorem dX12_sends_184 : decode cX12_sends 184 = .ok (.iconst 1, 1) := by decide +kernel
theorem dX12_sends_185 : decode cX12_sends 185 = .ok (.iadd, 1) := by decide +kernel
theorem dX12_sends_186 : decode cX12_sends 186 = .ok (.iastore, 1) := by decide +kernel
theorem dX12_sends_187 : decode cX12_sends 187 = .ok (.aload_n 0, 1) := by decide +kernel
theorem dX12_sends_188 : decode cX12_sends 188 = .ok (.getfield 9, 3) := by decide +kernel
theorem dX12_sends_191 : decode cX12_sends 191 = .ok (.iload_n 1, 1) := by decide +kernel
theorem dX12_sends_192 : decode cX12_sends 192 = .ok (.iconst 3, 1) := by decide +kernel
theorem dX12_sends_193 : decode cX12_sends 193 = .ok (.iadd, 1) := by decide +kernel
theorem dX12_sends_194 : decode cX12_sends 194 = .ok (.iaload, 1) := by decide +kernel
theorem dX12_sends_195 : decode cX12_sends 195 = .ok (.aload_n 0, 1) := by decide +kernel
theorem dX12_sends_196 : decode cX12_sends 196 = .ok (.getfield 9, 3) := by decide +kernel
theorem dX12_sends_199 : decode cX12_sends 199 = .ok (.iload_n 1, 1) := by decide +kernel
theorem dX12_sends_200 : decode cX12_sends 200 = .ok (.iconst 1, 1) := by decide +kernel
theorem dX12_sends_201 : decode cX12_sends 201 = .ok (.iadd, 1) := by decide +kernel
theorem dX12_sends_202 : decode cX12_sends 202 = .ok (.iaload, 1) := by decide +kernel
theorem dX12_sends_203 : decode cX12_sends 203 = .ok (.aload_n 0, 1) := by decide +kernel
theorem dX12_sends_204 : decode cX12_sends 204 = .ok (.getfield 9, 3) := by decide +kernel
theorem dX12_sends_207 : decode cX12_sends 207 = .ok (.iload_n 1, 1) := by decide +kernel
theorem dX12_sends_208 : decode cX12_sends 208 = .ok (.iconst 2, 1) := by decide +kernel
theorem dX12_sends_209 : decode cX12_sends 209 = .ok (.iadd, 1) := by decide +kernel
theorem dX12_sends_210 : decode cX12_sends 210 = .ok (.iaload, 1) := by decide +kernel
theorem dX12_sends_211 : decode cX12_sends 211 = .ok (.invokestatic 234, 3) := by decide +kernel
theorem dX12_sends_214 : decode cX12_sends 214 = .ok (.if_icmp .ne 9, 3) := by decide +kernel
theorem dX12_sends_217 : decode cX12_sends 217 = .ok (.aload_n 0, 1) := by decide +kernel
theorem dX12_sends_218 : decode cX12_sends 218 = .ok (.iload_n 1, 1) := by decide +kernel
theorem dX12_sends_219 : decode cX12_sends 219 = .ok (.iload_n 2, 1) := by decide +kernel
theorem dX12_sends_220 : decode cX12_sends 220 = .ok (.invokevirtual 237, 3) := by decide +kernel
theorem dX12_sends_223 : decode cX12_sends 223 = .ok (.return_, 1) := by decide +kernel
theorem dX12_looks_0 : decode cX12_looks 0 = .ok (.aload_n 0, 1) := by decide +kernel
theorem dX12_looks_1 : decode cX12_looks 1 = .ok (.getfield 9, 3) := by decide +kernel
theorem dX12_looks_4 : decode cX12_looks 4 = .ok (.iload_n 1, 1) := by decide +kernel
theorem dX12_looks_5 : decode cX12_looks 5 = .ok (.iconst 1, 1) := by decide +kernel
theorem dX12_looks_6 : decode cX12_looks 6 = .ok (.iadd, 1) := by decide +kernel
theorem dX12_looks_7 : decode cX12_looks 7 = .ok (.iaload, 1) := by decide +kernel
theorem dX12_looks_8 : decode cX12_looks 8 = .ok (.istore_n 3, 1) := by decide +kernel
theorem dX12_looks_9 : decode cX12_looks 9 = .ok (.iconst 0, 1) := by decide +kernel
theorem dX12_looks_10 : decode cX12_looks 10 = .ok (.istore 4, 2) := by decide +kernel
theorem dX12_looks_12 : decode cX12_looks 12 = .ok (.iload 4, 2) := by decide +kernel
theorem dX12_looks_14 : decode cX12_looks 14 = .ok (.bipush 80, 2) := by decide +kernel
theorem dX12_looks_16 : decode cX12_looks 16 = .ok (.if_icmp .ge 28, 3) := by decide +kernel
theorem dX12_looks_19 : decode cX12_looks 19 = .ok (.aload_n 0, 1) := by decide +kernel
theorem dX12_looks_20 : decode cX12_looks 20 = .ok (.getfield 37, 3) := by decide +kernel
theorem dX12_looks_23 : decode cX12_looks 23 = .ok (.iload 4, 2) := by decide +kernel
theorem dX12_looks_25 : decode cX12_looks 25 = .ok (.aload_n 0, 1) := by decide +kernel
theorem dX12_looks_26 : decode cX12_looks 26 = .ok (.getfield 9, 3) := by decide +kernel
theorem dX12_looks_29 : decode cX12_looks 29 = .ok (.iload_n 1, 1) := by decide +kernel
theorem dX12_looks_30 : decode cX12_looks 30 = .ok (.bipush 84, 2) := by decide +kernel
theorem dX12_looks_32 : decode cX12_looks 32 = .ok (.iadd, 1) := by decide +kernel
theorem dX12_looks_33 : decode cX12_looks 33 = .ok (.iload 4, 2) := by decide +kernel
theorem dX12_looks_35 : decode cX12_looks 35 = .ok (.iadd, 1) := by decide +kernel
theorem dX12_looks_36 : decode cX12_looks 36 = .ok (.iaload, 1) := by decide +kernel
theorem dX12_looks_37 : decode cX12_looks 37 = .ok (.iastore, 1) := by decide +kernel
theorem dX12_looks_38 : decode cX12_looks 38 = .ok (.iinc 4 1, 3) := by decide +kernel
theorem dX12_looks_41 : decode cX12_looks 41 = .ok (.goto (-29), 3) := by decide +kernel
theorem dX12_looks_44 : decode cX12_looks 44 = .ok (.aload_n 0, 1) := by decide +kernel
theorem dX12_looks_45 : decode cX12_looks 45 = .ok (.getfield 37, 3) := by decide +kernel
theorem dX12_looks_48 : decode cX12_looks 48 = .ok (.iconst 0, 1) := by decide +kernel
theorem dX12_looks_49 : decode cX12_looks 49 = .ok (.iaload, 1) := by decide +kernel
theorem dX12_looks_50 : decode cX12_looks 50 = .ok (.sipush 156, 3) := by decide +kernel
theorem dX12_looks_53 : decode cX12_looks 53 = .ok (.if_icmp .ne 17, 3) := by decide +kernel
theorem dX12_looks_56 : decode cX12_looks 56 = .ok (.aload_n 0, 1) := by decide +kernel
theorem dX12_looks_57 : decode cX12_looks 57 = .ok (.getfield 37, 3) := by decide +kernel
theorem dX12_looks_60 : decode cX12_looks 60 = .ok (.iconst 3, 1) := by decide +kernel
theorem dX12_looks_61 : decode cX12_looks 61 = .ok (.iaload, 1) := by decide +kernel
theorem dX12_looks_62 : decode cX12_looks 62 = .ok (.aload_n 0, 1) := by decide +kernel
theorem dX12_looks_63 : decode cX12_looks 63 = .ok (.iload_n 3, 1) := by decide +kernel
theorem dX12_looks_64 : decode cX12_looks 64 = .ok (.invokevirtual 204, 3) := by decide +kernel
theorem dX12_looks_67 : decode cX12_looks 67 = .ok (.if_icmp .eq 63, 3) := by decide +kernel
theorem dX12_looks_70 : decode cX12_looks 70 = .ok (.aload_n 0, 1) := by decide +kernel
theorem dX12_looks_71 : decode cX12_looks 71 = .ok (.getfield 9, 3) := by decide +kernel
theorem dX12_looks_74 : decode cX12_looks 74 = .ok (.bipush 46, 2) := by decide +kernel
theorem dX12_looks_76 : decode cX12_looks 76 = .ok (.dup2, 1) := by decide +kernel
theorem dX12_looks_77 : decode cX12_looks 77 = .ok (.iaload, 1) := by decide +kernel
theorem dX12_looks_78 : decode cX12_looks 78 = .ok (.iconst 1, 1) := by decide +kernel
theorem dX12_looks_79 : decode cX12_looks 79 = .ok (.iadd, 1) := by decide +kernel
theorem dX12_looks_80 : decode cX12_looks 80 = .ok (.iastore, 1) := by decide +kernel
theorem dX12_looks_81 : decode cX12_looks 81 = .ok (.aload_n 0, 1) := by decide +kernel
theorem dX12_looks_82 : decode cX12_looks 82 = .ok (.getfield 9, 3) := by decide +kernel
theorem dX12_looks_85 : decode cX12_looks 85 = .ok (.iload_n 1, 1) := by decide +kernel
theorem dX12_looks_86 : decode cX12_looks 86 = .ok (.iconst 3, 1) := by decide +kernel
theorem dX12_looks_87 : decode cX12_looks 87 = .ok (.iadd, 1) := by decide +kernel
theorem dX12_looks_88 : decode cX12_looks 88 = .ok (.iconst 0, 1) := by decide +kernel
theorem dX12_looks_89 : decode cX12_looks 89 = .ok (.iastore, 1) := by decide +kernel
theorem dX12_looks_90 : decode cX12_looks 90 = .ok (.iconst 0, 1) := by decide +kernel
theorem dX12_looks_91 : decode cX12_looks 91 = .ok (.istore 4, 2) := by decide +kernel
theorem dX12_looks_93 : decode cX12_looks 93 = .ok (.iload 4, 2) := by decide +kernel
theorem dX12_looks_95 : decode cX12_looks 95 = .ok (.bipush 80, 2) := by decide +kernel
theorem dX12_looks_97 : decode cX12_looks 97 = .ok (.if_icmp .ge 32, 3) := by decide +kernel
theorem dX12_looks_100 : decode cX12_looks 100 = .ok (.aload_n 0, 1) := by decide +kernel
theorem dX12_looks_101 : decode cX12_looks 101 = .ok (.getfield 9, 3) := by decide +kernel
theorem dX12_looks_104 : decode cX12_looks 104 = .ok (.iload_n 1, 1) := by decide +kernel
theorem dX12_looks_105 : decode cX12_looks 105 = .ok (.bipush 84, 2) := by decide +kernel
theorem dX12_looks_107 : decode cX12_looks 107 = .ok (.iadd, 1) := by decide +kernel
theorem dX12_looks_108 : decode cX12_looks 108 = .ok (.iload 4, 2) := by decide +kernel
theorem dX12_looks_110 : decode cX12_looks 110 = .ok (.iadd, 1) := by decide +kernel
theorem dX12_looks_111 : decode cX12_looks 111 = .ok (.aload_n 0, 1) := by decide +kernel
theorem dX12_looks_112 : decode cX12_looks 112 = .ok (.getfield 9, 3) := by decide +kernel
theorem dX12_looks_115 : decode cX12_looks 115 = .ok (.iload_n 1, 1) := by decide +kernel
theorem dX12_looks_116 : decode cX12_looks 116 = .ok (.iconst 4, 1) := by decide +kernel
theorem dX12_looks_117 : decode cX12_looks 117 = .ok (.iadd, 1) := by decide +kernel
theorem dX12_looks_118 : decode cX12_looks 118 = .ok (.iload 4, 2) := by decide +kernel
theorem dX12_looks_120 : decode cX12_looks 120 = .ok (.iadd, 1) := by decide +kernel
theorem dX12_looks_121 : decode cX12_looks 121 = .ok (.iaload, 1) := by decide +kernel
theorem dX12_looks_122 : decode cX12_looks 122 = .ok (.iastore, 1) := by decide +kernel
theorem dX12_looks_123 : decode cX12_looks 123 = .ok (.iinc 4 1, 3) := by decide +kernel
theorem dX12_looks_126 : decode cX12_looks 126 = .ok (.goto (-33), 3) := by decide +kernel
theorem dX12_looks_129 : decode cX12_looks 129 = .ok (.return_, 1) := by decide +kernel
theorem dX12_looks_130 : decode cX12_looks 130 = .ok (.iload_n 2, 1) := by decide +kernel
theorem dX12_looks_131 : decode cX12_looks 131 = .ok (.aload_n 0, 1) := by decide +kernel
theorem dX12_looks_132 : decode cX12_looks 132 = .ok (.getfield 9, 3) := by decide +kernel
theorem dX12_looks_135 : decode cX12_looks 135 = .ok (.bipush 30, 2) := by decide +kernel
theorem dX12_looks_137 : decode cX12_looks 137 = .ok (.iaload, 1) := by decide +kernel
theorem dX12_looks_138 : decode cX12_looks 138 = .ok (.if_icmp .ge 7, 3) := by decide +kernel
theorem dX12_looks_141 : decode cX12_looks 141 = .ok (.iconst 1, 1) := by decide +kernel
theorem dX12_looks_142 : decode cX12_looks 142 = .ok (.goto 4, 3) := by decide +kernel
theorem dX12_looks_145 : decode cX12_looks 145 = .ok (.iconst 0, 1) := by decide +kernel
theorem dX12_looks_146 : decode cX12_looks 146 = .ok (.istore 4, 2) := by decide +kernel
theorem dX12_looks_148 : decode cX12_looks 148 = .ok (.iload 4, 2) := by decide +kernel
theorem dX12_looks_150 : decode cX12_looks 150 = .ok (.ifCond .ne 20, 3) := by decide +kernel
theorem dX12_looks_153 : decode cX12_looks 153 = .ok (.aload_n 0, 1) := by decide +kernel
theorem dX12_looks_154 : decode cX12_looks 154 = .ok (.invokevirtual 240, 3) := by decide +kernel
theorem dX12_looks_157 : decode cX12_looks 157 = .ok (.bipush 12, 2) := by decide +kernel
theorem dX12_looks_159 : decode cX12_looks 159 = .ok (.if_icmp .ne 11, 3) := by decide +kernel
theorem dX12_looks_162 : decode cX12_looks 162 = .ok (.aload_n 0, 1) := by decide +kernel
theorem dX12_looks_163 : decode cX12_looks 163 = .ok (.iload_n 2, 1) := by decide +kernel
theorem dX12_looks_164 : decode cX12_looks 164 = .ok (.invokevirtual 243, 3) := by decide +kernel
theorem dX12_looks_167 : decode cX12_looks 167 = .ok (.goto 90, 3) := by decide +kernel
theorem dX12_looks_170 : decode cX12_looks 170 = .ok (.aload_n 0, 1) := by decide +kernel
theorem dX12_looks_171 : decode cX12_looks 171 = .ok (.getfield 9, 3) := by decide +kernel
theorem dX12_looks_174 : decode cX12_looks 174 = .ok (.iload_n 2, 1) := by decide +kernel
theorem dX12_looks_175 : decode cX12_looks 175 = .ok (.invokestatic 220, 3) := by decide +kernel
theorem dX12_looks_178 : decode cX12_looks 178 = .ok (.iconst 0, 1) := by decide +kernel
theorem dX12_looks_179 : decode cX12_looks 179 = .ok (.iadd, 1) := by decide +kernel
theorem dX12_looks_180 : decode cX12_looks 180 = .ok (.iconst 2, 1) := by decide +kernel
theorem dX12_looks_181 : decode cX12_looks 181 = .ok (.iastore, 1) := by decide +kernel
theorem dX12_looks_182 : decode cX12_looks 182 = .ok (.aload_n 0, 1) := by decide +kernel
theorem dX12_looks_183 : decode cX12_looks 183 = .ok (.getfield 9, 3) := by decide +kernel
theorem dX12_looks_186 : decode cX12_looks 186 = .ok (.iload_n 2, 1) := by decide +kernel
theorem dX12_looks_187 : decode cX12_looks 187 = .ok (.invokestatic 220, 3) := by decide +kernel
theorem dX12_looks_190 : decode cX12_looks 190 = .ok (.iconst 3, 1) := by decide +kernel
theorem dX12_looks_191 : decode cX12_looks 191 = .ok (.iadd, 1) := by decide +kernel
theorem dX12_looks_192 : decode cX12_looks 192 = .ok (.aload_n 0, 1) := by decide +kernel
theorem dX12_looks_193 : decode cX12_looks 193 = .ok (.getfield 9, 3) := by decide +kernel
theorem dX12_looks_196 : decode cX12_looks 196 = .ok (.bipush 25, 2) := by decide +kernel
theorem dX12_looks_198 : decode cX12_looks 198 = .ok (.iaload, 1) := by decide +kernel
theorem dX12_looks_199 : decode cX12_looks 199 = .ok (.iastore, 1) := by decide +kernel
theorem dX12_looks_200 : decode cX12_looks 200 = .ok (.aload_n 0, 1) := by decide +kernel
theorem dX12_looks_201 : decode cX12_looks 201 = .ok (.getfield 9, 3) := by decide +kernel
theorem dX12_looks_204 : decode cX12_looks 204 = .ok (.bipush 28, 2) := by decide +kernel
theorem dX12_looks_206 : decode cX12_looks 206 = .ok (.dup2, 1) := by decide +kernel
theorem dX12_looks_207 : decode cX12_looks 207 = .ok (.iaload, 1) := by decide +kernel
theorem dX12_looks_208 : decode cX12_looks 208 = .ok (.iconst 1, 1) := by decide +kernel
theorem dX12_looks_209 : decode cX12_looks 209 = .ok (.iadd, 1) := by decide +kernel
theorem dX12_looks_210 : decode cX12_looks 210 = .ok (.iastore, 1) := by decide +kernel
theorem dX12_looks_211 : decode cX12_looks 211 = .ok (.aload_n 0, 1) := by decide +kernel
theorem dX12_looks_212 : decode cX12_looks 212 = .ok (.getfield 9, 3) := by decide +kernel
theorem dX12_looks_215 : decode cX12_looks 215 = .ok (.sipush 3369, 3) := by decide +kernel
theorem dX12_looks_218 : decode cX12_looks 218 = .ok (.aload_n 0, 1) := by decide +kernel
theorem dX12_looks_219 : decode cX12_looks 219 = .ok (.getfield 9, 3) := by decide +kernel
theorem dX12_looks_222 : decode cX12_looks 222 = .ok (.bipush 25, 2) := by decide +kernel
theorem dX12_looks_224 : decode cX12_looks 224 = .ok (.iaload, 1) := by decide +kernel
theorem dX12_looks_225 : decode cX12_looks 225 = .ok (.i2l, 1) := by decide +kernel
theorem dX12_looks_226 : decode cX12_looks 226 = .ok (.ldc2_w 246, 3) := by decide +kernel
theorem dX12_looks_229 : decode cX12_looks 229 = .ok (.iload_n 2, 1) := by decide +kernel
theorem dX12_looks_230 : decode cX12_looks 230 = .ok (.i2l, 1) := by decide +kernel
theorem dX12_looks_231 : decode cX12_looks 231 = .ok (.lmul, 1) := by decide +kernel
theorem dX12_looks_232 : decode cX12_looks 232 = .ok (.lsub, 1) := by decide +kernel
theorem dX12_looks_233 : decode cX12_looks 233 = .ok (.lconst 0, 1) := by decide +kernel
theorem dX12_looks_234 : decode cX12_looks 234 = .ok (.ldc2_w 248, 3) := by decide +kernel
theorem dX12_looks_237 : decode cX12_looks 237 = .ok (.invokestatic 126, 3) := by decide +kernel
theorem dX12_looks_240 : decode cX12_looks 240 = .ok (.iadd, 1) := by decide +kernel
theorem dX12_looks_241 : decode cX12_looks 241 = .ok (.dup2, 1) := by decide +kernel
theorem dX12_looks_242 : decode cX12_looks 242 = .ok (.iaload, 1) := by decide +kernel
theorem dX12_looks_243 : decode cX12_looks 243 = .ok (.iconst 1, 1) := by decide +kernel
theorem dX12_looks_244 : decode cX12_looks 244 = .ok (.iadd, 1) := by decide +kernel
theorem dX12_looks_245 : decode cX12_looks 245 = .ok (.iastore, 1) := by decide +kernel
theorem dX12_looks_246 : decode cX12_looks 246 = .ok (.iload 4, 2) := by decide +kernel
theorem dX12_looks_248 : decode cX12_looks 248 = .ok (.ifCond .ne 9, 3) := by decide +kernel
theorem dX12_looks_251 : decode cX12_looks 251 = .ok (.aload_n 0, 1) := by decide +kernel
theorem dX12_looks_252 : decode cX12_looks 252 = .ok (.iload_n 2, 1) := by decide +kernel
theorem dX12_looks_253 : decode cX12_looks 253 = .ok (.iload_n 3, 1) := by decide +kernel
theorem dX12_looks_254 : decode cX12_looks 254 = .ok (.invokevirtual 250, 3) := by decide +kernel
theorem dX12_looks_257 : decode cX12_looks 257 = .ok (.aload_n 0, 1) := by decide +kernel
theorem dX12_looks_258 : decode cX12_looks 258 = .ok (.invokevirtual 253, 3) := by decide +kernel
theorem dX12_looks_261 : decode cX12_looks 261 = .ok (.return_, 1) := by decide +kernel
theorem dX12_stores_0 : decode cX12_stores 0 = .ok (.iconst 0, 1) := by decide +kernel
theorem dX12_stores_1 : decode cX12_stores 1 = .ok (.istore_n 3, 1) := by decide +kernel
theorem dX12_stores_2 : decode cX12_stores 2 = .ok (.aload_n 0, 1) := by decide +kernel
theorem dX12_stores_3 : decode cX12_stores 3 = .ok (.getfield 9, 3) := by decide +kernel
theorem dX12_stores_6 : decode cX12_stores 6 = .ok (.sipush 2095, 3) := by decide +kernel
theorem dX12_stores_9 : decode cX12_stores 9 = .ok (.bipush 83, 2) := by decide +kernel
theorem dX12_stores_11 : decode cX12_stores 11 = .ok (.iload_n 3, 1) := by decide +kernel
theorem dX12_stores_12 : decode cX12_stores 12 = .ok (.imul, 1) := by decide +kernel
theorem dX12_stores_13 : decode cX12_stores 13 = .ok (.iadd, 1) := by decide +kernel
theorem dX12_stores_14 : decode cX12_stores 14 = .ok (.iaload, 1) := by decide +kernel
theorem dX12_stores_15 : decode cX12_stores 15 = .ok (.aload_n 0, 1) := by decide +kernel
theorem dX12_stores_16 : decode cX12_stores 16 = .ok (.getfield 9, 3) := by decide +kernel
theorem dX12_stores_19 : decode cX12_stores 19 = .ok (.bipush 30, 2) := by decide +kernel
theorem dX12_stores_21 : decode cX12_stores 21 = .ok (.iaload, 1) := by decide +kernel
theorem dX12_stores_22 : decode cX12_stores 22 = .ok (.if_icmp .le 9, 3) := by decide +kernel
theorem dX12_stores_25 : decode cX12_stores 25 = .ok (.iinc 3 1, 3) := by decide +kernel
theorem dX12_stores_28 : decode cX12_stores 28 = .ok (.goto (-26), 3) := by decide +kernel
theorem dX12_stores_31 : decode cX12_stores 31 = .ok (.sipush 2095, 3) := by decide +kernel
theorem dX12_stores_34 : decode cX12_stores 34 = .ok (.bipush 83, 2) := by decide +kernel
theorem dX12_stores_36 : decode cX12_stores 36 = .ok (.iload_n 3, 1) := by decide +kernel
theorem dX12_stores_37 : decode cX12_stores 37 = .ok (.imul, 1) := by decide +kernel
theorem dX12_stores_38 : decode cX12_stores 38 = .ok (.iadd, 1) := by decide +kernel
theorem dX12_stores_39 : decode cX12_stores 39 = .ok (.istore 4, 2) := by decide +kernel
theorem dX12_stores_41 : decode cX12_stores 41 = .ok (.aload_n 0, 1) := by decide +kernel
theorem dX12_stores_42 : decode cX12_stores 42 = .ok (.getfield 9, 3) := by decide +kernel
theorem dX12_stores_45 : decode cX12_stores 45 = .ok (.iload 4, 2) := by decide +kernel
theorem dX12_stores_47 : decode cX12_stores 47 = .ok (.iload_n 1, 1) := by decide +kernel
theorem dX12_stores_48 : decode cX12_stores 48 = .ok (.iconst 1, 1) := by decide +kernel
theorem dX12_stores_49 : decode cX12_stores 49 = .ok (.iadd, 1) := by decide +kernel
theorem dX12_stores_50 : decode cX12_stores 50 = .ok (.iastore, 1) := by decide +kernel
theorem dX12_stores_51 : decode cX12_stores 51 = .ok (.aload_n 0, 1) := by decide +kernel
theorem dX12_stores_52 : decode cX12_stores 52 = .ok (.getfield 9, 3) := by decide +kernel
theorem dX12_stores_55 : decode cX12_stores 55 = .ok (.iload 4, 2) := by decide +kernel
theorem dX12_stores_57 : decode cX12_stores 57 = .ok (.iconst 1, 1) := by decide +kernel
theorem dX12_stores_58 : decode cX12_stores 58 = .ok (.iadd, 1) := by decide +kernel
theorem dX12_stores_59 : decode cX12_stores 59 = .ok (.iload_n 2, 1) := by decide +kernel
theorem dX12_stores_60 : decode cX12_stores 60 = .ok (.iastore, 1) := by decide +kernel
theorem dX12_stores_61 : decode cX12_stores 61 = .ok (.iconst 0, 1) := by decide +kernel
theorem dX12_stores_62 : decode cX12_stores 62 = .ok (.istore 5, 2) := by decide +kernel
theorem dX12_stores_64 : decode cX12_stores 64 = .ok (.iload 5, 2) := by decide +kernel
theorem dX12_stores_66 : decode cX12_stores 66 = .ok (.bipush 80, 2) := by decide +kernel
theorem dX12_stores_68 : decode cX12_stores 68 = .ok (.if_icmp .ge 28, 3) := by decide +kernel
theorem dX12_stores_71 : decode cX12_stores 71 = .ok (.aload_n 0, 1) := by decide +kernel
theorem dX12_stores_72 : decode cX12_stores 72 = .ok (.getfield 9, 3) := by decide +kernel
theorem dX12_stores_75 : decode cX12_stores 75 = .ok (.iload 4, 2) := by decide +kernel
theorem dX12_stores_77 : decode cX12_stores 77 = .ok (.iconst 2, 1) := by decide +kernel
theorem dX12_stores_78 : decode cX12_stores 78 = .ok (.iadd, 1) := by decide +kernel
theorem dX12_stores_79 : decode cX12_stores 79 = .ok (.iload 5, 2) := by decide +kernel
theorem dX12_stores_81 : decode cX12_stores 81 = .ok (.iadd, 1) := by decide +kernel
theorem dX12_stores_82 : decode cX12_stores 82 = .ok (.aload_n 0, 1) := by decide +kernel
theorem dX12_stores_83 : decode cX12_stores 83 = .ok (.getfield 37, 3) := by decide +kernel
theorem dX12_stores_86 : decode cX12_stores 86 = .ok (.iload 5, 2) := by decide +kernel
theorem dX12_stores_88 : decode cX12_stores 88 = .ok (.iaload, 1) := by decide +kernel
theorem dX12_stores_89 : decode cX12_stores 89 = .ok (.iastore, 1) := by decide +kernel
theorem dX12_stores_90 : decode cX12_stores 90 = .ok (.iinc 5 1, 3) := by decide +kernel
theorem dX12_stores_93 : decode cX12_stores 93 = .ok (.goto (-29), 3) := by decide +kernel
theorem dX12_stores_96 : decode cX12_stores 96 = .ok (.return_, 1) := by decide +kernel
theorem dX12_layHeard_0 : decode cX12_layHeard 0 = .ok (.iconst 0, 1) := by decide +kernel
theorem dX12_layHeard_1 : decode cX12_layHeard 1 = .ok (.istore_n 2, 1) := by decide +kernel
theorem dX12_layHeard_2 : decode cX12_layHeard 2 = .ok (.iload_n 2, 1) := by decide +kernel
theorem dX12_layHeard_3 : decode cX12_layHeard 3 = .ok (.sipush 192, 3) := by decide +kernel
theorem dX12_layHeard_6 : decode cX12_layHeard 6 = .ok (.if_icmp .ge 30, 3) := by decide +kernel
theorem dX12_layHeard_9 : decode cX12_layHeard 9 = .ok (.aload_n 0, 1) := by decide +kernel
theorem dX12_layHeard_10 : decode cX12_layHeard 10 = .ok (.getfield 40, 3) := by decide +kernel
theorem dX12_layHeard_13 : decode cX12_layHeard 13 = .ok (.iload_n 2, 1) := by decide +kernel
theorem dX12_layHeard_14 : decode cX12_layHeard 14 = .ok (.aload_n 0, 1) := by decide +kernel
theorem dX12_layHeard_15 : decode cX12_layHeard 15 = .ok (.getfield 9, 3) := by decide +kernel
theorem dX12_layHeard_18 : decode cX12_layHeard 18 = .ok (.bipush 109, 2) := by decide +kernel
theorem dX12_layHeard_20 : decode cX12_layHeard 20 = .ok (.sipush 192, 3) := by decide +kernel
theorem dX12_layHeard_23 : decode cX12_layHeard 23 = .ok (.iload_n 1, 1) := by decide +kernel
theorem dX12_layHeard_24 : decode cX12_layHeard 24 = .ok (.imul, 1) := by decide +kernel
theorem dX12_layHeard_25 : decode cX12_layHeard 25 = .ok (.iadd, 1) := by decide +kernel
theorem dX12_layHeard_26 : decode cX12_layHeard 26 = .ok (.iload_n 2, 1) := by decide +kernel
theorem dX12_layHeard_27 : decode cX12_layHeard 27 = .ok (.iadd, 1) := by decide +kernel
theorem dX12_layHeard_28 : decode cX12_layHeard 28 = .ok (.iaload, 1) := by decide +kernel
theorem dX12_layHeard_29 : decode cX12_layHeard 29 = .ok (.iastore, 1) := by decide +kernel
theorem dX12_layHeard_30 : decode cX12_layHeard 30 = .ok (.iinc 2 1, 3) := by decide +kernel
theorem dX12_layHeard_33 : decode cX12_layHeard 33 = .ok (.goto (-31), 3) := by decide +kernel
theorem dX12_layHeard_36 : decode cX12_layHeard 36 = .ok (.return_, 1) := by decide +kernel
theorem dX12_findLag_0 : decode cX12_findLag 0 = .ok (.aload_n 0, 1) := by decide +kernel
theorem dX12_findLag_1 : decode cX12_findLag 1 = .ok (.iconst 0, 1) := by decide +kernel
theorem dX12_findLag_2 : decode cX12_findLag 2 = .ok (.putfield 256, 3) := by decide +kernel
theorem dX12_findLag_5 : decode cX12_findLag 5 = .ok (.bipush 16, 2) := by decide +kernel
theorem dX12_findLag_7 : decode cX12_findLag 7 = .ok (.istore_n 1, 1) := by decide +kernel
theorem dX12_findLag_8 : decode cX12_findLag 8 = .ok (.iload_n 1, 1) := by decide +kernel
theorem dX12_findLag_9 : decode cX12_findLag 9 = .ok (.bipush 120, 2) := by decide +kernel
theorem dX12_findLag_11 : decode cX12_findLag 11 = .ok (.if_icmp .gt 74, 3) := by decide +kernel
theorem dX12_findLag_14 : decode cX12_findLag 14 = .ok (.iconst 0, 1) := by decide +kernel
theorem dX12_findLag_15 : decode cX12_findLag 15 = .ok (.istore_n 2, 1) := by decide +kernel
theorem dX12_findLag_16 : decode cX12_findLag 16 = .ok (.sipush 160, 3) := by decide +kernel
theorem dX12_findLag_19 : decode cX12_findLag 19 = .ok (.istore_n 3, 1) := by decide +kernel
theorem dX12_findLag_20 : decode cX12_findLag 20 = .ok (.iload_n 3, 1) := by decide +kernel
theorem dX12_findLag_21 : decode cX12_findLag 21 = .ok (.sipush 192, 3) := by decide +kernel
theorem dX12_findLag_24 : decode cX12_findLag 24 = .ok (.if_icmp .ge 30, 3) := by decide +kernel
theorem dX12_findLag_27 : decode cX12_findLag 27 = .ok (.iload_n 2, 1) := by decide +kernel
theorem dX12_findLag_28 : decode cX12_findLag 28 = .ok (.aload_n 0, 1) := by decide +kernel
theorem dX12_findLag_29 : decode cX12_findLag 29 = .ok (.getfield 40, 3) := by decide +kernel
theorem dX12_findLag_32 : decode cX12_findLag 32 = .ok (.iload_n 3, 1) := by decide +kernel
theorem dX12_findLag_33 : decode cX12_findLag 33 = .ok (.iaload, 1) := by decide +kernel
theorem dX12_findLag_34 : decode cX12_findLag 34 = .ok (.aload_n 0, 1) := by decide +kernel
theorem dX12_findLag_35 : decode cX12_findLag 35 = .ok (.getfield 40, 3) := by decide +kernel
theorem dX12_findLag_38 : decode cX12_findLag 38 = .ok (.iload_n 3, 1) := by decide +kernel
theorem dX12_findLag_39 : decode cX12_findLag 39 = .ok (.iload_n 1, 1) := by decide +kernel
theorem dX12_findLag_40 : decode cX12_findLag 40 = .ok (.isub, 1) := by decide +kernel
theorem dX12_findLag_41 : decode cX12_findLag 41 = .ok (.iaload, 1) := by decide +kernel
theorem dX12_findLag_42 : decode cX12_findLag 42 = .ok (.isub, 1) := by decide +kernel
theorem dX12_findLag_43 : decode cX12_findLag 43 = .ok (.invokestatic 173, 3) := by decide +kernel
theorem dX12_findLag_46 : decode cX12_findLag 46 = .ok (.iadd, 1) := by decide +kernel
theorem dX12_findLag_47 : decode cX12_findLag 47 = .ok (.istore_n 2, 1) := by decide +kernel
theorem dX12_findLag_48 : decode cX12_findLag 48 = .ok (.iinc 3 1, 3) := by decide +kernel
theorem dX12_findLag_51 : decode cX12_findLag 51 = .ok (.goto (-31), 3) := by decide +kernel
theorem dX12_findLag_54 : decode cX12_findLag 54 = .ok (.aload_n 0, 1) := by decide +kernel
theorem dX12_findLag_55 : decode cX12_findLag 55 = .ok (.getfield 256, 3) := by decide +kernel
theorem dX12_findLag_58 : decode cX12_findLag 58 = .ok (.ifCond .eq 11, 3) := by decide +kernel
theorem dX12_findLag_61 : decode cX12_findLag 61 = .ok (.iload_n 2, 1) := by decide +kernel
theorem dX12_findLag_62 : decode cX12_findLag 62 = .ok (.aload_n 0, 1) := by decide +kernel
theorem dX12_findLag_63 : decode cX12_findLag 63 = .ok (.getfield 259, 3) := by decide +kernel
theorem dX12_findLag_66 : decode cX12_findLag 66 = .ok (.if_icmp .ge 13, 3) := by decide +kernel
theorem dX12_findLag_69 : decode cX12_findLag 69 = .ok (.aload_n 0, 1) := by decide +kernel
theorem dX12_findLag_70 : decode cX12_findLag 70 = .ok (.iload_n 1, 1) := by decide +kernel
theorem dX12_findLag_71 : decode cX12_findLag 71 = .ok (.putfield 256, 3) := by decide +kernel
theorem dX12_findLag_74 : decode cX12_findLag 74 = .ok (.aload_n 0, 1) := by decide +kernel
theorem dX12_findLag_75 : decode cX12_findLag 75 = .ok (.iload_n 2, 1) := by decide +kernel
theorem dX12_findLag_76 : decode cX12_findLag 76 = .ok (.putfield 259, 3) := by decide +kernel
theorem dX12_findLag_79 : decode cX12_findLag 79 = .ok (.iinc 1 1, 3) := by decide +kernel
theorem dX12_findLag_82 : decode cX12_findLag 82 = .ok (.goto (-74), 3) := by decide +kernel
theorem dX12_findLag_85 : decode cX12_findLag 85 = .ok (.return_, 1) := by decide +kernel
theorem dX12_fade_0 : decode cX12_fade 0 = .ok (.aload_n 0, 1) := by decide +kernel
theorem dX12_fade_1 : decode cX12_fade 1 = .ok (.getfield 9, 3) := by decide +kernel
theorem dX12_fade_4 : decode cX12_fade 4 = .ok (.bipush 38, 2) := by decide +kernel
theorem dX12_fade_6 : decode cX12_fade 6 = .ok (.iaload, 1) := by decide +kernel
theorem dX12_fade_7 : decode cX12_fade 7 = .ok (.bipush 8, 2) := by decide +kernel
theorem dX12_fade_9 : decode cX12_fade 9 = .ok (.if_icmp .le 7, 3) := by decide +kernel
theorem dX12_fade_12 : decode cX12_fade 12 = .ok (.iconst 0, 1) := by decide +kernel
theorem dX12_fade_13 : decode cX12_fade 13 = .ok (.goto 13, 3) := by decide +kernel
theorem dX12_fade_16 : decode cX12_fade 16 = .ok (.bipush 8, 2) := by decide +kernel
theorem dX12_fade_18 : decode cX12_fade 18 = .ok (.aload_n 0, 1) := by decide +kernel
theorem dX12_fade_19 : decode cX12_fade 19 = .ok (.getfield 9, 3) := by decide +kernel
theorem dX12_fade_22 : decode cX12_fade 22 = .ok (.bipush 38, 2) := by decide +kernel
theorem dX12_fade_24 : decode cX12_fade 24 = .ok (.iaload, 1) := by decide +kernel
theorem dX12_fade_25 : decode cX12_fade 25 = .ok (.isub, 1) := by decide +kernel
theorem dX12_fade_26 : decode cX12_fade 26 = .ok (.ireturn, 1) := by decide +kernel
theorem dX12_layMade_0 : decode cX12_layMade 0 = .ok (.iconst 0, 1) := by decide +kernel
theorem dX12_layMade_1 : decode cX12_layMade 1 = .ok (.istore_n 1, 1) := by decide +kernel
theorem dX12_layMade_2 : decode cX12_layMade 2 = .ok (.iload_n 1, 1) := by decide +kernel
theorem dX12_layMade_3 : decode cX12_layMade 3 = .ok (.iconst 2, 1) := by decide +kernel
theorem dX12_layMade_4 : decode cX12_layMade 4 = .ok (.if_icmp .ge 85, 3) := by decide +kernel
theorem dX12_layMade_7 : decode cX12_layMade 7 = .ok (.aload_n 0, 1) := by decide +kernel
theorem dX12_layMade_8 : decode cX12_layMade 8 = .ok (.iload_n 1, 1) := by decide +kernel
theorem dX12_layMade_9 : decode cX12_layMade 9 = .ok (.invokevirtual 262, 3) := by decide +kernel
theorem dX12_layMade_12 : decode cX12_layMade 12 = .ok (.aload_n 0, 1) := by decide +kernel
theorem dX12_layMade_13 : decode cX12_layMade 13 = .ok (.invokevirtual 265, 3) := by decide +kernel
theorem dX12_layMade_16 : decode cX12_layMade 16 = .ok (.iconst 0, 1) := by decide +kernel
theorem dX12_layMade_17 : decode cX12_layMade 17 = .ok (.istore_n 2, 1) := by decide +kernel
theorem dX12_layMade_18 : decode cX12_layMade 18 = .ok (.iload_n 2, 1) := by decide +kernel
theorem dX12_layMade_19 : decode cX12_layMade 19 = .ok (.bipush 32, 2) := by decide +kernel
theorem dX12_layMade_21 : decode cX12_layMade 21 = .ok (.if_icmp .ge 62, 3) := by decide +kernel
theorem dX12_layMade_24 : decode cX12_layMade 24 = .ok (.aload_n 0, 1) := by decide +kernel
theorem dX12_layMade_25 : decode cX12_layMade 25 = .ok (.getfield 40, 3) := by decide +kernel
theorem dX12_layMade_28 : decode cX12_layMade 28 = .ok (.sipush 192, 3) := by decide +kernel
theorem dX12_layMade_31 : decode cX12_layMade 31 = .ok (.iload_n 2, 1) := by decide +kernel
theorem dX12_layMade_32 : decode cX12_layMade 32 = .ok (.iadd, 1) := by decide +kernel
theorem dX12_layMade_33 : decode cX12_layMade 33 = .ok (.aload_n 0, 1) := by decide +kernel
theorem dX12_layMade_34 : decode cX12_layMade 34 = .ok (.getfield 40, 3) := by decide +kernel
theorem dX12_layMade_37 : decode cX12_layMade 37 = .ok (.sipush 192, 3) := by decide +kernel
theorem dX12_layMade_40 : decode cX12_layMade 40 = .ok (.iload_n 2, 1) := by decide +kernel
theorem dX12_layMade_41 : decode cX12_layMade 41 = .ok (.iadd, 1) := by decide +kernel
theorem dX12_layMade_42 : decode cX12_layMade 42 = .ok (.aload_n 0, 1) := by decide +kernel
theorem dX12_layMade_43 : decode cX12_layMade 43 = .ok (.getfield 256, 3) := by decide +kernel
theorem dX12_layMade_46 : decode cX12_layMade 46 = .ok (.isub, 1) := by decide +kernel
theorem dX12_layMade_47 : decode cX12_layMade 47 = .ok (.iaload, 1) := by decide +kernel
theorem dX12_layMade_48 : decode cX12_layMade 48 = .ok (.iastore, 1) := by decide +kernel
theorem dX12_layMade_49 : decode cX12_layMade 49 = .ok (.aload_n 0, 1) := by decide +kernel
theorem dX12_layMade_50 : decode cX12_layMade 50 = .ok (.getfield 43, 3) := by decide +kernel
theorem dX12_layMade_53 : decode cX12_layMade 53 = .ok (.bipush 32, 2) := by decide +kernel
theorem dX12_layMade_55 : decode cX12_layMade 55 = .ok (.iload_n 1, 1) := by decide +kernel
theorem dX12_layMade_56 : decode cX12_layMade 56 = .ok (.imul, 1) := by decide +kernel
theorem dX12_layMade_57 : decode cX12_layMade 57 = .ok (.iload_n 2, 1) := by decide +kernel
theorem dX12_layMade_58 : decode cX12_layMade 58 = .ok (.iadd, 1) := by decide +kernel
theorem dX12_layMade_59 : decode cX12_layMade 59 = .ok (.aload_n 0, 1) := by decide +kernel
theorem dX12_layMade_60 : decode cX12_layMade 60 = .ok (.getfield 40, 3) := by decide +kernel
theorem dX12_layMade_63 : decode cX12_layMade 63 = .ok (.sipush 192, 3) := by decide +kernel
theorem dX12_layMade_66 : decode cX12_layMade 66 = .ok (.iload_n 2, 1) := by decide +kernel
theorem dX12_layMade_67 : decode cX12_layMade 67 = .ok (.iadd, 1) := by decide +kernel
theorem dX12_layMade_68 : decode cX12_layMade 68 = .ok (.iaload, 1) := by decide +kernel
theorem dX12_layMade_69 : decode cX12_layMade 69 = .ok (.aload_n 0, 1) := by decide +kernel
theorem dX12_layMade_70 : decode cX12_layMade 70 = .ok (.invokevirtual 268, 3) := by decide +kernel
theorem dX12_layMade_73 : decode cX12_layMade 73 = .ok (.imul, 1) := by decide +kernel
theorem dX12_layMade_74 : decode cX12_layMade 74 = .ok (.iconst 3, 1) := by decide +kernel
theorem dX12_layMade_75 : decode cX12_layMade 75 = .ok (.ishr, 1) := by decide +kernel
theorem dX12_layMade_76 : decode cX12_layMade 76 = .ok (.iastore, 1) := by decide +kernel
theorem dX12_layMade_77 : decode cX12_layMade 77 = .ok (.iinc 2 1, 3) := by decide +kernel
theorem dX12_layMade_80 : decode cX12_layMade 80 = .ok (.goto (-62), 3) := by decide +kernel
theorem dX12_layMade_83 : decode cX12_layMade 83 = .ok (.iinc 1 1, 3) := by decide +kernel
theorem dX12_layMade_86 : decode cX12_layMade 86 = .ok (.goto (-84), 3) := by decide +kernel
theorem dX12_layMade_89 : decode cX12_layMade 89 = .ok (.return_, 1) := by decide +kernel
theorem dX12_keepsHeard_0 : decode cX12_keepsHeard 0 = .ok (.iconst 0, 1) := by decide +kernel
theorem dX12_keepsHeard_1 : decode cX12_keepsHeard 1 = .ok (.istore_n 1, 1) := by decide +kernel
theorem dX12_keepsHeard_2 : decode cX12_keepsHeard 2 = .ok (.iload_n 1, 1) := by decide +kernel
theorem dX12_keepsHeard_3 : decode cX12_keepsHeard 3 = .ok (.iconst 2, 1) := by decide +kernel
theorem dX12_keepsHeard_4 : decode cX12_keepsHeard 4 = .ok (.if_icmp .ge 92, 3) := by decide +kernel
theorem dX12_keepsHeard_7 : decode cX12_keepsHeard 7 = .ok (.bipush 109, 2) := by decide +kernel
theorem dX12_keepsHeard_9 : decode cX12_keepsHeard 9 = .ok (.sipush 192, 3) := by decide +kernel
theorem dX12_keepsHeard_12 : decode cX12_keepsHeard 12 = .ok (.iload_n 1, 1) := by decide +kernel
theorem dX12_keepsHeard_13 : decode cX12_keepsHeard 13 = .ok (.imul, 1) := by decide +kernel
theorem dX12_keepsHeard_14 : decode cX12_keepsHeard 14 = .ok (.iadd, 1) := by decide +kernel
theorem dX12_keepsHeard_15 : decode cX12_keepsHeard 15 = .ok (.istore_n 2, 1) := by decide +kernel
theorem dX12_keepsHeard_16 : decode cX12_keepsHeard 16 = .ok (.iconst 0, 1) := by decide +kernel
theorem dX12_keepsHeard_17 : decode cX12_keepsHeard 17 = .ok (.istore_n 3, 1) := by decide +kernel
theorem dX12_keepsHeard_18 : decode cX12_keepsHeard 18 = .ok (.iload_n 3, 1) := by decide +kernel
theorem dX12_keepsHeard_19 : decode cX12_keepsHeard 19 = .ok (.sipush 160, 3) := by decide +kernel
theorem dX12_keepsHeard_22 : decode cX12_keepsHeard 22 = .ok (.if_icmp .ge 28, 3) := by decide +kernel
theorem dX12_keepsHeard_25 : decode cX12_keepsHeard 25 = .ok (.aload_n 0, 1) := by decide +kernel
theorem dX12_keepsHeard_26 : decode cX12_keepsHeard 26 = .ok (.getfield 9, 3) := by decide +kernel
theorem dX12_keepsHeard_29 : decode cX12_keepsHeard 29 = .ok (.iload_n 2, 1) := by decide +kernel
theorem dX12_keepsHeard_30 : decode cX12_keepsHeard 30 = .ok (.iload_n 3, 1) := by decide +kernel
theorem dX12_keepsHeard_31 : decode cX12_keepsHeard 31 = .ok (.iadd, 1) := by decide +kernel
theorem dX12_keepsHeard_32 : decode cX12_keepsHeard 32 = .ok (.aload_n 0, 1) := by decide +kernel
theorem dX12_keepsHeard_33 : decode cX12_keepsHeard 33 = .ok (.getfield 9, 3) := by decide +kernel
theorem dX12_keepsHeard_36 : decode cX12_keepsHeard 36 = .ok (.iload_n 2, 1) := by decide +kernel
theorem dX12_keepsHeard_37 : decode cX12_keepsHeard 37 = .ok (.iload_n 3, 1) := by decide +kernel
theorem dX12_keepsHeard_38 : decode cX12_keepsHeard 38 = .ok (.iadd, 1) := by decide +kernel
theorem dX12_keepsHeard_39 : decode cX12_keepsHeard 39 = .ok (.bipush 32, 2) := by decide +kernel
theorem dX12_keepsHeard_41 : decode cX12_keepsHeard 41 = .ok (.iadd, 1) := by decide +kernel
theorem dX12_keepsHeard_42 : decode cX12_keepsHeard 42 = .ok (.iaload, 1) := by decide +kernel
theorem dX12_keepsHeard_43 : decode cX12_keepsHeard 43 = .ok (.iastore, 1) := by decide +kernel
theorem dX12_keepsHeard_44 : decode cX12_keepsHeard 44 = .ok (.iinc 3 1, 3) := by decide +kernel
theorem dX12_keepsHeard_47 : decode cX12_keepsHeard 47 = .ok (.goto (-29), 3) := by decide +kernel
theorem dX12_keepsHeard_50 : decode cX12_keepsHeard 50 = .ok (.iconst 0, 1) := by decide +kernel
theorem dX12_keepsHeard_51 : decode cX12_keepsHeard 51 = .ok (.istore_n 3, 1) := by decide +kernel
theorem dX12_keepsHeard_52 : decode cX12_keepsHeard 52 = .ok (.iload_n 3, 1) := by decide +kernel
theorem dX12_keepsHeard_53 : decode cX12_keepsHeard 53 = .ok (.bipush 32, 2) := by decide +kernel
theorem dX12_keepsHeard_55 : decode cX12_keepsHeard 55 = .ok (.if_icmp .ge 35, 3) := by decide +kernel
theorem dX12_keepsHeard_58 : decode cX12_keepsHeard 58 = .ok (.aload_n 0, 1) := by decide +kernel
theorem dX12_keepsHeard_59 : decode cX12_keepsHeard 59 = .ok (.getfield 9, 3) := by decide +kernel
theorem dX12_keepsHeard_62 : decode cX12_keepsHeard 62 = .ok (.iload_n 2, 1) := by decide +kernel
theorem dX12_keepsHeard_63 : decode cX12_keepsHeard 63 = .ok (.sipush 192, 3) := by decide +kernel
theorem dX12_keepsHeard_66 : decode cX12_keepsHeard 66 = .ok (.iadd, 1) := by decide +kernel
theorem dX12_keepsHeard_67 : decode cX12_keepsHeard 67 = .ok (.bipush 32, 2) := by decide +kernel
theorem dX12_keepsHeard_69 : decode cX12_keepsHeard 69 = .ok (.isub, 1) := by decide +kernel
theorem dX12_keepsHeard_70 : decode cX12_keepsHeard 70 = .ok (.iload_n 3, 1) := by decide +kernel
theorem dX12_keepsHeard_71 : decode cX12_keepsHeard 71 = .ok (.iadd, 1) := by decide +kernel
theorem dX12_keepsHeard_72 : decode cX12_keepsHeard 72 = .ok (.aload_n 0, 1) := by decide +kernel
theorem dX12_keepsHeard_73 : decode cX12_keepsHeard 73 = .ok (.getfield 46, 3) := by decide +kernel
theorem dX12_keepsHeard_76 : decode cX12_keepsHeard 76 = .ok (.bipush 32, 2) := by decide +kernel
theorem dX12_keepsHeard_78 : decode cX12_keepsHeard 78 = .ok (.iload_n 1, 1) := by decide +kernel
theorem dX12_keepsHeard_79 : decode cX12_keepsHeard 79 = .ok (.imul, 1) := by decide +kernel
theorem dX12_keepsHeard_80 : decode cX12_keepsHeard 80 = .ok (.iload_n 3, 1) := by decide +kernel
theorem dX12_keepsHeard_81 : decode cX12_keepsHeard 81 = .ok (.iadd, 1) := by decide +kernel
theorem dX12_keepsHeard_82 : decode cX12_keepsHeard 82 = .ok (.iaload, 1) := by decide +kernel
theorem dX12_keepsHeard_83 : decode cX12_keepsHeard 83 = .ok (.iastore, 1) := by decide +kernel
theorem dX12_keepsHeard_84 : decode cX12_keepsHeard 84 = .ok (.iinc 3 1, 3) := by decide +kernel
theorem dX12_keepsHeard_87 : decode cX12_keepsHeard 87 = .ok (.goto (-35), 3) := by decide +kernel
theorem dX12_keepsHeard_90 : decode cX12_keepsHeard 90 = .ok (.iinc 1 1, 3) := by decide +kernel
theorem dX12_keepsHeard_93 : decode cX12_keepsHeard 93 = .ok (.goto (-91), 3) := by decide +kernel
theorem dX12_keepsHeard_96 : decode cX12_keepsHeard 96 = .ok (.return_, 1) := by decide +kernel
theorem dX12_hears_0 : decode cX12_hears 0 = .ok (.bipush 8, 2) := by decide +kernel
theorem dX12_hears_2 : decode cX12_hears 2 = .ok (.iload_n 1, 1) := by decide +kernel
theorem dX12_hears_3 : decode cX12_hears 3 = .ok (.imul, 1) := by decide +kernel
theorem dX12_hears_4 : decode cX12_hears 4 = .ok (.istore_n 2, 1) := by decide +kernel
theorem dX12_hears_5 : decode cX12_hears 5 = .ok (.aload_n 0, 1) := by decide +kernel
theorem dX12_hears_6 : decode cX12_hears 6 = .ok (.bipush 40, 2) := by decide +kernel
theorem dX12_hears_8 : decode cX12_hears 8 = .ok (.putfield 191, 3) := by decide +kernel
theorem dX12_hears_11 : decode cX12_hears 11 = .ok (.iconst 0, 1) := by decide +kernel
theorem dX12_hears_12 : decode cX12_hears 12 = .ok (.istore_n 3, 1) := by decide +kernel
theorem dX12_hears_13 : decode cX12_hears 13 = .ok (.iload_n 3, 1) := by decide +kernel
theorem dX12_hears_14 : decode cX12_hears 14 = .ok (.bipush 16, 2) := by decide +kernel
theorem dX12_hears_16 : decode cX12_hears 16 = .ok (.if_icmp .ge 21, 3) := by decide +kernel
theorem dX12_hears_19 : decode cX12_hears 19 = .ok (.aload_n 0, 1) := by decide +kernel
theorem dX12_hears_20 : decode cX12_hears 20 = .ok (.getfield 31, 3) := by decide +kernel
theorem dX12_hears_23 : decode cX12_hears 23 = .ok (.iload_n 3, 1) := by decide +kernel
theorem dX12_hears_24 : decode cX12_hears 24 = .ok (.aload_n 0, 1) := by decide +kernel
theorem dX12_hears_25 : decode cX12_hears 25 = .ok (.iconst 4, 1) := by decide +kernel
theorem dX12_hears_26 : decode cX12_hears 26 = .ok (.iload_n 2, 1) := by decide +kernel
theorem dX12_hears_27 : decode cX12_hears 27 = .ok (.invokevirtual 271, 3) := by decide +kernel
theorem dX12_hears_30 : decode cX12_hears 30 = .ok (.iastore, 1) := by decide +kernel
theorem dX12_hears_31 : decode cX12_hears 31 = .ok (.iinc 3 1, 3) := by decide +kernel
theorem dX12_hears_34 : decode cX12_hears 34 = .ok (.goto (-21), 3) := by decide +kernel
theorem dX12_hears_37 : decode cX12_hears 37 = .ok (.aload_n 0, 1) := by decide +kernel
theorem dX12_hears_38 : decode cX12_hears 38 = .ok (.aload_n 0, 1) := by decide +kernel
theorem dX12_hears_39 : decode cX12_hears 39 = .ok (.getfield 37, 3) := by decide +kernel
theorem dX12_hears_42 : decode cX12_hears 42 = .ok (.iconst 2, 1) := by decide +kernel
theorem dX12_hears_43 : decode cX12_hears 43 = .ok (.iaload, 1) := by decide +kernel
theorem dX12_hears_44 : decode cX12_hears 44 = .ok (.aload_n 0, 1) := by decide +kernel
theorem dX12_hears_45 : decode cX12_hears 45 = .ok (.getfield 37, 3) := by decide +kernel
theorem dX12_hears_48 : decode cX12_hears 48 = .ok (.iconst 1, 1) := by decide +kernel
theorem dX12_hears_49 : decode cX12_hears 49 = .ok (.iaload, 1) := by decide +kernel
theorem dX12_hears_50 : decode cX12_hears 50 = .ok (.bipush 7, 2) := by decide +kernel
theorem dX12_hears_52 : decode cX12_hears 52 = .ok (.ishr, 1) := by decide +kernel
theorem dX12_hears_53 : decode cX12_hears 53 = .ok (.invokevirtual 198, 3) := by decide +kernel
theorem dX12_hears_56 : decode cX12_hears 56 = .ok (.iconst 0, 1) := by decide +kernel
theorem dX12_hears_57 : decode cX12_hears 57 = .ok (.istore_n 3, 1) := by decide +kernel
theorem dX12_hears_58 : decode cX12_hears 58 = .ok (.iload_n 3, 1) := by decide +kernel
theorem dX12_hears_59 : decode cX12_hears 59 = .ok (.iconst 4, 1) := by decide +kernel
theorem dX12_hears_60 : decode cX12_hears 60 = .ok (.if_icmp .ge 79, 3) := by decide +kernel
theorem dX12_hears_63 : decode cX12_hears 63 = .ok (.iconst 0, 1) := by decide +kernel
theorem dX12_hears_64 : decode cX12_hears 64 = .ok (.istore 4, 2) := by decide +kernel
theorem dX12_hears_66 : decode cX12_hears 66 = .ok (.iload 4, 2) := by decide +kernel
theorem dX12_hears_68 : decode cX12_hears 68 = .ok (.bipush 16, 2) := by decide +kernel
theorem dX12_hears_70 : decode cX12_hears 70 = .ok (.if_icmp .ge 63, 3) := by decide +kernel
theorem dX12_hears_73 : decode cX12_hears 73 = .ok (.aload_n 0, 1) := by decide +kernel
theorem dX12_hears_74 : decode cX12_hears 74 = .ok (.getfield 49, 3) := by decide +kernel
theorem dX12_hears_77 : decode cX12_hears 77 = .ok (.iconst 4, 1) := by decide +kernel
theorem dX12_hears_78 : decode cX12_hears 78 = .ok (.iload 4, 2) := by decide +kernel
theorem dX12_hears_80 : decode cX12_hears 80 = .ok (.imul, 1) := by decide +kernel
theorem dX12_hears_81 : decode cX12_hears 81 = .ok (.iload_n 3, 1) := by decide +kernel
theorem dX12_hears_82 : decode cX12_hears 82 = .ok (.iadd, 1) := by decide +kernel
theorem dX12_hears_83 : decode cX12_hears 83 = .ok (.aload_n 0, 1) := by decide +kernel
theorem dX12_hears_84 : decode cX12_hears 84 = .ok (.getfield 34, 3) := by decide +kernel
theorem dX12_hears_87 : decode cX12_hears 87 = .ok (.iload 4, 2) := by decide +kernel
theorem dX12_hears_89 : decode cX12_hears 89 = .ok (.iaload, 1) := by decide +kernel
theorem dX12_hears_90 : decode cX12_hears 90 = .ok (.ifCond .ne 7, 3) := by decide +kernel
theorem dX12_hears_93 : decode cX12_hears 93 = .ok (.iconst 0, 1) := by decide +kernel
theorem dX12_hears_94 : decode cX12_hears 94 = .ok (.goto 32, 3) := by decide +kernel
theorem dX12_hears_97 : decode cX12_hears 97 = .ok (.aload_n 0, 1) := by decide +kernel
theorem dX12_hears_98 : decode cX12_hears 98 = .ok (.aload_n 0, 1) := by decide +kernel
theorem dX12_hears_99 : decode cX12_hears 99 = .ok (.getfield 34, 3) := by decide +kernel
theorem dX12_hears_102 : decode cX12_hears 102 = .ok (.iload 4, 2) := by decide +kernel
theorem dX12_hears_104 : decode cX12_hears 104 = .ok (.iaload, 1) := by decide +kernel
theorem dX12_hears_105 : decode cX12_hears 105 = .ok (.iload_n 2, 1) := by decide +kernel
theorem dX12_hears_106 : decode cX12_hears 106 = .ok (.invokevirtual 271, 3) := by decide +kernel
theorem dX12_hears_109 : decode cX12_hears 109 = .ok (.aload_n 0, 1) := by decide +kernel
theorem dX12_hears_110 : decode cX12_hears 110 = .ok (.getfield 31, 3) := by decide +kernel
theorem dX12_hears_113 : decode cX12_hears 113 = .ok (.iload 4, 2) := by decide +kernel
theorem dX12_hears_115 : decode cX12_hears 115 = .ok (.iaload, 1) := by decide +kernel
theorem dX12_hears_116 : decode cX12_hears 116 = .ok (.aload_n 0, 1) := by decide +kernel
theorem dX12_hears_117 : decode cX12_hears 117 = .ok (.getfield 34, 3) := by decide +kernel
theorem dX12_hears_120 : decode cX12_hears 120 = .ok (.iload 4, 2) := by decide +kernel
theorem dX12_hears_122 : decode cX12_hears 122 = .ok (.iaload, 1) := by decide +kernel
theorem dX12_hears_123 : decode cX12_hears 123 = .ok (.invokestatic 274, 3) := by decide +kernel
theorem dX12_hears_126 : decode cX12_hears 126 = .ok (.iastore, 1) := by decide +kernel
theorem dX12_hears_127 : decode cX12_hears 127 = .ok (.iinc 4 1, 3) := by decide +kernel
theorem dX12_hears_130 : decode cX12_hears 130 = .ok (.goto (-64), 3) := by decide +kernel
theorem dX12_hears_133 : decode cX12_hears 133 = .ok (.iinc 3 1, 3) := by decide +kernel
theorem dX12_hears_136 : decode cX12_hears 136 = .ok (.goto (-78), 3) := by decide +kernel
theorem dX12_hears_139 : decode cX12_hears 139 = .ok (.iconst 0, 1) := by decide +kernel
theorem dX12_hears_140 : decode cX12_hears 140 = .ok (.istore_n 3, 1) := by decide +kernel
theorem dX12_hears_141 : decode cX12_hears 141 = .ok (.iload_n 3, 1) := by decide +kernel
theorem dX12_hears_142 : decode cX12_hears 142 = .ok (.bipush 8, 2) := by decide +kernel
theorem dX12_hears_144 : decode cX12_hears 144 = .ok (.if_icmp .ge 108, 3) := by decide +kernel
theorem dX12_hears_147 : decode cX12_hears 147 = .ok (.iconst 0, 1) := by decide +kernel
theorem dX12_hears_148 : decode cX12_hears 148 = .ok (.istore 4, 2) := by decide +kernel
theorem dX12_hears_150 : decode cX12_hears 150 = .ok (.iload 4, 2) := by decide +kernel
theorem dX12_hears_152 : decode cX12_hears 152 = .ok (.iconst 4, 1) := by decide +kernel
theorem dX12_hears_153 : decode cX12_hears 153 = .ok (.if_icmp .ge 93, 3) := by decide +kernel
theorem dX12_hears_156 : decode cX12_hears 156 = .ok (.aload_n 0, 1) := by decide +kernel
theorem dX12_hears_157 : decode cX12_hears 157 = .ok (.getfield 37, 3) := by decide +kernel
theorem dX12_hears_160 : decode cX12_hears 160 = .ok (.iconst 4, 1) := by decide +kernel
theorem dX12_hears_161 : decode cX12_hears 161 = .ok (.iaload, 1) := by decide +kernel
theorem dX12_hears_162 : decode cX12_hears 162 = .ok (.iload_n 3, 1) := by decide +kernel
theorem dX12_hears_163 : decode cX12_hears 163 = .ok (.ishr, 1) := by decide +kernel
theorem dX12_hears_164 : decode cX12_hears 164 = .ok (.iconst 1, 1) := by decide +kernel
theorem dX12_hears_165 : decode cX12_hears 165 = .ok (.iand, 1) := by decide +kernel
theorem dX12_hears_166 : decode cX12_hears 166 = .ok (.iconst 1, 1) := by decide +kernel
theorem dX12_hears_167 : decode cX12_hears 167 = .ok (.if_icmp .ne 79, 3) := by decide +kernel
theorem dX12_hears_170 : decode cX12_hears 170 = .ok (.aload_n 0, 1) := by decide +kernel
theorem dX12_hears_171 : decode cX12_hears 171 = .ok (.getfield 49, 3) := by decide +kernel
theorem dX12_hears_174 : decode cX12_hears 174 = .ok (.iconst 0, 1) := by decide +kernel
theorem dX12_hears_175 : decode cX12_hears 175 = .ok (.iload_n 3, 1) := by decide +kernel
theorem dX12_hears_176 : decode cX12_hears 176 = .ok (.iload 4, 2) := by decide +kernel
theorem dX12_hears_178 : decode cX12_hears 178 = .ok (.invokestatic 166, 3) := by decide +kernel
theorem dX12_hears_181 : decode cX12_hears 181 = .ok (.iaload, 1) := by decide +kernel
theorem dX12_hears_182 : decode cX12_hears 182 = .ok (.istore 5, 2) := by decide +kernel
theorem dX12_hears_184 : decode cX12_hears 184 = .ok (.aload_n 0, 1) := by decide +kernel
theorem dX12_hears_185 : decode cX12_hears 185 = .ok (.getfield 49, 3) := by decide +kernel
theorem dX12_hears_188 : decode cX12_hears 188 = .ok (.iconst 1, 1) := by decide +kernel
theorem dX12_hears_189 : decode cX12_hears 189 = .ok (.iload_n 3, 1) := by decide +kernel
theorem dX12_hears_190 : decode cX12_hears 190 = .ok (.iload 4, 2) := by decide +kernel
theorem dX12_hears_192 : decode cX12_hears 192 = .ok (.invokestatic 166, 3) := by decide +kernel
theorem dX12_hears_195 : decode cX12_hears 195 = .ok (.iaload, 1) := by decide +kernel
theorem dX12_hears_196 : decode cX12_hears 196 = .ok (.istore 6, 2) := by decide +kernel
theorem dX12_hears_198 : decode cX12_hears 198 = .ok (.iload 5, 2) := by decide +kernel
theorem dX12_hears_200 : decode cX12_hears 200 = .ok (.iload 6, 2) := by decide +kernel
theorem dX12_hears_202 : decode cX12_hears 202 = .ok (.iconst 1, 1) := by decide +kernel
theorem dX12_hears_203 : decode cX12_hears 203 = .ok (.iadd, 1) := by decide +kernel
theorem dX12_hears_204 : decode cX12_hears 204 = .ok (.iconst 1, 1) := by decide +kernel
theorem dX12_hears_205 : decode cX12_hears 205 = .ok (.ishr, 1) := by decide +kernel
theorem dX12_hears_206 : decode cX12_hears 206 = .ok (.iadd, 1) := by decide +kernel
theorem dX12_hears_207 : decode cX12_hears 207 = .ok (.istore 7, 2) := by decide +kernel
theorem dX12_hears_209 : decode cX12_hears 209 = .ok (.aload_n 0, 1) := by decide +kernel
theorem dX12_hears_210 : decode cX12_hears 210 = .ok (.getfield 49, 3) := by decide +kernel
theorem dX12_hears_213 : decode cX12_hears 213 = .ok (.iconst 0, 1) := by decide +kernel
theorem dX12_hears_214 : decode cX12_hears 214 = .ok (.iload_n 3, 1) := by decide +kernel
theorem dX12_hears_215 : decode cX12_hears 215 = .ok (.iload 4, 2) := by decide +kernel
theorem dX12_hears_217 : decode cX12_hears 217 = .ok (.invokestatic 166, 3) := by decide +kernel
theorem dX12_hears_220 : decode cX12_hears 220 = .ok (.iload 7, 2) := by decide +kernel
theorem dX12_hears_222 : decode cX12_hears 222 = .ok (.iastore, 1) := by decide +kernel
theorem dX12_hears_223 : decode cX12_hears 223 = .ok (.aload_n 0, 1) := by decide +kernel
theorem dX12_hears_224 : decode cX12_hears 224 = .ok (.getfield 49, 3) := by decide +kernel
theorem dX12_hears_227 : decode cX12_hears 227 = .ok (.iconst 1, 1) := by decide +kernel
theorem dX12_hears_228 : decode cX12_hears 228 = .ok (.iload_n 3, 1) := by decide +kernel
theorem dX12_hears_229 : decode cX12_hears 229 = .ok (.iload 4, 2) := by decide +kernel
theorem dX12_hears_231 : decode cX12_hears 231 = .ok (.invokestatic 166, 3) := by decide +kernel
theorem dX12_hears_234 : decode cX12_hears 234 = .ok (.iload 7, 2) := by decide +kernel
theorem dX12_hears_236 : decode cX12_hears 236 = .ok (.iload 6, 2) := by decide +kernel
theorem dX12_hears_238 : decode cX12_hears 238 = .ok (.isub, 1) := by decide +kernel
theorem dX12_hears_239 : decode cX12_hears 239 = .ok (.iastore, 1) := by decide +kernel
theorem dX12_hears_240 : decode cX12_hears 240 = .ok (.iinc 4 1, 3) := by decide +kernel
theorem dX12_hears_243 : decode cX12_hears 243 = .ok (.goto (-93), 3) := by decide +kernel
theorem dX12_hears_246 : decode cX12_hears 246 = .ok (.iinc 3 1, 3) := by decide +kernel
theorem dX12_hears_249 : decode cX12_hears 249 = .ok (.goto (-108), 3) := by decide +kernel
theorem dX12_hears_252 : decode cX12_hears 252 = .ok (.iconst 0, 1) := by decide +kernel
theorem dX12_hears_253 : decode cX12_hears 253 = .ok (.istore_n 3, 1) := by decide +kernel
theorem dX12_hears_254 : decode cX12_hears 254 = .ok (.iload_n 3, 1) := by decide +kernel
theorem dX12_hears_255 : decode cX12_hears 255 = .ok (.iconst 2, 1) := by decide +kernel
theorem dX12_hears_256 : decode cX12_hears 256 = .ok (.if_icmp .ge 126, 3) := by decide +kernel
theorem dX12_hears_259 : decode cX12_hears 259 = .ok (.iconst 0, 1) := by decide +kernel
theorem dX12_hears_260 : decode cX12_hears 260 = .ok (.istore 4, 2) := by decide +kernel
theorem dX12_hears_262 : decode cX12_hears 262 = .ok (.iload 4, 2) := by decide +kernel
theorem dX12_hears_264 : decode cX12_hears 264 = .ok (.iconst 4, 1) := by decide +kernel
theorem dX12_hears_265 : decode cX12_hears 265 = .ok (.if_icmp .ge 111, 3) := by decide +kernel
theorem dX12_hears_268 : decode cX12_hears 268 = .ok (.iconst 0, 1) := by decide +kernel
theorem dX12_hears_269 : decode cX12_hears 269 = .ok (.istore 5, 2) := by decide +kernel
theorem dX12_hears_271 : decode cX12_hears 271 = .ok (.iload 5, 2) := by decide +kernel
theorem dX12_hears_273 : decode cX12_hears 273 = .ok (.bipush 8, 2) := by decide +kernel
theorem dX12_hears_275 : decode cX12_hears 275 = .ok (.if_icmp .ge 29, 3) := by decide +kernel
theorem dX12_hears_278 : decode cX12_hears 278 = .ok (.aload_n 0, 1) := by decide +kernel
theorem dX12_hears_279 : decode cX12_hears 279 = .ok (.getfield 25, 3) := by decide +kernel
theorem dX12_hears_282 : decode cX12_hears 282 = .ok (.iload 5, 2) := by decide +kernel
theorem dX12_hears_284 : decode cX12_hears 284 = .ok (.aload_n 0, 1) := by decide +kernel
theorem dX12_hears_285 : decode cX12_hears 285 = .ok (.getfield 49, 3) := by decide +kernel
theorem dX12_hears_288 : decode cX12_hears 288 = .ok (.iload_n 3, 1) := by decide +kernel
theorem dX12_hears_289 : decode cX12_hears 289 = .ok (.iload 5, 2) := by decide +kernel
theorem dX12_hears_291 : decode cX12_hears 291 = .ok (.iload 4, 2) := by decide +kernel
theorem dX12_hears_293 : decode cX12_hears 293 = .ok (.invokestatic 166, 3) := by decide +kernel
theorem dX12_hears_296 : decode cX12_hears 296 = .ok (.iaload, 1) := by decide +kernel
theorem dX12_hears_297 : decode cX12_hears 297 = .ok (.iastore, 1) := by decide +kernel
theorem dX12_hears_298 : decode cX12_hears 298 = .ok (.iinc 5 1, 3) := by decide +kernel
theorem dX12_hears_301 : decode cX12_hears 301 = .ok (.goto (-30), 3) := by decide +kernel
theorem dX12_hears_304 : decode cX12_hears 304 = .ok (.aload_n 0, 1) := by decide +kernel
theorem dX12_hears_305 : decode cX12_hears 305 = .ok (.aload_n 0, 1) := by decide +kernel
theorem dX12_hears_306 : decode cX12_hears 306 = .ok (.getfield 9, 3) := by decide +kernel
theorem dX12_hears_309 : decode cX12_hears 309 = .ok (.bipush 81, 2) := by decide +kernel
theorem dX12_hears_311 : decode cX12_hears 311 = .ok (.bipush 14, 2) := by decide +kernel
theorem dX12_hears_313 : decode cX12_hears 313 = .ok (.iload_n 3, 1) := by decide +kernel
theorem dX12_hears_314 : decode cX12_hears 314 = .ok (.imul, 1) := by decide +kernel
theorem dX12_hears_315 : decode cX12_hears 315 = .ok (.iadd, 1) := by decide +kernel
theorem dX12_hears_316 : decode cX12_hears 316 = .ok (.invokevirtual 277, 3) := by decide +kernel
theorem dX12_hears_319 : decode cX12_hears 319 = .ok (.iconst 0, 1) := by decide +kernel
theorem dX12_hears_320 : decode cX12_hears 320 = .ok (.istore 5, 2) := by decide +kernel
theorem dX12_hears_322 : decode cX12_hears 322 = .ok (.iload 5, 2) := by decide +kernel
theorem dX12_hears_324 : decode cX12_hears 324 = .ok (.bipush 8, 2) := by decide +kernel
theorem dX12_hears_326 : decode cX12_hears 326 = .ok (.if_icmp .ge 44, 3) := by decide +kernel
theorem dX12_hears_329 : decode cX12_hears 329 = .ok (.aload_n 0, 1) := by decide +kernel
theorem dX12_hears_330 : decode cX12_hears 330 = .ok (.getfield 46, 3) := by decide +kernel
theorem dX12_hears_333 : decode cX12_hears 333 = .ok (.bipush 32, 2) := by decide +kernel
theorem dX12_hears_335 : decode cX12_hears 335 = .ok (.iload_n 3, 1) := by decide +kernel
theorem dX12_hears_336 : decode cX12_hears 336 = .ok (.imul, 1) := by decide +kernel
theorem dX12_hears_337 : decode cX12_hears 337 = .ok (.bipush 8, 2) := by decide +kernel
theorem dX12_hears_339 : decode cX12_hears 339 = .ok (.iload 4, 2) := by decide +kernel
theorem dX12_hears_341 : decode cX12_hears 341 = .ok (.imul, 1) := by decide +kernel
theorem dX12_hears_342 : decode cX12_hears 342 = .ok (.iadd, 1) := by decide +kernel
theorem dX12_hears_343 : decode cX12_hears 343 = .ok (.iload 5, 2) := by decide +kernel
theorem dX12_hears_345 : decode cX12_hears 345 = .ok (.iadd, 1) := by decide +kernel
theorem dX12_hears_346 : decode cX12_hears 346 = .ok (.aload_n 0, 1) := by decide +kernel
theorem dX12_hears_347 : decode cX12_hears 347 = .ok (.getfield 25, 3) := by decide +kernel
theorem dX12_hears_350 : decode cX12_hears 350 = .ok (.iload 5, 2) := by decide +kernel
theorem dX12_hears_352 : decode cX12_hears 352 = .ok (.iaload, 1) := by decide +kernel
theorem dX12_hears_353 : decode cX12_hears 353 = .ok (.i2l, 1) := by decide +kernel
theorem dX12_hears_354 : decode cX12_hears 354 = .ok (.ldc2_w 122, 3) := by decide +kernel
theorem dX12_hears_357 : decode cX12_hears 357 = .ok (.ldc2_w 124, 3) := by decide +kernel
theorem dX12_hears_360 : decode cX12_hears 360 = .ok (.invokestatic 126, 3) := by decide +kernel
theorem dX12_hears_363 : decode cX12_hears 363 = .ok (.iastore, 1) := by decide +kernel
theorem dX12_hears_364 : decode cX12_hears 364 = .ok (.iinc 5 1, 3) := by decide +kernel
theorem dX12_hears_367 : decode cX12_hears 367 = .ok (.goto (-45), 3) := by decide +kernel
theorem dX12_hears_370 : decode cX12_hears 370 = .ok (.iinc 4 1, 3) := by decide +kernel
theorem dX12_hears_373 : decode cX12_hears 373 = .ok (.goto (-111), 3) := by decide +kernel
theorem dX12_hears_376 : decode cX12_hears 376 = .ok (.iinc 3 1, 3) := by decide +kernel
theorem dX12_hears_379 : decode cX12_hears 379 = .ok (.goto (-125), 3) := by decide +kernel
theorem dX12_hears_382 : decode cX12_hears 382 = .ok (.return_, 1) := by decide +kernel
theorem dX12_blends_0 : decode cX12_blends 0 = .ok (.iconst 0, 1) := by decide +kernel
theorem dX12_blends_1 : decode cX12_blends 1 = .ok (.istore_n 1, 1) := by decide +kernel
theorem dX12_blends_2 : decode cX12_blends 2 = .ok (.iload_n 1, 1) := by decide +kernel
theorem dX12_blends_3 : decode cX12_blends 3 = .ok (.iconst 2, 1) := by decide +kernel
theorem dX12_blends_4 : decode cX12_blends 4 = .ok (.if_icmp .ge 66, 3) := by decide +kernel
theorem dX12_blends_7 : decode cX12_blends 7 = .ok (.iconst 0, 1) := by decide +kernel
theorem dX12_blends_8 : decode cX12_blends 8 = .ok (.istore_n 2, 1) := by decide +kernel
theorem dX12_blends_9 : decode cX12_blends 9 = .ok (.iload_n 2, 1) := by decide +kernel
theorem dX12_blends_10 : decode cX12_blends 10 = .ok (.bipush 8, 2) := by decide +kernel
theorem dX12_blends_12 : decode cX12_blends 12 = .ok (.if_icmp .ge 52, 3) := by decide +kernel
theorem dX12_blends_15 : decode cX12_blends 15 = .ok (.aload_n 0, 1) := by decide +kernel
theorem dX12_blends_16 : decode cX12_blends 16 = .ok (.getfield 46, 3) := by decide +kernel
theorem dX12_blends_19 : decode cX12_blends 19 = .ok (.bipush 32, 2) := by decide +kernel
theorem dX12_blends_21 : decode cX12_blends 21 = .ok (.iload_n 1, 1) := by decide +kernel
theorem dX12_blends_22 : decode cX12_blends 22 = .ok (.imul, 1) := by decide +kernel
theorem dX12_blends_23 : decode cX12_blends 23 = .ok (.iload_n 2, 1) := by decide +kernel
theorem dX12_blends_24 : decode cX12_blends 24 = .ok (.iadd, 1) := by decide +kernel
theorem dX12_blends_25 : decode cX12_blends 25 = .ok (.bipush 8, 2) := by decide +kernel
theorem dX12_blends_27 : decode cX12_blends 27 = .ok (.iload_n 2, 1) := by decide +kernel
theorem dX12_blends_28 : decode cX12_blends 28 = .ok (.isub, 1) := by decide +kernel
theorem dX12_blends_29 : decode cX12_blends 29 = .ok (.aload_n 0, 1) := by decide +kernel
theorem dX12_blends_30 : decode cX12_blends 30 = .ok (.getfield 43, 3) := by decide +kernel
theorem dX12_blends_33 : decode cX12_blends 33 = .ok (.bipush 32, 2) := by decide +kernel
theorem dX12_blends_35 : decode cX12_blends 35 = .ok (.iload_n 1, 1) := by decide +kernel
theorem dX12_blends_36 : decode cX12_blends 36 = .ok (.imul, 1) := by decide +kernel
theorem dX12_blends_37 : decode cX12_blends 37 = .ok (.iload_n 2, 1) := by decide +kernel
theorem dX12_blends_38 : decode cX12_blends 38 = .ok (.iadd, 1) := by decide +kernel
theorem dX12_blends_39 : decode cX12_blends 39 = .ok (.iaload, 1) := by decide +kernel
theorem dX12_blends_40 : decode cX12_blends 40 = .ok (.imul, 1) := by decide +kernel
theorem dX12_blends_41 : decode cX12_blends 41 = .ok (.iload_n 2, 1) := by decide +kernel
theorem dX12_blends_42 : decode cX12_blends 42 = .ok (.aload_n 0, 1) := by decide +kernel
theorem dX12_blends_43 : decode cX12_blends 43 = .ok (.getfield 46, 3) := by decide +kernel
theorem dX12_blends_46 : decode cX12_blends 46 = .ok (.bipush 32, 2) := by decide +kernel
theorem dX12_blends_48 : decode cX12_blends 48 = .ok (.iload_n 1, 1) := by decide +kernel
theorem dX12_blends_49 : decode cX12_blends 49 = .ok (.imul, 1) := by decide +kernel
theorem dX12_blends_50 : decode cX12_blends 50 = .ok (.iload_n 2, 1) := by decide +kernel
theorem dX12_blends_51 : decode cX12_blends 51 = .ok (.iadd, 1) := by decide +kernel
theorem dX12_blends_52 : decode cX12_blends 52 = .ok (.iaload, 1) := by decide +kernel
theorem dX12_blends_53 : decode cX12_blends 53 = .ok (.imul, 1) := by decide +kernel
theorem dX12_blends_54 : decode cX12_blends 54 = .ok (.iadd, 1) := by decide +kernel
theorem dX12_blends_55 : decode cX12_blends 55 = .ok (.iconst 3, 1) := by decide +kernel
theorem dX12_blends_56 : decode cX12_blends 56 = .ok (.ishr, 1) := by decide +kernel
theorem dX12_blends_57 : decode cX12_blends 57 = .ok (.iastore, 1) := by decide +kernel
theorem dX12_blends_58 : decode cX12_blends 58 = .ok (.iinc 2 1, 3) := by decide +kernel
theorem dX12_blends_61 : decode cX12_blends 61 = .ok (.goto (-52), 3) := by decide +kernel
theorem dX12_blends_64 : decode cX12_blends 64 = .ok (.iinc 1 1, 3) := by decide +kernel
theorem dX12_blends_67 : decode cX12_blends 67 = .ok (.goto (-65), 3) := by decide +kernel
theorem dX12_blends_70 : decode cX12_blends 70 = .ok (.return_, 1) := by decide +kernel
theorem dX12_storeOf_0 : decode cX12_storeOf 0 = .ok (.iconst (-1), 1) := by decide +kernel
theorem dX12_storeOf_1 : decode cX12_storeOf 1 = .ok (.istore_n 2, 1) := by decide +kernel
theorem dX12_storeOf_2 : decode cX12_storeOf 2 = .ok (.iconst 0, 1) := by decide +kernel
theorem dX12_storeOf_3 : decode cX12_storeOf 3 = .ok (.istore_n 3, 1) := by decide +kernel
theorem dX12_storeOf_4 : decode cX12_storeOf 4 = .ok (.iload_n 3, 1) := by decide +kernel
theorem dX12_storeOf_5 : decode cX12_storeOf 5 = .ok (.bipush 14, 2) := by decide +kernel
theorem dX12_storeOf_7 : decode cX12_storeOf 7 = .ok (.if_icmp .ge 41, 3) := by decide +kernel
theorem dX12_storeOf_10 : decode cX12_storeOf 10 = .ok (.aload_n 0, 1) := by decide +kernel
theorem dX12_storeOf_11 : decode cX12_storeOf 11 = .ok (.getfield 9, 3) := by decide +kernel
theorem dX12_storeOf_14 : decode cX12_storeOf 14 = .ok (.sipush 2095, 3) := by decide +kernel
theorem dX12_storeOf_17 : decode cX12_storeOf 17 = .ok (.bipush 83, 2) := by decide +kernel
theorem dX12_storeOf_19 : decode cX12_storeOf 19 = .ok (.iload_n 3, 1) := by decide +kernel
theorem dX12_storeOf_20 : decode cX12_storeOf 20 = .ok (.imul, 1) := by decide +kernel
theorem dX12_storeOf_21 : decode cX12_storeOf 21 = .ok (.iadd, 1) := by decide +kernel
theorem dX12_storeOf_22 : decode cX12_storeOf 22 = .ok (.iaload, 1) := by decide +kernel
theorem dX12_storeOf_23 : decode cX12_storeOf 23 = .ok (.iload_n 1, 1) := by decide +kernel
theorem dX12_storeOf_24 : decode cX12_storeOf 24 = .ok (.iconst 1, 1) := by decide +kernel
theorem dX12_storeOf_25 : decode cX12_storeOf 25 = .ok (.iadd, 1) := by decide +kernel
theorem dX12_storeOf_26 : decode cX12_storeOf 26 = .ok (.if_icmp .ne 14, 3) := by decide +kernel
theorem dX12_storeOf_29 : decode cX12_storeOf 29 = .ok (.sipush 2095, 3) := by decide +kernel
theorem dX12_storeOf_32 : decode cX12_storeOf 32 = .ok (.bipush 83, 2) := by decide +kernel
theorem dX12_storeOf_34 : decode cX12_storeOf 34 = .ok (.iload_n 3, 1) := by decide +kernel
theorem dX12_storeOf_35 : decode cX12_storeOf 35 = .ok (.imul, 1) := by decide +kernel
theorem dX12_storeOf_36 : decode cX12_storeOf 36 = .ok (.iadd, 1) := by decide +kernel
theorem dX12_storeOf_37 : decode cX12_storeOf 37 = .ok (.goto 4, 3) := by decide +kernel
theorem dX12_storeOf_40 : decode cX12_storeOf 40 = .ok (.iload_n 2, 1) := by decide +kernel
theorem dX12_storeOf_41 : decode cX12_storeOf 41 = .ok (.istore_n 2, 1) := by decide +kernel
theorem dX12_storeOf_42 : decode cX12_storeOf 42 = .ok (.iinc 3 1, 3) := by decide +kernel
theorem dX12_storeOf_45 : decode cX12_storeOf 45 = .ok (.goto (-41), 3) := by decide +kernel
theorem dX12_storeOf_48 : decode cX12_storeOf 48 = .ok (.iload_n 2, 1) := by decide +kernel
theorem dX12_storeOf_49 : decode cX12_storeOf 49 = .ok (.ireturn, 1) := by decide +kernel
theorem dX12_tellsPlayed_0 : decode cX12_tellsPlayed 0 = .ok (.aload_n 0, 1) := by decide +kernel
theorem dX12_tellsPlayed_1 : decode cX12_tellsPlayed 1 = .ok (.getfield 9, 3) := by decide +kernel
theorem dX12_tellsPlayed_4 : decode cX12_tellsPlayed 4 = .ok (.bipush 52, 2) := by decide +kernel
theorem dX12_tellsPlayed_6 : decode cX12_tellsPlayed 6 = .ok (.iaload, 1) := by decide +kernel
theorem dX12_tellsPlayed_7 : decode cX12_tellsPlayed 7 = .ok (.bipush 16, 2) := by decide +kernel
theorem dX12_tellsPlayed_9 : decode cX12_tellsPlayed 9 = .ok (.if_icmp .ne 61, 3) := by decide +kernel
theorem dX12_tellsPlayed_12 : decode cX12_tellsPlayed 12 = .ok (.aload_n 0, 1) := by decide +kernel
theorem dX12_tellsPlayed_13 : decode cX12_tellsPlayed 13 = .ok (.getfield 9, 3) := by decide +kernel
theorem dX12_tellsPlayed_16 : decode cX12_tellsPlayed 16 = .ok (.bipush 52, 2) := by decide +kernel
theorem dX12_tellsPlayed_18 : decode cX12_tellsPlayed 18 = .ok (.dup2, 1) := by decide +kernel
theorem dX12_tellsPlayed_19 : decode cX12_tellsPlayed 19 = .ok (.iaload, 1) := by decide +kernel
theorem dX12_tellsPlayed_20 : decode cX12_tellsPlayed 20 = .ok (.iconst 1, 1) := by decide +kernel
theorem dX12_tellsPlayed_21 : decode cX12_tellsPlayed 21 = .ok (.isub, 1) := by decide +kernel
theorem dX12_tellsPlayed_22 : decode cX12_tellsPlayed 22 = .ok (.iastore, 1) := by decide +kernel
theorem dX12_tellsPlayed_23 : decode cX12_tellsPlayed 23 = .ok (.sipush 3257, 3) := by decide +kernel
theorem dX12_tellsPlayed_26 : decode cX12_tellsPlayed 26 = .ok (.istore 6, 2) := by decide +kernel
theorem dX12_tellsPlayed_28 : decode cX12_tellsPlayed 28 = .ok (.iload 6, 2) := by decide +kernel
theorem dX12_tellsPlayed_30 : decode cX12_tellsPlayed 30 = .ok (.sipush 3257, 3) := by decide +kernel
theorem dX12_tellsPlayed_33 : decode cX12_tellsPlayed 33 = .ok (.bipush 7, 2) := by decide +kernel
theorem dX12_tellsPlayed_35 : decode cX12_tellsPlayed 35 = .ok (.aload_n 0, 1) := by decide +kernel
theorem dX12_tellsPlayed_36 : decode cX12_tellsPlayed 36 = .ok (.getfield 9, 3) := by decide +kernel
theorem dX12_tellsPlayed_39 : decode cX12_tellsPlayed 39 = .ok (.bipush 52, 2) := by decide +kernel
theorem dX12_tellsPlayed_41 : decode cX12_tellsPlayed 41 = .ok (.iaload, 1) := by decide +kernel
theorem dX12_tellsPlayed_42 : decode cX12_tellsPlayed 42 = .ok (.imul, 1) := by decide +kernel
theorem dX12_tellsPlayed_43 : decode cX12_tellsPlayed 43 = .ok (.iadd, 1) := by decide +kernel
theorem dX12_tellsPlayed_44 : decode cX12_tellsPlayed 44 = .ok (.if_icmp .ge 26, 3) := by decide +kernel
theorem dX12_tellsPlayed_47 : decode cX12_tellsPlayed 47 = .ok (.aload_n 0, 1) := by decide +kernel
theorem dX12_tellsPlayed_48 : decode cX12_tellsPlayed 48 = .ok (.getfield 9, 3) := by decide +kernel
theorem dX12_tellsPlayed_51 : decode cX12_tellsPlayed 51 = .ok (.iload 6, 2) := by decide +kernel
theorem dX12_tellsPlayed_53 : decode cX12_tellsPlayed 53 = .ok (.aload_n 0, 1) := by decide +kernel
theorem dX12_tellsPlayed_54 : decode cX12_tellsPlayed 54 = .ok (.getfield 9, 3) := by decide +kernel
theorem dX12_tellsPlayed_57 : decode cX12_tellsPlayed 57 = .ok (.iload 6, 2) := by decide +kernel
theorem dX12_tellsPlayed_59 : decode cX12_tellsPlayed 59 = .ok (.bipush 7, 2) := by decide +kernel
theorem dX12_tellsPlayed_61 : decode cX12_tellsPlayed 61 = .ok (.iadd, 1) := by decide +kernel
theorem dX12_tellsPlayed_62 : decode cX12_tellsPlayed 62 = .ok (.iaload, 1) := by decide +kernel
theorem dX12_tellsPlayed_63 : decode cX12_tellsPlayed 63 = .ok (.iastore, 1) := by decide +kernel
theorem dX12_tellsPlayed_64 : decode cX12_tellsPlayed 64 = .ok (.iinc 6 1, 3) := by decide +kernel
theorem dX12_tellsPlayed_67 : decode cX12_tellsPlayed 67 = .ok (.goto (-39), 3) := by decide +kernel
theorem dX12_tellsPlayed_70 : decode cX12_tellsPlayed 70 = .ok (.sipush 3257, 3) := by decide +kernel
theorem dX12_tellsPlayed_73 : decode cX12_tellsPlayed 73 = .ok (.bipush 7, 2) := by decide +kernel
theorem dX12_tellsPlayed_75 : decode cX12_tellsPlayed 75 = .ok (.aload_n 0, 1) := by decide +kernel
theorem dX12_tellsPlayed_76 : decode cX12_tellsPlayed 76 = .ok (.getfield 9, 3) := by decide +kernel
theorem dX12_tellsPlayed_79 : decode cX12_tellsPlayed 79 = .ok (.bipush 52, 2) := by decide +kernel
theorem dX12_tellsPlayed_81 : decode cX12_tellsPlayed 81 = .ok (.iaload, 1) := by decide +kernel
theorem dX12_tellsPlayed_82 : decode cX12_tellsPlayed 82 = .ok (.imul, 1) := by decide +kernel
theorem dX12_tellsPlayed_83 : decode cX12_tellsPlayed 83 = .ok (.iadd, 1) := by decide +kernel
theorem dX12_tellsPlayed_84 : decode cX12_tellsPlayed 84 = .ok (.istore 6, 2) := by decide +kernel
theorem dX12_tellsPlayed_86 : decode cX12_tellsPlayed 86 = .ok (.aload_n 0, 1) := by decide +kernel
theorem dX12_tellsPlayed_87 : decode cX12_tellsPlayed 87 = .ok (.getfield 9, 3) := by decide +kernel
theorem dX12_tellsPlayed_90 : decode cX12_tellsPlayed 90 = .ok (.iload 6, 2) := by decide +kernel
theorem dX12_tellsPlayed_92 : decode cX12_tellsPlayed 92 = .ok (.iload_n 1, 1) := by decide +kernel
theorem dX12_tellsPlayed_93 : decode cX12_tellsPlayed 93 = .ok (.iastore, 1) := by decide +kernel
theorem dX12_tellsPlayed_94 : decode cX12_tellsPlayed 94 = .ok (.aload_n 0, 1) := by decide +kernel
theorem dX12_tellsPlayed_95 : decode cX12_tellsPlayed 95 = .ok (.getfield 9, 3) := by decide +kernel
theorem dX12_tellsPlayed_98 : decode cX12_tellsPlayed 98 = .ok (.iload 6, 2) := by decide +kernel
theorem dX12_tellsPlayed_100 : decode cX12_tellsPlayed 100 = .ok (.iconst 1, 1) := by decide +kernel
theorem dX12_tellsPlayed_101 : decode cX12_tellsPlayed 101 = .ok (.iadd, 1) := by decide +kernel
theorem dX12_tellsPlayed_102 : decode cX12_tellsPlayed 102 = .ok (.iload_n 2, 1) := by decide +kernel
theorem dX12_tellsPlayed_103 : decode cX12_tellsPlayed 103 = .ok (.iastore, 1) := by decide +kernel
theorem dX12_tellsPlayed_104 : decode cX12_tellsPlayed 104 = .ok (.aload_n 0, 1) := by decide +kernel
theorem dX12_tellsPlayed_105 : decode cX12_tellsPlayed 105 = .ok (.getfield 9, 3) := by decide +kernel
theorem dX12_tellsPlayed_108 : decode cX12_tellsPlayed 108 = .ok (.iload 6, 2) := by decide +kernel
theorem dX12_tellsPlayed_110 : decode cX12_tellsPlayed 110 = .ok (.iconst 2, 1) := by decide +kernel
theorem dX12_tellsPlayed_111 : decode cX12_tellsPlayed 111 = .ok (.iadd, 1) := by decide +kernel
theorem dX12_tellsPlayed_112 : decode cX12_tellsPlayed 112 = .ok (.iload_n 3, 1) := by decide +kernel
theorem dX12_tellsPlayed_113 : decode cX12_tellsPlayed 113 = .ok (.iastore, 1) := by decide +kernel
theorem dX12_tellsPlayed_114 : decode cX12_tellsPlayed 114 = .ok (.aload_n 0, 1) := by decide +kernel
theorem dX12_tellsPlayed_115 : decode cX12_tellsPlayed 115 = .ok (.getfield 9, 3) := by decide +kernel
theorem dX12_tellsPlayed_118 : decode cX12_tellsPlayed 118 = .ok (.iload 6, 2) := by decide +kernel
theorem dX12_tellsPlayed_120 : decode cX12_tellsPlayed 120 = .ok (.iconst 3, 1) := by decide +kernel
theorem dX12_tellsPlayed_121 : decode cX12_tellsPlayed 121 = .ok (.iadd, 1) := by decide +kernel
theorem dX12_tellsPlayed_122 : decode cX12_tellsPlayed 122 = .ok (.aload_n 0, 1) := by decide +kernel
theorem dX12_tellsPlayed_123 : decode cX12_tellsPlayed 123 = .ok (.getfield 9, 3) := by decide +kernel
theorem dX12_tellsPlayed_126 : decode cX12_tellsPlayed 126 = .ok (.bipush 33, 2) := by decide +kernel
theorem dX12_tellsPlayed_128 : decode cX12_tellsPlayed 128 = .ok (.iaload, 1) := by decide +kernel
theorem dX12_tellsPlayed_129 : decode cX12_tellsPlayed 129 = .ok (.iastore, 1) := by decide +kernel
theorem dX12_tellsPlayed_130 : decode cX12_tellsPlayed 130 = .ok (.aload_n 0, 1) := by decide +kernel
theorem dX12_tellsPlayed_131 : decode cX12_tellsPlayed 131 = .ok (.getfield 9, 3) := by decide +kernel
theorem dX12_tellsPlayed_134 : decode cX12_tellsPlayed 134 = .ok (.iload 6, 2) := by decide +kernel
theorem dX12_tellsPlayed_136 : decode cX12_tellsPlayed 136 = .ok (.iconst 4, 1) := by decide +kernel
theorem dX12_tellsPlayed_137 : decode cX12_tellsPlayed 137 = .ok (.iadd, 1) := by decide +kernel
theorem dX12_tellsPlayed_138 : decode cX12_tellsPlayed 138 = .ok (.iload 4, 2) := by decide +kernel
theorem dX12_tellsPlayed_140 : decode cX12_tellsPlayed 140 = .ok (.iastore, 1) := by decide +kernel
theorem dX12_tellsPlayed_141 : decode cX12_tellsPlayed 141 = .ok (.aload_n 0, 1) := by decide +kernel
theorem dX12_tellsPlayed_142 : decode cX12_tellsPlayed 142 = .ok (.getfield 9, 3) := by decide +kernel
theorem dX12_tellsPlayed_145 : decode cX12_tellsPlayed 145 = .ok (.iload 6, 2) := by decide +kernel
theorem dX12_tellsPlayed_147 : decode cX12_tellsPlayed 147 = .ok (.iconst 5, 1) := by decide +kernel
theorem dX12_tellsPlayed_148 : decode cX12_tellsPlayed 148 = .ok (.iadd, 1) := by decide +kernel
theorem dX12_tellsPlayed_149 : decode cX12_tellsPlayed 149 = .ok (.iload 5, 2) := by decide +kernel
theorem dX12_tellsPlayed_151 : decode cX12_tellsPlayed 151 = .ok (.iastore, 1) := by decide +kernel
theorem dX12_tellsPlayed_152 : decode cX12_tellsPlayed 152 = .ok (.aload_n 0, 1) := by decide +kernel
theorem dX12_tellsPlayed_153 : decode cX12_tellsPlayed 153 = .ok (.getfield 9, 3) := by decide +kernel
theorem dX12_tellsPlayed_156 : decode cX12_tellsPlayed 156 = .ok (.iload 6, 2) := by decide +kernel
theorem dX12_tellsPlayed_158 : decode cX12_tellsPlayed 158 = .ok (.bipush 6, 2) := by decide +kernel
theorem dX12_tellsPlayed_160 : decode cX12_tellsPlayed 160 = .ok (.iadd, 1) := by decide +kernel
theorem dX12_tellsPlayed_161 : decode cX12_tellsPlayed 161 = .ok (.aload_n 0, 1) := by decide +kernel
theorem dX12_tellsPlayed_162 : decode cX12_tellsPlayed 162 = .ok (.getfield 9, 3) := by decide +kernel
theorem dX12_tellsPlayed_165 : decode cX12_tellsPlayed 165 = .ok (.bipush 25, 2) := by decide +kernel
theorem dX12_tellsPlayed_167 : decode cX12_tellsPlayed 167 = .ok (.iaload, 1) := by decide +kernel
theorem dX12_tellsPlayed_168 : decode cX12_tellsPlayed 168 = .ok (.iastore, 1) := by decide +kernel
theorem dX12_tellsPlayed_169 : decode cX12_tellsPlayed 169 = .ok (.aload_n 0, 1) := by decide +kernel
theorem dX12_tellsPlayed_170 : decode cX12_tellsPlayed 170 = .ok (.getfield 9, 3) := by decide +kernel
theorem dX12_tellsPlayed_173 : decode cX12_tellsPlayed 173 = .ok (.bipush 52, 2) := by decide +kernel
theorem dX12_tellsPlayed_175 : decode cX12_tellsPlayed 175 = .ok (.dup2, 1) := by decide +kernel
theorem dX12_tellsPlayed_176 : decode cX12_tellsPlayed 176 = .ok (.iaload, 1) := by decide +kernel
theorem dX12_tellsPlayed_177 : decode cX12_tellsPlayed 177 = .ok (.iconst 1, 1) := by decide +kernel
theorem dX12_tellsPlayed_178 : decode cX12_tellsPlayed 178 = .ok (.iadd, 1) := by decide +kernel
theorem dX12_tellsPlayed_179 : decode cX12_tellsPlayed 179 = .ok (.iastore, 1) := by decide +kernel
theorem dX12_tellsPlayed_180 : decode cX12_tellsPlayed 180 = .ok (.return_, 1) := by decide +kernel
theorem dX12_plays_0 : decode cX12_plays 0 = .ok (.aload_n 0, 1) := by decide +kernel
theorem dX12_plays_1 : decode cX12_plays 1 = .ok (.getfield 9, 3) := by decide +kernel
theorem dX12_plays_4 : decode cX12_plays 4 = .ok (.bipush 30, 2) := by decide +kernel
theorem dX12_plays_6 : decode cX12_plays 6 = .ok (.iaload, 1) := by decide +kernel
theorem dX12_plays_7 : decode cX12_plays 7 = .ok (.istore_n 1, 1) := by decide +kernel
theorem dX12_plays_8 : decode cX12_plays 8 = .ok (.aload_n 0, 1) := by decide +kernel
theorem dX12_plays_9 : decode cX12_plays 9 = .ok (.invokevirtual 240, 3) := by decide +kernel
theorem dX12_plays_12 : decode cX12_plays 12 = .ok (.istore_n 2, 1) := by decide +kernel
theorem dX12_plays_13 : decode cX12_plays 13 = .ok (.aload_n 0, 1) := by decide +kernel
theorem dX12_plays_14 : decode cX12_plays 14 = .ok (.getfield 9, 3) := by decide +kernel
theorem dX12_plays_17 : decode cX12_plays 17 = .ok (.bipush 35, 2) := by decide +kernel
theorem dX12_plays_19 : decode cX12_plays 19 = .ok (.dup2, 1) := by decide +kernel
theorem dX12_plays_20 : decode cX12_plays 20 = .ok (.iaload, 1) := by decide +kernel
theorem dX12_plays_21 : decode cX12_plays 21 = .ok (.iload_n 2, 1) := by decide +kernel
theorem dX12_plays_22 : decode cX12_plays 22 = .ok (.iadd, 1) := by decide +kernel
theorem dX12_plays_23 : decode cX12_plays 23 = .ok (.iastore, 1) := by decide +kernel
theorem dX12_plays_24 : decode cX12_plays 24 = .ok (.aload_n 0, 1) := by decide +kernel
theorem dX12_plays_25 : decode cX12_plays 25 = .ok (.iload_n 1, 1) := by decide +kernel
theorem dX12_plays_26 : decode cX12_plays 26 = .ok (.invokevirtual 280, 3) := by decide +kernel
theorem dX12_plays_29 : decode cX12_plays 29 = .ok (.istore_n 3, 1) := by decide +kernel
theorem dX12_plays_30 : decode cX12_plays 30 = .ok (.iload_n 3, 1) := by decide +kernel
theorem dX12_plays_31 : decode cX12_plays 31 = .ok (.iconst (-1), 1) := by decide +kernel
theorem dX12_plays_32 : decode cX12_plays 32 = .ok (.if_icmp .eq 7, 3) := by decide +kernel
theorem dX12_plays_35 : decode cX12_plays 35 = .ok (.iconst 1, 1) := by decide +kernel
theorem dX12_plays_36 : decode cX12_plays 36 = .ok (.goto 4, 3) := by decide +kernel
theorem dX12_plays_39 : decode cX12_plays 39 = .ok (.iconst 0, 1) := by decide +kernel
theorem dX12_plays_40 : decode cX12_plays 40 = .ok (.istore 4, 2) := by decide +kernel
theorem dX12_plays_42 : decode cX12_plays 42 = .ok (.iload 4, 2) := by decide +kernel
theorem dX12_plays_44 : decode cX12_plays 44 = .ok (.ifCond .eq 8, 3) := by decide +kernel
theorem dX12_plays_47 : decode cX12_plays 47 = .ok (.bipush 8, 2) := by decide +kernel
theorem dX12_plays_49 : decode cX12_plays 49 = .ok (.goto 7, 3) := by decide +kernel
theorem dX12_plays_52 : decode cX12_plays 52 = .ok (.aload_n 0, 1) := by decide +kernel
theorem dX12_plays_53 : decode cX12_plays 53 = .ok (.invokevirtual 268, 3) := by decide +kernel
theorem dX12_plays_56 : decode cX12_plays 56 = .ok (.istore 5, 2) := by decide +kernel
theorem dX12_plays_58 : decode cX12_plays 58 = .ok (.iload 4, 2) := by decide +kernel
theorem dX12_plays_60 : decode cX12_plays 60 = .ok (.ifCond .eq 13, 3) := by decide +kernel
theorem dX12_plays_63 : decode cX12_plays 63 = .ok (.aload_n 0, 1) := by decide +kernel
theorem dX12_plays_64 : decode cX12_plays 64 = .ok (.getfield 9, 3) := by decide +kernel
theorem dX12_plays_67 : decode cX12_plays 67 = .ok (.bipush 38, 2) := by decide +kernel
theorem dX12_plays_69 : decode cX12_plays 69 = .ok (.iaload, 1) := by decide +kernel
theorem dX12_plays_70 : decode cX12_plays 70 = .ok (.ifCond .le 7, 3) := by decide +kernel
theorem dX12_plays_73 : decode cX12_plays 73 = .ok (.aload_n 0, 1) := by decide +kernel
theorem dX12_plays_74 : decode cX12_plays 74 = .ok (.invokevirtual 283, 3) := by decide +kernel
theorem dX12_plays_77 : decode cX12_plays 77 = .ok (.iload 4, 2) := by decide +kernel
theorem dX12_plays_79 : decode cX12_plays 79 = .ok (.ifCond .eq 85, 3) := by decide +kernel
theorem dX12_plays_82 : decode cX12_plays 82 = .ok (.iconst 0, 1) := by decide +kernel
theorem dX12_plays_83 : decode cX12_plays 83 = .ok (.istore 6, 2) := by decide +kernel
theorem dX12_plays_85 : decode cX12_plays 85 = .ok (.iload 6, 2) := by decide +kernel
theorem dX12_plays_87 : decode cX12_plays 87 = .ok (.bipush 80, 2) := by decide +kernel
theorem dX12_plays_89 : decode cX12_plays 89 = .ok (.if_icmp .ge 27, 3) := by decide +kernel
theorem dX12_plays_92 : decode cX12_plays 92 = .ok (.aload_n 0, 1) := by decide +kernel
theorem dX12_plays_93 : decode cX12_plays 93 = .ok (.getfield 37, 3) := by decide +kernel
theorem dX12_plays_96 : decode cX12_plays 96 = .ok (.iload 6, 2) := by decide +kernel
theorem dX12_plays_98 : decode cX12_plays 98 = .ok (.aload_n 0, 1) := by decide +kernel
theorem dX12_plays_99 : decode cX12_plays 99 = .ok (.getfield 9, 3) := by decide +kernel
theorem dX12_plays_102 : decode cX12_plays 102 = .ok (.iload_n 3, 1) := by decide +kernel
theorem dX12_plays_103 : decode cX12_plays 103 = .ok (.iconst 2, 1) := by decide +kernel
theorem dX12_plays_104 : decode cX12_plays 104 = .ok (.iadd, 1) := by decide +kernel
theorem dX12_plays_105 : decode cX12_plays 105 = .ok (.iload 6, 2) := by decide +kernel
theorem dX12_plays_107 : decode cX12_plays 107 = .ok (.iadd, 1) := by decide +kernel
theorem dX12_plays_108 : decode cX12_plays 108 = .ok (.iaload, 1) := by decide +kernel
theorem dX12_plays_109 : decode cX12_plays 109 = .ok (.iastore, 1) := by decide +kernel
theorem dX12_plays_110 : decode cX12_plays 110 = .ok (.iinc 6 1, 3) := by decide +kernel
theorem dX12_plays_113 : decode cX12_plays 113 = .ok (.goto (-28), 3) := by decide +kernel
theorem dX12_plays_116 : decode cX12_plays 116 = .ok (.aload_n 0, 1) := by decide +kernel
theorem dX12_plays_117 : decode cX12_plays 117 = .ok (.aload_n 0, 1) := by decide +kernel
theorem dX12_plays_118 : decode cX12_plays 118 = .ok (.getfield 9, 3) := by decide +kernel
theorem dX12_plays_121 : decode cX12_plays 121 = .ok (.iload_n 3, 1) := by decide +kernel
theorem dX12_plays_122 : decode cX12_plays 122 = .ok (.iconst 1, 1) := by decide +kernel
theorem dX12_plays_123 : decode cX12_plays 123 = .ok (.iadd, 1) := by decide +kernel
theorem dX12_plays_124 : decode cX12_plays 124 = .ok (.iaload, 1) := by decide +kernel
theorem dX12_plays_125 : decode cX12_plays 125 = .ok (.invokevirtual 286, 3) := by decide +kernel
theorem dX12_plays_128 : decode cX12_plays 128 = .ok (.aload_n 0, 1) := by decide +kernel
theorem dX12_plays_129 : decode cX12_plays 129 = .ok (.getfield 9, 3) := by decide +kernel
theorem dX12_plays_132 : decode cX12_plays 132 = .ok (.bipush 38, 2) := by decide +kernel
theorem dX12_plays_134 : decode cX12_plays 134 = .ok (.iaload, 1) := by decide +kernel
theorem dX12_plays_135 : decode cX12_plays 135 = .ok (.ifCond .le 7, 3) := by decide +kernel
theorem dX12_plays_138 : decode cX12_plays 138 = .ok (.aload_n 0, 1) := by decide +kernel
theorem dX12_plays_139 : decode cX12_plays 139 = .ok (.invokevirtual 289, 3) := by decide +kernel
theorem dX12_plays_142 : decode cX12_plays 142 = .ok (.aload_n 0, 1) := by decide +kernel
theorem dX12_plays_143 : decode cX12_plays 143 = .ok (.getfield 9, 3) := by decide +kernel
theorem dX12_plays_146 : decode cX12_plays 146 = .ok (.bipush 38, 2) := by decide +kernel
theorem dX12_plays_148 : decode cX12_plays 148 = .ok (.iconst 0, 1) := by decide +kernel
theorem dX12_plays_149 : decode cX12_plays 149 = .ok (.iastore, 1) := by decide +kernel
theorem dX12_plays_150 : decode cX12_plays 150 = .ok (.aload_n 0, 1) := by decide +kernel
theorem dX12_plays_151 : decode cX12_plays 151 = .ok (.getfield 9, 3) := by decide +kernel
theorem dX12_plays_154 : decode cX12_plays 154 = .ok (.bipush 36, 2) := by decide +kernel
theorem dX12_plays_156 : decode cX12_plays 156 = .ok (.dup2, 1) := by decide +kernel
theorem dX12_plays_157 : decode cX12_plays 157 = .ok (.iaload, 1) := by decide +kernel
theorem dX12_plays_158 : decode cX12_plays 158 = .ok (.iconst 1, 1) := by decide +kernel
theorem dX12_plays_159 : decode cX12_plays 159 = .ok (.iadd, 1) := by decide +kernel
theorem dX12_plays_160 : decode cX12_plays 160 = .ok (.iastore, 1) := by decide +kernel
theorem dX12_plays_161 : decode cX12_plays 161 = .ok (.goto 96, 3) := by decide +kernel
theorem dX12_plays_164 : decode cX12_plays 164 = .ok (.iconst 0, 1) := by decide +kernel
theorem dX12_plays_165 : decode cX12_plays 165 = .ok (.istore 6, 2) := by decide +kernel
theorem dX12_plays_167 : decode cX12_plays 167 = .ok (.iload 6, 2) := by decide +kernel
theorem dX12_plays_169 : decode cX12_plays 169 = .ok (.bipush 64, 2) := by decide +kernel
theorem dX12_plays_171 : decode cX12_plays 171 = .ok (.if_icmp .ge 23, 3) := by decide +kernel
theorem dX12_plays_174 : decode cX12_plays 174 = .ok (.aload_n 0, 1) := by decide +kernel
theorem dX12_plays_175 : decode cX12_plays 175 = .ok (.getfield 46, 3) := by decide +kernel
theorem dX12_plays_178 : decode cX12_plays 178 = .ok (.iload 6, 2) := by decide +kernel
theorem dX12_plays_180 : decode cX12_plays 180 = .ok (.aload_n 0, 1) := by decide +kernel
theorem dX12_plays_181 : decode cX12_plays 181 = .ok (.getfield 43, 3) := by decide +kernel
theorem dX12_plays_184 : decode cX12_plays 184 = .ok (.iload 6, 2) := by decide +kernel
theorem dX12_plays_186 : decode cX12_plays 186 = .ok (.iaload, 1) := by decide +kernel
theorem dX12_plays_187 : decode cX12_plays 187 = .ok (.iastore, 1) := by decide +kernel
theorem dX12_plays_188 : decode cX12_plays 188 = .ok (.iinc 6 1, 3) := by decide +kernel
theorem dX12_plays_191 : decode cX12_plays 191 = .ok (.goto (-24), 3) := by decide +kernel
theorem dX12_plays_194 : decode cX12_plays 194 = .ok (.aload_n 0, 1) := by decide +kernel
theorem dX12_plays_195 : decode cX12_plays 195 = .ok (.getfield 9, 3) := by decide +kernel
theorem dX12_plays_198 : decode cX12_plays 198 = .ok (.bipush 38, 2) := by decide +kernel
theorem dX12_plays_200 : decode cX12_plays 200 = .ok (.dup2, 1) := by decide +kernel
theorem dX12_plays_201 : decode cX12_plays 201 = .ok (.iaload, 1) := by decide +kernel
theorem dX12_plays_202 : decode cX12_plays 202 = .ok (.iconst 1, 1) := by decide +kernel
theorem dX12_plays_203 : decode cX12_plays 203 = .ok (.iadd, 1) := by decide +kernel
theorem dX12_plays_204 : decode cX12_plays 204 = .ok (.iastore, 1) := by decide +kernel
theorem dX12_plays_205 : decode cX12_plays 205 = .ok (.aload_n 0, 1) := by decide +kernel
theorem dX12_plays_206 : decode cX12_plays 206 = .ok (.getfield 9, 3) := by decide +kernel
theorem dX12_plays_209 : decode cX12_plays 209 = .ok (.bipush 37, 2) := by decide +kernel
theorem dX12_plays_211 : decode cX12_plays 211 = .ok (.dup2, 1) := by decide +kernel
theorem dX12_plays_212 : decode cX12_plays 212 = .ok (.iaload, 1) := by decide +kernel
theorem dX12_plays_213 : decode cX12_plays 213 = .ok (.iconst 1, 1) := by decide +kernel
theorem dX12_plays_214 : decode cX12_plays 214 = .ok (.iadd, 1) := by decide +kernel
theorem dX12_plays_215 : decode cX12_plays 215 = .ok (.iastore, 1) := by decide +kernel
theorem dX12_plays_216 : decode cX12_plays 216 = .ok (.aload_n 0, 1) := by decide +kernel
theorem dX12_plays_217 : decode cX12_plays 217 = .ok (.getfield 9, 3) := by decide +kernel
theorem dX12_plays_220 : decode cX12_plays 220 = .ok (.bipush 39, 2) := by decide +kernel
theorem dX12_plays_222 : decode cX12_plays 222 = .ok (.aload_n 0, 1) := by decide +kernel
theorem dX12_plays_223 : decode cX12_plays 223 = .ok (.getfield 9, 3) := by decide +kernel
theorem dX12_plays_226 : decode cX12_plays 226 = .ok (.bipush 38, 2) := by decide +kernel
theorem dX12_plays_228 : decode cX12_plays 228 = .ok (.iaload, 1) := by decide +kernel
theorem dX12_plays_229 : decode cX12_plays 229 = .ok (.aload_n 0, 1) := by decide +kernel
theorem dX12_plays_230 : decode cX12_plays 230 = .ok (.getfield 9, 3) := by decide +kernel
theorem dX12_plays_233 : decode cX12_plays 233 = .ok (.bipush 39, 2) := by decide +kernel
theorem dX12_plays_235 : decode cX12_plays 235 = .ok (.iaload, 1) := by decide +kernel
theorem dX12_plays_236 : decode cX12_plays 236 = .ok (.if_icmp .le 13, 3) := by decide +kernel
theorem dX12_plays_239 : decode cX12_plays 239 = .ok (.aload_n 0, 1) := by decide +kernel
theorem dX12_plays_240 : decode cX12_plays 240 = .ok (.getfield 9, 3) := by decide +kernel
theorem dX12_plays_243 : decode cX12_plays 243 = .ok (.bipush 38, 2) := by decide +kernel
theorem dX12_plays_245 : decode cX12_plays 245 = .ok (.iaload, 1) := by decide +kernel
theorem dX12_plays_246 : decode cX12_plays 246 = .ok (.goto 10, 3) := by decide +kernel
theorem dX12_plays_249 : decode cX12_plays 249 = .ok (.aload_n 0, 1) := by decide +kernel
theorem dX12_plays_250 : decode cX12_plays 250 = .ok (.getfield 9, 3) := by decide +kernel
theorem dX12_plays_253 : decode cX12_plays 253 = .ok (.bipush 39, 2) := by decide +kernel
theorem dX12_plays_255 : decode cX12_plays 255 = .ok (.iaload, 1) := by decide +kernel
theorem dX12_plays_256 : decode cX12_plays 256 = .ok (.iastore, 1) := by decide +kernel
theorem dX12_plays_257 : decode cX12_plays 257 = .ok (.aload_n 0, 1) := by decide +kernel
theorem dX12_plays_258 : decode cX12_plays 258 = .ok (.invokevirtual 292, 3) := by decide +kernel
theorem dX12_plays_261 : decode cX12_plays 261 = .ok (.iconst 0, 1) := by decide +kernel
theorem dX12_plays_262 : decode cX12_plays 262 = .ok (.istore 6, 2) := by decide +kernel
theorem dX12_plays_264 : decode cX12_plays 264 = .ok (.iconst 0, 1) := by decide +kernel
theorem dX12_plays_265 : decode cX12_plays 265 = .ok (.istore 7, 2) := by decide +kernel
theorem dX12_plays_267 : decode cX12_plays 267 = .ok (.iload 7, 2) := by decide +kernel
theorem dX12_plays_269 : decode cX12_plays 269 = .ok (.bipush 64, 2) := by decide +kernel
theorem dX12_plays_271 : decode cX12_plays 271 = .ok (.if_icmp .ge 84, 3) := by decide +kernel
theorem dX12_plays_274 : decode cX12_plays 274 = .ok (.aload_n 0, 1) := by decide +kernel
theorem dX12_plays_275 : decode cX12_plays 275 = .ok (.getfield 46, 3) := by decide +kernel
theorem dX12_plays_278 : decode cX12_plays 278 = .ok (.iload 7, 2) := by decide +kernel
theorem dX12_plays_280 : decode cX12_plays 280 = .ok (.iaload, 1) := by decide +kernel
theorem dX12_plays_281 : decode cX12_plays 281 = .ok (.aload_n 0, 1) := by decide +kernel
theorem dX12_plays_282 : decode cX12_plays 282 = .ok (.iload 7, 2) := by decide +kernel
theorem dX12_plays_284 : decode cX12_plays 284 = .ok (.bipush 32, 2) := by decide +kernel
theorem dX12_plays_286 : decode cX12_plays 286 = .ok (.idiv, 1) := by decide +kernel
theorem dX12_plays_287 : decode cX12_plays 287 = .ok (.bipush 32, 2) := by decide +kernel
theorem dX12_plays_289 : decode cX12_plays 289 = .ok (.iload_n 1, 1) := by decide +kernel
theorem dX12_plays_290 : decode cX12_plays 290 = .ok (.imul, 1) := by decide +kernel
theorem dX12_plays_291 : decode cX12_plays 291 = .ok (.iload 7, 2) := by decide +kernel
theorem dX12_plays_293 : decode cX12_plays 293 = .ok (.bipush 32, 2) := by decide +kernel
theorem dX12_plays_295 : decode cX12_plays 295 = .ok (.irem, 1) := by decide +kernel
theorem dX12_plays_296 : decode cX12_plays 296 = .ok (.iadd, 1) := by decide +kernel
theorem dX12_plays_297 : decode cX12_plays 297 = .ok (.invokevirtual 132, 3) := by decide +kernel
theorem dX12_plays_300 : decode cX12_plays 300 = .ok (.isub, 1) := by decide +kernel
theorem dX12_plays_301 : decode cX12_plays 301 = .ok (.invokestatic 173, 3) := by decide +kernel
theorem dX12_plays_304 : decode cX12_plays 304 = .ok (.istore 8, 2) := by decide +kernel
theorem dX12_plays_306 : decode cX12_plays 306 = .ok (.iload 6, 2) := by decide +kernel
theorem dX12_plays_308 : decode cX12_plays 308 = .ok (.iload 8, 2) := by decide +kernel
theorem dX12_plays_310 : decode cX12_plays 310 = .ok (.iadd, 1) := by decide +kernel
theorem dX12_plays_311 : decode cX12_plays 311 = .ok (.istore 6, 2) := by decide +kernel
theorem dX12_plays_313 : decode cX12_plays 313 = .ok (.aload_n 0, 1) := by decide +kernel
theorem dX12_plays_314 : decode cX12_plays 314 = .ok (.getfield 9, 3) := by decide +kernel
theorem dX12_plays_317 : decode cX12_plays 317 = .ok (.bipush 41, 2) := by decide +kernel
theorem dX12_plays_319 : decode cX12_plays 319 = .ok (.iload 4, 2) := by decide +kernel
theorem dX12_plays_321 : decode cX12_plays 321 = .ok (.ifCond .eq 20, 3) := by decide +kernel
theorem dX12_plays_324 : decode cX12_plays 324 = .ok (.iload 8, 2) := by decide +kernel
theorem dX12_plays_326 : decode cX12_plays 326 = .ok (.aload_n 0, 1) := by decide +kernel
theorem dX12_plays_327 : decode cX12_plays 327 = .ok (.getfield 9, 3) := by decide +kernel
theorem dX12_plays_330 : decode cX12_plays 330 = .ok (.bipush 41, 2) := by decide +kernel
theorem dX12_plays_332 : decode cX12_plays 332 = .ok (.iaload, 1) := by decide +kernel
theorem dX12_plays_333 : decode cX12_plays 333 = .ok (.if_icmp .le 8, 3) := by decide +kernel
theorem dX12_plays_336 : decode cX12_plays 336 = .ok (.iload 8, 2) := by decide +kernel
theorem dX12_plays_338 : decode cX12_plays 338 = .ok (.goto 10, 3) := by decide +kernel
theorem dX12_plays_341 : decode cX12_plays 341 = .ok (.aload_n 0, 1) := by decide +kernel
theorem dX12_plays_342 : decode cX12_plays 342 = .ok (.getfield 9, 3) := by decide +kernel
theorem dX12_plays_345 : decode cX12_plays 345 = .ok (.bipush 41, 2) := by decide +kernel
theorem dX12_plays_347 : decode cX12_plays 347 = .ok (.iaload, 1) := by decide +kernel
theorem dX12_plays_348 : decode cX12_plays 348 = .ok (.iastore, 1) := by decide +kernel
theorem dX12_plays_349 : decode cX12_plays 349 = .ok (.iinc 7 1, 3) := by decide +kernel
theorem dX12_plays_352 : decode cX12_plays 352 = .ok (.goto (-85), 3) := by decide +kernel
theorem dX12_plays_355 : decode cX12_plays 355 = .ok (.aload_n 0, 1) := by decide +kernel
theorem dX12_plays_356 : decode cX12_plays 356 = .ok (.getfield 9, 3) := by decide +kernel
theorem dX12_plays_359 : decode cX12_plays 359 = .ok (.bipush 40, 2) := by decide +kernel
theorem dX12_plays_361 : decode cX12_plays 361 = .ok (.dup2, 1) := by decide +kernel
theorem dX12_plays_362 : decode cX12_plays 362 = .ok (.iaload, 1) := by decide +kernel
theorem dX12_plays_363 : decode cX12_plays 363 = .ok (.iload 4, 2) := by decide +kernel
theorem dX12_plays_365 : decode cX12_plays 365 = .ok (.ifCond .eq 8, 3) := by decide +kernel
theorem dX12_plays_368 : decode cX12_plays 368 = .ok (.iload 6, 2) := by decide +kernel
theorem dX12_plays_370 : decode cX12_plays 370 = .ok (.goto 4, 3) := by decide +kernel
theorem dX12_plays_373 : decode cX12_plays 373 = .ok (.iconst 0, 1) := by decide +kernel
theorem dX12_plays_374 : decode cX12_plays 374 = .ok (.iadd, 1) := by decide +kernel
theorem dX12_plays_375 : decode cX12_plays 375 = .ok (.iastore, 1) := by decide +kernel
theorem dX12_plays_376 : decode cX12_plays 376 = .ok (.iload_n 1, 1) := by decide +kernel
theorem dX12_plays_377 : decode cX12_plays 377 = .ok (.sipush 2500, 3) := by decide +kernel
theorem dX12_plays_380 : decode cX12_plays 380 = .ok (.if_icmp .ge 24, 3) := by decide +kernel
theorem dX12_plays_383 : decode cX12_plays 383 = .ok (.aload_n 0, 1) := by decide +kernel
theorem dX12_plays_384 : decode cX12_plays 384 = .ok (.getfield 9, 3) := by decide +kernel
theorem dX12_plays_387 : decode cX12_plays 387 = .ok (.iload_n 1, 1) := by decide +kernel
theorem dX12_plays_388 : decode cX12_plays 388 = .ok (.invokestatic 220, 3) := by decide +kernel
theorem dX12_plays_391 : decode cX12_plays 391 = .ok (.iconst 2, 1) := by decide +kernel
theorem dX12_plays_392 : decode cX12_plays 392 = .ok (.iadd, 1) := by decide +kernel
theorem dX12_plays_393 : decode cX12_plays 393 = .ok (.iload 4, 2) := by decide +kernel
theorem dX12_plays_395 : decode cX12_plays 395 = .ok (.ifCond .eq 7, 3) := by decide +kernel
theorem dX12_plays_398 : decode cX12_plays 398 = .ok (.iconst 1, 1) := by decide +kernel
theorem dX12_plays_399 : decode cX12_plays 399 = .ok (.goto 4, 3) := by decide +kernel
theorem dX12_plays_402 : decode cX12_plays 402 = .ok (.iconst 2, 1) := by decide +kernel
theorem dX12_plays_403 : decode cX12_plays 403 = .ok (.iastore, 1) := by decide +kernel
theorem dX12_plays_404 : decode cX12_plays 404 = .ok (.aload_n 0, 1) := by decide +kernel
theorem dX12_plays_405 : decode cX12_plays 405 = .ok (.iload_n 1, 1) := by decide +kernel
theorem dX12_plays_406 : decode cX12_plays 406 = .ok (.iload 4, 2) := by decide +kernel
theorem dX12_plays_408 : decode cX12_plays 408 = .ok (.ifCond .eq 7, 3) := by decide +kernel
theorem dX12_plays_411 : decode cX12_plays 411 = .ok (.iconst 1, 1) := by decide +kernel
theorem dX12_plays_412 : decode cX12_plays 412 = .ok (.goto 4, 3) := by decide +kernel
theorem dX12_plays_415 : decode cX12_plays 415 = .ok (.iconst 2, 1) := by decide +kernel
theorem dX12_plays_416 : decode cX12_plays 416 = .ok (.iload_n 2, 1) := by decide +kernel
theorem dX12_plays_417 : decode cX12_plays 417 = .ok (.iload 6, 2) := by decide +kernel
theorem dX12_plays_419 : decode cX12_plays 419 = .ok (.iload 5, 2) := by decide +kernel
theorem dX12_plays_421 : decode cX12_plays 421 = .ok (.invokevirtual 295, 3) := by decide +kernel
theorem dX12_plays_424 : decode cX12_plays 424 = .ok (.aload_n 0, 1) := by decide +kernel
theorem dX12_plays_425 : decode cX12_plays 425 = .ok (.getfield 9, 3) := by decide +kernel
theorem dX12_plays_428 : decode cX12_plays 428 = .ok (.bipush 30, 2) := by decide +kernel
theorem dX12_plays_430 : decode cX12_plays 430 = .ok (.dup2, 1) := by decide +kernel
theorem dX12_plays_431 : decode cX12_plays 431 = .ok (.iaload, 1) := by decide +kernel
theorem dX12_plays_432 : decode cX12_plays 432 = .ok (.iconst 1, 1) := by decide +kernel
theorem dX12_plays_433 : decode cX12_plays 433 = .ok (.iadd, 1) := by decide +kernel
theorem dX12_plays_434 : decode cX12_plays 434 = .ok (.iastore, 1) := by decide +kernel
theorem dX12_plays_435 : decode cX12_plays 435 = .ok (.aload_n 0, 1) := by decide +kernel
theorem dX12_plays_436 : decode cX12_plays 436 = .ok (.getfield 9, 3) := by decide +kernel
theorem dX12_plays_439 : decode cX12_plays 439 = .ok (.bipush 30, 2) := by decide +kernel
theorem dX12_plays_441 : decode cX12_plays 441 = .ok (.iaload, 1) := by decide +kernel
theorem dX12_plays_442 : decode cX12_plays 442 = .ok (.bipush 8, 2) := by decide +kernel
theorem dX12_plays_444 : decode cX12_plays 444 = .ok (.irem, 1) := by decide +kernel
theorem dX12_plays_445 : decode cX12_plays 445 = .ok (.ifCond .ne 7, 3) := by decide +kernel
theorem dX12_plays_448 : decode cX12_plays 448 = .ok (.aload_n 0, 1) := by decide +kernel
theorem dX12_plays_449 : decode cX12_plays 449 = .ok (.invokevirtual 299, 3) := by decide +kernel
theorem dX12_plays_452 : decode cX12_plays 452 = .ok (.return_, 1) := by decide +kernel
theorem dX12_trims_0 : decode cX12_trims 0 = .ok (.aload_n 0, 1) := by decide +kernel
theorem dX12_trims_1 : decode cX12_trims 1 = .ok (.getfield 9, 3) := by decide +kernel
theorem dX12_trims_4 : decode cX12_trims 4 = .ok (.bipush 35, 2) := by decide +kernel
theorem dX12_trims_6 : decode cX12_trims 6 = .ok (.iaload, 1) := by decide +kernel
theorem dX12_trims_7 : decode cX12_trims 7 = .ok (.bipush 8, 2) := by decide +kernel
theorem dX12_trims_9 : decode cX12_trims 9 = .ok (.aload_n 0, 1) := by decide +kernel
theorem dX12_trims_10 : decode cX12_trims 10 = .ok (.getfield 9, 3) := by decide +kernel
theorem dX12_trims_13 : decode cX12_trims 13 = .ok (.bipush 13, 2) := by decide +kernel
theorem dX12_trims_15 : decode cX12_trims 15 = .ok (.iaload, 1) := by decide +kernel
theorem dX12_trims_16 : decode cX12_trims 16 = .ok (.imul, 1) := by decide +kernel
theorem dX12_trims_17 : decode cX12_trims 17 = .ok (.isub, 1) := by decide +kernel
theorem dX12_trims_18 : decode cX12_trims 18 = .ok (.istore_n 1, 1) := by decide +kernel
theorem dX12_trims_19 : decode cX12_trims 19 = .ok (.aload_n 0, 1) := by decide +kernel
theorem dX12_trims_20 : decode cX12_trims 20 = .ok (.getfield 9, 3) := by decide +kernel
theorem dX12_trims_23 : decode cX12_trims 23 = .ok (.bipush 34, 2) := by decide +kernel
theorem dX12_trims_25 : decode cX12_trims 25 = .ok (.aload_n 0, 1) := by decide +kernel
theorem dX12_trims_26 : decode cX12_trims 26 = .ok (.getfield 9, 3) := by decide +kernel
theorem dX12_trims_29 : decode cX12_trims 29 = .ok (.bipush 34, 2) := by decide +kernel
theorem dX12_trims_31 : decode cX12_trims 31 = .ok (.iaload, 1) := by decide +kernel
theorem dX12_trims_32 : decode cX12_trims 32 = .ok (.iload_n 1, 1) := by decide +kernel
theorem dX12_trims_33 : decode cX12_trims 33 = .ok (.iadd, 1) := by decide +kernel
theorem dX12_trims_34 : decode cX12_trims 34 = .ok (.i2l, 1) := by decide +kernel
theorem dX12_trims_35 : decode cX12_trims 35 = .ok (.ldc2_w 302, 3) := by decide +kernel
theorem dX12_trims_38 : decode cX12_trims 38 = .ok (.ldc2_w 304, 3) := by decide +kernel
theorem dX12_trims_41 : decode cX12_trims 41 = .ok (.invokestatic 126, 3) := by decide +kernel
theorem dX12_trims_44 : decode cX12_trims 44 = .ok (.iastore, 1) := by decide +kernel
theorem dX12_trims_45 : decode cX12_trims 45 = .ok (.aload_n 0, 1) := by decide +kernel
theorem dX12_trims_46 : decode cX12_trims 46 = .ok (.getfield 9, 3) := by decide +kernel
theorem dX12_trims_49 : decode cX12_trims 49 = .ok (.bipush 33, 2) := by decide +kernel
theorem dX12_trims_51 : decode cX12_trims 51 = .ok (.iconst 4, 1) := by decide +kernel
theorem dX12_trims_52 : decode cX12_trims 52 = .ok (.iload_n 1, 1) := by decide +kernel
theorem dX12_trims_53 : decode cX12_trims 53 = .ok (.imul, 1) := by decide +kernel
theorem dX12_trims_54 : decode cX12_trims 54 = .ok (.aload_n 0, 1) := by decide +kernel
theorem dX12_trims_55 : decode cX12_trims 55 = .ok (.getfield 9, 3) := by decide +kernel
theorem dX12_trims_58 : decode cX12_trims 58 = .ok (.bipush 34, 2) := by decide +kernel
theorem dX12_trims_60 : decode cX12_trims 60 = .ok (.iaload, 1) := by decide +kernel
theorem dX12_trims_61 : decode cX12_trims 61 = .ok (.iadd, 1) := by decide +kernel
theorem dX12_trims_62 : decode cX12_trims 62 = .ok (.iconst 3, 1) := by decide +kernel
theorem dX12_trims_63 : decode cX12_trims 63 = .ok (.ishr, 1) := by decide +kernel
theorem dX12_trims_64 : decode cX12_trims 64 = .ok (.i2l, 1) := by decide +kernel
theorem dX12_trims_65 : decode cX12_trims 65 = .ok (.ldc2_w 306, 3) := by decide +kernel
theorem dX12_trims_68 : decode cX12_trims 68 = .ok (.ldc2_w 90, 3) := by decide +kernel
theorem dX12_trims_71 : decode cX12_trims 71 = .ok (.invokestatic 126, 3) := by decide +kernel
theorem dX12_trims_74 : decode cX12_trims 74 = .ok (.iastore, 1) := by decide +kernel
theorem dX12_trims_75 : decode cX12_trims 75 = .ok (.aload_n 0, 1) := by decide +kernel
theorem dX12_trims_76 : decode cX12_trims 76 = .ok (.getfield 9, 3) := by decide +kernel
theorem dX12_trims_79 : decode cX12_trims 79 = .ok (.bipush 35, 2) := by decide +kernel
theorem dX12_trims_81 : decode cX12_trims 81 = .ok (.iconst 0, 1) := by decide +kernel
theorem dX12_trims_82 : decode cX12_trims 82 = .ok (.iastore, 1) := by decide +kernel
