theorem dX8_giveUpFirst_10 : decode cX8_giveUpFirst 10 = .ok (.aload_n 0, 1) := by decide +kernel
theorem dX8_giveUpFirst_11 : decode cX8_giveUpFirst 11 = .ok (.getfield 15, 3) := by decide +kernel
theorem dX8_giveUpFirst_14 : decode cX8_giveUpFirst 14 = .ok (.aload_n 1, 1) := by decide +kernel
theorem dX8_giveUpFirst_15 : decode cX8_giveUpFirst 15 = .ok (.getfield 63, 3) := by decide +kernel
theorem dX8_giveUpFirst_18 : decode cX8_giveUpFirst 18 = .ok (.iconst 3, 1) := by decide +kernel
theorem dX8_giveUpFirst_19 : decode cX8_giveUpFirst 19 = .ok (.invokevirtual 45, 3) := by decide +kernel
theorem dX8_giveUpFirst_22 : decode cX8_giveUpFirst 22 = .ok (.aload_n 0, 1) := by decide +kernel
theorem dX8_giveUpFirst_23 : decode cX8_giveUpFirst 23 = .ok (.getfield 28, 3) := by decide +kernel
theorem dX8_giveUpFirst_26 : decode cX8_giveUpFirst 26 = .ok (.invokevirtual 91, 3) := by decide +kernel
theorem dX8_giveUpFirst_29 : decode cX8_giveUpFirst 29 = .ok (.return_, 1) := by decide +kernel
theorem dX8_isLost_0 : decode cX8_isLost 0 = .ok (.aload_n 0, 1) := by decide +kernel
theorem dX8_isLost_1 : decode cX8_isLost 1 = .ok (.getfield 9, 3) := by decide +kernel
theorem dX8_isLost_4 : decode cX8_isLost 4 = .ok (.bipush 36, 2) := by decide +kernel
theorem dX8_isLost_6 : decode cX8_isLost 6 = .ok (.iaload, 1) := by decide +kernel
theorem dX8_isLost_7 : decode cX8_isLost 7 = .ok (.ifCond .le 16, 3) := by decide +kernel
theorem dX8_isLost_10 : decode cX8_isLost 10 = .ok (.aload_n 0, 1) := by decide +kernel
theorem dX8_isLost_11 : decode cX8_isLost 11 = .ok (.getfield 9, 3) := by decide +kernel
theorem dX8_isLost_14 : decode cX8_isLost 14 = .ok (.bipush 36, 2) := by decide +kernel
theorem dX8_isLost_16 : decode cX8_isLost 16 = .ok (.dup2, 1) := by decide +kernel
theorem dX8_isLost_17 : decode cX8_isLost 17 = .ok (.iaload, 1) := by decide +kernel
theorem dX8_isLost_18 : decode cX8_isLost 18 = .ok (.iconst 1, 1) := by decide +kernel
theorem dX8_isLost_19 : decode cX8_isLost 19 = .ok (.isub, 1) := by decide +kernel
theorem dX8_isLost_20 : decode cX8_isLost 20 = .ok (.iastore, 1) := by decide +kernel
theorem dX8_isLost_21 : decode cX8_isLost 21 = .ok (.iconst 1, 1) := by decide +kernel
theorem dX8_isLost_22 : decode cX8_isLost 22 = .ok (.ireturn, 1) := by decide +kernel
theorem dX8_isLost_23 : decode cX8_isLost 23 = .ok (.aload_n 0, 1) := by decide +kernel
theorem dX8_isLost_24 : decode cX8_isLost 24 = .ok (.invokevirtual 94, 3) := by decide +kernel
theorem dX8_isLost_27 : decode cX8_isLost 27 = .ok (.bipush 100, 2) := by decide +kernel
theorem dX8_isLost_29 : decode cX8_isLost 29 = .ok (.irem, 1) := by decide +kernel
theorem dX8_isLost_30 : decode cX8_isLost 30 = .ok (.aload_n 0, 1) := by decide +kernel
theorem dX8_isLost_31 : decode cX8_isLost 31 = .ok (.getfield 9, 3) := by decide +kernel
theorem dX8_isLost_34 : decode cX8_isLost 34 = .ok (.bipush 25, 2) := by decide +kernel
theorem dX8_isLost_36 : decode cX8_isLost 36 = .ok (.iaload, 1) := by decide +kernel
theorem dX8_isLost_37 : decode cX8_isLost 37 = .ok (.if_icmp .ge 7, 3) := by decide +kernel
theorem dX8_isLost_40 : decode cX8_isLost 40 = .ok (.iconst 1, 1) := by decide +kernel
theorem dX8_isLost_41 : decode cX8_isLost 41 = .ok (.goto 4, 3) := by decide +kernel
theorem dX8_isLost_44 : decode cX8_isLost 44 = .ok (.iconst 0, 1) := by decide +kernel
theorem dX8_isLost_45 : decode cX8_isLost 45 = .ok (.ireturn, 1) := by decide +kernel
theorem dX8_perhapsDamage_0 : decode cX8_perhapsDamage 0 = .ok (.aload_n 0, 1) := by decide +kernel
theorem dX8_perhapsDamage_1 : decode cX8_perhapsDamage 1 = .ok (.getfield 9, 3) := by decide +kernel
theorem dX8_perhapsDamage_4 : decode cX8_perhapsDamage 4 = .ok (.bipush 30, 2) := by decide +kernel
theorem dX8_perhapsDamage_6 : decode cX8_perhapsDamage 6 = .ok (.iaload, 1) := by decide +kernel
theorem dX8_perhapsDamage_7 : decode cX8_perhapsDamage 7 = .ok (.ifCond .le 49, 3) := by decide +kernel
theorem dX8_perhapsDamage_10 : decode cX8_perhapsDamage 10 = .ok (.aload_n 0, 1) := by decide +kernel
theorem dX8_perhapsDamage_11 : decode cX8_perhapsDamage 11 = .ok (.invokevirtual 94, 3) := by decide +kernel
theorem dX8_perhapsDamage_14 : decode cX8_perhapsDamage 14 = .ok (.sipush 1000, 3) := by decide +kernel
theorem dX8_perhapsDamage_17 : decode cX8_perhapsDamage 17 = .ok (.irem, 1) := by decide +kernel
theorem dX8_perhapsDamage_18 : decode cX8_perhapsDamage 18 = .ok (.aload_n 0, 1) := by decide +kernel
theorem dX8_perhapsDamage_19 : decode cX8_perhapsDamage 19 = .ok (.getfield 9, 3) := by decide +kernel
theorem dX8_perhapsDamage_22 : decode cX8_perhapsDamage 22 = .ok (.bipush 30, 2) := by decide +kernel
theorem dX8_perhapsDamage_24 : decode cX8_perhapsDamage 24 = .ok (.iaload, 1) := by decide +kernel
theorem dX8_perhapsDamage_25 : decode cX8_perhapsDamage 25 = .ok (.if_icmp .ge 31, 3) := by decide +kernel
theorem dX8_perhapsDamage_28 : decode cX8_perhapsDamage 28 = .ok (.aload_n 0, 1) := by decide +kernel
theorem dX8_perhapsDamage_29 : decode cX8_perhapsDamage 29 = .ok (.getfield 9, 3) := by decide +kernel
theorem dX8_perhapsDamage_32 : decode cX8_perhapsDamage 32 = .ok (.bipush 33, 2) := by decide +kernel
theorem dX8_perhapsDamage_34 : decode cX8_perhapsDamage 34 = .ok (.dup2, 1) := by decide +kernel
theorem dX8_perhapsDamage_35 : decode cX8_perhapsDamage 35 = .ok (.iaload, 1) := by decide +kernel
theorem dX8_perhapsDamage_36 : decode cX8_perhapsDamage 36 = .ok (.iconst 1, 1) := by decide +kernel
theorem dX8_perhapsDamage_37 : decode cX8_perhapsDamage 37 = .ok (.iadd, 1) := by decide +kernel
theorem dX8_perhapsDamage_38 : decode cX8_perhapsDamage 38 = .ok (.iastore, 1) := by decide +kernel
theorem dX8_perhapsDamage_39 : decode cX8_perhapsDamage 39 = .ok (.aload_n 1, 1) := by decide +kernel
theorem dX8_perhapsDamage_40 : decode cX8_perhapsDamage 40 = .ok (.aload_n 0, 1) := by decide +kernel
theorem dX8_perhapsDamage_41 : decode cX8_perhapsDamage 41 = .ok (.invokevirtual 94, 3) := by decide +kernel
theorem dX8_perhapsDamage_44 : decode cX8_perhapsDamage 44 = .ok (.iconst 1, 1) := by decide +kernel
theorem dX8_perhapsDamage_45 : decode cX8_perhapsDamage 45 = .ok (.aload_n 1, 1) := by decide +kernel
theorem dX8_perhapsDamage_46 : decode cX8_perhapsDamage 46 = .ok (.invokevirtual 97, 3) := by decide +kernel
theorem dX8_perhapsDamage_49 : decode cX8_perhapsDamage 49 = .ok (.invokestatic 100, 3) := by decide +kernel
theorem dX8_perhapsDamage_52 : decode cX8_perhapsDamage 52 = .ok (.irem, 1) := by decide +kernel
theorem dX8_perhapsDamage_53 : decode cX8_perhapsDamage 53 = .ok (.invokevirtual 106, 3) := by decide +kernel
theorem dX8_perhapsDamage_56 : decode cX8_perhapsDamage 56 = .ok (.return_, 1) := by decide +kernel
theorem dX8_draw_0 : decode cX8_draw 0 = .ok (.aload_n 0, 1) := by decide +kernel
theorem dX8_draw_1 : decode cX8_draw 1 = .ok (.getfield 9, 3) := by decide +kernel
theorem dX8_draw_4 : decode cX8_draw 4 = .ok (.bipush 37, 2) := by decide +kernel
theorem dX8_draw_6 : decode cX8_draw 6 = .ok (.sipush 1103, 3) := by decide +kernel
theorem dX8_draw_9 : decode cX8_draw 9 = .ok (.aload_n 0, 1) := by decide +kernel
theorem dX8_draw_10 : decode cX8_draw 10 = .ok (.getfield 9, 3) := by decide +kernel
theorem dX8_draw_13 : decode cX8_draw 13 = .ok (.bipush 37, 2) := by decide +kernel
theorem dX8_draw_15 : decode cX8_draw 15 = .ok (.iaload, 1) := by decide +kernel
theorem dX8_draw_16 : decode cX8_draw 16 = .ok (.imul, 1) := by decide +kernel
theorem dX8_draw_17 : decode cX8_draw 17 = .ok (.sipush 12345, 3) := by decide +kernel
theorem dX8_draw_20 : decode cX8_draw 20 = .ok (.iadd, 1) := by decide +kernel
theorem dX8_draw_21 : decode cX8_draw 21 = .ok (.ldc 109, 2) := by decide +kernel
theorem dX8_draw_23 : decode cX8_draw 23 = .ok (.irem, 1) := by decide +kernel
theorem dX8_draw_24 : decode cX8_draw 24 = .ok (.iastore, 1) := by decide +kernel
theorem dX8_draw_25 : decode cX8_draw 25 = .ok (.aload_n 0, 1) := by decide +kernel
theorem dX8_draw_26 : decode cX8_draw 26 = .ok (.getfield 9, 3) := by decide +kernel
theorem dX8_draw_29 : decode cX8_draw 29 = .ok (.bipush 37, 2) := by decide +kernel
theorem dX8_draw_31 : decode cX8_draw 31 = .ok (.iaload, 1) := by decide +kernel
theorem dX8_draw_32 : decode cX8_draw 32 = .ok (.bipush 16, 2) := by decide +kernel
theorem dX8_draw_34 : decode cX8_draw 34 = .ok (.idiv, 1) := by decide +kernel
theorem dX8_draw_35 : decode cX8_draw 35 = .ok (.ireturn, 1) := by decide +kernel
theorem dX8_endOf_0 : decode cX8_endOf 0 = .ok (.aload_n 1, 1) := by decide +kernel
theorem dX8_endOf_1 : decode cX8_endOf 1 = .ok (.getfield 63, 3) := by decide +kernel
theorem dX8_endOf_4 : decode cX8_endOf 4 = .ok (.aload_n 0, 1) := by decide +kernel
theorem dX8_endOf_5 : decode cX8_endOf 5 = .ok (.getfield 9, 3) := by decide +kernel
theorem dX8_endOf_8 : decode cX8_endOf 8 = .ok (.bipush 7, 2) := by decide +kernel
theorem dX8_endOf_10 : decode cX8_endOf 10 = .ok (.iaload, 1) := by decide +kernel
theorem dX8_endOf_11 : decode cX8_endOf 11 = .ok (.if_icmp .ge 7, 3) := by decide +kernel
theorem dX8_endOf_14 : decode cX8_endOf 14 = .ok (.iconst 1, 1) := by decide +kernel
theorem dX8_endOf_15 : decode cX8_endOf 15 = .ok (.goto 4, 3) := by decide +kernel
theorem dX8_endOf_18 : decode cX8_endOf 18 = .ok (.iconst 0, 1) := by decide +kernel
theorem dX8_endOf_19 : decode cX8_endOf 19 = .ok (.istore_n 3, 1) := by decide +kernel
theorem dX8_endOf_20 : decode cX8_endOf 20 = .ok (.aload_n 1, 1) := by decide +kernel
theorem dX8_endOf_21 : decode cX8_endOf 21 = .ok (.getfield 110, 3) := by decide +kernel
theorem dX8_endOf_24 : decode cX8_endOf 24 = .ok (.invokevirtual 114, 3) := by decide +kernel
theorem dX8_endOf_27 : decode cX8_endOf 27 = .ok (.iconst 2, 1) := by decide +kernel
theorem dX8_endOf_28 : decode cX8_endOf 28 = .ok (.if_icmp .eq 21, 3) := by decide +kernel
theorem dX8_endOf_31 : decode cX8_endOf 31 = .ok (.aload_n 0, 1) := by decide +kernel
theorem dX8_endOf_32 : decode cX8_endOf 32 = .ok (.getfield 9, 3) := by decide +kernel
theorem dX8_endOf_35 : decode cX8_endOf 35 = .ok (.bipush 34, 2) := by decide +kernel
theorem dX8_endOf_37 : decode cX8_endOf 37 = .ok (.dup2, 1) := by decide +kernel
theorem dX8_endOf_38 : decode cX8_endOf 38 = .ok (.iaload, 1) := by decide +kernel
theorem dX8_endOf_39 : decode cX8_endOf 39 = .ok (.iconst 1, 1) := by decide +kernel
theorem dX8_endOf_40 : decode cX8_endOf 40 = .ok (.iadd, 1) := by decide +kernel
theorem dX8_endOf_41 : decode cX8_endOf 41 = .ok (.iastore, 1) := by decide +kernel
theorem dX8_endOf_42 : decode cX8_endOf 42 = .ok (.aload_n 1, 1) := by decide +kernel
theorem dX8_endOf_43 : decode cX8_endOf 43 = .ok (.invokevirtual 119, 3) := by decide +kernel
theorem dX8_endOf_46 : decode cX8_endOf 46 = .ok (.goto 84, 3) := by decide +kernel
theorem dX8_endOf_49 : decode cX8_endOf 49 = .ok (.iload_n 3, 1) := by decide +kernel
theorem dX8_endOf_50 : decode cX8_endOf 50 = .ok (.ifCond .ne 23, 3) := by decide +kernel
theorem dX8_endOf_53 : decode cX8_endOf 53 = .ok (.aload_n 0, 1) := by decide +kernel
theorem dX8_endOf_54 : decode cX8_endOf 54 = .ok (.getfield 9, 3) := by decide +kernel
theorem dX8_endOf_57 : decode cX8_endOf 57 = .ok (.bipush 6, 2) := by decide +kernel
theorem dX8_endOf_59 : decode cX8_endOf 59 = .ok (.iaload, 1) := by decide +kernel
theorem dX8_endOf_60 : decode cX8_endOf 60 = .ok (.bipush 12, 2) := by decide +kernel
theorem dX8_endOf_62 : decode cX8_endOf 62 = .ok (.if_icmp .lt 11, 3) := by decide +kernel
theorem dX8_endOf_65 : decode cX8_endOf 65 = .ok (.aload_n 0, 1) := by decide +kernel
theorem dX8_endOf_66 : decode cX8_endOf 66 = .ok (.aload_n 1, 1) := by decide +kernel
theorem dX8_endOf_67 : decode cX8_endOf 67 = .ok (.invokevirtual 88, 3) := by decide +kernel
theorem dX8_endOf_70 : decode cX8_endOf 70 = .ok (.goto 60, 3) := by decide +kernel
theorem dX8_endOf_73 : decode cX8_endOf 73 = .ok (.aload_n 0, 1) := by decide +kernel
theorem dX8_endOf_74 : decode cX8_endOf 74 = .ok (.getfield 9, 3) := by decide +kernel
theorem dX8_endOf_77 : decode cX8_endOf 77 = .ok (.iconst 3, 1) := by decide +kernel
theorem dX8_endOf_78 : decode cX8_endOf 78 = .ok (.dup2, 1) := by decide +kernel
theorem dX8_endOf_79 : decode cX8_endOf 79 = .ok (.iaload, 1) := by decide +kernel
theorem dX8_endOf_80 : decode cX8_endOf 80 = .ok (.iconst 1, 1) := by decide +kernel
theorem dX8_endOf_81 : decode cX8_endOf 81 = .ok (.iadd, 1) := by decide +kernel
theorem dX8_endOf_82 : decode cX8_endOf 82 = .ok (.iastore, 1) := by decide +kernel
theorem dX8_endOf_83 : decode cX8_endOf 83 = .ok (.aload_n 0, 1) := by decide +kernel
theorem dX8_endOf_84 : decode cX8_endOf 84 = .ok (.getfield 15, 3) := by decide +kernel
theorem dX8_endOf_87 : decode cX8_endOf 87 = .ok (.aload_n 1, 1) := by decide +kernel
theorem dX8_endOf_88 : decode cX8_endOf 88 = .ok (.getfield 63, 3) := by decide +kernel
theorem dX8_endOf_91 : decode cX8_endOf 91 = .ok (.iload_n 2, 1) := by decide +kernel
theorem dX8_endOf_92 : decode cX8_endOf 92 = .ok (.invokevirtual 122, 3) := by decide +kernel
theorem dX8_endOf_95 : decode cX8_endOf 95 = .ok (.iload_n 3, 1) := by decide +kernel
theorem dX8_endOf_96 : decode cX8_endOf 96 = .ok (.ifCond .eq 7, 3) := by decide +kernel
theorem dX8_endOf_99 : decode cX8_endOf 99 = .ok (.aconst_null, 1) := by decide +kernel
theorem dX8_endOf_100 : decode cX8_endOf 100 = .ok (.goto 10, 3) := by decide +kernel
theorem dX8_endOf_103 : decode cX8_endOf 103 = .ok (.aload_n 0, 1) := by decide +kernel
theorem dX8_endOf_104 : decode cX8_endOf 104 = .ok (.getfield 19, 3) := by decide +kernel
theorem dX8_endOf_107 : decode cX8_endOf 107 = .ok (.invokevirtual 35, 3) := by decide +kernel
theorem dX8_endOf_110 : decode cX8_endOf 110 = .ok (.astore 4, 2) := by decide +kernel
theorem dX8_endOf_112 : decode cX8_endOf 112 = .ok (.aload 4, 2) := by decide +kernel
theorem dX8_endOf_114 : decode cX8_endOf 114 = .ok (.ifnull 9, 3) := by decide +kernel
theorem dX8_endOf_117 : decode cX8_endOf 117 = .ok (.aload 4, 2) := by decide +kernel
theorem dX8_endOf_119 : decode cX8_endOf 119 = .ok (.aload_n 1, 1) := by decide +kernel
theorem dX8_endOf_120 : decode cX8_endOf 120 = .ok (.invokevirtual 125, 3) := by decide +kernel
theorem dX8_endOf_123 : decode cX8_endOf 123 = .ok (.aload_n 0, 1) := by decide +kernel
theorem dX8_endOf_124 : decode cX8_endOf 124 = .ok (.getfield 28, 3) := by decide +kernel
theorem dX8_endOf_127 : decode cX8_endOf 127 = .ok (.invokevirtual 91, 3) := by decide +kernel
theorem dX8_endOf_130 : decode cX8_endOf 130 = .ok (.return_, 1) := by decide +kernel
theorem dX9_init_0 : decode cX9_init 0 = .ok (.aload_n 0, 1) := by decide +kernel
theorem dX9_init_1 : decode cX9_init 1 = .ok (.invokespecial 3, 3) := by decide +kernel
theorem dX9_init_4 : decode cX9_init 4 = .ok (.aload_n 0, 1) := by decide +kernel
theorem dX9_init_5 : decode cX9_init 5 = .ok (.bipush 7, 2) := by decide +kernel
theorem dX9_init_7 : decode cX9_init 7 = .ok (.newarray .int, 2) := by decide +kernel
theorem dX9_init_9 : decode cX9_init 9 = .ok (.putfield 9, 3) := by decide +kernel
theorem dX9_init_12 : decode cX9_init 12 = .ok (.aload_n 0, 1) := by decide +kernel
theorem dX9_init_13 : decode cX9_init 13 = .ok (.bipush 7, 2) := by decide +kernel
theorem dX9_init_15 : decode cX9_init 15 = .ok (.newarray .int, 2) := by decide +kernel
theorem dX9_init_17 : decode cX9_init 17 = .ok (.putfield 15, 3) := by decide +kernel
theorem dX9_init_20 : decode cX9_init 20 = .ok (.aload_n 0, 1) := by decide +kernel
theorem dX9_init_21 : decode cX9_init 21 = .ok (.bipush 8, 2) := by decide +kernel
theorem dX9_init_23 : decode cX9_init 23 = .ok (.newarray .int, 2) := by decide +kernel
theorem dX9_init_25 : decode cX9_init 25 = .ok (.putfield 18, 3) := by decide +kernel
theorem dX9_init_28 : decode cX9_init 28 = .ok (.aload_n 0, 1) := by decide +kernel
theorem dX9_init_29 : decode cX9_init 29 = .ok (.bipush 8, 2) := by decide +kernel
theorem dX9_init_31 : decode cX9_init 31 = .ok (.newarray .int, 2) := by decide +kernel
theorem dX9_init_33 : decode cX9_init 33 = .ok (.putfield 21, 3) := by decide +kernel
theorem dX9_init_36 : decode cX9_init 36 = .ok (.return_, 1) := by decide +kernel
theorem dX9_clear_0 : decode cX9_clear 0 = .ok (.aload_n 0, 1) := by decide +kernel
theorem dX9_clear_1 : decode cX9_clear 1 = .ok (.getfield 9, 3) := by decide +kernel
theorem dX9_clear_4 : decode cX9_clear 4 = .ok (.iconst 0, 1) := by decide +kernel
theorem dX9_clear_5 : decode cX9_clear 5 = .ok (.invokestatic 24, 3) := by decide +kernel
theorem dX9_clear_8 : decode cX9_clear 8 = .ok (.aload_n 0, 1) := by decide +kernel
theorem dX9_clear_9 : decode cX9_clear 9 = .ok (.getfield 15, 3) := by decide +kernel
theorem dX9_clear_12 : decode cX9_clear 12 = .ok (.iconst 0, 1) := by decide +kernel
theorem dX9_clear_13 : decode cX9_clear 13 = .ok (.invokestatic 24, 3) := by decide +kernel
theorem dX9_clear_16 : decode cX9_clear 16 = .ok (.return_, 1) := by decide +kernel
theorem dX9_become_0 : decode cX9_become 0 = .ok (.aload_n 1, 1) := by decide +kernel
theorem dX9_become_1 : decode cX9_become 1 = .ok (.getfield 9, 3) := by decide +kernel
theorem dX9_become_4 : decode cX9_become 4 = .ok (.iconst 0, 1) := by decide +kernel
theorem dX9_become_5 : decode cX9_become 5 = .ok (.aload_n 0, 1) := by decide +kernel
theorem dX9_become_6 : decode cX9_become 6 = .ok (.getfield 9, 3) := by decide +kernel
theorem dX9_become_9 : decode cX9_become 9 = .ok (.iconst 0, 1) := by decide +kernel
theorem dX9_become_10 : decode cX9_become 10 = .ok (.bipush 7, 2) := by decide +kernel
theorem dX9_become_12 : decode cX9_become 12 = .ok (.invokestatic 30, 3) := by decide +kernel
theorem dX9_become_15 : decode cX9_become 15 = .ok (.aload_n 1, 1) := by decide +kernel
theorem dX9_become_16 : decode cX9_become 16 = .ok (.getfield 15, 3) := by decide +kernel
theorem dX9_become_19 : decode cX9_become 19 = .ok (.iconst 0, 1) := by decide +kernel
theorem dX9_become_20 : decode cX9_become 20 = .ok (.aload_n 0, 1) := by decide +kernel
theorem dX9_become_21 : decode cX9_become 21 = .ok (.getfield 15, 3) := by decide +kernel
theorem dX9_become_24 : decode cX9_become 24 = .ok (.iconst 0, 1) := by decide +kernel
theorem dX9_become_25 : decode cX9_become 25 = .ok (.bipush 7, 2) := by decide +kernel
theorem dX9_become_27 : decode cX9_become 27 = .ok (.invokestatic 30, 3) := by decide +kernel
theorem dX9_become_30 : decode cX9_become 30 = .ok (.return_, 1) := by decide +kernel
theorem dX9_splitBlock_0 : decode cX9_splitBlock 0 = .ok (.aload_n 1, 1) := by decide +kernel
theorem dX9_splitBlock_1 : decode cX9_splitBlock 1 = .ok (.iload_n 2, 1) := by decide +kernel
theorem dX9_splitBlock_2 : decode cX9_splitBlock 2 = .ok (.aload_n 0, 1) := by decide +kernel
theorem dX9_splitBlock_3 : decode cX9_splitBlock 3 = .ok (.getfield 18, 3) := by decide +kernel
theorem dX9_splitBlock_6 : decode cX9_splitBlock 6 = .ok (.iconst 0, 1) := by decide +kernel
theorem dX9_splitBlock_7 : decode cX9_splitBlock 7 = .ok (.bipush 8, 2) := by decide +kernel
theorem dX9_splitBlock_9 : decode cX9_splitBlock 9 = .ok (.invokestatic 30, 3) := by decide +kernel
theorem dX9_splitBlock_12 : decode cX9_splitBlock 12 = .ok (.iconst 0, 1) := by decide +kernel
theorem dX9_splitBlock_13 : decode cX9_splitBlock 13 = .ok (.istore 5, 2) := by decide +kernel
theorem dX9_splitBlock_15 : decode cX9_splitBlock 15 = .ok (.iload 5, 2) := by decide +kernel
theorem dX9_splitBlock_17 : decode cX9_splitBlock 17 = .ok (.iconst 3, 1) := by decide +kernel
theorem dX9_splitBlock_18 : decode cX9_splitBlock 18 = .ok (.if_icmp .ge 72, 3) := by decide +kernel
theorem dX9_splitBlock_21 : decode cX9_splitBlock 21 = .ok (.iconst 1, 1) := by decide +kernel
theorem dX9_splitBlock_22 : decode cX9_splitBlock 22 = .ok (.iload 5, 2) := by decide +kernel
theorem dX9_splitBlock_24 : decode cX9_splitBlock 24 = .ok (.ishl, 1) := by decide +kernel
theorem dX9_splitBlock_25 : decode cX9_splitBlock 25 = .ok (.istore 6, 2) := by decide +kernel
theorem dX9_splitBlock_27 : decode cX9_splitBlock 27 = .ok (.iconst 0, 1) := by decide +kernel
theorem dX9_splitBlock_28 : decode cX9_splitBlock 28 = .ok (.istore 7, 2) := by decide +kernel
theorem dX9_splitBlock_30 : decode cX9_splitBlock 30 = .ok (.iload 7, 2) := by decide +kernel
theorem dX9_splitBlock_32 : decode cX9_splitBlock 32 = .ok (.iload 6, 2) := by decide +kernel
theorem dX9_splitBlock_34 : decode cX9_splitBlock 34 = .ok (.if_icmp .ge 35, 3) := by decide +kernel
theorem dX9_splitBlock_37 : decode cX9_splitBlock 37 = .ok (.aload_n 0, 1) := by decide +kernel
theorem dX9_splitBlock_38 : decode cX9_splitBlock 38 = .ok (.iload 6, 2) := by decide +kernel
theorem dX9_splitBlock_40 : decode cX9_splitBlock 40 = .ok (.iconst 1, 1) := by decide +kernel
theorem dX9_splitBlock_41 : decode cX9_splitBlock 41 = .ok (.isub, 1) := by decide +kernel
theorem dX9_splitBlock_42 : decode cX9_splitBlock 42 = .ok (.iload 7, 2) := by decide +kernel
theorem dX9_splitBlock_44 : decode cX9_splitBlock 44 = .ok (.iadd, 1) := by decide +kernel
theorem dX9_splitBlock_45 : decode cX9_splitBlock 45 = .ok (.iload 7, 2) := by decide +kernel
theorem dX9_splitBlock_47 : decode cX9_splitBlock 47 = .ok (.bipush 8, 2) := by decide +kernel
theorem dX9_splitBlock_49 : decode cX9_splitBlock 49 = .ok (.imul, 1) := by decide +kernel
theorem dX9_splitBlock_50 : decode cX9_splitBlock 50 = .ok (.iload 6, 2) := by decide +kernel
theorem dX9_splitBlock_52 : decode cX9_splitBlock 52 = .ok (.idiv, 1) := by decide +kernel
theorem dX9_splitBlock_53 : decode cX9_splitBlock 53 = .ok (.bipush 8, 2) := by decide +kernel
theorem dX9_splitBlock_55 : decode cX9_splitBlock 55 = .ok (.iload 6, 2) := by decide +kernel
theorem dX9_splitBlock_57 : decode cX9_splitBlock 57 = .ok (.idiv, 1) := by decide +kernel
theorem dX9_splitBlock_58 : decode cX9_splitBlock 58 = .ok (.iconst 2, 1) := by decide +kernel
theorem dX9_splitBlock_59 : decode cX9_splitBlock 59 = .ok (.idiv, 1) := by decide +kernel
theorem dX9_splitBlock_60 : decode cX9_splitBlock 60 = .ok (.invokevirtual 36, 3) := by decide +kernel
theorem dX9_splitBlock_63 : decode cX9_splitBlock 63 = .ok (.iinc 7 1, 3) := by decide +kernel
theorem dX9_splitBlock_66 : decode cX9_splitBlock 66 = .ok (.goto (-36), 3) := by decide +kernel
theorem dX9_splitBlock_69 : decode cX9_splitBlock 69 = .ok (.aload_n 0, 1) := by decide +kernel
theorem dX9_splitBlock_70 : decode cX9_splitBlock 70 = .ok (.getfield 21, 3) := by decide +kernel
theorem dX9_splitBlock_73 : decode cX9_splitBlock 73 = .ok (.iconst 0, 1) := by decide +kernel
theorem dX9_splitBlock_74 : decode cX9_splitBlock 74 = .ok (.aload_n 0, 1) := by decide +kernel
theorem dX9_splitBlock_75 : decode cX9_splitBlock 75 = .ok (.getfield 18, 3) := by decide +kernel
theorem dX9_splitBlock_78 : decode cX9_splitBlock 78 = .ok (.iconst 0, 1) := by decide +kernel
theorem dX9_splitBlock_79 : decode cX9_splitBlock 79 = .ok (.bipush 8, 2) := by decide +kernel
theorem dX9_splitBlock_81 : decode cX9_splitBlock 81 = .ok (.invokestatic 30, 3) := by decide +kernel
theorem dX9_splitBlock_84 : decode cX9_splitBlock 84 = .ok (.iinc 5 1, 3) := by decide +kernel
theorem dX9_splitBlock_87 : decode cX9_splitBlock 87 = .ok (.goto (-72), 3) := by decide +kernel
theorem dX9_splitBlock_90 : decode cX9_splitBlock 90 = .ok (.aload_n 0, 1) := by decide +kernel
theorem dX9_splitBlock_91 : decode cX9_splitBlock 91 = .ok (.getfield 18, 3) := by decide +kernel
theorem dX9_splitBlock_94 : decode cX9_splitBlock 94 = .ok (.iconst 0, 1) := by decide +kernel
theorem dX9_splitBlock_95 : decode cX9_splitBlock 95 = .ok (.aload_n 3, 1) := by decide +kernel
theorem dX9_splitBlock_96 : decode cX9_splitBlock 96 = .ok (.iload 4, 2) := by decide +kernel
theorem dX9_splitBlock_98 : decode cX9_splitBlock 98 = .ok (.bipush 8, 2) := by decide +kernel
theorem dX9_splitBlock_100 : decode cX9_splitBlock 100 = .ok (.invokestatic 30, 3) := by decide +kernel
theorem dX9_splitBlock_103 : decode cX9_splitBlock 103 = .ok (.return_, 1) := by decide +kernel
theorem dX9_joinBlock_0 : decode cX9_joinBlock 0 = .ok (.aload_n 1, 1) := by decide +kernel
theorem dX9_joinBlock_1 : decode cX9_joinBlock 1 = .ok (.iload_n 2, 1) := by decide +kernel
theorem dX9_joinBlock_2 : decode cX9_joinBlock 2 = .ok (.aload_n 0, 1) := by decide +kernel
theorem dX9_joinBlock_3 : decode cX9_joinBlock 3 = .ok (.getfield 18, 3) := by decide +kernel
theorem dX9_joinBlock_6 : decode cX9_joinBlock 6 = .ok (.iconst 0, 1) := by decide +kernel
theorem dX9_joinBlock_7 : decode cX9_joinBlock 7 = .ok (.bipush 8, 2) := by decide +kernel
theorem dX9_joinBlock_9 : decode cX9_joinBlock 9 = .ok (.invokestatic 30, 3) := by decide +kernel
theorem dX9_joinBlock_12 : decode cX9_joinBlock 12 = .ok (.iconst 2, 1) := by decide +kernel
theorem dX9_joinBlock_13 : decode cX9_joinBlock 13 = .ok (.istore 5, 2) := by decide +kernel
theorem dX9_joinBlock_15 : decode cX9_joinBlock 15 = .ok (.iload 5, 2) := by decide +kernel
theorem dX9_joinBlock_17 : decode cX9_joinBlock 17 = .ok (.ifCond .lt 72, 3) := by decide +kernel
theorem dX9_joinBlock_20 : decode cX9_joinBlock 20 = .ok (.iconst 1, 1) := by decide +kernel
theorem dX9_joinBlock_21 : decode cX9_joinBlock 21 = .ok (.iload 5, 2) := by decide +kernel
theorem dX9_joinBlock_23 : decode cX9_joinBlock 23 = .ok (.ishl, 1) := by decide +kernel
theorem dX9_joinBlock_24 : decode cX9_joinBlock 24 = .ok (.istore 6, 2) := by decide +kernel
theorem dX9_joinBlock_26 : decode cX9_joinBlock 26 = .ok (.iconst 0, 1) := by decide +kernel
theorem dX9_joinBlock_27 : decode cX9_joinBlock 27 = .ok (.istore 7, 2) := by decide +kernel
theorem dX9_joinBlock_29 : decode cX9_joinBlock 29 = .ok (.iload 7, 2) := by decide +kernel
theorem dX9_joinBlock_31 : decode cX9_joinBlock 31 = .ok (.iload 6, 2) := by decide +kernel
theorem dX9_joinBlock_33 : decode cX9_joinBlock 33 = .ok (.if_icmp .ge 35, 3) := by decide +kernel
theorem dX9_joinBlock_36 : decode cX9_joinBlock 36 = .ok (.aload_n 0, 1) := by decide +kernel
theorem dX9_joinBlock_37 : decode cX9_joinBlock 37 = .ok (.iload 6, 2) := by decide +kernel
theorem dX9_joinBlock_39 : decode cX9_joinBlock 39 = .ok (.iconst 1, 1) := by decide +kernel
theorem dX9_joinBlock_40 : decode cX9_joinBlock 40 = .ok (.isub, 1) := by decide +kernel
theorem dX9_joinBlock_41 : decode cX9_joinBlock 41 = .ok (.iload 7, 2) := by decide +kernel
theorem dX9_joinBlock_43 : decode cX9_joinBlock 43 = .ok (.iadd, 1) := by decide +kernel
theorem dX9_joinBlock_44 : decode cX9_joinBlock 44 = .ok (.iload 7, 2) := by decide +kernel
theorem dX9_joinBlock_46 : decode cX9_joinBlock 46 = .ok (.bipush 8, 2) := by decide +kernel
theorem dX9_joinBlock_48 : decode cX9_joinBlock 48 = .ok (.imul, 1) := by decide +kernel
theorem dX9_joinBlock_49 : decode cX9_joinBlock 49 = .ok (.iload 6, 2) := by decide +kernel
theorem dX9_joinBlock_51 : decode cX9_joinBlock 51 = .ok (.idiv, 1) := by decide +kernel
theorem dX9_joinBlock_52 : decode cX9_joinBlock 52 = .ok (.bipush 8, 2) := by decide +kernel
theorem dX9_joinBlock_54 : decode cX9_joinBlock 54 = .ok (.iload 6, 2) := by decide +kernel
theorem dX9_joinBlock_56 : decode cX9_joinBlock 56 = .ok (.idiv, 1) := by decide +kernel
theorem dX9_joinBlock_57 : decode cX9_joinBlock 57 = .ok (.iconst 2, 1) := by decide +kernel
theorem dX9_joinBlock_58 : decode cX9_joinBlock 58 = .ok (.idiv, 1) := by decide +kernel
theorem dX9_joinBlock_59 : decode cX9_joinBlock 59 = .ok (.invokevirtual 40, 3) := by decide +kernel
theorem dX9_joinBlock_62 : decode cX9_joinBlock 62 = .ok (.iinc 7 1, 3) := by decide +kernel
theorem dX9_joinBlock_65 : decode cX9_joinBlock 65 = .ok (.goto (-36), 3) := by decide +kernel
theorem dX9_joinBlock_68 : decode cX9_joinBlock 68 = .ok (.aload_n 0, 1) := by decide +kernel
theorem dX9_joinBlock_69 : decode cX9_joinBlock 69 = .ok (.getfield 21, 3) := by decide +kernel
theorem dX9_joinBlock_72 : decode cX9_joinBlock 72 = .ok (.iconst 0, 1) := by decide +kernel
theorem dX9_joinBlock_73 : decode cX9_joinBlock 73 = .ok (.aload_n 0, 1) := by decide +kernel
theorem dX9_joinBlock_74 : decode cX9_joinBlock 74 = .ok (.getfield 18, 3) := by decide +kernel
theorem dX9_joinBlock_77 : decode cX9_joinBlock 77 = .ok (.iconst 0, 1) := by decide +kernel
theorem dX9_joinBlock_78 : decode cX9_joinBlock 78 = .ok (.bipush 8, 2) := by decide +kernel
theorem dX9_joinBlock_80 : decode cX9_joinBlock 80 = .ok (.invokestatic 30, 3) := by decide +kernel
theorem dX9_joinBlock_83 : decode cX9_joinBlock 83 = .ok (.iinc 5 (-1), 3) := by decide +kernel
theorem dX9_joinBlock_86 : decode cX9_joinBlock 86 = .ok (.goto (-71), 3) := by decide +kernel
theorem dX9_joinBlock_89 : decode cX9_joinBlock 89 = .ok (.aload_n 0, 1) := by decide +kernel
theorem dX9_joinBlock_90 : decode cX9_joinBlock 90 = .ok (.getfield 18, 3) := by decide +kernel
theorem dX9_joinBlock_93 : decode cX9_joinBlock 93 = .ok (.iconst 0, 1) := by decide +kernel
theorem dX9_joinBlock_94 : decode cX9_joinBlock 94 = .ok (.aload_n 3, 1) := by decide +kernel
theorem dX9_joinBlock_95 : decode cX9_joinBlock 95 = .ok (.iload 4, 2) := by decide +kernel
theorem dX9_joinBlock_97 : decode cX9_joinBlock 97 = .ok (.bipush 8, 2) := by decide +kernel
theorem dX9_joinBlock_99 : decode cX9_joinBlock 99 = .ok (.invokestatic 30, 3) := by decide +kernel
theorem dX9_joinBlock_102 : decode cX9_joinBlock 102 = .ok (.return_, 1) := by decide +kernel
theorem dX9_splitRow_0 : decode cX9_splitRow 0 = .ok (.iconst 0, 1) := by decide +kernel
theorem dX9_splitRow_1 : decode cX9_splitRow 1 = .ok (.istore 4, 2) := by decide +kernel
theorem dX9_splitRow_3 : decode cX9_splitRow 3 = .ok (.iload 4, 2) := by decide +kernel
theorem dX9_splitRow_5 : decode cX9_splitRow 5 = .ok (.iload_n 3, 1) := by decide +kernel
theorem dX9_splitRow_6 : decode cX9_splitRow 6 = .ok (.if_icmp .ge 105, 3) := by decide +kernel
theorem dX9_splitRow_9 : decode cX9_splitRow 9 = .ok (.aload_n 0, 1) := by decide +kernel
theorem dX9_splitRow_10 : decode cX9_splitRow 10 = .ok (.getfield 18, 3) := by decide +kernel
theorem dX9_splitRow_13 : decode cX9_splitRow 13 = .ok (.iload_n 2, 1) := by decide +kernel
theorem dX9_splitRow_14 : decode cX9_splitRow 14 = .ok (.iconst 2, 1) := by decide +kernel
theorem dX9_splitRow_15 : decode cX9_splitRow 15 = .ok (.iload 4, 2) := by decide +kernel
theorem dX9_splitRow_17 : decode cX9_splitRow 17 = .ok (.imul, 1) := by decide +kernel
theorem dX9_splitRow_18 : decode cX9_splitRow 18 = .ok (.iadd, 1) := by decide +kernel
theorem dX9_splitRow_19 : decode cX9_splitRow 19 = .ok (.iaload, 1) := by decide +kernel
theorem dX9_splitRow_20 : decode cX9_splitRow 20 = .ok (.istore 5, 2) := by decide +kernel
theorem dX9_splitRow_22 : decode cX9_splitRow 22 = .ok (.aload_n 0, 1) := by decide +kernel
theorem dX9_splitRow_23 : decode cX9_splitRow 23 = .ok (.getfield 18, 3) := by decide +kernel
theorem dX9_splitRow_26 : decode cX9_splitRow 26 = .ok (.iload_n 2, 1) := by decide +kernel
theorem dX9_splitRow_27 : decode cX9_splitRow 27 = .ok (.iconst 2, 1) := by decide +kernel
theorem dX9_splitRow_28 : decode cX9_splitRow 28 = .ok (.iload 4, 2) := by decide +kernel
theorem dX9_splitRow_30 : decode cX9_splitRow 30 = .ok (.imul, 1) := by decide +kernel
theorem dX9_splitRow_31 : decode cX9_splitRow 31 = .ok (.iadd, 1) := by decide +kernel
theorem dX9_splitRow_32 : decode cX9_splitRow 32 = .ok (.iconst 1, 1) := by decide +kernel
theorem dX9_splitRow_33 : decode cX9_splitRow 33 = .ok (.iadd, 1) := by decide +kernel
theorem dX9_splitRow_34 : decode cX9_splitRow 34 = .ok (.iaload, 1) := by decide +kernel
theorem dX9_splitRow_35 : decode cX9_splitRow 35 = .ok (.istore 6, 2) := by decide +kernel
theorem dX9_splitRow_37 : decode cX9_splitRow 37 = .ok (.iload 5, 2) := by decide +kernel
theorem dX9_splitRow_39 : decode cX9_splitRow 39 = .ok (.aload_n 0, 1) := by decide +kernel
theorem dX9_splitRow_40 : decode cX9_splitRow 40 = .ok (.getfield 9, 3) := by decide +kernel
theorem dX9_splitRow_43 : decode cX9_splitRow 43 = .ok (.iload_n 1, 1) := by decide +kernel
theorem dX9_splitRow_44 : decode cX9_splitRow 44 = .ok (.iaload, 1) := by decide +kernel
theorem dX9_splitRow_45 : decode cX9_splitRow 45 = .ok (.iload 6, 2) := by decide +kernel
theorem dX9_splitRow_47 : decode cX9_splitRow 47 = .ok (.iadd, 1) := by decide +kernel
theorem dX9_splitRow_48 : decode cX9_splitRow 48 = .ok (.iconst 1, 1) := by decide +kernel
theorem dX9_splitRow_49 : decode cX9_splitRow 49 = .ok (.ishr, 1) := by decide +kernel
theorem dX9_splitRow_50 : decode cX9_splitRow 50 = .ok (.isub, 1) := by decide +kernel
theorem dX9_splitRow_51 : decode cX9_splitRow 51 = .ok (.istore 7, 2) := by decide +kernel
theorem dX9_splitRow_53 : decode cX9_splitRow 53 = .ok (.aload_n 0, 1) := by decide +kernel
theorem dX9_splitRow_54 : decode cX9_splitRow 54 = .ok (.getfield 21, 3) := by decide +kernel
theorem dX9_splitRow_57 : decode cX9_splitRow 57 = .ok (.iload_n 2, 1) := by decide +kernel
theorem dX9_splitRow_58 : decode cX9_splitRow 58 = .ok (.iload 4, 2) := by decide +kernel
theorem dX9_splitRow_60 : decode cX9_splitRow 60 = .ok (.iadd, 1) := by decide +kernel
theorem dX9_splitRow_61 : decode cX9_splitRow 61 = .ok (.iload 6, 2) := by decide +kernel
theorem dX9_splitRow_63 : decode cX9_splitRow 63 = .ok (.aload_n 0, 1) := by decide +kernel
theorem dX9_splitRow_64 : decode cX9_splitRow 64 = .ok (.getfield 15, 3) := by decide +kernel
theorem dX9_splitRow_67 : decode cX9_splitRow 67 = .ok (.iload_n 1, 1) := by decide +kernel
theorem dX9_splitRow_68 : decode cX9_splitRow 68 = .ok (.iaload, 1) := by decide +kernel
theorem dX9_splitRow_69 : decode cX9_splitRow 69 = .ok (.iload 7, 2) := by decide +kernel
theorem dX9_splitRow_71 : decode cX9_splitRow 71 = .ok (.iadd, 1) := by decide +kernel
theorem dX9_splitRow_72 : decode cX9_splitRow 72 = .ok (.iconst 2, 1) := by decide +kernel
theorem dX9_splitRow_73 : decode cX9_splitRow 73 = .ok (.ishr, 1) := by decide +kernel
theorem dX9_splitRow_74 : decode cX9_splitRow 74 = .ok (.iadd, 1) := by decide +kernel
theorem dX9_splitRow_75 : decode cX9_splitRow 75 = .ok (.iastore, 1) := by decide +kernel
theorem dX9_splitRow_76 : decode cX9_splitRow 76 = .ok (.aload_n 0, 1) := by decide +kernel
theorem dX9_splitRow_77 : decode cX9_splitRow 77 = .ok (.getfield 21, 3) := by decide +kernel
theorem dX9_splitRow_80 : decode cX9_splitRow 80 = .ok (.iload_n 2, 1) := by decide +kernel
theorem dX9_splitRow_81 : decode cX9_splitRow 81 = .ok (.iload_n 3, 1) := by decide +kernel
theorem dX9_splitRow_82 : decode cX9_splitRow 82 = .ok (.iadd, 1) := by decide +kernel
theorem dX9_splitRow_83 : decode cX9_splitRow 83 = .ok (.iload 4, 2) := by decide +kernel
theorem dX9_splitRow_85 : decode cX9_splitRow 85 = .ok (.iadd, 1) := by decide +kernel
theorem dX9_splitRow_86 : decode cX9_splitRow 86 = .ok (.iload 7, 2) := by decide +kernel
theorem dX9_splitRow_88 : decode cX9_splitRow 88 = .ok (.iastore, 1) := by decide +kernel
theorem dX9_splitRow_89 : decode cX9_splitRow 89 = .ok (.aload_n 0, 1) := by decide +kernel
theorem dX9_splitRow_90 : decode cX9_splitRow 90 = .ok (.getfield 9, 3) := by decide +kernel
theorem dX9_splitRow_93 : decode cX9_splitRow 93 = .ok (.iload_n 1, 1) := by decide +kernel
theorem dX9_splitRow_94 : decode cX9_splitRow 94 = .ok (.iload 6, 2) := by decide +kernel
theorem dX9_splitRow_96 : decode cX9_splitRow 96 = .ok (.iastore, 1) := by decide +kernel
theorem dX9_splitRow_97 : decode cX9_splitRow 97 = .ok (.aload_n 0, 1) := by decide +kernel
theorem dX9_splitRow_98 : decode cX9_splitRow 98 = .ok (.getfield 15, 3) := by decide +kernel
theorem dX9_splitRow_101 : decode cX9_splitRow 101 = .ok (.iload_n 1, 1) := by decide +kernel
theorem dX9_splitRow_102 : decode cX9_splitRow 102 = .ok (.iload 7, 2) := by decide +kernel
theorem dX9_splitRow_104 : decode cX9_splitRow 104 = .ok (.iastore, 1) := by decide +kernel
theorem dX9_splitRow_105 : decode cX9_splitRow 105 = .ok (.iinc 4 1, 3) := by decide +kernel
theorem dX9_splitRow_108 : decode cX9_splitRow 108 = .ok (.goto (-105), 3) := by decide +kernel
theorem dX9_splitRow_111 : decode cX9_splitRow 111 = .ok (.return_, 1) := by decide +kernel
theorem dX9_joinRow_0 : decode cX9_joinRow 0 = .ok (.iconst 0, 1) := by decide +kernel
theorem dX9_joinRow_1 : decode cX9_joinRow 1 = .ok (.istore 4, 2) := by decide +kernel
theorem dX9_joinRow_3 : decode cX9_joinRow 3 = .ok (.iload 4, 2) := by decide +kernel
theorem dX9_joinRow_5 : decode cX9_joinRow 5 = .ok (.iload_n 3, 1) := by decide +kernel
theorem dX9_joinRow_6 : decode cX9_joinRow 6 = .ok (.if_icmp .ge 105, 3) := by decide +kernel
theorem dX9_joinRow_9 : decode cX9_joinRow 9 = .ok (.aload_n 0, 1) := by decide +kernel
theorem dX9_joinRow_10 : decode cX9_joinRow 10 = .ok (.getfield 18, 3) := by decide +kernel
theorem dX9_joinRow_13 : decode cX9_joinRow 13 = .ok (.iload_n 2, 1) := by decide +kernel
theorem dX9_joinRow_14 : decode cX9_joinRow 14 = .ok (.iload 4, 2) := by decide +kernel
theorem dX9_joinRow_16 : decode cX9_joinRow 16 = .ok (.iadd, 1) := by decide +kernel
theorem dX9_joinRow_17 : decode cX9_joinRow 17 = .ok (.iaload, 1) := by decide +kernel
theorem dX9_joinRow_18 : decode cX9_joinRow 18 = .ok (.istore 5, 2) := by decide +kernel
theorem dX9_joinRow_20 : decode cX9_joinRow 20 = .ok (.aload_n 0, 1) := by decide +kernel
theorem dX9_joinRow_21 : decode cX9_joinRow 21 = .ok (.getfield 18, 3) := by decide +kernel
theorem dX9_joinRow_24 : decode cX9_joinRow 24 = .ok (.iload_n 2, 1) := by decide +kernel
theorem dX9_joinRow_25 : decode cX9_joinRow 25 = .ok (.iload_n 3, 1) := by decide +kernel
theorem dX9_joinRow_26 : decode cX9_joinRow 26 = .ok (.iadd, 1) := by decide +kernel
theorem dX9_joinRow_27 : decode cX9_joinRow 27 = .ok (.iload 4, 2) := by decide +kernel
theorem dX9_joinRow_29 : decode cX9_joinRow 29 = .ok (.iadd, 1) := by decide +kernel
theorem dX9_joinRow_30 : decode cX9_joinRow 30 = .ok (.iaload, 1) := by decide +kernel
theorem dX9_joinRow_31 : decode cX9_joinRow 31 = .ok (.istore 6, 2) := by decide +kernel
theorem dX9_joinRow_33 : decode cX9_joinRow 33 = .ok (.iload 5, 2) := by decide +kernel
theorem dX9_joinRow_35 : decode cX9_joinRow 35 = .ok (.aload_n 0, 1) := by decide +kernel
theorem dX9_joinRow_36 : decode cX9_joinRow 36 = .ok (.getfield 15, 3) := by decide +kernel
theorem dX9_joinRow_39 : decode cX9_joinRow 39 = .ok (.iload_n 1, 1) := by decide +kernel
theorem dX9_joinRow_40 : decode cX9_joinRow 40 = .ok (.iaload, 1) := by decide +kernel
theorem dX9_joinRow_41 : decode cX9_joinRow 41 = .ok (.iload 6, 2) := by decide +kernel
theorem dX9_joinRow_43 : decode cX9_joinRow 43 = .ok (.iadd, 1) := by decide +kernel
theorem dX9_joinRow_44 : decode cX9_joinRow 44 = .ok (.iconst 2, 1) := by decide +kernel
theorem dX9_joinRow_45 : decode cX9_joinRow 45 = .ok (.ishr, 1) := by decide +kernel
theorem dX9_joinRow_46 : decode cX9_joinRow 46 = .ok (.isub, 1) := by decide +kernel
theorem dX9_joinRow_47 : decode cX9_joinRow 47 = .ok (.istore 7, 2) := by decide +kernel
theorem dX9_joinRow_49 : decode cX9_joinRow 49 = .ok (.aload_n 0, 1) := by decide +kernel
theorem dX9_joinRow_50 : decode cX9_joinRow 50 = .ok (.getfield 21, 3) := by decide +kernel
theorem dX9_joinRow_53 : decode cX9_joinRow 53 = .ok (.iload_n 2, 1) := by decide +kernel
theorem dX9_joinRow_54 : decode cX9_joinRow 54 = .ok (.iconst 2, 1) := by decide +kernel
theorem dX9_joinRow_55 : decode cX9_joinRow 55 = .ok (.iload 4, 2) := by decide +kernel
theorem dX9_joinRow_57 : decode cX9_joinRow 57 = .ok (.imul, 1) := by decide +kernel
theorem dX9_joinRow_58 : decode cX9_joinRow 58 = .ok (.iadd, 1) := by decide +kernel
theorem dX9_joinRow_59 : decode cX9_joinRow 59 = .ok (.iload 6, 2) := by decide +kernel
theorem dX9_joinRow_61 : decode cX9_joinRow 61 = .ok (.aload_n 0, 1) := by decide +kernel
theorem dX9_joinRow_62 : decode cX9_joinRow 62 = .ok (.getfield 9, 3) := by decide +kernel
theorem dX9_joinRow_65 : decode cX9_joinRow 65 = .ok (.iload_n 1, 1) := by decide +kernel
theorem dX9_joinRow_66 : decode cX9_joinRow 66 = .ok (.iaload, 1) := by decide +kernel
theorem dX9_joinRow_67 : decode cX9_joinRow 67 = .ok (.iload 7, 2) := by decide +kernel
theorem dX9_joinRow_69 : decode cX9_joinRow 69 = .ok (.iadd, 1) := by decide +kernel
theorem dX9_joinRow_70 : decode cX9_joinRow 70 = .ok (.iconst 1, 1) := by decide +kernel
theorem dX9_joinRow_71 : decode cX9_joinRow 71 = .ok (.ishr, 1) := by decide +kernel
theorem dX9_joinRow_72 : decode cX9_joinRow 72 = .ok (.iadd, 1) := by decide +kernel
theorem dX9_joinRow_73 : decode cX9_joinRow 73 = .ok (.iastore, 1) := by decide +kernel
theorem dX9_joinRow_74 : decode cX9_joinRow 74 = .ok (.aload_n 0, 1) := by decide +kernel
theorem dX9_joinRow_75 : decode cX9_joinRow 75 = .ok (.getfield 21, 3) := by decide +kernel
theorem dX9_joinRow_78 : decode cX9_joinRow 78 = .ok (.iload_n 2, 1) := by decide +kernel
theorem dX9_joinRow_79 : decode cX9_joinRow 79 = .ok (.iconst 2, 1) := by decide +kernel
theorem dX9_joinRow_80 : decode cX9_joinRow 80 = .ok (.iload 4, 2) := by decide +kernel
theorem dX9_joinRow_82 : decode cX9_joinRow 82 = .ok (.imul, 1) := by decide +kernel
theorem dX9_joinRow_83 : decode cX9_joinRow 83 = .ok (.iadd, 1) := by decide +kernel
theorem dX9_joinRow_84 : decode cX9_joinRow 84 = .ok (.iconst 1, 1) := by decide +kernel
theorem dX9_joinRow_85 : decode cX9_joinRow 85 = .ok (.iadd, 1) := by decide +kernel
theorem dX9_joinRow_86 : decode cX9_joinRow 86 = .ok (.iload 7, 2) := by decide +kernel
theorem dX9_joinRow_88 : decode cX9_joinRow 88 = .ok (.iastore, 1) := by decide +kernel
theorem dX9_joinRow_89 : decode cX9_joinRow 89 = .ok (.aload_n 0, 1) := by decide +kernel
theorem dX9_joinRow_90 : decode cX9_joinRow 90 = .ok (.getfield 9, 3) := by decide +kernel
theorem dX9_joinRow_93 : decode cX9_joinRow 93 = .ok (.iload_n 1, 1) := by decide +kernel
theorem dX9_joinRow_94 : decode cX9_joinRow 94 = .ok (.iload 7, 2) := by decide +kernel
theorem dX9_joinRow_96 : decode cX9_joinRow 96 = .ok (.iastore, 1) := by decide +kernel
theorem dX9_joinRow_97 : decode cX9_joinRow 97 = .ok (.aload_n 0, 1) := by decide +kernel
theorem dX9_joinRow_98 : decode cX9_joinRow 98 = .ok (.getfield 15, 3) := by decide +kernel
theorem dX9_joinRow_101 : decode cX9_joinRow 101 = .ok (.iload_n 1, 1) := by decide +kernel
theorem dX9_joinRow_102 : decode cX9_joinRow 102 = .ok (.iload 6, 2) := by decide +kernel
theorem dX9_joinRow_104 : decode cX9_joinRow 104 = .ok (.iastore, 1) := by decide +kernel
theorem dX9_joinRow_105 : decode cX9_joinRow 105 = .ok (.iinc 4 1, 3) := by decide +kernel
theorem dX9_joinRow_108 : decode cX9_joinRow 108 = .ok (.goto (-105), 3) := by decide +kernel
theorem dX9_joinRow_111 : decode cX9_joinRow 111 = .ok (.return_, 1) := by decide +kernel
theorem dX10_init_0 : decode cX10_init 0 = .ok (.aload_n 0, 1) := by decide +kernel
theorem dX10_init_1 : decode cX10_init 1 = .ok (.invokespecial 3, 3) := by decide +kernel
theorem dX10_init_4 : decode cX10_init 4 = .ok (.aload_n 0, 1) := by decide +kernel
theorem dX10_init_5 : decode cX10_init 5 = .ok (.bipush 54, 2) := by decide +kernel
theorem dX10_init_7 : decode cX10_init 7 = .ok (.newarray .int, 2) := by decide +kernel
theorem dX10_init_9 : decode cX10_init 9 = .ok (.putfield 9, 3) := by decide +kernel
theorem dX10_init_12 : decode cX10_init 12 = .ok (.aload_n 0, 1) := by decide +kernel
theorem dX10_init_13 : decode cX10_init 13 = .ok (.new 15, 3) := by decide +kernel
theorem dX10_init_16 : decode cX10_init 16 = .ok (.dup, 1) := by decide +kernel
theorem dX10_init_17 : decode cX10_init 17 = .ok (.invokespecial 17, 3) := by decide +kernel
theorem dX10_init_20 : decode cX10_init 20 = .ok (.putfield 18, 3) := by decide +kernel
theorem dX10_init_23 : decode cX10_init 23 = .ok (.aload_n 0, 1) := by decide +kernel
theorem dX10_init_24 : decode cX10_init 24 = .ok (.new 22, 3) := by decide +kernel
theorem dX10_init_27 : decode cX10_init 27 = .ok (.dup, 1) := by decide +kernel
theorem dX10_init_28 : decode cX10_init 28 = .ok (.aload_n 0, 1) := by decide +kernel
theorem dX10_init_29 : decode cX10_init 29 = .ok (.getfield 9, 3) := by decide +kernel
theorem dX10_init_32 : decode cX10_init 32 = .ok (.bipush 6, 2) := by decide +kernel
theorem dX10_init_34 : decode cX10_init 34 = .ok (.bipush 12, 2) := by decide +kernel
theorem dX10_init_36 : decode cX10_init 36 = .ok (.invokespecial 24, 3) := by decide +kernel
theorem dX10_init_39 : decode cX10_init 39 = .ok (.putfield 27, 3) := by decide +kernel
theorem dX10_init_42 : decode cX10_init 42 = .ok (.aload_n 0, 1) := by decide +kernel
theorem dX10_init_43 : decode cX10_init 43 = .ok (.new 31, 3) := by decide +kernel
theorem dX10_init_46 : decode cX10_init 46 = .ok (.dup, 1) := by decide +kernel
theorem dX10_init_47 : decode cX10_init 47 = .ok (.aload_n 0, 1) := by decide +kernel
theorem dX10_init_48 : decode cX10_init 48 = .ok (.getfield 9, 3) := by decide +kernel
theorem dX10_init_51 : decode cX10_init 51 = .ok (.invokespecial 33, 3) := by decide +kernel
theorem dX10_init_54 : decode cX10_init 54 = .ok (.putfield 36, 3) := by decide +kernel
theorem dX10_init_57 : decode cX10_init 57 = .ok (.aload_n 0, 1) := by decide +kernel
theorem dX10_init_58 : decode cX10_init 58 = .ok (.new 40, 3) := by decide +kernel
theorem dX10_init_61 : decode cX10_init 61 = .ok (.dup, 1) := by decide +kernel
theorem dX10_init_62 : decode cX10_init 62 = .ok (.aload_n 0, 1) := by decide +kernel
theorem dX10_init_63 : decode cX10_init 63 = .ok (.getfield 9, 3) := by decide +kernel
theorem dX10_init_66 : decode cX10_init 66 = .ok (.aload_n 0, 1) := by decide +kernel
theorem dX10_init_67 : decode cX10_init 67 = .ok (.getfield 18, 3) := by decide +kernel
theorem dX10_init_70 : decode cX10_init 70 = .ok (.aload_n 0, 1) := by decide +kernel
theorem dX10_init_71 : decode cX10_init 71 = .ok (.getfield 27, 3) := by decide +kernel
theorem dX10_init_74 : decode cX10_init 74 = .ok (.invokespecial 42, 3) := by decide +kernel
theorem dX10_init_77 : decode cX10_init 77 = .ok (.putfield 45, 3) := by decide +kernel
theorem dX10_init_80 : decode cX10_init 80 = .ok (.aload_n 0, 1) := by decide +kernel
theorem dX10_init_81 : decode cX10_init 81 = .ok (.new 49, 3) := by decide +kernel
theorem dX10_init_84 : decode cX10_init 84 = .ok (.dup, 1) := by decide +kernel
theorem dX10_init_85 : decode cX10_init 85 = .ok (.aload_n 0, 1) := by decide +kernel
theorem dX10_init_86 : decode cX10_init 86 = .ok (.getfield 9, 3) := by decide +kernel
theorem dX10_init_89 : decode cX10_init 89 = .ok (.aload_n 0, 1) := by decide +kernel
theorem dX10_init_90 : decode cX10_init 90 = .ok (.getfield 18, 3) := by decide +kernel
theorem dX10_init_93 : decode cX10_init 93 = .ok (.aload_n 0, 1) := by decide +kernel
theorem dX10_init_94 : decode cX10_init 94 = .ok (.getfield 27, 3) := by decide +kernel
theorem dX10_init_97 : decode cX10_init 97 = .ok (.invokespecial 51, 3) := by decide +kernel
theorem dX10_init_100 : decode cX10_init 100 = .ok (.putfield 52, 3) := by decide +kernel
theorem dX10_init_103 : decode cX10_init 103 = .ok (.getstatic 56, 3) := by decide +kernel
theorem dX10_init_106 : decode cX10_init 106 = .ok (.iconst 0, 1) := by decide +kernel
theorem dX10_init_107 : decode cX10_init 107 = .ok (.aload_n 0, 1) := by decide +kernel
theorem dX10_init_108 : decode cX10_init 108 = .ok (.getfield 9, 3) := by decide +kernel
theorem dX10_init_111 : decode cX10_init 111 = .ok (.bipush 20, 2) := by decide +kernel
theorem dX10_init_113 : decode cX10_init 113 = .ok (.getstatic 56, 3) := by decide +kernel
theorem dX10_init_116 : decode cX10_init 116 = .ok (.arraylength, 1) := by decide +kernel
theorem dX10_init_117 : decode cX10_init 117 = .ok (.invokestatic 59, 3) := by decide +kernel
theorem dX10_init_120 : decode cX10_init 120 = .ok (.getstatic 65, 3) := by decide +kernel
theorem dX10_init_123 : decode cX10_init 123 = .ok (.iconst 0, 1) := by decide +kernel
theorem dX10_init_124 : decode cX10_init 124 = .ok (.aload_n 0, 1) := by decide +kernel
theorem dX10_init_125 : decode cX10_init 125 = .ok (.getfield 9, 3) := by decide +kernel
theorem dX10_init_128 : decode cX10_init 128 = .ok (.bipush 40, 2) := by decide +kernel
theorem dX10_init_130 : decode cX10_init 130 = .ok (.getstatic 65, 3) := by decide +kernel
theorem dX10_init_133 : decode cX10_init 133 = .ok (.arraylength, 1) := by decide +kernel
theorem dX10_init_134 : decode cX10_init 134 = .ok (.invokestatic 59, 3) := by decide +kernel
theorem dX10_init_137 : decode cX10_init 137 = .ok (.getstatic 68, 3) := by decide +kernel
theorem dX10_init_140 : decode cX10_init 140 = .ok (.iconst 0, 1) := by decide +kernel
theorem dX10_init_141 : decode cX10_init 141 = .ok (.aload_n 0, 1) := by decide +kernel
theorem dX10_init_142 : decode cX10_init 142 = .ok (.getfield 9, 3) := by decide +kernel
theorem dX10_init_145 : decode cX10_init 145 = .ok (.bipush 48, 2) := by decide +kernel
theorem dX10_init_147 : decode cX10_init 147 = .ok (.getstatic 68, 3) := by decide +kernel
theorem dX10_init_150 : decode cX10_init 150 = .ok (.arraylength, 1) := by decide +kernel
theorem dX10_init_151 : decode cX10_init 151 = .ok (.invokestatic 59, 3) := by decide +kernel
theorem dX10_init_154 : decode cX10_init 154 = .ok (.aload_n 0, 1) := by decide +kernel
theorem dX10_init_155 : decode cX10_init 155 = .ok (.getfield 9, 3) := by decide +kernel
theorem dX10_init_158 : decode cX10_init 158 = .ok (.bipush 31, 2) := by decide +kernel
theorem dX10_init_160 : decode cX10_init 160 = .ok (.aload_n 0, 1) := by decide +kernel
theorem dX10_init_161 : decode cX10_init 161 = .ok (.getfield 9, 3) := by decide +kernel
theorem dX10_init_164 : decode cX10_init 164 = .ok (.bipush 21, 2) := by decide +kernel
theorem dX10_init_166 : decode cX10_init 166 = .ok (.iaload, 1) := by decide +kernel
theorem dX10_init_167 : decode cX10_init 167 = .ok (.iastore, 1) := by decide +kernel
theorem dX10_init_168 : decode cX10_init 168 = .ok (.aload_n 0, 1) := by decide +kernel
theorem dX10_init_169 : decode cX10_init 169 = .ok (.getfield 9, 3) := by decide +kernel
theorem dX10_init_172 : decode cX10_init 172 = .ok (.bipush 37, 2) := by decide +kernel
theorem dX10_init_174 : decode cX10_init 174 = .ok (.aload_n 0, 1) := by decide +kernel
theorem dX10_init_175 : decode cX10_init 175 = .ok (.getfield 9, 3) := by decide +kernel
theorem dX10_init_178 : decode cX10_init 178 = .ok (.bipush 20, 2) := by decide +kernel
theorem dX10_init_180 : decode cX10_init 180 = .ok (.iaload, 1) := by decide +kernel
theorem dX10_init_181 : decode cX10_init 181 = .ok (.iastore, 1) := by decide +kernel
theorem dX10_init_182 : decode cX10_init 182 = .ok (.return_, 1) := by decide +kernel
theorem dX10_become_0 : decode cX10_become 0 = .ok (.aload_n 1, 1) := by decide +kernel
theorem dX10_become_1 : decode cX10_become 1 = .ok (.getfield 9, 3) := by decide +kernel
theorem dX10_become_4 : decode cX10_become 4 = .ok (.iconst 0, 1) := by decide +kernel
theorem dX10_become_5 : decode cX10_become 5 = .ok (.aload_n 0, 1) := by decide +kernel
theorem dX10_become_6 : decode cX10_become 6 = .ok (.getfield 9, 3) := by decide +kernel
theorem dX10_become_9 : decode cX10_become 9 = .ok (.iconst 0, 1) := by decide +kernel
theorem dX10_become_10 : decode cX10_become 10 = .ok (.bipush 54, 2) := by decide +kernel
theorem dX10_become_12 : decode cX10_become 12 = .ok (.invokestatic 59, 3) := by decide +kernel
theorem dX10_become_15 : decode cX10_become 15 = .ok (.aload_n 0, 1) := by decide +kernel
theorem dX10_become_16 : decode cX10_become 16 = .ok (.getfield 18, 3) := by decide +kernel
theorem dX10_become_19 : decode cX10_become 19 = .ok (.aload_n 1, 1) := by decide +kernel
theorem dX10_become_20 : decode cX10_become 20 = .ok (.getfield 18, 3) := by decide +kernel
theorem dX10_become_23 : decode cX10_become 23 = .ok (.invokevirtual 71, 3) := by decide +kernel
theorem dX10_become_26 : decode cX10_become 26 = .ok (.aload_n 0, 1) := by decide +kernel
theorem dX10_become_27 : decode cX10_become 27 = .ok (.getfield 36, 3) := by decide +kernel
theorem dX10_become_30 : decode cX10_become 30 = .ok (.aload_n 1, 1) := by decide +kernel
theorem dX10_become_31 : decode cX10_become 31 = .ok (.getfield 36, 3) := by decide +kernel
theorem dX10_become_34 : decode cX10_become 34 = .ok (.invokevirtual 75, 3) := by decide +kernel
theorem dX10_become_37 : decode cX10_become 37 = .ok (.aload_n 0, 1) := by decide +kernel
theorem dX10_become_38 : decode cX10_become 38 = .ok (.getfield 45, 3) := by decide +kernel
theorem dX10_become_41 : decode cX10_become 41 = .ok (.aload_n 1, 1) := by decide +kernel
theorem dX10_become_42 : decode cX10_become 42 = .ok (.getfield 45, 3) := by decide +kernel
theorem dX10_become_45 : decode cX10_become 45 = .ok (.invokevirtual 78, 3) := by decide +kernel
theorem dX10_become_48 : decode cX10_become 48 = .ok (.aload_n 0, 1) := by decide +kernel
theorem dX10_become_49 : decode cX10_become 49 = .ok (.getfield 52, 3) := by decide +kernel
theorem dX10_become_52 : decode cX10_become 52 = .ok (.aload_n 1, 1) := by decide +kernel
theorem dX10_become_53 : decode cX10_become 53 = .ok (.getfield 52, 3) := by decide +kernel
theorem dX10_become_56 : decode cX10_become 56 = .ok (.invokevirtual 81, 3) := by decide +kernel
theorem dX10_become_59 : decode cX10_become 59 = .ok (.return_, 1) := by decide +kernel
theorem dX10_startAnew_0 : decode cX10_startAnew 0 = .ok (.iconst 0, 1) := by decide +kernel
theorem dX10_startAnew_1 : decode cX10_startAnew 1 = .ok (.istore_n 1, 1) := by decide +kernel
theorem dX10_startAnew_2 : decode cX10_startAnew 2 = .ok (.iload_n 1, 1) := by decide +kernel
theorem dX10_startAnew_3 : decode cX10_startAnew 3 = .ok (.bipush 40, 2) := by decide +kernel
theorem dX10_startAnew_5 : decode cX10_startAnew 5 = .ok (.if_icmp .ge 28, 3) := by decide +kernel
theorem dX10_startAnew_8 : decode cX10_startAnew 8 = .ok (.iload_n 1, 1) := by decide +kernel
theorem dX10_startAnew_9 : decode cX10_startAnew 9 = .ok (.bipush 20, 2) := by decide +kernel
theorem dX10_startAnew_11 : decode cX10_startAnew 11 = .ok (.if_icmp .lt 9, 3) := by decide +kernel
theorem dX10_startAnew_14 : decode cX10_startAnew 14 = .ok (.iload_n 1, 1) := by decide +kernel
theorem dX10_startAnew_15 : decode cX10_startAnew 15 = .ok (.bipush 31, 2) := by decide +kernel
theorem dX10_startAnew_17 : decode cX10_startAnew 17 = .ok (.if_icmp .lt 10, 3) := by decide +kernel
theorem dX10_startAnew_20 : decode cX10_startAnew 20 = .ok (.aload_n 0, 1) := by decide +kernel
theorem dX10_startAnew_21 : decode cX10_startAnew 21 = .ok (.getfield 9, 3) := by decide +kernel
theorem dX10_startAnew_24 : decode cX10_startAnew 24 = .ok (.iload_n 1, 1) := by decide +kernel
theorem dX10_startAnew_25 : decode cX10_startAnew 25 = .ok (.iconst 0, 1) := by decide +kernel
theorem dX10_startAnew_26 : decode cX10_startAnew 26 = .ok (.iastore, 1) := by decide +kernel
theorem dX10_startAnew_27 : decode cX10_startAnew 27 = .ok (.iinc 1 1, 3) := by decide +kernel
theorem dX10_startAnew_30 : decode cX10_startAnew 30 = .ok (.goto (-28), 3) := by decide +kernel
theorem dX10_startAnew_33 : decode cX10_startAnew 33 = .ok (.aload_n 0, 1) := by decide +kernel
theorem dX10_startAnew_34 : decode cX10_startAnew 34 = .ok (.getfield 9, 3) := by decide +kernel
theorem dX10_startAnew_37 : decode cX10_startAnew 37 = .ok (.bipush 31, 2) := by decide +kernel
theorem dX10_startAnew_39 : decode cX10_startAnew 39 = .ok (.aload_n 0, 1) := by decide +kernel
theorem dX10_startAnew_40 : decode cX10_startAnew 40 = .ok (.getfield 9, 3) := by decide +kernel
theorem dX10_startAnew_43 : decode cX10_startAnew 43 = .ok (.bipush 21, 2) := by decide +kernel
theorem dX10_startAnew_45 : decode cX10_startAnew 45 = .ok (.iaload, 1) := by decide +kernel
theorem dX10_startAnew_46 : decode cX10_startAnew 46 = .ok (.iastore, 1) := by decide +kernel
theorem dX10_startAnew_47 : decode cX10_startAnew 47 = .ok (.aload_n 0, 1) := by decide +kernel
theorem dX10_startAnew_48 : decode cX10_startAnew 48 = .ok (.getfield 9, 3) := by decide +kernel
theorem dX10_startAnew_51 : decode cX10_startAnew 51 = .ok (.bipush 37, 2) := by decide +kernel
theorem dX10_startAnew_53 : decode cX10_startAnew 53 = .ok (.aload_n 0, 1) := by decide +kernel
theorem dX10_startAnew_54 : decode cX10_startAnew 54 = .ok (.getfield 9, 3) := by decide +kernel
theorem dX10_startAnew_57 : decode cX10_startAnew 57 = .ok (.bipush 20, 2) := by decide +kernel
theorem dX10_startAnew_59 : decode cX10_startAnew 59 = .ok (.iaload, 1) := by decide +kernel
theorem dX10_startAnew_60 : decode cX10_startAnew 60 = .ok (.iastore, 1) := by decide +kernel
theorem dX10_startAnew_61 : decode cX10_startAnew 61 = .ok (.aload_n 0, 1) := by decide +kernel
theorem dX10_startAnew_62 : decode cX10_startAnew 62 = .ok (.getfield 18, 3) := by decide +kernel
theorem dX10_startAnew_65 : decode cX10_startAnew 65 = .ok (.invokevirtual 84, 3) := by decide +kernel
theorem dX10_startAnew_68 : decode cX10_startAnew 68 = .ok (.aload_n 0, 1) := by decide +kernel
theorem dX10_startAnew_69 : decode cX10_startAnew 69 = .ok (.getfield 36, 3) := by decide +kernel
theorem dX10_startAnew_72 : decode cX10_startAnew 72 = .ok (.invokevirtual 87, 3) := by decide +kernel
theorem dX10_startAnew_75 : decode cX10_startAnew 75 = .ok (.aload_n 0, 1) := by decide +kernel
theorem dX10_startAnew_76 : decode cX10_startAnew 76 = .ok (.getfield 52, 3) := by decide +kernel
theorem dX10_startAnew_79 : decode cX10_startAnew 79 = .ok (.invokevirtual 88, 3) := by decide +kernel
theorem dX10_startAnew_82 : decode cX10_startAnew 82 = .ok (.return_, 1) := by decide +kernel
theorem dX10_passSlot_0 : decode cX10_passSlot 0 = .ok (.aload_n 0, 1) := by decide +kernel
theorem dX10_passSlot_1 : decode cX10_passSlot 1 = .ok (.getfield 9, 3) := by decide +kernel
theorem dX10_passSlot_4 : decode cX10_passSlot 4 = .ok (.iconst 0, 1) := by decide +kernel
theorem dX10_passSlot_5 : decode cX10_passSlot 5 = .ok (.iaload, 1) := by decide +kernel
theorem dX10_passSlot_6 : decode cX10_passSlot 6 = .ok (.istore_n 1, 1) := by decide +kernel
theorem dX10_passSlot_7 : decode cX10_passSlot 7 = .ok (.iload_n 1, 1) := by decide +kernel
theorem dX10_passSlot_8 : decode cX10_passSlot 8 = .ok (.iconst 4, 1) := by decide +kernel
theorem dX10_passSlot_9 : decode cX10_passSlot 9 = .ok (.irem, 1) := by decide +kernel
theorem dX10_passSlot_10 : decode cX10_passSlot 10 = .ok (.ifCond .ne 37, 3) := by decide +kernel
theorem dX10_passSlot_13 : decode cX10_passSlot 13 = .ok (.iload_n 1, 1) := by decide +kernel
theorem dX10_passSlot_14 : decode cX10_passSlot 14 = .ok (.iconst 4, 1) := by decide +kernel
theorem dX10_passSlot_15 : decode cX10_passSlot 15 = .ok (.idiv, 1) := by decide +kernel
theorem dX10_passSlot_16 : decode cX10_passSlot 16 = .ok (.istore_n 2, 1) := by decide +kernel
theorem dX10_passSlot_17 : decode cX10_passSlot 17 = .ok (.aload_n 0, 1) := by decide +kernel
theorem dX10_passSlot_18 : decode cX10_passSlot 18 = .ok (.getfield 36, 3) := by decide +kernel
theorem dX10_passSlot_21 : decode cX10_passSlot 21 = .ok (.iload_n 2, 1) := by decide +kernel
theorem dX10_passSlot_22 : decode cX10_passSlot 22 = .ok (.invokevirtual 89, 3) := by decide +kernel
theorem dX10_passSlot_25 : decode cX10_passSlot 25 = .ok (.aload_n 0, 1) := by decide +kernel
theorem dX10_passSlot_26 : decode cX10_passSlot 26 = .ok (.getfield 45, 3) := by decide +kernel
theorem dX10_passSlot_29 : decode cX10_passSlot 29 = .ok (.iload_n 2, 1) := by decide +kernel
theorem dX10_passSlot_30 : decode cX10_passSlot 30 = .ok (.aload_n 0, 1) := by decide +kernel
theorem dX10_passSlot_31 : decode cX10_passSlot 31 = .ok (.getfield 36, 3) := by decide +kernel
theorem dX10_passSlot_34 : decode cX10_passSlot 34 = .ok (.getfield 93, 3) := by decide +kernel
theorem dX10_passSlot_37 : decode cX10_passSlot 37 = .ok (.invokevirtual 97, 3) := by decide +kernel
theorem dX10_passSlot_40 : decode cX10_passSlot 40 = .ok (.aload_n 0, 1) := by decide +kernel
theorem dX10_passSlot_41 : decode cX10_passSlot 41 = .ok (.getfield 36, 3) := by decide +kernel
theorem dX10_passSlot_44 : decode cX10_passSlot 44 = .ok (.invokevirtual 101, 3) := by decide +kernel
theorem dX10_passSlot_47 : decode cX10_passSlot 47 = .ok (.aload_n 0, 1) := by decide +kernel
theorem dX10_passSlot_48 : decode cX10_passSlot 48 = .ok (.getfield 45, 3) := by decide +kernel
theorem dX10_passSlot_51 : decode cX10_passSlot 51 = .ok (.iload_n 1, 1) := by decide +kernel
theorem dX10_passSlot_52 : decode cX10_passSlot 52 = .ok (.invokevirtual 104, 3) := by decide +kernel
theorem dX10_passSlot_55 : decode cX10_passSlot 55 = .ok (.aload_n 0, 1) := by decide +kernel
theorem dX10_passSlot_56 : decode cX10_passSlot 56 = .ok (.getfield 52, 3) := by decide +kernel
theorem dX10_passSlot_59 : decode cX10_passSlot 59 = .ok (.invokevirtual 107, 3) := by decide +kernel
theorem dX10_passSlot_62 : decode cX10_passSlot 62 = .ok (.istore_n 2, 1) := by decide +kernel
theorem dX10_passSlot_63 : decode cX10_passSlot 63 = .ok (.iload_n 2, 1) := by decide +kernel
theorem dX10_passSlot_64 : decode cX10_passSlot 64 = .ok (.ifCond .le 17, 3) := by decide +kernel
theorem dX10_passSlot_67 : decode cX10_passSlot 67 = .ok (.aload_n 0, 1) := by decide +kernel
theorem dX10_passSlot_68 : decode cX10_passSlot 68 = .ok (.getfield 52, 3) := by decide +kernel
theorem dX10_passSlot_71 : decode cX10_passSlot 71 = .ok (.iload_n 1, 1) := by decide +kernel
theorem dX10_passSlot_72 : decode cX10_passSlot 72 = .ok (.invokevirtual 111, 3) := by decide +kernel
theorem dX10_passSlot_75 : decode cX10_passSlot 75 = .ok (.iinc 2 (-1), 3) := by decide +kernel
theorem dX10_passSlot_78 : decode cX10_passSlot 78 = .ok (.goto (-15), 3) := by decide +kernel
theorem dX10_passSlot_81 : decode cX10_passSlot 81 = .ok (.aload_n 0, 1) := by decide +kernel
theorem dX10_passSlot_82 : decode cX10_passSlot 82 = .ok (.getfield 9, 3) := by decide +kernel
theorem dX10_passSlot_85 : decode cX10_passSlot 85 = .ok (.iconst 0, 1) := by decide +kernel
theorem dX10_passSlot_86 : decode cX10_passSlot 86 = .ok (.iload_n 1, 1) := by decide +kernel
theorem dX10_passSlot_87 : decode cX10_passSlot 87 = .ok (.iconst 1, 1) := by decide +kernel
theorem dX10_passSlot_88 : decode cX10_passSlot 88 = .ok (.iadd, 1) := by decide +kernel
theorem dX10_passSlot_89 : decode cX10_passSlot 89 = .ok (.iastore, 1) := by decide +kernel
theorem dX10_passSlot_90 : decode cX10_passSlot 90 = .ok (.return_, 1) := by decide +kernel
theorem dX11_init_0 : decode cX11_init 0 = .ok (.aload_n 0, 1) := by decide +kernel
theorem dX11_init_1 : decode cX11_init 1 = .ok (.invokespecial 1, 3) := by decide +kernel
theorem dX11_init_4 : decode cX11_init 4 = .ok (.aload_n 0, 1) := by decide +kernel
theorem dX11_init_5 : decode cX11_init 5 = .ok (.new 7, 3) := by decide +kernel
theorem dX11_init_8 : decode cX11_init 8 = .ok (.dup, 1) := by decide +kernel
theorem dX11_init_9 : decode cX11_init 9 = .ok (.invokespecial 9, 3) := by decide +kernel
theorem dX11_init_12 : decode cX11_init 12 = .ok (.putfield 10, 3) := by decide +kernel
theorem dX11_init_15 : decode cX11_init 15 = .ok (.aload_n 0, 1) := by decide +kernel
theorem dX11_init_16 : decode cX11_init 16 = .ok (.iconst 2, 1) := by decide +kernel
theorem dX11_init_17 : decode cX11_init 17 = .ok (.anewarray 7, 3) := by decide +kernel
theorem dX11_init_20 : decode cX11_init 20 = .ok (.putfield 16, 3) := by decide +kernel
theorem dX11_init_23 : decode cX11_init 23 = .ok (.aload_n 0, 1) := by decide +kernel
theorem dX11_init_24 : decode cX11_init 24 = .ok (.aconst_null, 1) := by decide +kernel
theorem dX11_init_25 : decode cX11_init 25 = .ok (.putfield 20, 3) := by decide +kernel
theorem dX11_init_28 : decode cX11_init 28 = .ok (.aload_n 0, 1) := by decide +kernel
theorem dX11_init_29 : decode cX11_init 29 = .ok (.new 23, 3) := by decide +kernel
theorem dX11_init_32 : decode cX11_init 32 = .ok (.dup, 1) := by decide +kernel
theorem dX11_init_33 : decode cX11_init 33 = .ok (.invokespecial 25, 3) := by decide +kernel
theorem dX11_init_36 : decode cX11_init 36 = .ok (.putfield 26, 3) := by decide +kernel
theorem dX11_init_39 : decode cX11_init 39 = .ok (.aload_n 0, 1) := by decide +kernel
theorem dX11_init_40 : decode cX11_init 40 = .ok (.new 30, 3) := by decide +kernel
theorem dX11_init_43 : decode cX11_init 43 = .ok (.dup, 1) := by decide +kernel
theorem dX11_init_44 : decode cX11_init 44 = .ok (.invokespecial 32, 3) := by decide +kernel
theorem dX11_init_47 : decode cX11_init 47 = .ok (.putfield 33, 3) := by decide +kernel
theorem dX11_init_50 : decode cX11_init 50 = .ok (.aload_n 0, 1) := by decide +kernel
theorem dX11_init_51 : decode cX11_init 51 = .ok (.new 37, 3) := by decide +kernel
theorem dX11_init_54 : decode cX11_init 54 = .ok (.dup, 1) := by decide +kernel
theorem dX11_init_55 : decode cX11_init 55 = .ok (.invokespecial 39, 3) := by decide +kernel
theorem dX11_init_58 : decode cX11_init 58 = .ok (.putfield 40, 3) := by decide +kernel
theorem dX11_init_61 : decode cX11_init 61 = .ok (.aload_n 0, 1) := by decide +kernel
theorem dX11_init_62 : decode cX11_init 62 = .ok (.bipush 32, 2) := by decide +kernel
theorem dX11_init_64 : decode cX11_init 64 = .ok (.newarray .int, 2) := by decide +kernel
theorem dX11_init_66 : decode cX11_init 66 = .ok (.putfield 44, 3) := by decide +kernel
theorem dX11_init_69 : decode cX11_init 69 = .ok (.aload_n 0, 1) := by decide +kernel
theorem dX11_init_70 : decode cX11_init 70 = .ok (.bipush 8, 2) := by decide +kernel
theorem dX11_init_72 : decode cX11_init 72 = .ok (.newarray .int, 2) := by decide +kernel
theorem dX11_init_74 : decode cX11_init 74 = .ok (.putfield 48, 3) := by decide +kernel
theorem dX11_init_77 : decode cX11_init 77 = .ok (.return_, 1) := by decide +kernel
theorem dX11_tone_0 : decode cX11_tone 0 = .ok (.iload_n 1, 1) := by decide +kernel
theorem dX11_tone_1 : decode cX11_tone 1 = .ok (.iconst 0, 1) := by decide +kernel
theorem dX11_tone_2 : decode cX11_tone 2 = .ok (.iconst 1, 1) := by decide +kernel
theorem dX11_tone_3 : decode cX11_tone 3 = .ok (.invokestatic 51, 3) := by decide +kernel
theorem dX11_tone_6 : decode cX11_tone 6 = .ok (.ifCond .eq 37, 3) := by decide +kernel
theorem dX11_tone_9 : decode cX11_tone 9 = .ok (.iload_n 2, 1) := by decide +kernel
theorem dX11_tone_10 : decode cX11_tone 10 = .ok (.iconst 2, 1) := by decide +kernel
theorem dX11_tone_11 : decode cX11_tone 11 = .ok (.sipush 200, 3) := by decide +kernel
theorem dX11_tone_14 : decode cX11_tone 14 = .ok (.invokestatic 51, 3) := by decide +kernel
theorem dX11_tone_17 : decode cX11_tone 17 = .ok (.ifCond .eq 26, 3) := by decide +kernel
theorem dX11_tone_20 : decode cX11_tone 20 = .ok (.iload_n 3, 1) := by decide +kernel
theorem dX11_tone_21 : decode cX11_tone 21 = .ok (.iconst 0, 1) := by decide +kernel
theorem dX11_tone_22 : decode cX11_tone 22 = .ok (.sipush 2000, 3) := by decide +kernel
theorem dX11_tone_25 : decode cX11_tone 25 = .ok (.invokestatic 51, 3) := by decide +kernel
theorem dX11_tone_28 : decode cX11_tone 28 = .ok (.ifCond .eq 15, 3) := by decide +kernel
theorem dX11_tone_31 : decode cX11_tone 31 = .ok (.iload 4, 2) := by decide +kernel
theorem dX11_tone_33 : decode cX11_tone 33 = .ok (.iconst 0, 1) := by decide +kernel
theorem dX11_tone_34 : decode cX11_tone 34 = .ok (.sipush 500, 3) := by decide +kernel
theorem dX11_tone_37 : decode cX11_tone 37 = .ok (.invokestatic 51, 3) := by decide +kernel
theorem dX11_tone_40 : decode cX11_tone 40 = .ok (.ifCond .ne 5, 3) := by decide +kernel
theorem dX11_tone_43 : decode cX11_tone 43 = .ok (.iconst 0, 1) := by decide +kernel
theorem dX11_tone_44 : decode cX11_tone 44 = .ok (.ireturn, 1) := by decide +kernel
theorem dX11_tone_45 : decode cX11_tone 45 = .ok (.bipush 48, 2) := by decide +kernel
theorem dX11_tone_47 : decode cX11_tone 47 = .ok (.iconst 3, 1) := by decide +kernel
theorem dX11_tone_48 : decode cX11_tone 48 = .ok (.iload_n 1, 1) := by decide +kernel
theorem dX11_tone_49 : decode cX11_tone 49 = .ok (.imul, 1) := by decide +kernel
theorem dX11_tone_50 : decode cX11_tone 50 = .ok (.iadd, 1) := by decide +kernel
theorem dX11_tone_51 : decode cX11_tone 51 = .ok (.istore 5, 2) := by decide +kernel
theorem dX11_tone_53 : decode cX11_tone 53 = .ok (.aload_n 0, 1) := by decide +kernel
theorem dX11_tone_54 : decode cX11_tone 54 = .ok (.getfield 10, 3) := by decide +kernel
theorem dX11_tone_57 : decode cX11_tone 57 = .ok (.getfield 55, 3) := by decide +kernel
theorem dX11_tone_60 : decode cX11_tone 60 = .ok (.iload 5, 2) := by decide +kernel
theorem dX11_tone_62 : decode cX11_tone 62 = .ok (.iload_n 2, 1) := by decide +kernel
theorem dX11_tone_63 : decode cX11_tone 63 = .ok (.iastore, 1) := by decide +kernel
theorem dX11_tone_64 : decode cX11_tone 64 = .ok (.aload_n 0, 1) := by decide +kernel
theorem dX11_tone_65 : decode cX11_tone 65 = .ok (.getfield 10, 3) := by decide +kernel
theorem dX11_tone_68 : decode cX11_tone 68 = .ok (.getfield 55, 3) := by decide +kernel
theorem dX11_tone_71 : decode cX11_tone 71 = .ok (.iload 5, 2) := by decide +kernel
theorem dX11_tone_73 : decode cX11_tone 73 = .ok (.iconst 1, 1) := by decide +kernel
theorem dX11_tone_74 : decode cX11_tone 74 = .ok (.iadd, 1) := by decide +kernel
theorem dX11_tone_75 : decode cX11_tone 75 = .ok (.iload_n 3, 1) := by decide +kernel
theorem dX11_tone_76 : decode cX11_tone 76 = .ok (.iastore, 1) := by decide +kernel
theorem dX11_tone_77 : decode cX11_tone 77 = .ok (.aload_n 0, 1) := by decide +kernel
theorem dX11_tone_78 : decode cX11_tone 78 = .ok (.getfield 10, 3) := by decide +kernel
theorem dX11_tone_81 : decode cX11_tone 81 = .ok (.getfield 55, 3) := by decide +kernel
theorem dX11_tone_84 : decode cX11_tone 84 = .ok (.iload 5, 2) := by decide +kernel
theorem dX11_tone_86 : decode cX11_tone 86 = .ok (.iconst 2, 1) := by decide +kernel
theorem dX11_tone_87 : decode cX11_tone 87 = .ok (.iadd, 1) := by decide +kernel
theorem dX11_tone_88 : decode cX11_tone 88 = .ok (.iload 4, 2) := by decide +kernel
theorem dX11_tone_90 : decode cX11_tone 90 = .ok (.iastore, 1) := by decide +kernel
theorem dX11_tone_91 : decode cX11_tone 91 = .ok (.iconst 1, 1) := by decide +kernel
theorem dX11_tone_92 : decode cX11_tone 92 = .ok (.ireturn, 1) := by decide +kernel
theorem dX11_sets_0 : decode cX11_sets 0 = .ok (.iload_n 1, 1) := by decide +kernel
theorem dX11_sets_1 : decode cX11_sets 1 = .ok (.iconst 0, 1) := by decide +kernel
theorem dX11_sets_2 : decode cX11_sets 2 = .ok (.getstatic 58, 3) := by decide +kernel
theorem dX11_sets_5 : decode cX11_sets 5 = .ok (.arraylength, 1) := by decide +kernel
theorem dX11_sets_6 : decode cX11_sets 6 = .ok (.iconst 1, 1) := by decide +kernel
theorem dX11_sets_7 : decode cX11_sets 7 = .ok (.isub, 1) := by decide +kernel
theorem dX11_sets_8 : decode cX11_sets 8 = .ok (.invokestatic 51, 3) := by decide +kernel
theorem dX11_sets_11 : decode cX11_sets 11 = .ok (.ifCond .eq 20, 3) := by decide +kernel
theorem dX11_sets_14 : decode cX11_sets 14 = .ok (.iload_n 2, 1) := by decide +kernel
theorem dX11_sets_15 : decode cX11_sets 15 = .ok (.getstatic 61, 3) := by decide +kernel
theorem dX11_sets_18 : decode cX11_sets 18 = .ok (.iload_n 1, 1) := by decide +kernel
theorem dX11_sets_19 : decode cX11_sets 19 = .ok (.iaload, 1) := by decide +kernel
theorem dX11_sets_20 : decode cX11_sets 20 = .ok (.getstatic 64, 3) := by decide +kernel
theorem dX11_sets_23 : decode cX11_sets 23 = .ok (.iload_n 1, 1) := by decide +kernel
theorem dX11_sets_24 : decode cX11_sets 24 = .ok (.iaload, 1) := by decide +kernel
theorem dX11_sets_25 : decode cX11_sets 25 = .ok (.invokestatic 51, 3) := by decide +kernel
theorem dX11_sets_28 : decode cX11_sets 28 = .ok (.ifCond .ne 5, 3) := by decide +kernel
theorem dX11_sets_31 : decode cX11_sets 31 = .ok (.iconst 0, 1) := by decide +kernel
theorem dX11_sets_32 : decode cX11_sets 32 = .ok (.ireturn, 1) := by decide +kernel
theorem dX11_sets_33 : decode cX11_sets 33 = .ok (.bipush 20, 2) := by decide +kernel
theorem dX11_sets_35 : decode cX11_sets 35 = .ok (.iload_n 1, 1) := by decide +kernel
theorem dX11_sets_36 : decode cX11_sets 36 = .ok (.iadd, 1) := by decide +kernel
theorem dX11_sets_37 : decode cX11_sets 37 = .ok (.istore_n 3, 1) := by decide +kernel
theorem dX11_sets_38 : decode cX11_sets 38 = .ok (.aload_n 0, 1) := by decide +kernel
theorem dX11_sets_39 : decode cX11_sets 39 = .ok (.getfield 10, 3) := by decide +kernel
theorem dX11_sets_42 : decode cX11_sets 42 = .ok (.getfield 55, 3) := by decide +kernel
theorem dX11_sets_45 : decode cX11_sets 45 = .ok (.iload_n 3, 1) := by decide +kernel
theorem dX11_sets_46 : decode cX11_sets 46 = .ok (.iload_n 2, 1) := by decide +kernel
theorem dX11_sets_47 : decode cX11_sets 47 = .ok (.iastore, 1) := by decide +kernel
theorem dX11_sets_48 : decode cX11_sets 48 = .ok (.iload_n 3, 1) := by decide +kernel
theorem dX11_sets_49 : decode cX11_sets 49 = .ok (.bipush 20, 2) := by decide +kernel
theorem dX11_sets_51 : decode cX11_sets 51 = .ok (.if_icmp .ne 14, 3) := by decide +kernel
theorem dX11_sets_54 : decode cX11_sets 54 = .ok (.aload_n 0, 1) := by decide +kernel
theorem dX11_sets_55 : decode cX11_sets 55 = .ok (.getfield 10, 3) := by decide +kernel
theorem dX11_sets_58 : decode cX11_sets 58 = .ok (.getfield 55, 3) := by decide +kernel
theorem dX11_sets_61 : decode cX11_sets 61 = .ok (.bipush 37, 2) := by decide +kernel
theorem dX11_sets_63 : decode cX11_sets 63 = .ok (.iload_n 2, 1) := by decide +kernel
theorem dX11_sets_64 : decode cX11_sets 64 = .ok (.iastore, 1) := by decide +kernel
theorem dX11_sets_65 : decode cX11_sets 65 = .ok (.iload_n 3, 1) := by decide +kernel
theorem dX11_sets_66 : decode cX11_sets 66 = .ok (.bipush 21, 2) := by decide +kernel
theorem dX11_sets_68 : decode cX11_sets 68 = .ok (.if_icmp .eq 13, 3) := by decide +kernel
theorem dX11_sets_71 : decode cX11_sets 71 = .ok (.iload_n 3, 1) := by decide +kernel
theorem dX11_sets_72 : decode cX11_sets 72 = .ok (.bipush 29, 2) := by decide +kernel
theorem dX11_sets_74 : decode cX11_sets 74 = .ok (.if_icmp .ne 27, 3) := by decide +kernel
theorem dX11_sets_77 : decode cX11_sets 77 = .ok (.iload_n 2, 1) := by decide +kernel
theorem dX11_sets_78 : decode cX11_sets 78 = .ok (.ifCond .ne 23, 3) := by decide +kernel
theorem dX11_sets_81 : decode cX11_sets 81 = .ok (.aload_n 0, 1) := by decide +kernel
theorem dX11_sets_82 : decode cX11_sets 82 = .ok (.getfield 10, 3) := by decide +kernel
theorem dX11_sets_85 : decode cX11_sets 85 = .ok (.getfield 55, 3) := by decide +kernel
theorem dX11_sets_88 : decode cX11_sets 88 = .ok (.bipush 31, 2) := by decide +kernel
theorem dX11_sets_90 : decode cX11_sets 90 = .ok (.aload_n 0, 1) := by decide +kernel
theorem dX11_sets_91 : decode cX11_sets 91 = .ok (.getfield 10, 3) := by decide +kernel
theorem dX11_sets_94 : decode cX11_sets 94 = .ok (.getfield 55, 3) := by decide +kernel
theorem dX11_sets_97 : decode cX11_sets 97 = .ok (.bipush 21, 2) := by decide +kernel
theorem dX11_sets_99 : decode cX11_sets 99 = .ok (.iaload, 1) := by decide +kernel
theorem dX11_sets_100 : decode cX11_sets 100 = .ok (.iastore, 1) := by decide +kernel
theorem dX11_sets_101 : decode cX11_sets 101 = .ok (.iconst 1, 1) := by decide +kernel
theorem dX11_sets_102 : decode cX11_sets 102 = .ok (.ireturn, 1) := by decide +kernel
theorem dX11_loud_0 : decode cX11_loud 0 = .ok (.iload_n 1, 1) := by decide +kernel
theorem dX11_loud_1 : decode cX11_loud 1 = .ok (.iconst 0, 1) := by decide +kernel
theorem dX11_loud_2 : decode cX11_loud 2 = .ok (.bipush 7, 2) := by decide +kernel
theorem dX11_loud_4 : decode cX11_loud 4 = .ok (.invokestatic 51, 3) := by decide +kernel
theorem dX11_loud_7 : decode cX11_loud 7 = .ok (.ifCond .eq 14, 3) := by decide +kernel
theorem dX11_loud_10 : decode cX11_loud 10 = .ok (.iload_n 2, 1) := by decide +kernel
theorem dX11_loud_11 : decode cX11_loud 11 = .ok (.bipush (-4), 2) := by decide +kernel
theorem dX11_loud_13 : decode cX11_loud 13 = .ok (.bipush 8, 2) := by decide +kernel
theorem dX11_loud_15 : decode cX11_loud 15 = .ok (.invokestatic 51, 3) := by decide +kernel
theorem dX11_loud_18 : decode cX11_loud 18 = .ok (.ifCond .ne 5, 3) := by decide +kernel
theorem dX11_loud_21 : decode cX11_loud 21 = .ok (.iconst 0, 1) := by decide +kernel
theorem dX11_loud_22 : decode cX11_loud 22 = .ok (.ireturn, 1) := by decide +kernel
theorem dX11_loud_23 : decode cX11_loud 23 = .ok (.aload_n 0, 1) := by decide +kernel
theorem dX11_loud_24 : decode cX11_loud 24 = .ok (.getfield 10, 3) := by decide +kernel
theorem dX11_loud_27 : decode cX11_loud 27 = .ok (.getfield 55, 3) := by decide +kernel
theorem dX11_loud_30 : decode cX11_loud 30 = .ok (.bipush 40, 2) := by decide +kernel
theorem dX11_loud_32 : decode cX11_loud 32 = .ok (.iload_n 1, 1) := by decide +kernel
theorem dX11_loud_33 : decode cX11_loud 33 = .ok (.iadd, 1) := by decide +kernel
theorem dX11_loud_34 : decode cX11_loud 34 = .ok (.iload_n 2, 1) := by decide +kernel
theorem dX11_loud_35 : decode cX11_loud 35 = .ok (.iastore, 1) := by decide +kernel
theorem dX11_loud_36 : decode cX11_loud 36 = .ok (.iconst 1, 1) := by decide +kernel
theorem dX11_loud_37 : decode cX11_loud 37 = .ok (.ireturn, 1) := by decide +kernel
theorem dX11_burst_0 : decode cX11_burst 0 = .ok (.iload_n 1, 1) := by decide +kernel
theorem dX11_burst_1 : decode cX11_burst 1 = .ok (.iconst 0, 1) := by decide +kernel
theorem dX11_burst_2 : decode cX11_burst 2 = .ok (.bipush 99, 2) := by decide +kernel
theorem dX11_burst_4 : decode cX11_burst 4 = .ok (.invokestatic 51, 3) := by decide +kernel
theorem dX11_burst_7 : decode cX11_burst 7 = .ok (.ifCond .ne 5, 3) := by decide +kernel
theorem dX11_burst_10 : decode cX11_burst 10 = .ok (.iconst (-1), 1) := by decide +kernel
theorem dX11_burst_11 : decode cX11_burst 11 = .ok (.ireturn, 1) := by decide +kernel
theorem dX11_burst_12 : decode cX11_burst 12 = .ok (.aload_n 0, 1) := by decide +kernel
theorem dX11_burst_13 : decode cX11_burst 13 = .ok (.getfield 10, 3) := by decide +kernel
theorem dX11_burst_16 : decode cX11_burst 16 = .ok (.getfield 55, 3) := by decide +kernel
theorem dX11_burst_19 : decode cX11_burst 19 = .ok (.bipush 36, 2) := by decide +kernel
theorem dX11_burst_21 : decode cX11_burst 21 = .ok (.iaload, 1) := by decide +kernel
theorem dX11_burst_22 : decode cX11_burst 22 = .ok (.istore_n 2, 1) := by decide +kernel
theorem dX11_burst_23 : decode cX11_burst 23 = .ok (.aload_n 0, 1) := by decide +kernel
theorem dX11_burst_24 : decode cX11_burst 24 = .ok (.getfield 10, 3) := by decide +kernel
theorem dX11_burst_27 : decode cX11_burst 27 = .ok (.getfield 55, 3) := by decide +kernel
theorem dX11_burst_30 : decode cX11_burst 30 = .ok (.bipush 36, 2) := by decide +kernel
theorem dX11_burst_32 : decode cX11_burst 32 = .ok (.iload_n 1, 1) := by decide +kernel
theorem dX11_burst_33 : decode cX11_burst 33 = .ok (.iastore, 1) := by decide +kernel
theorem dX11_burst_34 : decode cX11_burst 34 = .ok (.iload_n 2, 1) := by decide +kernel
theorem dX11_burst_35 : decode cX11_burst 35 = .ok (.ireturn, 1) := by decide +kernel
theorem dX11_run_0 : decode cX11_run 0 = .ok (.iload_n 1, 1) := by decide +kernel
theorem dX11_run_1 : decode cX11_run 1 = .ok (.iconst 1, 1) := by decide +kernel
theorem dX11_run_2 : decode cX11_run 2 = .ok (.sipush 400, 3) := by decide +kernel
theorem dX11_run_5 : decode cX11_run 5 = .ok (.invokestatic 51, 3) := by decide +kernel
theorem dX11_run_8 : decode cX11_run 8 = .ok (.ifCond .eq 20, 3) := by decide +kernel
theorem dX11_run_11 : decode cX11_run 11 = .ok (.aload_n 0, 1) := by decide +kernel
theorem dX11_run_12 : decode cX11_run 12 = .ok (.getfield 10, 3) := by decide +kernel
theorem dX11_run_15 : decode cX11_run 15 = .ok (.getfield 55, 3) := by decide +kernel
theorem dX11_run_18 : decode cX11_run 18 = .ok (.iconst 0, 1) := by decide +kernel
theorem dX11_run_19 : decode cX11_run 19 = .ok (.iaload, 1) := by decide +kernel
theorem dX11_run_20 : decode cX11_run 20 = .ok (.iload_n 1, 1) := by decide +kernel
theorem dX11_run_21 : decode cX11_run 21 = .ok (.iadd, 1) := by decide +kernel
theorem dX11_run_22 : decode cX11_run 22 = .ok (.sipush 10000, 3) := by decide +kernel
theorem dX11_run_25 : decode cX11_run 25 = .ok (.if_icmp .le 5, 3) := by decide +kernel
theorem dX11_run_28 : decode cX11_run 28 = .ok (.iconst (-1), 1) := by decide +kernel
theorem dX11_run_29 : decode cX11_run 29 = .ok (.ireturn, 1) := by decide +kernel
theorem dX11_run_30 : decode cX11_run 30 = .ok (.aload_n 0, 1) := by decide +kernel
theorem dX11_run_31 : decode cX11_run 31 = .ok (.getfield 10, 3) := by decide +kernel
theorem dX11_run_34 : decode cX11_run 34 = .ok (.getfield 55, 3) := by decide +kernel
theorem dX11_run_37 : decode cX11_run 37 = .ok (.bipush 7, 2) := by decide +kernel
theorem dX11_run_39 : decode cX11_run 39 = .ok (.iaload, 1) := by decide +kernel
theorem dX11_run_40 : decode cX11_run 40 = .ok (.istore_n 2, 1) := by decide +kernel
theorem dX11_run_41 : decode cX11_run 41 = .ok (.iconst 0, 1) := by decide +kernel
theorem dX11_run_42 : decode cX11_run 42 = .ok (.istore_n 3, 1) := by decide +kernel
theorem dX11_run_43 : decode cX11_run 43 = .ok (.iload_n 3, 1) := by decide +kernel
theorem dX11_run_44 : decode cX11_run 44 = .ok (.iload_n 1, 1) := by decide +kernel
theorem dX11_run_45 : decode cX11_run 45 = .ok (.if_icmp .ge 16, 3) := by decide +kernel
theorem dX11_run_48 : decode cX11_run 48 = .ok (.aload_n 0, 1) := by decide +kernel
theorem dX11_run_49 : decode cX11_run 49 = .ok (.getfield 10, 3) := by decide +kernel
theorem dX11_run_52 : decode cX11_run 52 = .ok (.invokevirtual 67, 3) := by decide +kernel
theorem dX11_run_55 : decode cX11_run 55 = .ok (.iinc 3 1, 3) := by decide +kernel
theorem dX11_run_58 : decode cX11_run 58 = .ok (.goto (-15), 3) := by decide +kernel
theorem dX11_run_61 : decode cX11_run 61 = .ok (.aload_n 0, 1) := by decide +kernel
theorem dX11_run_62 : decode cX11_run 62 = .ok (.getfield 10, 3) := by decide +kernel
theorem dX11_run_65 : decode cX11_run 65 = .ok (.getfield 55, 3) := by decide +kernel
theorem dX11_run_68 : decode cX11_run 68 = .ok (.bipush 7, 2) := by decide +kernel
theorem dX11_run_70 : decode cX11_run 70 = .ok (.iaload, 1) := by decide +kernel
theorem dX11_run_71 : decode cX11_run 71 = .ok (.iload_n 2, 1) := by decide +kernel
theorem dX11_run_72 : decode cX11_run 72 = .ok (.isub, 1) := by decide +kernel
theorem dX11_run_73 : decode cX11_run 73 = .ok (.ireturn, 1) := by decide +kernel
theorem dX11_restart_0 : decode cX11_restart 0 = .ok (.aload_n 0, 1) := by decide +kernel
theorem dX11_restart_1 : decode cX11_restart 1 = .ok (.getfield 10, 3) := by decide +kernel
theorem dX11_restart_4 : decode cX11_restart 4 = .ok (.getfield 55, 3) := by decide +kernel
theorem dX11_restart_7 : decode cX11_restart 7 = .ok (.iconst 0, 1) := by decide +kernel
theorem dX11_restart_8 : decode cX11_restart 8 = .ok (.iaload, 1) := by decide +kernel
theorem dX11_restart_9 : decode cX11_restart 9 = .ok (.istore_n 1, 1) := by decide +kernel
theorem dX11_restart_10 : decode cX11_restart 10 = .ok (.aload_n 0, 1) := by decide +kernel
theorem dX11_restart_11 : decode cX11_restart 11 = .ok (.getfield 10, 3) := by decide +kernel
theorem dX11_restart_14 : decode cX11_restart 14 = .ok (.invokevirtual 70, 3) := by decide +kernel
theorem dX11_restart_17 : decode cX11_restart 17 = .ok (.iload_n 1, 1) := by decide +kernel
theorem dX11_restart_18 : decode cX11_restart 18 = .ok (.ireturn, 1) := by decide +kernel
theorem dX11_keep_0 : decode cX11_keep 0 = .ok (.iload_n 1, 1) := by decide +kernel
theorem dX11_keep_1 : decode cX11_keep 1 = .ok (.iconst 0, 1) := by decide +kernel
theorem dX11_keep_2 : decode cX11_keep 2 = .ok (.iconst 1, 1) := by decide +kernel
theorem dX11_keep_3 : decode cX11_keep 3 = .ok (.invokestatic 51, 3) := by decide +kernel
theorem dX11_keep_6 : decode cX11_keep 6 = .ok (.ifCond .ne 5, 3) := by decide +kernel
theorem dX11_keep_9 : decode cX11_keep 9 = .ok (.iconst 0, 1) := by decide +kernel
theorem dX11_keep_10 : decode cX11_keep 10 = .ok (.ireturn, 1) := by decide +kernel
theorem dX11_keep_11 : decode cX11_keep 11 = .ok (.aload_n 0, 1) := by decide +kernel
theorem dX11_keep_12 : decode cX11_keep 12 = .ok (.getfield 16, 3) := by decide +kernel
theorem dX11_keep_15 : decode cX11_keep 15 = .ok (.iload_n 1, 1) := by decide +kernel
theorem dX11_keep_16 : decode cX11_keep 16 = .ok (.aaload, 1) := by decide +kernel
theorem dX11_keep_17 : decode cX11_keep 17 = .ok (.ifnonnull 16, 3) := by decide +kernel
theorem dX11_keep_20 : decode cX11_keep 20 = .ok (.aload_n 0, 1) := by decide +kernel
theorem dX11_keep_21 : decode cX11_keep 21 = .ok (.getfield 16, 3) := by decide +kernel
theorem dX11_keep_24 : decode cX11_keep 24 = .ok (.iload_n 1, 1) := by decide +kernel
theorem dX11_keep_25 : decode cX11_keep 25 = .ok (.new 7, 3) := by decide +kernel
theorem dX11_keep_28 : decode cX11_keep 28 = .ok (.dup, 1) := by decide +kernel
theorem dX11_keep_29 : decode cX11_keep 29 = .ok (.invokespecial 9, 3) := by decide +kernel
theorem dX11_keep_32 : decode cX11_keep 32 = .ok (.aastore, 1) := by decide +kernel
theorem dX11_keep_33 : decode cX11_keep 33 = .ok (.aload_n 0, 1) := by decide +kernel
theorem dX11_keep_34 : decode cX11_keep 34 = .ok (.getfield 16, 3) := by decide +kernel
theorem dX11_keep_37 : decode cX11_keep 37 = .ok (.iload_n 1, 1) := by decide +kernel
theorem dX11_keep_38 : decode cX11_keep 38 = .ok (.aaload, 1) := by decide +kernel
theorem dX11_keep_39 : decode cX11_keep 39 = .ok (.aload_n 0, 1) := by decide +kernel
theorem dX11_keep_40 : decode cX11_keep 40 = .ok (.getfield 10, 3) := by decide +kernel
theorem dX11_keep_43 : decode cX11_keep 43 = .ok (.invokevirtual 73, 3) := by decide +kernel
theorem dX11_keep_46 : decode cX11_keep 46 = .ok (.iconst 1, 1) := by decide +kernel
theorem dX11_keep_47 : decode cX11_keep 47 = .ok (.ireturn, 1) := by decide +kernel
theorem dX11_again_0 : decode cX11_again 0 = .ok (.iload_n 1, 1) := by decide +kernel
theorem dX11_again_1 : decode cX11_again 1 = .ok (.iconst 0, 1) := by decide +kernel
theorem dX11_again_2 : decode cX11_again 2 = .ok (.iconst 1, 1) := by decide +kernel
theorem dX11_again_3 : decode cX11_again 3 = .ok (.invokestatic 51, 3) := by decide +kernel
theorem dX11_again_6 : decode cX11_again 6 = .ok (.ifCond .eq 12, 3) := by decide +kernel
theorem dX11_again_9 : decode cX11_again 9 = .ok (.aload_n 0, 1) := by decide +kernel
theorem dX11_again_10 : decode cX11_again 10 = .ok (.getfield 16, 3) := by decide +kernel
theorem dX11_again_13 : decode cX11_again 13 = .ok (.iload_n 1, 1) := by decide +kernel
theorem dX11_again_14 : decode cX11_again 14 = .ok (.aaload, 1) := by decide +kernel
theorem dX11_again_15 : decode cX11_again 15 = .ok (.ifnonnull 5, 3) := by decide +kernel
theorem dX11_again_18 : decode cX11_again 18 = .ok (.iconst 0, 1) := by decide +kernel
theorem dX11_again_19 : decode cX11_again 19 = .ok (.ireturn, 1) := by decide +kernel
theorem dX11_again_20 : decode cX11_again 20 = .ok (.aload_n 0, 1) := by decide +kernel
theorem dX11_again_21 : decode cX11_again 21 = .ok (.getfield 10, 3) := by decide +kernel
theorem dX11_again_24 : decode cX11_again 24 = .ok (.aload_n 0, 1) := by decide +kernel
theorem dX11_again_25 : decode cX11_again 25 = .ok (.getfield 16, 3) := by decide +kernel
theorem dX11_again_28 : decode cX11_again 28 = .ok (.iload_n 1, 1) := by decide +kernel
theorem dX11_again_29 : decode cX11_again 29 = .ok (.aaload, 1) := by decide +kernel
theorem dX11_again_30 : decode cX11_again 30 = .ok (.invokevirtual 73, 3) := by decide +kernel
theorem dX11_again_33 : decode cX11_again 33 = .ok (.iconst 1, 1) := by decide +kernel
theorem dX11_again_34 : decode cX11_again 34 = .ok (.ireturn, 1) := by decide +kernel
theorem dX11_source_0 : decode cX11_source 0 = .ok (.iload_n 1, 1) := by decide +kernel
theorem dX11_source_1 : decode cX11_source 1 = .ok (.iconst 0, 1) := by decide +kernel
theorem dX11_source_2 : decode cX11_source 2 = .ok (.iconst 1, 1) := by decide +kernel
theorem dX11_source_3 : decode cX11_source 3 = .ok (.invokestatic 51, 3) := by decide +kernel
theorem dX11_source_6 : decode cX11_source 6 = .ok (.ifCond .eq 13, 3) := by decide +kernel
theorem dX11_source_9 : decode cX11_source 9 = .ok (.iload_n 2, 1) := by decide +kernel
theorem dX11_source_10 : decode cX11_source 10 = .ok (.iconst 0, 1) := by decide +kernel
theorem dX11_source_11 : decode cX11_source 11 = .ok (.ldc 77, 2) := by decide +kernel
theorem dX11_source_13 : decode cX11_source 13 = .ok (.invokestatic 51, 3) := by decide +kernel
theorem dX11_source_16 : decode cX11_source 16 = .ok (.ifCond .ne 6, 3) := by decide +kernel
theorem dX11_source_19 : decode cX11_source 19 = .ok (.ldc 78, 2) := by decide +kernel
theorem dX11_source_21 : decode cX11_source 21 = .ok (.ireturn, 1) := by decide +kernel
theorem dX11_source_22 : decode cX11_source 22 = .ok (.aload_n 0, 1) := by decide +kernel
theorem dX11_source_23 : decode cX11_source 23 = .ok (.getfield 10, 3) := by decide +kernel
theorem dX11_source_26 : decode cX11_source 26 = .ok (.getfield 55, 3) := by decide +kernel
theorem dX11_source_29 : decode cX11_source 29 = .ok (.iload_n 1, 1) := by decide +kernel
theorem dX11_source_30 : decode cX11_source 30 = .ok (.iload_n 2, 1) := by decide +kernel
theorem dX11_source_31 : decode cX11_source 31 = .ok (.invokestatic 79, 3) := by decide +kernel
theorem dX11_source_34 : decode cX11_source 34 = .ok (.ireturn, 1) := by decide +kernel
theorem dX11_band_0 : decode cX11_band 0 = .ok (.aload_n 0, 1) := by decide +kernel
theorem dX11_band_1 : decode cX11_band 1 = .ok (.invokevirtual 83, 3) := by decide +kernel
theorem dX11_band_4 : decode cX11_band 4 = .ok (.ifCond .ne 20, 3) := by decide +kernel
theorem dX11_band_7 : decode cX11_band 7 = .ok (.iload_n 1, 1) := by decide +kernel
theorem dX11_band_8 : decode cX11_band 8 = .ok (.iload_n 2, 1) := by decide +kernel
theorem dX11_band_9 : decode cX11_band 9 = .ok (.invokestatic 87, 3) := by decide +kernel
theorem dX11_band_12 : decode cX11_band 12 = .ok (.ifCond .eq 12, 3) := by decide +kernel
theorem dX11_band_15 : decode cX11_band 15 = .ok (.iload_n 3, 1) := by decide +kernel
theorem dX11_band_16 : decode cX11_band 16 = .ok (.iconst 0, 1) := by decide +kernel
theorem dX11_band_17 : decode cX11_band 17 = .ok (.iconst 3, 1) := by decide +kernel
theorem dX11_band_18 : decode cX11_band 18 = .ok (.invokestatic 51, 3) := by decide +kernel
theorem dX11_band_21 : decode cX11_band 21 = .ok (.ifCond .ne 6, 3) := by decide +kernel
theorem dX11_band_24 : decode cX11_band 24 = .ok (.ldc 78, 2) := by decide +kernel
theorem dX11_band_26 : decode cX11_band 26 = .ok (.ireturn, 1) := by decide +kernel
theorem dX11_band_27 : decode cX11_band 27 = .ok (.aload_n 0, 1) := by decide +kernel
theorem dX11_band_28 : decode cX11_band 28 = .ok (.getfield 10, 3) := by decide +kernel
theorem dX11_band_31 : decode cX11_band 31 = .ok (.getfield 91, 3) := by decide +kernel
theorem dX11_band_34 : decode cX11_band 34 = .ok (.getfield 95, 3) := by decide +kernel
theorem dX11_band_37 : decode cX11_band 37 = .ok (.astore 5, 2) := by decide +kernel
theorem dX11_band_39 : decode cX11_band 39 = .ok (.iload_n 1, 1) := by decide +kernel
theorem dX11_band_40 : decode cX11_band 40 = .ok (.bipush 8, 2) := by decide +kernel
theorem dX11_band_42 : decode cX11_band 42 = .ok (.imul, 1) := by decide +kernel
theorem dX11_band_43 : decode cX11_band 43 = .ok (.iload_n 2, 1) := by decide +kernel
theorem dX11_band_44 : decode cX11_band 44 = .ok (.iadd, 1) := by decide +kernel
theorem dX11_band_45 : decode cX11_band 45 = .ok (.istore 6, 2) := by decide +kernel
theorem dX11_band_47 : decode cX11_band 47 = .ok (.iload_n 3, 1) := by decide +kernel
theorem dX11_band_48 : decode cX11_band 48 = .ok (.bipush 16, 2) := by decide +kernel
theorem dX11_band_50 : decode cX11_band 50 = .ok (.imul, 1) := by decide +kernel
theorem dX11_band_51 : decode cX11_band 51 = .ok (.iload 6, 2) := by decide +kernel
theorem dX11_band_53 : decode cX11_band 53 = .ok (.iadd, 1) := by decide +kernel
theorem dX11_band_54 : decode cX11_band 54 = .ok (.istore 7, 2) := by decide +kernel
theorem dX11_band_56 : decode cX11_band 56 = .ok (.iload 4, 2) := by decide +kernel
theorem dX11_band_58 : decode cX11_band 58 = .ok (.tableswitch 81 0 3 #[30, 39, 48, 72], 30) := by decide +kernel
theorem dX11_band_88 : decode cX11_band 88 = .ok (.aload 5, 2) := by decide +kernel
theorem dX11_band_90 : decode cX11_band 90 = .ok (.getfield 100, 3) := by decide +kernel
theorem dX11_band_93 : decode cX11_band 93 = .ok (.iload 7, 2) := by decide +kernel
theorem dX11_band_95 : decode cX11_band 95 = .ok (.iaload, 1) := by decide +kernel
theorem dX11_band_96 : decode cX11_band 96 = .ok (.ireturn, 1) := by decide +kernel
theorem dX11_band_97 : decode cX11_band 97 = .ok (.aload 5, 2) := by decide +kernel
theorem dX11_band_99 : decode cX11_band 99 = .ok (.getfield 103, 3) := by decide +kernel
theorem dX11_band_102 : decode cX11_band 102 = .ok (.iload 7, 2) := by decide +kernel
theorem dX11_band_104 : decode cX11_band 104 = .ok (.iaload, 1) := by decide +kernel
theorem dX11_band_105 : decode cX11_band 105 = .ok (.ireturn, 1) := by decide +kernel
theorem dX11_band_106 : decode cX11_band 106 = .ok (.aload 5, 2) := by decide +kernel
theorem dX11_band_108 : decode cX11_band 108 = .ok (.getfield 106, 3) := by decide +kernel
theorem dX11_band_111 : decode cX11_band 111 = .ok (.iload 6, 2) := by decide +kernel
theorem dX11_band_113 : decode cX11_band 113 = .ok (.iaload, 1) := by decide +kernel
theorem dX11_band_114 : decode cX11_band 114 = .ok (.ifCond .ne 7, 3) := by decide +kernel
theorem dX11_band_117 : decode cX11_band 117 = .ok (.iconst (-1), 1) := by decide +kernel
theorem dX11_band_118 : decode cX11_band 118 = .ok (.goto 11, 3) := by decide +kernel
theorem dX11_band_121 : decode cX11_band 121 = .ok (.aload 5, 2) := by decide +kernel
theorem dX11_band_123 : decode cX11_band 123 = .ok (.getfield 109, 3) := by decide +kernel
theorem dX11_band_126 : decode cX11_band 126 = .ok (.iload 7, 2) := by decide +kernel
theorem dX11_band_128 : decode cX11_band 128 = .ok (.iaload, 1) := by decide +kernel
theorem dX11_band_129 : decode cX11_band 129 = .ok (.ireturn, 1) := by decide +kernel
theorem dX11_band_130 : decode cX11_band 130 = .ok (.aload 5, 2) := by decide +kernel
theorem dX11_band_132 : decode cX11_band 132 = .ok (.getfield 112, 3) := by decide +kernel
theorem dX11_band_135 : decode cX11_band 135 = .ok (.iload 7, 2) := by decide +kernel
theorem dX11_band_137 : decode cX11_band 137 = .ok (.iaload, 1) := by decide +kernel
theorem dX11_band_138 : decode cX11_band 138 = .ok (.ireturn, 1) := by decide +kernel
theorem dX11_band_139 : decode cX11_band 139 = .ok (.ldc 78, 2) := by decide +kernel
theorem dX11_band_141 : decode cX11_band 141 = .ok (.ireturn, 1) := by decide +kernel
theorem dX11_dealt_0 : decode cX11_dealt 0 = .ok (.aload_n 0, 1) := by decide +kernel
theorem dX11_dealt_1 : decode cX11_dealt 1 = .ok (.invokevirtual 83, 3) := by decide +kernel
theorem dX11_dealt_4 : decode cX11_dealt 4 = .ok (.ifCond .ne 11, 3) := by decide +kernel
theorem dX11_dealt_7 : decode cX11_dealt 7 = .ok (.iload_n 1, 1) := by decide +kernel
theorem dX11_dealt_8 : decode cX11_dealt 8 = .ok (.iload_n 2, 1) := by decide +kernel
theorem dX11_dealt_9 : decode cX11_dealt 9 = .ok (.invokestatic 87, 3) := by decide +kernel
theorem dX11_dealt_12 : decode cX11_dealt 12 = .ok (.ifCond .ne 6, 3) := by decide +kernel
theorem dX11_dealt_15 : decode cX11_dealt 15 = .ok (.ldc 78, 2) := by decide +kernel
theorem dX11_dealt_17 : decode cX11_dealt 17 = .ok (.ireturn, 1) := by decide +kernel
theorem dX11_dealt_18 : decode cX11_dealt 18 = .ok (.aload_n 0, 1) := by decide +kernel
theorem dX11_dealt_19 : decode cX11_dealt 19 = .ok (.getfield 10, 3) := by decide +kernel
theorem dX11_dealt_22 : decode cX11_dealt 22 = .ok (.getfield 91, 3) := by decide +kernel
theorem dX11_dealt_25 : decode cX11_dealt 25 = .ok (.getfield 95, 3) := by decide +kernel
theorem dX11_dealt_28 : decode cX11_dealt 28 = .ok (.astore 4, 2) := by decide +kernel
theorem dX11_dealt_30 : decode cX11_dealt 30 = .ok (.iload_n 1, 1) := by decide +kernel
theorem dX11_dealt_31 : decode cX11_dealt 31 = .ok (.bipush 8, 2) := by decide +kernel
theorem dX11_dealt_33 : decode cX11_dealt 33 = .ok (.imul, 1) := by decide +kernel
theorem dX11_dealt_34 : decode cX11_dealt 34 = .ok (.iload_n 2, 1) := by decide +kernel
theorem dX11_dealt_35 : decode cX11_dealt 35 = .ok (.iadd, 1) := by decide +kernel
theorem dX11_dealt_36 : decode cX11_dealt 36 = .ok (.istore 5, 2) := by decide +kernel
theorem dX11_dealt_38 : decode cX11_dealt 38 = .ok (.iload_n 3, 1) := by decide +kernel
theorem dX11_dealt_39 : decode cX11_dealt 39 = .ok (.tableswitch 77 0 3 #[29, 38, 58, 67], 29) := by decide +kernel
theorem dX11_dealt_68 : decode cX11_dealt 68 = .ok (.aload 4, 2) := by decide +kernel
theorem dX11_dealt_70 : decode cX11_dealt 70 = .ok (.getfield 115, 3) := by decide +kernel
theorem dX11_dealt_73 : decode cX11_dealt 73 = .ok (.iload 5, 2) := by decide +kernel
theorem dX11_dealt_75 : decode cX11_dealt 75 = .ok (.iaload, 1) := by decide +kernel
theorem dX11_dealt_76 : decode cX11_dealt 76 = .ok (.ireturn, 1) := by decide +kernel
theorem dX11_dealt_77 : decode cX11_dealt 77 = .ok (.aload 4, 2) := by decide +kernel
theorem dX11_dealt_79 : decode cX11_dealt 79 = .ok (.iload 5, 2) := by decide +kernel
theorem dX11_dealt_81 : decode cX11_dealt 81 = .ok (.aload 4, 2) := by decide +kernel
theorem dX11_dealt_83 : decode cX11_dealt 83 = .ok (.getfield 118, 3) := by decide +kernel
theorem dX11_dealt_86 : decode cX11_dealt 86 = .ok (.aload_n 0, 1) := by decide +kernel
theorem dX11_dealt_87 : decode cX11_dealt 87 = .ok (.getfield 10, 3) := by decide +kernel
theorem dX11_dealt_90 : decode cX11_dealt 90 = .ok (.getfield 55, 3) := by decide +kernel
theorem dX11_dealt_93 : decode cX11_dealt 93 = .ok (.invokevirtual 122, 3) := by decide +kernel
theorem dX11_dealt_96 : decode cX11_dealt 96 = .ok (.ireturn, 1) := by decide +kernel
theorem dX11_dealt_97 : decode cX11_dealt 97 = .ok (.aload 4, 2) := by decide +kernel
theorem dX11_dealt_99 : decode cX11_dealt 99 = .ok (.getfield 106, 3) := by decide +kernel
theorem dX11_dealt_102 : decode cX11_dealt 102 = .ok (.iload 5, 2) := by decide +kernel
theorem dX11_dealt_104 : decode cX11_dealt 104 = .ok (.iaload, 1) := by decide +kernel
theorem dX11_dealt_105 : decode cX11_dealt 105 = .ok (.ireturn, 1) := by decide +kernel
theorem dX11_dealt_106 : decode cX11_dealt 106 = .ok (.aload 4, 2) := by decide +kernel
theorem dX11_dealt_108 : decode cX11_dealt 108 = .ok (.getfield 126, 3) := by decide +kernel
theorem dX11_dealt_111 : decode cX11_dealt 111 = .ok (.iload_n 2, 1) := by decide +kernel
theorem dX11_dealt_112 : decode cX11_dealt 112 = .ok (.ishr, 1) := by decide +kernel
theorem dX11_dealt_113 : decode cX11_dealt 113 = .ok (.iconst 1, 1) := by decide +kernel
theorem dX11_dealt_114 : decode cX11_dealt 114 = .ok (.iand, 1) := by decide +kernel
theorem dX11_dealt_115 : decode cX11_dealt 115 = .ok (.ireturn, 1) := by decide +kernel
theorem dX11_dealt_116 : decode cX11_dealt 116 = .ok (.ldc 78, 2) := by decide +kernel
theorem dX11_dealt_118 : decode cX11_dealt 118 = .ok (.ireturn, 1) := by decide +kernel
theorem dX11_code_0 : decode cX11_code 0 = .ok (.aload_n 0, 1) := by decide +kernel
theorem dX11_code_1 : decode cX11_code 1 = .ok (.invokevirtual 83, 3) := by decide +kernel
theorem dX11_code_4 : decode cX11_code 4 = .ok (.ifCond .eq 5, 3) := by decide +kernel
theorem dX11_code_7 : decode cX11_code 7 = .ok (.iconst (-1), 1) := by decide +kernel
theorem dX11_code_8 : decode cX11_code 8 = .ok (.ireturn, 1) := by decide +kernel
theorem dX11_code_9 : decode cX11_code 9 = .ok (.aload_n 0, 1) := by decide +kernel
theorem dX11_code_10 : decode cX11_code 10 = .ok (.getfield 10, 3) := by decide +kernel
theorem dX11_code_13 : decode cX11_code 13 = .ok (.getfield 91, 3) := by decide +kernel
theorem dX11_code_16 : decode cX11_code 16 = .ok (.getfield 129, 3) := by decide +kernel
theorem dX11_code_19 : decode cX11_code 19 = .ok (.astore_n 2, 1) := by decide +kernel
theorem dX11_code_20 : decode cX11_code 20 = .ok (.iload_n 1, 1) := by decide +kernel
theorem dX11_code_21 : decode cX11_code 21 = .ok (.iconst (-1), 1) := by decide +kernel
theorem dX11_code_22 : decode cX11_code 22 = .ok (.if_icmp .ne 8, 3) := by decide +kernel
theorem dX11_code_25 : decode cX11_code 25 = .ok (.aload_n 2, 1) := by decide +kernel
theorem dX11_code_26 : decode cX11_code 26 = .ok (.getfield 132, 3) := by decide +kernel
theorem dX11_code_29 : decode cX11_code 29 = .ok (.ireturn, 1) := by decide +kernel
theorem dX11_code_30 : decode cX11_code 30 = .ok (.iload_n 1, 1) := by decide +kernel
theorem dX11_code_31 : decode cX11_code 31 = .ok (.iconst 0, 1) := by decide +kernel
theorem dX11_code_32 : decode cX11_code 32 = .ok (.aload_n 2, 1) := by decide +kernel
theorem dX11_code_33 : decode cX11_code 33 = .ok (.getfield 132, 3) := by decide +kernel
theorem dX11_code_36 : decode cX11_code 36 = .ok (.iconst 1, 1) := by decide +kernel
theorem dX11_code_37 : decode cX11_code 37 = .ok (.isub, 1) := by decide +kernel
theorem dX11_code_38 : decode cX11_code 38 = .ok (.invokestatic 51, 3) := by decide +kernel
theorem dX11_code_41 : decode cX11_code 41 = .ok (.ifCond .eq 12, 3) := by decide +kernel
theorem dX11_code_44 : decode cX11_code 44 = .ok (.aload_n 2, 1) := by decide +kernel
theorem dX11_code_45 : decode cX11_code 45 = .ok (.getfield 135, 3) := by decide +kernel
theorem dX11_code_48 : decode cX11_code 48 = .ok (.iload_n 1, 1) := by decide +kernel
theorem dX11_code_49 : decode cX11_code 49 = .ok (.iaload, 1) := by decide +kernel
theorem dX11_code_50 : decode cX11_code 50 = .ok (.goto 4, 3) := by decide +kernel
theorem dX11_code_53 : decode cX11_code 53 = .ok (.iconst (-1), 1) := by decide +kernel
theorem dX11_code_54 : decode cX11_code 54 = .ok (.ireturn, 1) := by decide +kernel
theorem dX11_dealtBy_0 : decode cX11_dealtBy 0 = .ok (.aload_n 0, 1) := by decide +kernel
theorem dX11_dealtBy_1 : decode cX11_dealtBy 1 = .ok (.iload_n 1, 1) := by decide +kernel
theorem dX11_dealtBy_2 : decode cX11_dealtBy 2 = .ok (.iload_n 2, 1) := by decide +kernel
theorem dX11_dealtBy_3 : decode cX11_dealtBy 3 = .ok (.invokevirtual 138, 3) := by decide +kernel
theorem dX11_dealtBy_6 : decode cX11_dealtBy 6 = .ok (.ifCond .eq 12, 3) := by decide +kernel
theorem dX11_dealtBy_9 : decode cX11_dealtBy 9 = .ok (.iload_n 3, 1) := by decide +kernel
theorem dX11_dealtBy_10 : decode cX11_dealtBy 10 = .ok (.iload 4, 2) := by decide +kernel
theorem dX11_dealtBy_12 : decode cX11_dealtBy 12 = .ok (.invokestatic 87, 3) := by decide +kernel
theorem dX11_dealtBy_15 : decode cX11_dealtBy 15 = .ok (.ifCond .ne 5, 3) := by decide +kernel
theorem dX11_dealtBy_18 : decode cX11_dealtBy 18 = .ok (.iconst (-1), 1) := by decide +kernel
theorem dX11_dealtBy_19 : decode cX11_dealtBy 19 = .ok (.ireturn, 1) := by decide +kernel
theorem dX11_dealtBy_20 : decode cX11_dealtBy 20 = .ok (.aload_n 0, 1) := by decide +kernel
theorem dX11_dealtBy_21 : decode cX11_dealtBy 21 = .ok (.getfield 26, 3) := by decide +kernel
theorem dX11_dealtBy_24 : decode cX11_dealtBy 24 = .ok (.aload_n 0, 1) := by decide +kernel
theorem dX11_dealtBy_25 : decode cX11_dealtBy 25 = .ok (.getfield 10, 3) := by decide +kernel
theorem dX11_dealtBy_28 : decode cX11_dealtBy 28 = .ok (.getfield 91, 3) := by decide +kernel
theorem dX11_dealtBy_31 : decode cX11_dealtBy 31 = .ok (.getfield 95, 3) := by decide +kernel
theorem dX11_dealtBy_34 : decode cX11_dealtBy 34 = .ok (.invokevirtual 141, 3) := by decide +kernel
theorem dX11_dealtBy_37 : decode cX11_dealtBy 37 = .ok (.aload_n 0, 1) := by decide +kernel
theorem dX11_dealtBy_38 : decode cX11_dealtBy 38 = .ok (.getfield 26, 3) := by decide +kernel
theorem dX11_dealtBy_41 : decode cX11_dealtBy 41 = .ok (.iload_n 1, 1) := by decide +kernel
theorem dX11_dealtBy_42 : decode cX11_dealtBy 42 = .ok (.iload_n 2, 1) := by decide +kernel
theorem dX11_dealtBy_43 : decode cX11_dealtBy 43 = .ok (.aload_n 0, 1) := by decide +kernel
theorem dX11_dealtBy_44 : decode cX11_dealtBy 44 = .ok (.getfield 10, 3) := by decide +kernel
theorem dX11_dealtBy_47 : decode cX11_dealtBy 47 = .ok (.getfield 55, 3) := by decide +kernel
theorem dX11_dealtBy_50 : decode cX11_dealtBy 50 = .ok (.invokevirtual 144, 3) := by decide +kernel
theorem dX11_dealtBy_53 : decode cX11_dealtBy 53 = .ok (.aload_n 0, 1) := by decide +kernel
theorem dX11_dealtBy_54 : decode cX11_dealtBy 54 = .ok (.getfield 26, 3) := by decide +kernel
theorem dX11_dealtBy_57 : decode cX11_dealtBy 57 = .ok (.getfield 106, 3) := by decide +kernel
theorem dX11_dealtBy_60 : decode cX11_dealtBy 60 = .ok (.iload_n 3, 1) := by decide +kernel
theorem dX11_dealtBy_61 : decode cX11_dealtBy 61 = .ok (.bipush 8, 2) := by decide +kernel
theorem dX11_dealtBy_63 : decode cX11_dealtBy 63 = .ok (.imul, 1) := by decide +kernel
theorem dX11_dealtBy_64 : decode cX11_dealtBy 64 = .ok (.iload 4, 2) := by decide +kernel
theorem dX11_dealtBy_66 : decode cX11_dealtBy 66 = .ok (.iadd, 1) := by decide +kernel
theorem dX11_dealtBy_67 : decode cX11_dealtBy 67 = .ok (.iaload, 1) := by decide +kernel
theorem dX11_dealtBy_68 : decode cX11_dealtBy 68 = .ok (.ireturn, 1) := by decide +kernel
theorem dX11_cost_0 : decode cX11_cost 0 = .ok (.aload_n 0, 1) := by decide +kernel
theorem dX11_cost_1 : decode cX11_cost 1 = .ok (.iload_n 1, 1) := by decide +kernel
theorem dX11_cost_2 : decode cX11_cost 2 = .ok (.iload_n 2, 1) := by decide +kernel
theorem dX11_cost_3 : decode cX11_cost 3 = .ok (.invokevirtual 138, 3) := by decide +kernel
theorem dX11_cost_6 : decode cX11_cost 6 = .ok (.ifCond .ne 5, 3) := by decide +kernel
theorem dX11_cost_9 : decode cX11_cost 9 = .ok (.iconst (-1), 1) := by decide +kernel
theorem dX11_cost_10 : decode cX11_cost 10 = .ok (.ireturn, 1) := by decide +kernel
theorem dX11_cost_11 : decode cX11_cost 11 = .ok (.aload_n 0, 1) := by decide +kernel
theorem dX11_cost_12 : decode cX11_cost 12 = .ok (.getfield 26, 3) := by decide +kernel
theorem dX11_cost_15 : decode cX11_cost 15 = .ok (.aload_n 0, 1) := by decide +kernel
theorem dX11_cost_16 : decode cX11_cost 16 = .ok (.getfield 10, 3) := by decide +kernel
theorem dX11_cost_19 : decode cX11_cost 19 = .ok (.getfield 91, 3) := by decide +kernel
theorem dX11_cost_22 : decode cX11_cost 22 = .ok (.getfield 95, 3) := by decide +kernel
theorem dX11_cost_25 : decode cX11_cost 25 = .ok (.invokevirtual 141, 3) := by decide +kernel
theorem dX11_cost_28 : decode cX11_cost 28 = .ok (.aload_n 0, 1) := by decide +kernel
theorem dX11_cost_29 : decode cX11_cost 29 = .ok (.iload_n 1, 1) := by decide +kernel
theorem dX11_cost_30 : decode cX11_cost 30 = .ok (.iload_n 2, 1) := by decide +kernel
theorem dX11_cost_31 : decode cX11_cost 31 = .ok (.invokevirtual 148, 3) := by decide +kernel
theorem dX11_cost_34 : decode cX11_cost 34 = .ok (.ireturn, 1) := by decide +kernel
theorem dX11_least_0 : decode cX11_least 0 = .ok (.aload_n 0, 1) := by decide +kernel
theorem dX11_least_1 : decode cX11_least 1 = .ok (.sipush 128, 3) := by decide +kernel
theorem dX11_least_4 : decode cX11_least 4 = .ok (.iload_n 1, 1) := by decide +kernel
theorem dX11_least_5 : decode cX11_least 5 = .ok (.invokevirtual 138, 3) := by decide +kernel
theorem dX11_least_8 : decode cX11_least 8 = .ok (.ifCond .ne 5, 3) := by decide +kernel
theorem dX11_least_11 : decode cX11_least 11 = .ok (.iconst (-1), 1) := by decide +kernel
theorem dX11_least_12 : decode cX11_least 12 = .ok (.ireturn, 1) := by decide +kernel
theorem dX11_least_13 : decode cX11_least 13 = .ok (.aload_n 0, 1) := by decide +kernel
theorem dX11_least_14 : decode cX11_least 14 = .ok (.getfield 26, 3) := by decide +kernel
theorem dX11_least_17 : decode cX11_least 17 = .ok (.aload_n 0, 1) := by decide +kernel
theorem dX11_least_18 : decode cX11_least 18 = .ok (.getfield 10, 3) := by decide +kernel
theorem dX11_least_21 : decode cX11_least 21 = .ok (.getfield 91, 3) := by decide +kernel
theorem dX11_least_24 : decode cX11_least 24 = .ok (.getfield 95, 3) := by decide +kernel
theorem dX11_least_27 : decode cX11_least 27 = .ok (.invokevirtual 141, 3) := by decide +kernel
theorem dX11_least_30 : decode cX11_least 30 = .ok (.getstatic 61, 3) := by decide +kernel
theorem dX11_least_33 : decode cX11_least 33 = .ok (.iconst 1, 1) := by decide +kernel
theorem dX11_least_34 : decode cX11_least 34 = .ok (.iaload, 1) := by decide +kernel
theorem dX11_least_35 : decode cX11_least 35 = .ok (.istore_n 3, 1) := by decide +kernel
theorem dX11_least_36 : decode cX11_least 36 = .ok (.iload_n 3, 1) := by decide +kernel
theorem dX11_least_37 : decode cX11_least 37 = .ok (.sipush 128, 3) := by decide +kernel
theorem dX11_least_40 : decode cX11_least 40 = .ok (.if_icmp .gt 21, 3) := by decide +kernel
theorem dX11_least_43 : decode cX11_least 43 = .ok (.aload_n 0, 1) := by decide +kernel
theorem dX11_least_44 : decode cX11_least 44 = .ok (.iload_n 3, 1) := by decide +kernel
theorem dX11_least_45 : decode cX11_least 45 = .ok (.iload_n 1, 1) := by decide +kernel
theorem dX11_least_46 : decode cX11_least 46 = .ok (.invokevirtual 148, 3) := by decide +kernel
theorem dX11_least_49 : decode cX11_least 49 = .ok (.iload_n 2, 1) := by decide +kernel
theorem dX11_least_50 : decode cX11_least 50 = .ok (.if_icmp .gt 5, 3) := by decide +kernel
theorem dX11_least_53 : decode cX11_least 53 = .ok (.iload_n 3, 1) := by decide +kernel
theorem dX11_least_54 : decode cX11_least 54 = .ok (.ireturn, 1) := by decide +kernel
theorem dX11_least_55 : decode cX11_least 55 = .ok (.iinc 3 1, 3) := by decide +kernel
theorem dX11_least_58 : decode cX11_least 58 = .ok (.goto (-22), 3) := by decide +kernel
theorem dX11_least_61 : decode cX11_least 61 = .ok (.iconst (-1), 1) := by decide +kernel
theorem dX11_least_62 : decode cX11_least 62 = .ok (.ireturn, 1) := by decide +kernel
theorem dX11_coded_0 : decode cX11_coded 0 = .ok (.aload_n 0, 1) := by decide +kernel
theorem dX11_coded_1 : decode cX11_coded 1 = .ok (.iload_n 1, 1) := by decide +kernel
theorem dX11_coded_2 : decode cX11_coded 2 = .ok (.iload_n 2, 1) := by decide +kernel
theorem dX11_coded_3 : decode cX11_coded 3 = .ok (.invokevirtual 138, 3) := by decide +kernel
theorem dX11_coded_6 : decode cX11_coded 6 = .ok (.ifCond .eq 12, 3) := by decide +kernel
theorem dX11_coded_9 : decode cX11_coded 9 = .ok (.iload_n 3, 1) := by decide +kernel
theorem dX11_coded_10 : decode cX11_coded 10 = .ok (.iconst 0, 1) := by decide +kernel
theorem dX11_coded_11 : decode cX11_coded 11 = .ok (.iconst 1, 1) := by decide +kernel
theorem dX11_coded_12 : decode cX11_coded 12 = .ok (.invokestatic 51, 3) := by decide +kernel
theorem dX11_coded_15 : decode cX11_coded 15 = .ok (.ifCond .ne 5, 3) := by decide +kernel
theorem dX11_coded_18 : decode cX11_coded 18 = .ok (.iconst (-1), 1) := by decide +kernel
theorem dX11_coded_19 : decode cX11_coded 19 = .ok (.ireturn, 1) := by decide +kernel
theorem dX11_coded_20 : decode cX11_coded 20 = .ok (.aload_n 0, 1) := by decide +kernel
theorem dX11_coded_21 : decode cX11_coded 21 = .ok (.getfield 26, 3) := by decide +kernel
theorem dX11_coded_24 : decode cX11_coded 24 = .ok (.aload_n 0, 1) := by decide +kernel
theorem dX11_coded_25 : decode cX11_coded 25 = .ok (.getfield 10, 3) := by decide +kernel
theorem dX11_coded_28 : decode cX11_coded 28 = .ok (.getfield 91, 3) := by decide +kernel
theorem dX11_coded_31 : decode cX11_coded 31 = .ok (.getfield 95, 3) := by decide +kernel
theorem dX11_coded_34 : decode cX11_coded 34 = .ok (.invokevirtual 141, 3) := by decide +kernel
theorem dX11_coded_37 : decode cX11_coded 37 = .ok (.aload_n 0, 1) := by decide +kernel
theorem dX11_coded_38 : decode cX11_coded 38 = .ok (.getfield 26, 3) := by decide +kernel
theorem dX11_coded_41 : decode cX11_coded 41 = .ok (.iload_n 3, 1) := by decide +kernel
theorem dX11_coded_42 : decode cX11_coded 42 = .ok (.invokevirtual 152, 3) := by decide +kernel
theorem dX11_coded_45 : decode cX11_coded 45 = .ok (.aload_n 0, 1) := by decide +kernel
theorem dX11_coded_46 : decode cX11_coded 46 = .ok (.getfield 26, 3) := by decide +kernel
theorem dX11_coded_49 : decode cX11_coded 49 = .ok (.iload_n 1, 1) := by decide +kernel
theorem dX11_coded_50 : decode cX11_coded 50 = .ok (.iload_n 2, 1) := by decide +kernel
theorem dX11_coded_51 : decode cX11_coded 51 = .ok (.aload_n 0, 1) := by decide +kernel
theorem dX11_coded_52 : decode cX11_coded 52 = .ok (.getfield 10, 3) := by decide +kernel
theorem dX11_coded_55 : decode cX11_coded 55 = .ok (.getfield 55, 3) := by decide +kernel
theorem dX11_coded_58 : decode cX11_coded 58 = .ok (.invokevirtual 144, 3) := by decide +kernel
theorem dX11_coded_61 : decode cX11_coded 61 = .ok (.aload_n 0, 1) := by decide +kernel
theorem dX11_coded_62 : decode cX11_coded 62 = .ok (.getfield 26, 3) := by decide +kernel
theorem dX11_coded_65 : decode cX11_coded 65 = .ok (.invokevirtual 156, 3) := by decide +kernel
theorem dX11_coded_68 : decode cX11_coded 68 = .ok (.aload_n 0, 1) := by decide +kernel
theorem dX11_coded_69 : decode cX11_coded 69 = .ok (.getfield 26, 3) := by decide +kernel
theorem dX11_coded_72 : decode cX11_coded 72 = .ok (.invokevirtual 159, 3) := by decide +kernel
theorem dX11_coded_75 : decode cX11_coded 75 = .ok (.iload 4, 2) := by decide +kernel
theorem dX11_coded_77 : decode cX11_coded 77 = .ok (.tableswitch 76 0 3 #[31, 52, 60, 68], 31) := by decide +kernel
theorem dX11_coded_108 : decode cX11_coded 108 = .ok (.aload_n 0, 1) := by decide +kernel
theorem dX11_coded_109 : decode cX11_coded 109 = .ok (.getfield 26, 3) := by decide +kernel
theorem dX11_coded_112 : decode cX11_coded 112 = .ok (.iconst 0, 1) := by decide +kernel
theorem dX11_coded_113 : decode cX11_coded 113 = .ok (.invokevirtual 162, 3) := by decide +kernel
theorem dX11_coded_116 : decode cX11_coded 116 = .ok (.aload_n 0, 1) := by decide +kernel
theorem dX11_coded_117 : decode cX11_coded 117 = .ok (.getfield 26, 3) := by decide +kernel
theorem dX11_coded_120 : decode cX11_coded 120 = .ok (.iconst 1, 1) := by decide +kernel
theorem dX11_coded_121 : decode cX11_coded 121 = .ok (.invokevirtual 162, 3) := by decide +kernel
theorem dX11_coded_124 : decode cX11_coded 124 = .ok (.iadd, 1) := by decide +kernel
theorem dX11_coded_125 : decode cX11_coded 125 = .ok (.invokestatic 166, 3) := by decide +kernel
theorem dX11_coded_128 : decode cX11_coded 128 = .ok (.ireturn, 1) := by decide +kernel
theorem dX11_coded_129 : decode cX11_coded 129 = .ok (.aload_n 0, 1) := by decide +kernel
theorem dX11_coded_130 : decode cX11_coded 130 = .ok (.getfield 26, 3) := by decide +kernel
theorem dX11_coded_133 : decode cX11_coded 133 = .ok (.getfield 126, 3) := by decide +kernel
theorem dX11_coded_136 : decode cX11_coded 136 = .ok (.ireturn, 1) := by decide +kernel
theorem dX11_coded_137 : decode cX11_coded 137 = .ok (.aload_n 0, 1) := by decide +kernel
theorem dX11_coded_138 : decode cX11_coded 138 = .ok (.getfield 26, 3) := by decide +kernel
theorem dX11_coded_141 : decode cX11_coded 141 = .ok (.invokevirtual 169, 3) := by decide +kernel
theorem dX11_coded_144 : decode cX11_coded 144 = .ok (.ireturn, 1) := by decide +kernel
theorem dX11_coded_145 : decode cX11_coded 145 = .ok (.aload_n 0, 1) := by decide +kernel
theorem dX11_coded_146 : decode cX11_coded 146 = .ok (.getfield 26, 3) := by decide +kernel
theorem dX11_coded_149 : decode cX11_coded 149 = .ok (.invokevirtual 173, 3) := by decide +kernel
theorem dX11_coded_152 : decode cX11_coded 152 = .ok (.ireturn, 1) := by decide +kernel
theorem dX11_coded_153 : decode cX11_coded 153 = .ok (.iconst (-1), 1) := by decide +kernel
theorem dX11_coded_154 : decode cX11_coded 154 = .ok (.ireturn, 1) := by decide +kernel
theorem dX11_worst_0 : decode cX11_worst 0 = .ok (.aload_n 0, 1) := by decide +kernel
theorem dX11_worst_1 : decode cX11_worst 1 = .ok (.iload_n 1, 1) := by decide +kernel
theorem dX11_worst_2 : decode cX11_worst 2 = .ok (.iload_n 2, 1) := by decide +kernel
theorem dX11_worst_3 : decode cX11_worst 3 = .ok (.invokevirtual 138, 3) := by decide +kernel
theorem dX11_worst_6 : decode cX11_worst 6 = .ok (.ifCond .eq 12, 3) := by decide +kernel
theorem dX11_worst_9 : decode cX11_worst 9 = .ok (.iload_n 3, 1) := by decide +kernel
theorem dX11_worst_10 : decode cX11_worst 10 = .ok (.iconst 0, 1) := by decide +kernel
theorem dX11_worst_11 : decode cX11_worst 11 = .ok (.iconst 1, 1) := by decide +kernel
theorem dX11_worst_12 : decode cX11_worst 12 = .ok (.invokestatic 51, 3) := by decide +kernel
theorem dX11_worst_15 : decode cX11_worst 15 = .ok (.ifCond .ne 5, 3) := by decide +kernel
theorem dX11_worst_18 : decode cX11_worst 18 = .ok (.iconst (-1), 1) := by decide +kernel
theorem dX11_worst_19 : decode cX11_worst 19 = .ok (.ireturn, 1) := by decide +kernel
theorem dX11_worst_20 : decode cX11_worst 20 = .ok (.aload_n 0, 1) := by decide +kernel
theorem dX11_worst_21 : decode cX11_worst 21 = .ok (.getfield 26, 3) := by decide +kernel
theorem dX11_worst_24 : decode cX11_worst 24 = .ok (.aload_n 0, 1) := by decide +kernel
theorem dX11_worst_25 : decode cX11_worst 25 = .ok (.getfield 10, 3) := by decide +kernel
theorem dX11_worst_28 : decode cX11_worst 28 = .ok (.getfield 91, 3) := by decide +kernel
theorem dX11_worst_31 : decode cX11_worst 31 = .ok (.getfield 95, 3) := by decide +kernel
theorem dX11_worst_34 : decode cX11_worst 34 = .ok (.invokevirtual 141, 3) := by decide +kernel
theorem dX11_worst_37 : decode cX11_worst 37 = .ok (.aload_n 0, 1) := by decide +kernel
theorem dX11_worst_38 : decode cX11_worst 38 = .ok (.getfield 26, 3) := by decide +kernel
theorem dX11_worst_41 : decode cX11_worst 41 = .ok (.iload_n 1, 1) := by decide +kernel
theorem dX11_worst_42 : decode cX11_worst 42 = .ok (.iload_n 2, 1) := by decide +kernel
theorem dX11_worst_43 : decode cX11_worst 43 = .ok (.aload_n 0, 1) := by decide +kernel
theorem dX11_worst_44 : decode cX11_worst 44 = .ok (.getfield 10, 3) := by decide +kernel
theorem dX11_worst_47 : decode cX11_worst 47 = .ok (.getfield 55, 3) := by decide +kernel
theorem dX11_worst_50 : decode cX11_worst 50 = .ok (.invokevirtual 144, 3) := by decide +kernel
theorem dX11_worst_53 : decode cX11_worst 53 = .ok (.aload_n 0, 1) := by decide +kernel
theorem dX11_worst_54 : decode cX11_worst 54 = .ok (.getfield 26, 3) := by decide +kernel
theorem dX11_worst_57 : decode cX11_worst 57 = .ok (.invokevirtual 156, 3) := by decide +kernel
theorem dX11_worst_60 : decode cX11_worst 60 = .ok (.iconst 0, 1) := by decide +kernel
theorem dX11_worst_61 : decode cX11_worst 61 = .ok (.istore 4, 2) := by decide +kernel
theorem dX11_worst_63 : decode cX11_worst 63 = .ok (.iconst 1, 1) := by decide +kernel
theorem dX11_worst_64 : decode cX11_worst 64 = .ok (.istore 5, 2) := by decide +kernel
theorem dX11_worst_66 : decode cX11_worst 66 = .ok (.iload 5, 2) := by decide +kernel
theorem dX11_worst_68 : decode cX11_worst 68 = .ok (.bipush 16, 2) := by decide +kernel
theorem dX11_worst_70 : decode cX11_worst 70 = .ok (.if_icmp .ge 34, 3) := by decide +kernel
theorem dX11_worst_73 : decode cX11_worst 73 = .ok (.aload_n 0, 1) := by decide +kernel
theorem dX11_worst_74 : decode cX11_worst 74 = .ok (.getfield 26, 3) := by decide +kernel
theorem dX11_worst_77 : decode cX11_worst 77 = .ok (.iload 5, 2) := by decide +kernel
theorem dX11_worst_79 : decode cX11_worst 79 = .ok (.invokevirtual 176, 3) := by decide +kernel
theorem dX11_worst_82 : decode cX11_worst 82 = .ok (.aload_n 0, 1) := by decide +kernel
theorem dX11_worst_83 : decode cX11_worst 83 = .ok (.getfield 26, 3) := by decide +kernel
theorem dX11_worst_86 : decode cX11_worst 86 = .ok (.iload 4, 2) := by decide +kernel
theorem dX11_worst_88 : decode cX11_worst 88 = .ok (.invokevirtual 176, 3) := by decide +kernel
theorem dX11_worst_91 : decode cX11_worst 91 = .ok (.if_icmp .le 7, 3) := by decide +kernel
theorem dX11_worst_94 : decode cX11_worst 94 = .ok (.iload 5, 2) := by decide +kernel
theorem dX11_worst_96 : decode cX11_worst 96 = .ok (.istore 4, 2) := by decide +kernel
theorem dX11_worst_98 : decode cX11_worst 98 = .ok (.iinc 5 1, 3) := by decide +kernel
theorem dX11_worst_101 : decode cX11_worst 101 = .ok (.goto (-35), 3) := by decide +kernel
theorem dX11_worst_104 : decode cX11_worst 104 = .ok (.iload_n 3, 1) := by decide +kernel
theorem dX11_worst_105 : decode cX11_worst 105 = .ok (.ifCond .ne 8, 3) := by decide +kernel
theorem dX11_worst_108 : decode cX11_worst 108 = .ok (.iload 4, 2) := by decide +kernel
theorem dX11_worst_110 : decode cX11_worst 110 = .ok (.goto 12, 3) := by decide +kernel
theorem dX11_worst_113 : decode cX11_worst 113 = .ok (.aload_n 0, 1) := by decide +kernel
theorem dX11_worst_114 : decode cX11_worst 114 = .ok (.getfield 26, 3) := by decide +kernel
theorem dX11_worst_117 : decode cX11_worst 117 = .ok (.iload 4, 2) := by decide +kernel
theorem dX11_worst_119 : decode cX11_worst 119 = .ok (.invokevirtual 176, 3) := by decide +kernel
theorem dX11_worst_122 : decode cX11_worst 122 = .ok (.ireturn, 1) := by decide +kernel
theorem dX11_paired_0 : decode cX11_paired 0 = .ok (.aload_n 0, 1) := by decide +kernel
theorem dX11_paired_1 : decode cX11_paired 1 = .ok (.invokevirtual 83, 3) := by decide +kernel
theorem dX11_paired_4 : decode cX11_paired 4 = .ok (.ifCond .ne 22, 3) := by decide +kernel
theorem dX11_paired_7 : decode cX11_paired 7 = .ok (.iload_n 1, 1) := by decide +kernel
theorem dX11_paired_8 : decode cX11_paired 8 = .ok (.iconst 0, 1) := by decide +kernel
theorem dX11_paired_9 : decode cX11_paired 9 = .ok (.bipush 7, 2) := by decide +kernel
theorem dX11_paired_11 : decode cX11_paired 11 = .ok (.invokestatic 51, 3) := by decide +kernel
theorem dX11_paired_14 : decode cX11_paired 14 = .ok (.ifCond .eq 12, 3) := by decide +kernel
theorem dX11_paired_17 : decode cX11_paired 17 = .ok (.iload_n 2, 1) := by decide +kernel
theorem dX11_paired_18 : decode cX11_paired 18 = .ok (.iconst 0, 1) := by decide +kernel
theorem dX11_paired_19 : decode cX11_paired 19 = .ok (.iconst 1, 1) := by decide +kernel
theorem dX11_paired_20 : decode cX11_paired 20 = .ok (.invokestatic 51, 3) := by decide +kernel
theorem dX11_paired_23 : decode cX11_paired 23 = .ok (.ifCond .ne 5, 3) := by decide +kernel
theorem dX11_paired_26 : decode cX11_paired 26 = .ok (.iconst (-1), 1) := by decide +kernel
theorem dX11_paired_27 : decode cX11_paired 27 = .ok (.ireturn, 1) := by decide +kernel
theorem dX11_paired_28 : decode cX11_paired 28 = .ok (.aload_n 0, 1) := by decide +kernel
theorem dX11_paired_29 : decode cX11_paired 29 = .ok (.getfield 10, 3) := by decide +kernel
theorem dX11_paired_32 : decode cX11_paired 32 = .ok (.getfield 91, 3) := by decide +kernel
theorem dX11_paired_35 : decode cX11_paired 35 = .ok (.getfield 95, 3) := by decide +kernel
theorem dX11_paired_38 : decode cX11_paired 38 = .ok (.astore_n 3, 1) := by decide +kernel
theorem dX11_paired_39 : decode cX11_paired 39 = .ok (.iload_n 2, 1) := by decide +kernel
theorem dX11_paired_40 : decode cX11_paired 40 = .ok (.ifCond .ne 11, 3) := by decide +kernel
theorem dX11_paired_43 : decode cX11_paired 43 = .ok (.aload_n 3, 1) := by decide +kernel
theorem dX11_paired_44 : decode cX11_paired 44 = .ok (.iload_n 1, 1) := by decide +kernel
theorem dX11_paired_45 : decode cX11_paired 45 = .ok (.invokevirtual 179, 3) := by decide +kernel
theorem dX11_paired_48 : decode cX11_paired 48 = .ok (.goto 8, 3) := by decide +kernel
theorem dX11_paired_51 : decode cX11_paired 51 = .ok (.aload_n 3, 1) := by decide +kernel
theorem dX11_paired_52 : decode cX11_paired 52 = .ok (.iload_n 1, 1) := by decide +kernel
theorem dX11_paired_53 : decode cX11_paired 53 = .ok (.invokevirtual 182, 3) := by decide +kernel
theorem dX11_paired_56 : decode cX11_paired 56 = .ok (.ireturn, 1) := by decide +kernel
theorem dX11_share_0 : decode cX11_share 0 = .ok (.aload_n 0, 1) := by decide +kernel
theorem dX11_share_1 : decode cX11_share 1 = .ok (.invokevirtual 83, 3) := by decide +kernel
theorem dX11_share_4 : decode cX11_share 4 = .ok (.ifCond .ne 12, 3) := by decide +kernel
theorem dX11_share_7 : decode cX11_share 7 = .ok (.iload_n 1, 1) := by decide +kernel
theorem dX11_share_8 : decode cX11_share 8 = .ok (.iconst (-1), 1) := by decide +kernel
theorem dX11_share_9 : decode cX11_share 9 = .ok (.iconst 1, 1) := by decide +kernel
theorem dX11_share_10 : decode cX11_share 10 = .ok (.invokestatic 51, 3) := by decide +kernel
theorem dX11_share_13 : decode cX11_share 13 = .ok (.ifCond .ne 5, 3) := by decide +kernel
theorem dX11_share_16 : decode cX11_share 16 = .ok (.iconst (-1), 1) := by decide +kernel
theorem dX11_share_17 : decode cX11_share 17 = .ok (.ireturn, 1) := by decide +kernel
theorem dX11_share_18 : decode cX11_share 18 = .ok (.aload_n 0, 1) := by decide +kernel
theorem dX11_share_19 : decode cX11_share 19 = .ok (.getfield 10, 3) := by decide +kernel
theorem dX11_share_22 : decode cX11_share 22 = .ok (.getfield 91, 3) := by decide +kernel
theorem dX11_share_25 : decode cX11_share 25 = .ok (.getfield 95, 3) := by decide +kernel
theorem dX11_share_28 : decode cX11_share 28 = .ok (.astore_n 2, 1) := by decide +kernel
theorem dX11_share_29 : decode cX11_share 29 = .ok (.iload_n 1, 1) := by decide +kernel
theorem dX11_share_30 : decode cX11_share 30 = .ok (.iconst (-1), 1) := by decide +kernel
theorem dX11_share_31 : decode cX11_share 31 = .ok (.if_icmp .ne 17, 3) := by decide +kernel
theorem dX11_share_34 : decode cX11_share 34 = .ok (.aload_n 2, 1) := by decide +kernel
theorem dX11_share_35 : decode cX11_share 35 = .ok (.iconst 0, 1) := by decide +kernel
theorem dX11_share_36 : decode cX11_share 36 = .ok (.invokevirtual 162, 3) := by decide +kernel
theorem dX11_share_39 : decode cX11_share 39 = .ok (.aload_n 2, 1) := by decide +kernel
theorem dX11_share_40 : decode cX11_share 40 = .ok (.iconst 1, 1) := by decide +kernel
theorem dX11_share_41 : decode cX11_share 41 = .ok (.invokevirtual 162, 3) := by decide +kernel
theorem dX11_share_44 : decode cX11_share 44 = .ok (.iadd, 1) := by decide +kernel
theorem dX11_share_45 : decode cX11_share 45 = .ok (.goto 8, 3) := by decide +kernel
theorem dX11_share_48 : decode cX11_share 48 = .ok (.aload_n 2, 1) := by decide +kernel
theorem dX11_share_49 : decode cX11_share 49 = .ok (.iload_n 1, 1) := by decide +kernel
theorem dX11_share_50 : decode cX11_share 50 = .ok (.invokevirtual 162, 3) := by decide +kernel
theorem dX11_share_53 : decode cX11_share 53 = .ok (.ireturn, 1) := by decide +kernel
theorem dX11_damaged_0 : decode cX11_damaged 0 = .ok (.aload_n 0, 1) := by decide +kernel
theorem dX11_damaged_1 : decode cX11_damaged 1 = .ok (.invokevirtual 83, 3) := by decide +kernel
theorem dX11_damaged_4 : decode cX11_damaged 4 = .ok (.ifCond .eq 5, 3) := by decide +kernel
theorem dX11_damaged_7 : decode cX11_damaged 7 = .ok (.iconst (-1), 1) := by decide +kernel
theorem dX11_damaged_8 : decode cX11_damaged 8 = .ok (.ireturn, 1) := by decide +kernel
theorem dX11_damaged_9 : decode cX11_damaged 9 = .ok (.bipush 8, 2) := by decide +kernel
theorem dX11_damaged_11 : decode cX11_damaged 11 = .ok (.aload_n 0, 1) := by decide +kernel
theorem dX11_damaged_12 : decode cX11_damaged 12 = .ok (.getfield 10, 3) := by decide +kernel
theorem dX11_damaged_15 : decode cX11_damaged 15 = .ok (.getfield 91, 3) := by decide +kernel
theorem dX11_damaged_18 : decode cX11_damaged 18 = .ok (.getfield 129, 3) := by decide +kernel
theorem dX11_damaged_21 : decode cX11_damaged 21 = .ok (.getfield 132, 3) := by decide +kernel
theorem dX11_damaged_24 : decode cX11_damaged 24 = .ok (.imul, 1) := by decide +kernel
theorem dX11_damaged_25 : decode cX11_damaged 25 = .ok (.iconst 1, 1) := by decide +kernel
theorem dX11_damaged_26 : decode cX11_damaged 26 = .ok (.isub, 1) := by decide +kernel
theorem dX11_damaged_27 : decode cX11_damaged 27 = .ok (.istore_n 3, 1) := by decide +kernel
theorem dX11_damaged_28 : decode cX11_damaged 28 = .ok (.iload_n 1, 1) := by decide +kernel
theorem dX11_damaged_29 : decode cX11_damaged 29 = .ok (.iconst 0, 1) := by decide +kernel
theorem dX11_damaged_30 : decode cX11_damaged 30 = .ok (.iload_n 3, 1) := by decide +kernel
theorem dX11_damaged_31 : decode cX11_damaged 31 = .ok (.invokestatic 51, 3) := by decide +kernel
theorem dX11_damaged_34 : decode cX11_damaged 34 = .ok (.ifCond .eq 17, 3) := by decide +kernel
theorem dX11_damaged_37 : decode cX11_damaged 37 = .ok (.iload_n 2, 1) := by decide +kernel
theorem dX11_damaged_38 : decode cX11_damaged 38 = .ok (.iconst (-1), 1) := by decide +kernel
theorem dX11_damaged_39 : decode cX11_damaged 39 = .ok (.iload_n 3, 1) := by decide +kernel
theorem dX11_damaged_40 : decode cX11_damaged 40 = .ok (.invokestatic 51, 3) := by decide +kernel
theorem dX11_damaged_43 : decode cX11_damaged 43 = .ok (.ifCond .eq 8, 3) := by decide +kernel
theorem dX11_damaged_46 : decode cX11_damaged 46 = .ok (.iload_n 1, 1) := by decide +kernel
theorem dX11_damaged_47 : decode cX11_damaged 47 = .ok (.iload_n 2, 1) := by decide +kernel
theorem dX11_damaged_48 : decode cX11_damaged 48 = .ok (.if_icmp .ne 5, 3) := by decide +kernel
theorem dX11_damaged_51 : decode cX11_damaged 51 = .ok (.iconst (-1), 1) := by decide +kernel
theorem dX11_damaged_52 : decode cX11_damaged 52 = .ok (.ireturn, 1) := by decide +kernel
theorem dX11_damaged_53 : decode cX11_damaged 53 = .ok (.aload_n 0, 1) := by decide +kernel
theorem dX11_damaged_54 : decode cX11_damaged 54 = .ok (.getfield 33, 3) := by decide +kernel
theorem dX11_damaged_57 : decode cX11_damaged 57 = .ok (.aload_n 0, 1) := by decide +kernel
theorem dX11_damaged_58 : decode cX11_damaged 58 = .ok (.getfield 10, 3) := by decide +kernel
theorem dX11_damaged_61 : decode cX11_damaged 61 = .ok (.getfield 91, 3) := by decide +kernel
theorem dX11_damaged_64 : decode cX11_damaged 64 = .ok (.getfield 129, 3) := by decide +kernel
theorem dX11_damaged_67 : decode cX11_damaged 67 = .ok (.invokevirtual 185, 3) := by decide +kernel
theorem dX11_damaged_70 : decode cX11_damaged 70 = .ok (.aload_n 0, 1) := by decide +kernel
theorem dX11_damaged_71 : decode cX11_damaged 71 = .ok (.getfield 33, 3) := by decide +kernel
theorem dX11_damaged_74 : decode cX11_damaged 74 = .ok (.iload_n 1, 1) := by decide +kernel
theorem dX11_damaged_75 : decode cX11_damaged 75 = .ok (.invokevirtual 188, 3) := by decide +kernel
theorem dX11_damaged_78 : decode cX11_damaged 78 = .ok (.iload_n 2, 1) := by decide +kernel
theorem dX11_damaged_79 : decode cX11_damaged 79 = .ok (.iconst (-1), 1) := by decide +kernel
theorem dX11_damaged_80 : decode cX11_damaged 80 = .ok (.if_icmp .eq 11, 3) := by decide +kernel
theorem dX11_damaged_83 : decode cX11_damaged 83 = .ok (.aload_n 0, 1) := by decide +kernel
theorem dX11_damaged_84 : decode cX11_damaged 84 = .ok (.getfield 33, 3) := by decide +kernel
theorem dX11_damaged_87 : decode cX11_damaged 87 = .ok (.iload_n 2, 1) := by decide +kernel
theorem dX11_damaged_88 : decode cX11_damaged 88 = .ok (.invokevirtual 188, 3) := by decide +kernel
theorem dX11_damaged_91 : decode cX11_damaged 91 = .ok (.aload_n 0, 1) := by decide +kernel
theorem dX11_damaged_92 : decode cX11_damaged 92 = .ok (.getfield 33, 3) := by decide +kernel
theorem dX11_damaged_95 : decode cX11_damaged 95 = .ok (.invokevirtual 191, 3) := by decide +kernel
theorem dX11_damaged_98 : decode cX11_damaged 98 = .ok (.ireturn, 1) := by decide +kernel
theorem dX11_heard_0 : decode cX11_heard 0 = .ok (.iload_n 1, 1) := by decide +kernel
theorem dX11_heard_1 : decode cX11_heard 1 = .ok (.iconst 0, 1) := by decide +kernel
theorem dX11_heard_2 : decode cX11_heard 2 = .ok (.iconst 1, 1) := by decide +kernel
theorem dX11_heard_3 : decode cX11_heard 3 = .ok (.invokestatic 51, 3) := by decide +kernel
theorem dX11_heard_6 : decode cX11_heard 6 = .ok (.ifCond .eq 14, 3) := by decide +kernel
theorem dX11_heard_9 : decode cX11_heard 9 = .ok (.iload_n 2, 1) := by decide +kernel
theorem dX11_heard_10 : decode cX11_heard 10 = .ok (.iconst 0, 1) := by decide +kernel
theorem dX11_heard_11 : decode cX11_heard 11 = .ok (.sipush 191, 3) := by decide +kernel
theorem dX11_heard_14 : decode cX11_heard 14 = .ok (.invokestatic 51, 3) := by decide +kernel
theorem dX11_heard_17 : decode cX11_heard 17 = .ok (.ifCond .ne 6, 3) := by decide +kernel
theorem dX11_heard_20 : decode cX11_heard 20 = .ok (.ldc 78, 2) := by decide +kernel
theorem dX11_heard_22 : decode cX11_heard 22 = .ok (.ireturn, 1) := by decide +kernel
theorem dX11_heard_23 : decode cX11_heard 23 = .ok (.aload_n 0, 1) := by decide +kernel
theorem dX11_heard_24 : decode cX11_heard 24 = .ok (.getfield 10, 3) := by decide +kernel
theorem dX11_heard_27 : decode cX11_heard 27 = .ok (.getfield 194, 3) := by decide +kernel
theorem dX11_heard_30 : decode cX11_heard 30 = .ok (.getfield 198, 3) := by decide +kernel
theorem dX11_heard_33 : decode cX11_heard 33 = .ok (.iload_n 1, 1) := by decide +kernel
theorem dX11_heard_34 : decode cX11_heard 34 = .ok (.aaload, 1) := by decide +kernel
theorem dX11_heard_35 : decode cX11_heard 35 = .ok (.iload_n 2, 1) := by decide +kernel
theorem dX11_heard_36 : decode cX11_heard 36 = .ok (.invokevirtual 204, 3) := by decide +kernel
theorem dX11_heard_39 : decode cX11_heard 39 = .ok (.ireturn, 1) := by decide +kernel
theorem dX11_spectrum_0 : decode cX11_spectrum 0 = .ok (.iload_n 1, 1) := by decide +kernel
theorem dX11_spectrum_1 : decode cX11_spectrum 1 = .ok (.iload_n 2, 1) := by decide +kernel
theorem dX11_spectrum_2 : decode cX11_spectrum 2 = .ok (.invokestatic 87, 3) := by decide +kernel
theorem dX11_spectrum_5 : decode cX11_spectrum 5 = .ok (.ifCond .ne 6, 3) := by decide +kernel
theorem dX11_spectrum_8 : decode cX11_spectrum 8 = .ok (.ldc 78, 2) := by decide +kernel
theorem dX11_spectrum_10 : decode cX11_spectrum 10 = .ok (.ireturn, 1) := by decide +kernel
theorem dX11_spectrum_11 : decode cX11_spectrum 11 = .ok (.iconst 0, 1) := by decide +kernel
theorem dX11_spectrum_12 : decode cX11_spectrum 12 = .ok (.istore_n 3, 1) := by decide +kernel
theorem dX11_spectrum_13 : decode cX11_spectrum 13 = .ok (.iload_n 3, 1) := by decide +kernel
theorem dX11_spectrum_14 : decode cX11_spectrum 14 = .ok (.bipush 32, 2) := by decide +kernel
theorem dX11_spectrum_16 : decode cX11_spectrum 16 = .ok (.if_icmp .ge 34, 3) := by decide +kernel
theorem dX11_spectrum_19 : decode cX11_spectrum 19 = .ok (.aload_n 0, 1) := by decide +kernel
theorem dX11_spectrum_20 : decode cX11_spectrum 20 = .ok (.getfield 44, 3) := by decide +kernel
theorem dX11_spectrum_23 : decode cX11_spectrum 23 = .ok (.iload_n 3, 1) := by decide +kernel
theorem dX11_spectrum_24 : decode cX11_spectrum 24 = .ok (.aload_n 0, 1) := by decide +kernel
theorem dX11_spectrum_25 : decode cX11_spectrum 25 = .ok (.getfield 10, 3) := by decide +kernel
theorem dX11_spectrum_28 : decode cX11_spectrum 28 = .ok (.getfield 194, 3) := by decide +kernel
theorem dX11_spectrum_31 : decode cX11_spectrum 31 = .ok (.getfield 198, 3) := by decide +kernel
theorem dX11_spectrum_34 : decode cX11_spectrum 34 = .ok (.iload_n 1, 1) := by decide +kernel
theorem dX11_spectrum_35 : decode cX11_spectrum 35 = .ok (.aaload, 1) := by decide +kernel
theorem dX11_spectrum_36 : decode cX11_spectrum 36 = .ok (.bipush 31, 2) := by decide +kernel
theorem dX11_spectrum_38 : decode cX11_spectrum 38 = .ok (.iload_n 3, 1) := by decide +kernel
theorem dX11_spectrum_39 : decode cX11_spectrum 39 = .ok (.isub, 1) := by decide +kernel
theorem dX11_spectrum_40 : decode cX11_spectrum 40 = .ok (.invokevirtual 204, 3) := by decide +kernel
theorem dX11_spectrum_43 : decode cX11_spectrum 43 = .ok (.iastore, 1) := by decide +kernel
theorem dX11_spectrum_44 : decode cX11_spectrum 44 = .ok (.iinc 3 1, 3) := by decide +kernel
theorem dX11_spectrum_47 : decode cX11_spectrum 47 = .ok (.goto (-34), 3) := by decide +kernel
theorem dX11_spectrum_50 : decode cX11_spectrum 50 = .ok (.aload_n 0, 1) := by decide +kernel
theorem dX11_spectrum_51 : decode cX11_spectrum 51 = .ok (.getfield 40, 3) := by decide +kernel
theorem dX11_spectrum_54 : decode cX11_spectrum 54 = .ok (.invokevirtual 209, 3) := by decide +kernel
theorem dX11_spectrum_57 : decode cX11_spectrum 57 = .ok (.iconst 0, 1) := by decide +kernel
theorem dX11_spectrum_58 : decode cX11_spectrum 58 = .ok (.istore_n 3, 1) := by decide +kernel
theorem dX11_spectrum_59 : decode cX11_spectrum 59 = .ok (.iconst 0, 1) := by decide +kernel
theorem dX11_spectrum_60 : decode cX11_spectrum 60 = .ok (.istore 4, 2) := by decide +kernel
theorem dX11_spectrum_62 : decode cX11_spectrum 62 = .ok (.iload 4, 2) := by decide +kernel
theorem dX11_spectrum_64 : decode cX11_spectrum 64 = .ok (.iconst 4, 1) := by decide +kernel
theorem dX11_spectrum_65 : decode cX11_spectrum 65 = .ok (.if_icmp .ge 42, 3) := by decide +kernel
theorem dX11_spectrum_68 : decode cX11_spectrum 68 = .ok (.aload_n 0, 1) := by decide +kernel
theorem dX11_spectrum_69 : decode cX11_spectrum 69 = .ok (.getfield 40, 3) := by decide +kernel
theorem dX11_spectrum_72 : decode cX11_spectrum 72 = .ok (.aload_n 0, 1) := by decide +kernel
theorem dX11_spectrum_73 : decode cX11_spectrum 73 = .ok (.getfield 44, 3) := by decide +kernel
theorem dX11_spectrum_76 : decode cX11_spectrum 76 = .ok (.bipush 8, 2) := by decide +kernel
theorem dX11_spectrum_78 : decode cX11_spectrum 78 = .ok (.iload 4, 2) := by decide +kernel
theorem dX11_spectrum_80 : decode cX11_spectrum 80 = .ok (.imul, 1) := by decide +kernel
theorem dX11_spectrum_81 : decode cX11_spectrum 81 = .ok (.aload_n 0, 1) := by decide +kernel
theorem dX11_spectrum_82 : decode cX11_spectrum 82 = .ok (.getfield 48, 3) := by decide +kernel
theorem dX11_spectrum_85 : decode cX11_spectrum 85 = .ok (.iconst 0, 1) := by decide +kernel
theorem dX11_spectrum_86 : decode cX11_spectrum 86 = .ok (.invokevirtual 212, 3) := by decide +kernel
theorem dX11_spectrum_89 : decode cX11_spectrum 89 = .ok (.iload_n 3, 1) := by decide +kernel
theorem dX11_spectrum_90 : decode cX11_spectrum 90 = .ok (.aload_n 0, 1) := by decide +kernel
theorem dX11_spectrum_91 : decode cX11_spectrum 91 = .ok (.getfield 48, 3) := by decide +kernel
theorem dX11_spectrum_94 : decode cX11_spectrum 94 = .ok (.iload_n 2, 1) := by decide +kernel
theorem dX11_spectrum_95 : decode cX11_spectrum 95 = .ok (.iaload, 1) := by decide +kernel
theorem dX11_spectrum_96 : decode cX11_spectrum 96 = .ok (.invokestatic 216, 3) := by decide +kernel
theorem dX11_spectrum_99 : decode cX11_spectrum 99 = .ok (.iadd, 1) := by decide +kernel
theorem dX11_spectrum_100 : decode cX11_spectrum 100 = .ok (.istore_n 3, 1) := by decide +kernel
theorem dX11_spectrum_101 : decode cX11_spectrum 101 = .ok (.iinc 4 1, 3) := by decide +kernel
theorem dX11_spectrum_104 : decode cX11_spectrum 104 = .ok (.goto (-42), 3) := by decide +kernel
theorem dX11_spectrum_107 : decode cX11_spectrum 107 = .ok (.iload_n 3, 1) := by decide +kernel
theorem dX11_spectrum_108 : decode cX11_spectrum 108 = .ok (.ireturn, 1) := by decide +kernel
theorem dX11_madeUp_0 : decode cX11_madeUp 0 = .ok (.iload_n 1, 1) := by decide +kernel
theorem dX11_madeUp_1 : decode cX11_madeUp 1 = .ok (.iconst 0, 1) := by decide +kernel
theorem dX11_madeUp_2 : decode cX11_madeUp 2 = .ok (.iconst 1, 1) := by decide +kernel
theorem dX11_madeUp_3 : decode cX11_madeUp 3 = .ok (.invokestatic 51, 3) := by decide +kernel
theorem dX11_madeUp_6 : decode cX11_madeUp 6 = .ok (.ifCond .eq 13, 3) := by decide +kernel
theorem dX11_madeUp_9 : decode cX11_madeUp 9 = .ok (.iload_n 2, 1) := by decide +kernel
theorem dX11_madeUp_10 : decode cX11_madeUp 10 = .ok (.iconst 0, 1) := by decide +kernel
theorem dX11_madeUp_11 : decode cX11_madeUp 11 = .ok (.bipush 33, 2) := by decide +kernel
theorem dX11_madeUp_13 : decode cX11_madeUp 13 = .ok (.invokestatic 51, 3) := by decide +kernel
theorem dX11_madeUp_16 : decode cX11_madeUp 16 = .ok (.ifCond .ne 6, 3) := by decide +kernel
theorem dX11_madeUp_19 : decode cX11_madeUp 19 = .ok (.ldc 78, 2) := by decide +kernel
theorem dX11_madeUp_21 : decode cX11_madeUp 21 = .ok (.ireturn, 1) := by decide +kernel
theorem dX11_madeUp_22 : decode cX11_madeUp 22 = .ok (.aload_n 0, 1) := by decide +kernel
theorem dX11_madeUp_23 : decode cX11_madeUp 23 = .ok (.getfield 10, 3) := by decide +kernel
theorem dX11_madeUp_26 : decode cX11_madeUp 26 = .ok (.getfield 194, 3) := by decide +kernel
theorem dX11_madeUp_29 : decode cX11_madeUp 29 = .ok (.getfield 198, 3) := by decide +kernel
theorem dX11_madeUp_32 : decode cX11_madeUp 32 = .ok (.iload_n 1, 1) := by decide +kernel
theorem dX11_madeUp_33 : decode cX11_madeUp 33 = .ok (.aaload, 1) := by decide +kernel
theorem dX11_madeUp_34 : decode cX11_madeUp 34 = .ok (.astore_n 3, 1) := by decide +kernel
theorem dX11_madeUp_35 : decode cX11_madeUp 35 = .ok (.aload_n 3, 1) := by decide +kernel
theorem dX11_madeUp_36 : decode cX11_madeUp 36 = .ok (.aload_n 0, 1) := by decide +kernel
theorem dX11_madeUp_37 : decode cX11_madeUp 37 = .ok (.getfield 10, 3) := by decide +kernel
theorem dX11_madeUp_40 : decode cX11_madeUp 40 = .ok (.getfield 194, 3) := by decide +kernel
theorem dX11_madeUp_43 : decode cX11_madeUp 43 = .ok (.invokevirtual 221, 3) := by decide +kernel
theorem dX11_madeUp_46 : decode cX11_madeUp 46 = .ok (.invokevirtual 224, 3) := by decide +kernel
theorem dX11_madeUp_49 : decode cX11_madeUp 49 = .ok (.iload_n 2, 1) := by decide +kernel
theorem dX11_madeUp_50 : decode cX11_madeUp 50 = .ok (.lookupswitch 36 #[(0, 26), (1, 31)], 26) := by decide +kernel
theorem dX11_madeUp_76 : decode cX11_madeUp 76 = .ok (.aload_n 3, 1) := by decide +kernel
theorem dX11_madeUp_77 : decode cX11_madeUp 77 = .ok (.getfield 227, 3) := by decide +kernel
theorem dX11_madeUp_80 : decode cX11_madeUp 80 = .ok (.ireturn, 1) := by decide +kernel
theorem dX11_madeUp_81 : decode cX11_madeUp 81 = .ok (.aload_n 3, 1) := by decide +kernel
theorem dX11_madeUp_82 : decode cX11_madeUp 82 = .ok (.getfield 230, 3) := by decide +kernel
theorem dX11_madeUp_85 : decode cX11_madeUp 85 = .ok (.ireturn, 1) := by decide +kernel
theorem dX11_madeUp_86 : decode cX11_madeUp 86 = .ok (.aload_n 3, 1) := by decide +kernel
theorem dX11_madeUp_87 : decode cX11_madeUp 87 = .ok (.getfield 233, 3) := by decide +kernel
theorem dX11_madeUp_90 : decode cX11_madeUp 90 = .ok (.iload_n 2, 1) := by decide +kernel
theorem dX11_madeUp_91 : decode cX11_madeUp 91 = .ok (.iconst 2, 1) := by decide +kernel
theorem dX11_madeUp_92 : decode cX11_madeUp 92 = .ok (.isub, 1) := by decide +kernel
theorem dX11_madeUp_93 : decode cX11_madeUp 93 = .ok (.iaload, 1) := by decide +kernel
theorem dX11_madeUp_94 : decode cX11_madeUp 94 = .ok (.ireturn, 1) := by decide +kernel
theorem dX11_line_0 : decode cX11_line 0 = .ok (.aload_n 0, 1) := by decide +kernel
theorem dX11_line_1 : decode cX11_line 1 = .ok (.getfield 10, 3) := by decide +kernel
theorem dX11_line_4 : decode cX11_line 4 = .ok (.getfield 236, 3) := by decide +kernel
theorem dX11_line_7 : decode cX11_line 7 = .ok (.getfield 240, 3) := by decide +kernel
theorem dX11_line_10 : decode cX11_line 10 = .ok (.iload_n 1, 1) := by decide +kernel
theorem dX11_line_11 : decode cX11_line 11 = .ok (.invokevirtual 246, 3) := by decide +kernel
theorem dX11_line_14 : decode cX11_line 14 = .ok (.astore_n 3, 1) := by decide +kernel
theorem dX11_line_15 : decode cX11_line 15 = .ok (.aload_n 3, 1) := by decide +kernel
theorem dX11_line_16 : decode cX11_line 16 = .ok (.ifnonnull 5, 3) := by decide +kernel
theorem dX11_line_19 : decode cX11_line 19 = .ok (.iconst (-1), 1) := by decide +kernel
theorem dX11_line_20 : decode cX11_line 20 = .ok (.ireturn, 1) := by decide +kernel
theorem dX11_line_21 : decode cX11_line 21 = .ok (.iload_n 2, 1) := by decide +kernel
theorem dX11_line_22 : decode cX11_line 22 = .ok (.tableswitch 72 0 4 #[34, 39, 44, 62, 67], 34) := by decide +kernel
theorem dX11_line_56 : decode cX11_line 56 = .ok (.aload_n 3, 1) := by decide +kernel
theorem dX11_line_57 : decode cX11_line 57 = .ok (.getfield 252, 3) := by decide +kernel
theorem dX11_line_60 : decode cX11_line 60 = .ok (.ireturn, 1) := by decide +kernel
theorem dX11_line_61 : decode cX11_line 61 = .ok (.aload_n 3, 1) := by decide +kernel
theorem dX11_line_62 : decode cX11_line 62 = .ok (.getfield 257, 3) := by decide +kernel
theorem dX11_line_65 : decode cX11_line 65 = .ok (.ireturn, 1) := by decide +kernel
theorem dX11_line_66 : decode cX11_line 66 = .ok (.aload_n 3, 1) := by decide +kernel
theorem dX11_line_67 : decode cX11_line 67 = .ok (.getfield 252, 3) := by decide +kernel
theorem dX11_line_70 : decode cX11_line 70 = .ok (.iconst 4, 1) := by decide +kernel
theorem dX11_line_71 : decode cX11_line 71 = .ok (.imul, 1) := by decide +kernel
theorem dX11_line_72 : decode cX11_line 72 = .ok (.aload_n 0, 1) := by decide +kernel
theorem dX11_line_73 : decode cX11_line 73 = .ok (.getfield 10, 3) := by decide +kernel
theorem dX11_line_76 : decode cX11_line 76 = .ok (.getfield 55, 3) := by decide +kernel
theorem dX11_line_79 : decode cX11_line 79 = .ok (.bipush 24, 2) := by decide +kernel
theorem dX11_line_81 : decode cX11_line 81 = .ok (.iaload, 1) := by decide +kernel
theorem dX11_line_82 : decode cX11_line 82 = .ok (.iadd, 1) := by decide +kernel
theorem dX11_line_83 : decode cX11_line 83 = .ok (.ireturn, 1) := by decide +kernel
theorem dX11_line_84 : decode cX11_line 84 = .ok (.aload_n 3, 1) := by decide +kernel
theorem dX11_line_85 : decode cX11_line 85 = .ok (.invokevirtual 260, 3) := by decide +kernel
theorem dX11_line_88 : decode cX11_line 88 = .ok (.ireturn, 1) := by decide +kernel
theorem dX11_line_89 : decode cX11_line 89 = .ok (.aload_n 3, 1) := by decide +kernel
theorem dX11_line_90 : decode cX11_line 90 = .ok (.getfield 263, 3) := by decide +kernel
theorem dX11_line_93 : decode cX11_line 93 = .ok (.ireturn, 1) := by decide +kernel
theorem dX11_line_94 : decode cX11_line 94 = .ok (.iconst (-1), 1) := by decide +kernel
theorem dX11_line_95 : decode cX11_line 95 = .ok (.ireturn, 1) := by decide +kernel
theorem dX11_packet_0 : decode cX11_packet 0 = .ok (.iload_n 1, 1) := by decide +kernel
theorem dX11_packet_1 : decode cX11_packet 1 = .ok (.iconst 0, 1) := by decide +kernel
theorem dX11_packet_2 : decode cX11_packet 2 = .ok (.sipush 2499, 3) := by decide +kernel
theorem dX11_packet_5 : decode cX11_packet 5 = .ok (.invokestatic 51, 3) := by decide +kernel
theorem dX11_packet_8 : decode cX11_packet 8 = .ok (.ifCond .ne 5, 3) := by decide +kernel
theorem dX11_packet_11 : decode cX11_packet 11 = .ok (.iconst (-1), 1) := by decide +kernel
theorem dX11_packet_12 : decode cX11_packet 12 = .ok (.ireturn, 1) := by decide +kernel
theorem dX11_packet_13 : decode cX11_packet 13 = .ok (.iload_n 2, 1) := by decide +kernel
theorem dX11_packet_14 : decode cX11_packet 14 = .ok (.tableswitch 78 0 3 #[30, 42, 54, 66], 30) := by decide +kernel
theorem dX11_packet_44 : decode cX11_packet 44 = .ok (.aload_n 0, 1) := by decide +kernel
theorem dX11_packet_45 : decode cX11_packet 45 = .ok (.getfield 10, 3) := by decide +kernel
theorem dX11_packet_48 : decode cX11_packet 48 = .ok (.getfield 266, 3) := by decide +kernel
theorem dX11_packet_51 : decode cX11_packet 51 = .ok (.iload_n 1, 1) := by decide +kernel
theorem dX11_packet_52 : decode cX11_packet 52 = .ok (.invokevirtual 270, 3) := by decide +kernel
theorem dX11_packet_55 : decode cX11_packet 55 = .ok (.ireturn, 1) := by decide +kernel
theorem dX11_packet_56 : decode cX11_packet 56 = .ok (.aload_n 0, 1) := by decide +kernel
theorem dX11_packet_57 : decode cX11_packet 57 = .ok (.getfield 10, 3) := by decide +kernel
theorem dX11_packet_60 : decode cX11_packet 60 = .ok (.getfield 266, 3) := by decide +kernel
theorem dX11_packet_63 : decode cX11_packet 63 = .ok (.iload_n 1, 1) := by decide +kernel
theorem dX11_packet_64 : decode cX11_packet 64 = .ok (.invokevirtual 275, 3) := by decide +kernel
theorem dX11_packet_67 : decode cX11_packet 67 = .ok (.ireturn, 1) := by decide +kernel
theorem dX11_packet_68 : decode cX11_packet 68 = .ok (.aload_n 0, 1) := by decide +kernel
theorem dX11_packet_69 : decode cX11_packet 69 = .ok (.getfield 10, 3) := by decide +kernel
theorem dX11_packet_72 : decode cX11_packet 72 = .ok (.getfield 266, 3) := by decide +kernel
theorem dX11_packet_75 : decode cX11_packet 75 = .ok (.iload_n 1, 1) := by decide +kernel
theorem dX11_packet_76 : decode cX11_packet 76 = .ok (.invokevirtual 278, 3) := by decide +kernel
theorem dX11_packet_79 : decode cX11_packet 79 = .ok (.ireturn, 1) := by decide +kernel
theorem dX11_packet_80 : decode cX11_packet 80 = .ok (.aload_n 0, 1) := by decide +kernel
theorem dX11_packet_81 : decode cX11_packet 81 = .ok (.getfield 10, 3) := by decide +kernel
theorem dX11_packet_84 : decode cX11_packet 84 = .ok (.getfield 266, 3) := by decide +kernel
theorem dX11_packet_87 : decode cX11_packet 87 = .ok (.iload_n 1, 1) := by decide +kernel
theorem dX11_packet_88 : decode cX11_packet 88 = .ok (.invokevirtual 281, 3) := by decide +kernel
theorem dX11_packet_91 : decode cX11_packet 91 = .ok (.ireturn, 1) := by decide +kernel
theorem dX11_packet_92 : decode cX11_packet 92 = .ok (.iconst (-1), 1) := by decide +kernel
theorem dX11_packet_93 : decode cX11_packet 93 = .ok (.ireturn, 1) := by decide +kernel
theorem dX11_played_0 : decode cX11_played 0 = .ok (.iload_n 1, 1) := by decide +kernel
theorem dX11_played_1 : decode cX11_played 1 = .ok (.iconst 0, 1) := by decide +kernel
theorem dX11_played_2 : decode cX11_played 2 = .ok (.aload_n 0, 1) := by decide +kernel
theorem dX11_played_3 : decode cX11_played 3 = .ok (.getfield 10, 3) := by decide +kernel
theorem dX11_played_6 : decode cX11_played 6 = .ok (.getfield 194, 3) := by decide +kernel
theorem dX11_played_9 : decode cX11_played 9 = .ok (.invokevirtual 284, 3) := by decide +kernel
theorem dX11_played_12 : decode cX11_played 12 = .ok (.iconst 1, 1) := by decide +kernel
theorem dX11_played_13 : decode cX11_played 13 = .ok (.isub, 1) := by decide +kernel
theorem dX11_played_14 : decode cX11_played 14 = .ok (.invokestatic 51, 3) := by decide +kernel
theorem dX11_played_17 : decode cX11_played 17 = .ok (.ifCond .ne 6, 3) := by decide +kernel
theorem dX11_played_20 : decode cX11_played 20 = .ok (.ldc 78, 2) := by decide +kernel
theorem dX11_played_22 : decode cX11_played 22 = .ok (.ireturn, 1) := by decide +kernel
theorem dX11_played_23 : decode cX11_played 23 = .ok (.iload_n 2, 1) := by decide +kernel
theorem dX11_played_24 : decode cX11_played 24 = .ok (.ifCond .ne 18, 3) := by decide +kernel
theorem dX11_played_27 : decode cX11_played 27 = .ok (.aload_n 0, 1) := by decide +kernel
theorem dX11_played_28 : decode cX11_played 28 = .ok (.getfield 10, 3) := by decide +kernel
theorem dX11_played_31 : decode cX11_played 31 = .ok (.getfield 55, 3) := by decide +kernel
theorem dX11_played_34 : decode cX11_played 34 = .ok (.bipush 7, 2) := by decide +kernel
theorem dX11_played_36 : decode cX11_played 36 = .ok (.iaload, 1) := by decide +kernel
theorem dX11_played_37 : decode cX11_played 37 = .ok (.iconst 1, 1) := by decide +kernel
theorem dX11_played_38 : decode cX11_played 38 = .ok (.isub, 1) := by decide +kernel
theorem dX11_played_39 : decode cX11_played 39 = .ok (.iload_n 1, 1) := by decide +kernel
theorem dX11_played_40 : decode cX11_played 40 = .ok (.isub, 1) := by decide +kernel
theorem dX11_played_41 : decode cX11_played 41 = .ok (.ireturn, 1) := by decide +kernel
theorem dX11_played_42 : decode cX11_played 42 = .ok (.iload_n 2, 1) := by decide +kernel
theorem dX11_played_43 : decode cX11_played 43 = .ok (.iconst 1, 1) := by decide +kernel
theorem dX11_played_44 : decode cX11_played 44 = .ok (.bipush 6, 2) := by decide +kernel
theorem dX11_played_46 : decode cX11_played 46 = .ok (.invokestatic 51, 3) := by decide +kernel
theorem dX11_played_49 : decode cX11_played 49 = .ok (.ifCond .eq 18, 3) := by decide +kernel
theorem dX11_played_52 : decode cX11_played 52 = .ok (.aload_n 0, 1) := by decide +kernel
theorem dX11_played_53 : decode cX11_played 53 = .ok (.getfield 10, 3) := by decide +kernel
theorem dX11_played_56 : decode cX11_played 56 = .ok (.getfield 194, 3) := by decide +kernel
theorem dX11_played_59 : decode cX11_played 59 = .ok (.iload_n 1, 1) := by decide +kernel
theorem dX11_played_60 : decode cX11_played 60 = .ok (.iload_n 2, 1) := by decide +kernel
theorem dX11_played_61 : decode cX11_played 61 = .ok (.invokevirtual 287, 3) := by decide +kernel
theorem dX11_played_64 : decode cX11_played 64 = .ok (.goto 5, 3) := by decide +kernel
theorem dX11_played_67 : decode cX11_played 67 = .ok (.ldc 78, 2) := by decide +kernel
theorem dX11_played_69 : decode cX11_played 69 = .ok (.ireturn, 1) := by decide +kernel
theorem dX11_late_0 : decode cX11_late 0 = .ok (.aload_n 0, 1) := by decide +kernel
theorem dX11_late_1 : decode cX11_late 1 = .ok (.getfield 10, 3) := by decide +kernel
theorem dX11_late_4 : decode cX11_late 4 = .ok (.getfield 194, 3) := by decide +kernel
theorem dX11_late_7 : decode cX11_late 7 = .ok (.invokevirtual 284, 3) := by decide +kernel
theorem dX11_late_10 : decode cX11_late 10 = .ok (.istore_n 2, 1) := by decide +kernel
theorem dX11_late_11 : decode cX11_late 11 = .ok (.iload_n 2, 1) := by decide +kernel
theorem dX11_late_12 : decode cX11_late 12 = .ok (.ifCond .ne 6, 3) := by decide +kernel
theorem dX11_late_15 : decode cX11_late 15 = .ok (.ldc 78, 2) := by decide +kernel
theorem dX11_late_17 : decode cX11_late 17 = .ok (.ireturn, 1) := by decide +kernel
theorem dX11_late_18 : decode cX11_late 18 = .ok (.aload_n 0, 1) := by decide +kernel
theorem dX11_late_19 : decode cX11_late 19 = .ok (.getfield 10, 3) := by decide +kernel
theorem dX11_late_22 : decode cX11_late 22 = .ok (.getfield 194, 3) := by decide +kernel
theorem dX11_late_25 : decode cX11_late 25 = .ok (.iconst 0, 1) := by decide +kernel
theorem dX11_late_26 : decode cX11_late 26 = .ok (.invokevirtual 290, 3) := by decide +kernel
theorem dX11_late_29 : decode cX11_late 29 = .ok (.istore_n 3, 1) := by decide +kernel
theorem dX11_late_30 : decode cX11_late 30 = .ok (.iload_n 3, 1) := by decide +kernel
theorem dX11_late_31 : decode cX11_late 31 = .ok (.istore 4, 2) := by decide +kernel
theorem dX11_late_33 : decode cX11_late 33 = .ok (.iconst 0, 1) := by decide +kernel
theorem dX11_late_34 : decode cX11_late 34 = .ok (.istore 5, 2) := by decide +kernel
theorem dX11_late_36 : decode cX11_late 36 = .ok (.iconst 0, 1) := by decide +kernel
theorem dX11_late_37 : decode cX11_late 37 = .ok (.istore 6, 2) := by decide +kernel
theorem dX11_late_39 : decode cX11_late 39 = .ok (.iconst 0, 1) := by decide +kernel
theorem dX11_late_40 : decode cX11_late 40 = .ok (.istore 7, 2) := by decide +kernel
theorem dX11_late_42 : decode cX11_late 42 = .ok (.iload 7, 2) := by decide +kernel
theorem dX11_late_44 : decode cX11_late 44 = .ok (.iload_n 2, 1) := by decide +kernel
theorem dX11_late_45 : decode cX11_late 45 = .ok (.if_icmp .ge 100, 3) := by decide +kernel
theorem dX11_late_48 : decode cX11_late 48 = .ok (.aload_n 0, 1) := by decide +kernel
theorem dX11_late_49 : decode cX11_late 49 = .ok (.getfield 10, 3) := by decide +kernel
theorem dX11_late_52 : decode cX11_late 52 = .ok (.getfield 194, 3) := by decide +kernel
theorem dX11_late_55 : decode cX11_late 55 = .ok (.iload 7, 2) := by decide +kernel
theorem dX11_late_57 : decode cX11_late 57 = .ok (.invokevirtual 290, 3) := by decide +kernel
theorem dX11_late_60 : decode cX11_late 60 = .ok (.istore 8, 2) := by decide +kernel
theorem dX11_late_62 : decode cX11_late 62 = .ok (.iload_n 3, 1) := by decide +kernel
theorem dX11_late_63 : decode cX11_late 63 = .ok (.iload 8, 2) := by decide +kernel
theorem dX11_late_65 : decode cX11_late 65 = .ok (.invokestatic 293, 3) := by decide +kernel
theorem dX11_late_68 : decode cX11_late 68 = .ok (.istore_n 3, 1) := by decide +kernel
theorem dX11_late_69 : decode cX11_late 69 = .ok (.iload 4, 2) := by decide +kernel
theorem dX11_late_71 : decode cX11_late 71 = .ok (.iload 8, 2) := by decide +kernel
theorem dX11_late_73 : decode cX11_late 73 = .ok (.invokestatic 296, 3) := by decide +kernel
theorem dX11_late_76 : decode cX11_late 76 = .ok (.istore 4, 2) := by decide +kernel
theorem dX11_late_78 : decode cX11_late 78 = .ok (.iload 5, 2) := by decide +kernel
theorem dX11_late_80 : decode cX11_late 80 = .ok (.iload 7, 2) := by decide +kernel
theorem dX11_late_82 : decode cX11_late 82 = .ok (.ifCond .ne 7, 3) := by decide +kernel
theorem dX11_late_85 : decode cX11_late 85 = .ok (.iconst 0, 1) := by decide +kernel
theorem dX11_late_86 : decode cX11_late 86 = .ok (.goto 23, 3) := by decide +kernel
theorem dX11_late_89 : decode cX11_late 89 = .ok (.iload 8, 2) := by decide +kernel
theorem dX11_late_91 : decode cX11_late 91 = .ok (.aload_n 0, 1) := by decide +kernel
theorem dX11_late_92 : decode cX11_late 92 = .ok (.getfield 10, 3) := by decide +kernel
theorem dX11_late_95 : decode cX11_late 95 = .ok (.getfield 194, 3) := by decide +kernel
theorem dX11_late_98 : decode cX11_late 98 = .ok (.iload 7, 2) := by decide +kernel
theorem dX11_late_100 : decode cX11_late 100 = .ok (.iconst 1, 1) := by decide +kernel
theorem dX11_late_101 : decode cX11_late 101 = .ok (.isub, 1) := by decide +kernel
theorem dX11_late_102 : decode cX11_late 102 = .ok (.invokevirtual 290, 3) := by decide +kernel
theorem dX11_late_105 : decode cX11_late 105 = .ok (.isub, 1) := by decide +kernel
theorem dX11_late_106 : decode cX11_late 106 = .ok (.invokestatic 216, 3) := by decide +kernel
theorem dX11_late_109 : decode cX11_late 109 = .ok (.iadd, 1) := by decide +kernel
theorem dX11_late_110 : decode cX11_late 110 = .ok (.istore 5, 2) := by decide +kernel
theorem dX11_late_112 : decode cX11_late 112 = .ok (.iload 6, 2) := by decide +kernel
theorem dX11_late_114 : decode cX11_late 114 = .ok (.aload_n 0, 1) := by decide +kernel
theorem dX11_late_115 : decode cX11_late 115 = .ok (.getfield 10, 3) := by decide +kernel
theorem dX11_late_118 : decode cX11_late 118 = .ok (.getfield 194, 3) := by decide +kernel
theorem dX11_late_121 : decode cX11_late 121 = .ok (.iload 7, 2) := by decide +kernel
theorem dX11_late_123 : decode cX11_late 123 = .ok (.iconst 1, 1) := by decide +kernel
theorem dX11_late_124 : decode cX11_late 124 = .ok (.invokevirtual 287, 3) := by decide +kernel
theorem dX11_late_127 : decode cX11_late 127 = .ok (.iconst 2, 1) := by decide +kernel
theorem dX11_late_128 : decode cX11_late 128 = .ok (.if_icmp .ne 7, 3) := by decide +kernel
theorem dX11_late_131 : decode cX11_late 131 = .ok (.iconst 1, 1) := by decide +kernel
theorem dX11_late_132 : decode cX11_late 132 = .ok (.goto 4, 3) := by decide +kernel
theorem dX11_late_135 : decode cX11_late 135 = .ok (.iconst 0, 1) := by decide +kernel
theorem dX11_late_136 : decode cX11_late 136 = .ok (.iadd, 1) := by decide +kernel
theorem dX11_late_137 : decode cX11_late 137 = .ok (.istore 6, 2) := by decide +kernel
theorem dX11_late_139 : decode cX11_late 139 = .ok (.iinc 7 1, 3) := by decide +kernel
theorem dX11_late_142 : decode cX11_late 142 = .ok (.goto (-100), 3) := by decide +kernel
theorem dX11_late_145 : decode cX11_late 145 = .ok (.iload_n 1, 1) := by decide +kernel
theorem dX11_late_146 : decode cX11_late 146 = .ok (.tableswitch 41 0 3 #[30, 32, 35, 38], 30) := by decide +kernel
theorem dX11_late_176 : decode cX11_late 176 = .ok (.iload_n 3, 1) := by decide +kernel
theorem dX11_late_177 : decode cX11_late 177 = .ok (.ireturn, 1) := by decide +kernel
theorem dX11_late_178 : decode cX11_late 178 = .ok (.iload 4, 2) := by decide +kernel
theorem dX11_late_180 : decode cX11_late 180 = .ok (.ireturn, 1) := by decide +kernel
theorem dX11_late_181 : decode cX11_late 181 = .ok (.iload 5, 2) := by decide +kernel
theorem dX11_late_183 : decode cX11_late 183 = .ok (.ireturn, 1) := by decide +kernel
theorem dX11_late_184 : decode cX11_late 184 = .ok (.iload 6, 2) := by decide +kernel
theorem dX11_late_186 : decode cX11_late 186 = .ok (.ireturn, 1) := by decide +kernel
theorem dX11_late_187 : decode cX11_late 187 = .ok (.ldc 78, 2) := by decide +kernel
theorem dX11_late_189 : decode cX11_late 189 = .ok (.ireturn, 1) := by decide +kernel
theorem dX11_delays_0 : decode cX11_delays 0 = .ok (.iload_n 1, 1) := by decide +kernel
theorem dX11_delays_1 : decode cX11_delays 1 = .ok (.iconst 0, 1) := by decide +kernel
theorem dX11_delays_2 : decode cX11_delays 2 = .ok (.bipush 15, 2) := by decide +kernel
theorem dX11_delays_4 : decode cX11_delays 4 = .ok (.invokestatic 51, 3) := by decide +kernel
theorem dX11_delays_7 : decode cX11_delays 7 = .ok (.ifCond .eq 12, 3) := by decide +kernel
theorem dX11_delays_10 : decode cX11_delays 10 = .ok (.iload_n 2, 1) := by decide +kernel
theorem dX11_delays_11 : decode cX11_delays 11 = .ok (.iconst 0, 1) := by decide +kernel
theorem dX11_delays_12 : decode cX11_delays 12 = .ok (.iconst 1, 1) := by decide +kernel
theorem dX11_delays_13 : decode cX11_delays 13 = .ok (.invokestatic 51, 3) := by decide +kernel
theorem dX11_delays_16 : decode cX11_delays 16 = .ok (.ifCond .ne 5, 3) := by decide +kernel
theorem dX11_delays_19 : decode cX11_delays 19 = .ok (.iconst (-1), 1) := by decide +kernel
theorem dX11_delays_20 : decode cX11_delays 20 = .ok (.ireturn, 1) := by decide +kernel
theorem dX11_delays_21 : decode cX11_delays 21 = .ok (.iload_n 2, 1) := by decide +kernel
theorem dX11_delays_22 : decode cX11_delays 22 = .ok (.ifCond .ne 18, 3) := by decide +kernel
theorem dX11_delays_25 : decode cX11_delays 25 = .ok (.aload_n 0, 1) := by decide +kernel
theorem dX11_delays_26 : decode cX11_delays 26 = .ok (.getfield 10, 3) := by decide +kernel
theorem dX11_delays_29 : decode cX11_delays 29 = .ok (.getfield 266, 3) := by decide +kernel
theorem dX11_delays_32 : decode cX11_delays 32 = .ok (.getfield 299, 3) := by decide +kernel
theorem dX11_delays_35 : decode cX11_delays 35 = .ok (.iload_n 1, 1) := by decide +kernel
theorem dX11_delays_36 : decode cX11_delays 36 = .ok (.iaload, 1) := by decide +kernel
theorem dX11_delays_37 : decode cX11_delays 37 = .ok (.goto 14, 3) := by decide +kernel
theorem dX11_delays_40 : decode cX11_delays 40 = .ok (.aload_n 0, 1) := by decide +kernel
theorem dX11_delays_41 : decode cX11_delays 41 = .ok (.getfield 10, 3) := by decide +kernel
theorem dX11_delays_44 : decode cX11_delays 44 = .ok (.getfield 266, 3) := by decide +kernel
theorem dX11_delays_47 : decode cX11_delays 47 = .ok (.iload_n 1, 1) := by decide +kernel
theorem dX11_delays_48 : decode cX11_delays 48 = .ok (.invokevirtual 302, 3) := by decide +kernel
theorem dX11_delays_51 : decode cX11_delays 51 = .ok (.ireturn, 1) := by decide +kernel
theorem dX11_would_0 : decode cX11_would 0 = .ok (.iload_n 1, 1) := by decide +kernel
theorem dX11_would_1 : decode cX11_would 1 = .ok (.iconst 1, 1) := by decide +kernel
theorem dX11_would_2 : decode cX11_would 2 = .ok (.bipush 100, 2) := by decide +kernel
theorem dX11_would_4 : decode cX11_would 4 = .ok (.invokestatic 51, 3) := by decide +kernel
theorem dX11_would_7 : decode cX11_would 7 = .ok (.ifCond .eq 27, 3) := by decide +kernel
theorem dX11_would_10 : decode cX11_would 10 = .ok (.aload_n 0, 1) := by decide +kernel
theorem dX11_would_11 : decode cX11_would 11 = .ok (.getfield 10, 3) := by decide +kernel
theorem dX11_would_14 : decode cX11_would 14 = .ok (.getfield 55, 3) := by decide +kernel
theorem dX11_would_17 : decode cX11_would 17 = .ok (.iconst 0, 1) := by decide +kernel
theorem dX11_would_18 : decode cX11_would 18 = .ok (.iaload, 1) := by decide +kernel
theorem dX11_would_19 : decode cX11_would 19 = .ok (.iload_n 1, 1) := by decide +kernel
theorem dX11_would_20 : decode cX11_would 20 = .ok (.iadd, 1) := by decide +kernel
theorem dX11_would_21 : decode cX11_would 21 = .ok (.sipush 10000, 3) := by decide +kernel
theorem dX11_would_24 : decode cX11_would 24 = .ok (.if_icmp .gt 10, 3) := by decide +kernel
theorem dX11_would_27 : decode cX11_would 27 = .ok (.iload_n 2, 1) := by decide +kernel
theorem dX11_would_28 : decode cX11_would 28 = .ok (.invokestatic 305, 3) := by decide +kernel
theorem dX11_would_31 : decode cX11_would 31 = .ok (.ifCond .ne 6, 3) := by decide +kernel
theorem dX11_would_34 : decode cX11_would 34 = .ok (.ldc 78, 2) := by decide +kernel
theorem dX11_would_36 : decode cX11_would 36 = .ok (.ireturn, 1) := by decide +kernel
theorem dX11_would_37 : decode cX11_would 37 = .ok (.aload_n 0, 1) := by decide +kernel
theorem dX11_would_38 : decode cX11_would 38 = .ok (.getfield 20, 3) := by decide +kernel
theorem dX11_would_41 : decode cX11_would 41 = .ok (.ifnonnull 14, 3) := by decide +kernel
theorem dX11_would_44 : decode cX11_would 44 = .ok (.aload_n 0, 1) := by decide +kernel
theorem dX11_would_45 : decode cX11_would 45 = .ok (.new 7, 3) := by decide +kernel
theorem dX11_would_48 : decode cX11_would 48 = .ok (.dup, 1) := by decide +kernel
theorem dX11_would_49 : decode cX11_would 49 = .ok (.invokespecial 9, 3) := by decide +kernel
theorem dX11_would_52 : decode cX11_would 52 = .ok (.putfield 20, 3) := by decide +kernel
theorem dX11_would_55 : decode cX11_would 55 = .ok (.aload_n 0, 1) := by decide +kernel
theorem dX11_would_56 : decode cX11_would 56 = .ok (.getfield 20, 3) := by decide +kernel
theorem dX11_would_59 : decode cX11_would 59 = .ok (.aload_n 0, 1) := by decide +kernel
theorem dX11_would_60 : decode cX11_would 60 = .ok (.getfield 10, 3) := by decide +kernel
theorem dX11_would_63 : decode cX11_would 63 = .ok (.invokevirtual 73, 3) := by decide +kernel
theorem dX11_would_66 : decode cX11_would 66 = .ok (.iconst 0, 1) := by decide +kernel
theorem dX11_would_67 : decode cX11_would 67 = .ok (.istore_n 3, 1) := by decide +kernel
theorem dX11_would_68 : decode cX11_would 68 = .ok (.iload_n 3, 1) := by decide +kernel
theorem dX11_would_69 : decode cX11_would 69 = .ok (.iload_n 1, 1) := by decide +kernel
theorem dX11_would_70 : decode cX11_would 70 = .ok (.if_icmp .ge 16, 3) := by decide +kernel
theorem dX11_would_73 : decode cX11_would 73 = .ok (.aload_n 0, 1) := by decide +kernel
theorem dX11_would_74 : decode cX11_would 74 = .ok (.getfield 20, 3) := by decide +kernel
theorem dX11_would_77 : decode cX11_would 77 = .ok (.invokevirtual 67, 3) := by decide +kernel
theorem dX11_would_80 : decode cX11_would 80 = .ok (.iinc 3 1, 3) := by decide +kernel
theorem dX11_would_83 : decode cX11_would 83 = .ok (.goto (-15), 3) := by decide +kernel
theorem dX11_would_86 : decode cX11_would 86 = .ok (.aload_n 0, 1) := by decide +kernel
theorem dX11_would_87 : decode cX11_would 87 = .ok (.getfield 20, 3) := by decide +kernel
theorem dX11_would_90 : decode cX11_would 90 = .ok (.getfield 55, 3) := by decide +kernel
theorem dX11_would_93 : decode cX11_would 93 = .ok (.iload_n 2, 1) := by decide +kernel
theorem dX11_would_94 : decode cX11_would 94 = .ok (.iaload, 1) := by decide +kernel
theorem dX11_would_95 : decode cX11_would 95 = .ok (.ireturn, 1) := by decide +kernel
theorem dX11_count_0 : decode cX11_count 0 = .ok (.iload_n 1, 1) := by decide +kernel
theorem dX11_count_1 : decode cX11_count 1 = .ok (.invokestatic 305, 3) := by decide +kernel
theorem dX11_count_4 : decode cX11_count 4 = .ok (.ifCond .eq 15, 3) := by decide +kernel
theorem dX11_count_7 : decode cX11_count 7 = .ok (.aload_n 0, 1) := by decide +kernel
theorem dX11_count_8 : decode cX11_count 8 = .ok (.getfield 10, 3) := by decide +kernel
theorem dX11_count_11 : decode cX11_count 11 = .ok (.getfield 55, 3) := by decide +kernel
theorem dX11_count_14 : decode cX11_count 14 = .ok (.iload_n 1, 1) := by decide +kernel
theorem dX11_count_15 : decode cX11_count 15 = .ok (.iaload, 1) := by decide +kernel
theorem dX11_count_16 : decode cX11_count 16 = .ok (.goto 5, 3) := by decide +kernel
theorem dX11_count_19 : decode cX11_count 19 = .ok (.ldc 78, 2) := by decide +kernel
theorem dX11_count_21 : decode cX11_count 21 = .ok (.ireturn, 1) := by decide +kernel
theorem dX11_isCount_0 : decode cX11_isCount 0 = .ok (.iload_n 0, 1) := by decide +kernel
theorem dX11_isCount_1 : decode cX11_isCount 1 = .ok (.iconst 0, 1) := by decide +kernel
theorem dX11_isCount_2 : decode cX11_isCount 2 = .ok (.bipush 36, 2) := by decide +kernel
theorem dX11_isCount_4 : decode cX11_isCount 4 = .ok (.invokestatic 51, 3) := by decide +kernel
theorem dX11_isCount_7 : decode cX11_isCount 7 = .ok (.ifCond .ne 14, 3) := by decide +kernel
theorem dX11_isCount_10 : decode cX11_isCount 10 = .ok (.iload_n 0, 1) := by decide +kernel
theorem dX11_isCount_11 : decode cX11_isCount 11 = .ok (.bipush 40, 2) := by decide +kernel
theorem dX11_isCount_13 : decode cX11_isCount 13 = .ok (.bipush 47, 2) := by decide +kernel
theorem dX11_isCount_15 : decode cX11_isCount 15 = .ok (.invokestatic 51, 3) := by decide +kernel
theorem dX11_isCount_18 : decode cX11_isCount 18 = .ok (.ifCond .eq 7, 3) := by decide +kernel
theorem dX11_isCount_21 : decode cX11_isCount 21 = .ok (.iconst 1, 1) := by decide +kernel
theorem dX11_isCount_22 : decode cX11_isCount 22 = .ok (.goto 4, 3) := by decide +kernel
theorem dX11_isCount_25 : decode cX11_isCount 25 = .ok (.iconst 0, 1) := by decide +kernel
theorem dX11_isCount_26 : decode cX11_isCount 26 = .ok (.ireturn, 1) := by decide +kernel
theorem dX11_isColumn_0 : decode cX11_isColumn 0 = .ok (.iload_n 0, 1) := by decide +kernel
theorem dX11_isColumn_1 : decode cX11_isColumn 1 = .ok (.iconst 0, 1) := by decide +kernel
theorem dX11_isColumn_2 : decode cX11_isColumn 2 = .ok (.iconst 1, 1) := by decide +kernel
theorem dX11_isColumn_3 : decode cX11_isColumn 3 = .ok (.invokestatic 51, 3) := by decide +kernel
theorem dX11_isColumn_6 : decode cX11_isColumn 6 = .ok (.ifCond .eq 17, 3) := by decide +kernel
theorem dX11_isColumn_9 : decode cX11_isColumn 9 = .ok (.iload_n 1, 1) := by decide +kernel
theorem dX11_isColumn_10 : decode cX11_isColumn 10 = .ok (.iconst 0, 1) := by decide +kernel
theorem dX11_isColumn_11 : decode cX11_isColumn 11 = .ok (.bipush 7, 2) := by decide +kernel
theorem dX11_isColumn_13 : decode cX11_isColumn 13 = .ok (.invokestatic 51, 3) := by decide +kernel
theorem dX11_isColumn_16 : decode cX11_isColumn 16 = .ok (.ifCond .eq 7, 3) := by decide +kernel
theorem dX11_isColumn_19 : decode cX11_isColumn 19 = .ok (.iconst 1, 1) := by decide +kernel
theorem dX11_isColumn_20 : decode cX11_isColumn 20 = .ok (.goto 4, 3) := by decide +kernel
theorem dX11_isColumn_23 : decode cX11_isColumn 23 = .ok (.iconst 0, 1) := by decide +kernel
theorem dX11_isColumn_24 : decode cX11_isColumn 24 = .ok (.ireturn, 1) := by decide +kernel
theorem dX11_noFrame_0 : decode cX11_noFrame 0 = .ok (.aload_n 0, 1) := by decide +kernel
theorem dX11_noFrame_1 : decode cX11_noFrame 1 = .ok (.getfield 10, 3) := by decide +kernel
theorem dX11_noFrame_4 : decode cX11_noFrame 4 = .ok (.getfield 55, 3) := by decide +kernel
theorem dX11_noFrame_7 : decode cX11_noFrame 7 = .ok (.iconst 1, 1) := by decide +kernel
theorem dX11_noFrame_8 : decode cX11_noFrame 8 = .ok (.iaload, 1) := by decide +kernel
theorem dX11_noFrame_9 : decode cX11_noFrame 9 = .ok (.ifCond .ne 7, 3) := by decide +kernel
theorem dX11_noFrame_12 : decode cX11_noFrame 12 = .ok (.iconst 1, 1) := by decide +kernel
theorem dX11_noFrame_13 : decode cX11_noFrame 13 = .ok (.goto 4, 3) := by decide +kernel
theorem dX11_noFrame_16 : decode cX11_noFrame 16 = .ok (.iconst 0, 1) := by decide +kernel
theorem dX11_noFrame_17 : decode cX11_noFrame 17 = .ok (.ireturn, 1) := by decide +kernel
theorem dX11_onPaper_0 : decode cX11_onPaper 0 = .ok (.aload_n 0, 1) := by decide +kernel
theorem dX11_onPaper_1 : decode cX11_onPaper 1 = .ok (.invokevirtual 83, 3) := by decide +kernel
theorem dX11_onPaper_4 : decode cX11_onPaper 4 = .ok (.ifCond .ne 31, 3) := by decide +kernel
theorem dX11_onPaper_7 : decode cX11_onPaper 7 = .ok (.iload_n 1, 1) := by decide +kernel
theorem dX11_onPaper_8 : decode cX11_onPaper 8 = .ok (.getstatic 61, 3) := by decide +kernel
theorem dX11_onPaper_11 : decode cX11_onPaper 11 = .ok (.iconst 1, 1) := by decide +kernel
theorem dX11_onPaper_12 : decode cX11_onPaper 12 = .ok (.iaload, 1) := by decide +kernel
theorem dX11_onPaper_13 : decode cX11_onPaper 13 = .ok (.sipush 128, 3) := by decide +kernel
theorem dX11_onPaper_16 : decode cX11_onPaper 16 = .ok (.invokestatic 51, 3) := by decide +kernel
theorem dX11_onPaper_19 : decode cX11_onPaper 19 = .ok (.ifCond .eq 16, 3) := by decide +kernel
theorem dX11_onPaper_22 : decode cX11_onPaper 22 = .ok (.iload_n 2, 1) := by decide +kernel
theorem dX11_onPaper_23 : decode cX11_onPaper 23 = .ok (.iconst 0, 1) := by decide +kernel
theorem dX11_onPaper_24 : decode cX11_onPaper 24 = .ok (.iconst 1, 1) := by decide +kernel
theorem dX11_onPaper_25 : decode cX11_onPaper 25 = .ok (.invokestatic 51, 3) := by decide +kernel
theorem dX11_onPaper_28 : decode cX11_onPaper 28 = .ok (.ifCond .eq 7, 3) := by decide +kernel
theorem dX11_onPaper_31 : decode cX11_onPaper 31 = .ok (.iconst 1, 1) := by decide +kernel
theorem dX11_onPaper_32 : decode cX11_onPaper 32 = .ok (.goto 4, 3) := by decide +kernel
theorem dX11_onPaper_35 : decode cX11_onPaper 35 = .ok (.iconst 0, 1) := by decide +kernel
theorem dX11_onPaper_36 : decode cX11_onPaper 36 = .ok (.ireturn, 1) := by decide +kernel
theorem dX11_costOnPaper_0 : decode cX11_costOnPaper 0 = .ok (.aload_n 0, 1) := by decide +kernel
theorem dX11_costOnPaper_1 : decode cX11_costOnPaper 1 = .ok (.getfield 26, 3) := by decide +kernel
theorem dX11_costOnPaper_4 : decode cX11_costOnPaper 4 = .ok (.iload_n 1, 1) := by decide +kernel
theorem dX11_costOnPaper_5 : decode cX11_costOnPaper 5 = .ok (.iload_n 2, 1) := by decide +kernel
theorem dX11_costOnPaper_6 : decode cX11_costOnPaper 6 = .ok (.aload_n 0, 1) := by decide +kernel
theorem dX11_costOnPaper_7 : decode cX11_costOnPaper 7 = .ok (.getfield 10, 3) := by decide +kernel
theorem dX11_costOnPaper_10 : decode cX11_costOnPaper 10 = .ok (.getfield 55, 3) := by decide +kernel
theorem dX11_costOnPaper_13 : decode cX11_costOnPaper 13 = .ok (.invokevirtual 144, 3) := by decide +kernel
theorem dX11_costOnPaper_16 : decode cX11_costOnPaper 16 = .ok (.aload_n 0, 1) := by decide +kernel
theorem dX11_costOnPaper_17 : decode cX11_costOnPaper 17 = .ok (.getfield 26, 3) := by decide +kernel
theorem dX11_costOnPaper_20 : decode cX11_costOnPaper 20 = .ok (.invokevirtual 156, 3) := by decide +kernel
theorem dX11_costOnPaper_23 : decode cX11_costOnPaper 23 = .ok (.iconst 0, 1) := by decide +kernel
theorem dX11_costOnPaper_24 : decode cX11_costOnPaper 24 = .ok (.istore_n 3, 1) := by decide +kernel
theorem dX11_costOnPaper_25 : decode cX11_costOnPaper 25 = .ok (.iconst 0, 1) := by decide +kernel
theorem dX11_costOnPaper_26 : decode cX11_costOnPaper 26 = .ok (.istore 4, 2) := by decide +kernel
theorem dX11_costOnPaper_28 : decode cX11_costOnPaper 28 = .ok (.iload 4, 2) := by decide +kernel
theorem dX11_costOnPaper_30 : decode cX11_costOnPaper 30 = .ok (.bipush 16, 2) := by decide +kernel
theorem dX11_costOnPaper_32 : decode cX11_costOnPaper 32 = .ok (.if_icmp .ge 21, 3) := by decide +kernel
theorem dX11_costOnPaper_35 : decode cX11_costOnPaper 35 = .ok (.iload_n 3, 1) := by decide +kernel
theorem dX11_costOnPaper_36 : decode cX11_costOnPaper 36 = .ok (.aload_n 0, 1) := by decide +kernel
theorem dX11_costOnPaper_37 : decode cX11_costOnPaper 37 = .ok (.getfield 26, 3) := by decide +kernel
theorem dX11_costOnPaper_40 : decode cX11_costOnPaper 40 = .ok (.iload 4, 2) := by decide +kernel
theorem dX11_costOnPaper_42 : decode cX11_costOnPaper 42 = .ok (.invokevirtual 176, 3) := by decide +kernel
theorem dX11_costOnPaper_45 : decode cX11_costOnPaper 45 = .ok (.iadd, 1) := by decide +kernel
theorem dX11_costOnPaper_46 : decode cX11_costOnPaper 46 = .ok (.istore_n 3, 1) := by decide +kernel
theorem dX11_costOnPaper_47 : decode cX11_costOnPaper 47 = .ok (.iinc 4 1, 3) := by decide +kernel
theorem dX11_costOnPaper_50 : decode cX11_costOnPaper 50 = .ok (.goto (-22), 3) := by decide +kernel
theorem dX11_costOnPaper_53 : decode cX11_costOnPaper 53 = .ok (.iload_n 3, 1) := by decide +kernel
theorem dX11_costOnPaper_54 : decode cX11_costOnPaper 54 = .ok (.ireturn, 1) := by decide +kernel
theorem dX11_within_0 : decode cX11_within 0 = .ok (.iload_n 0, 1) := by decide +kernel
theorem dX11_within_1 : decode cX11_within 1 = .ok (.iload_n 1, 1) := by decide +kernel
theorem dX11_within_2 : decode cX11_within 2 = .ok (.if_icmp .lt 12, 3) := by decide +kernel
theorem dX11_within_5 : decode cX11_within 5 = .ok (.iload_n 0, 1) := by decide +kernel
theorem dX11_within_6 : decode cX11_within 6 = .ok (.iload_n 2, 1) := by decide +kernel
theorem dX11_within_7 : decode cX11_within 7 = .ok (.if_icmp .gt 7, 3) := by decide +kernel
theorem dX11_within_10 : decode cX11_within 10 = .ok (.iconst 1, 1) := by decide +kernel
theorem dX11_within_11 : decode cX11_within 11 = .ok (.goto 4, 3) := by decide +kernel
theorem dX11_within_14 : decode cX11_within 14 = .ok (.iconst 0, 1) := by decide +kernel
theorem dX11_within_15 : decode cX11_within 15 = .ok (.ireturn, 1) := by decide +kernel
theorem dX11_nearest_0 : decode cX11_nearest 0 = .ok (.iload_n 0, 1) := by decide +kernel
theorem dX11_nearest_1 : decode cX11_nearest 1 = .ok (.iload_n 1, 1) := by decide +kernel
theorem dX11_nearest_2 : decode cX11_nearest 2 = .ok (.if_icmp .ge 5, 3) := by decide +kernel
theorem dX11_nearest_5 : decode cX11_nearest 5 = .ok (.iload_n 1, 1) := by decide +kernel
theorem dX11_nearest_6 : decode cX11_nearest 6 = .ok (.ireturn, 1) := by decide +kernel
theorem dX11_nearest_7 : decode cX11_nearest 7 = .ok (.iload_n 0, 1) := by decide +kernel
theorem dX11_nearest_8 : decode cX11_nearest 8 = .ok (.iload_n 2, 1) := by decide +kernel
theorem dX11_nearest_9 : decode cX11_nearest 9 = .ok (.if_icmp .le 7, 3) := by decide +kernel
theorem dX11_nearest_12 : decode cX11_nearest 12 = .ok (.iload_n 2, 1) := by decide +kernel
theorem dX11_nearest_13 : decode cX11_nearest 13 = .ok (.goto 4, 3) := by decide +kernel
theorem dX11_nearest_16 : decode cX11_nearest 16 = .ok (.iload_n 0, 1) := by decide +kernel
theorem dX11_nearest_17 : decode cX11_nearest 17 = .ok (.ireturn, 1) := by decide +kernel
theorem dX11_nearestSample_0 : decode cX11_nearestSample 0 = .ok (.iload_n 0, 1) := by decide +kernel
theorem dX11_nearestSample_1 : decode cX11_nearestSample 1 = .ok (.sipush (-2048), 3) := by decide +kernel
theorem dX11_nearestSample_4 : decode cX11_nearestSample 4 = .ok (.sipush 2047, 3) := by decide +kernel
theorem dX11_nearestSample_7 : decode cX11_nearestSample 7 = .ok (.invokestatic 309, 3) := by decide +kernel
theorem dX11_nearestSample_10 : decode cX11_nearestSample 10 = .ok (.ireturn, 1) := by decide +kernel
theorem dX11_sampleOf_0 : decode cX11_sampleOf 0 = .ok (.bipush 48, 2) := by decide +kernel
theorem dX11_sampleOf_2 : decode cX11_sampleOf 2 = .ok (.iconst 3, 1) := by decide +kernel
theorem dX11_sampleOf_3 : decode cX11_sampleOf 3 = .ok (.iload_n 1, 1) := by decide +kernel
theorem dX11_sampleOf_4 : decode cX11_sampleOf 4 = .ok (.imul, 1) := by decide +kernel
theorem dX11_sampleOf_5 : decode cX11_sampleOf 5 = .ok (.iadd, 1) := by decide +kernel
theorem dX11_sampleOf_6 : decode cX11_sampleOf 6 = .ok (.istore_n 3, 1) := by decide +kernel
theorem dX11_sampleOf_7 : decode cX11_sampleOf 7 = .ok (.iconst 1, 1) := by decide +kernel
theorem dX11_sampleOf_8 : decode cX11_sampleOf 8 = .ok (.aload_n 0, 1) := by decide +kernel
theorem dX11_sampleOf_9 : decode cX11_sampleOf 9 = .ok (.iload_n 3, 1) := by decide +kernel
theorem dX11_sampleOf_10 : decode cX11_sampleOf 10 = .ok (.iaload, 1) := by decide +kernel
theorem dX11_sampleOf_11 : decode cX11_sampleOf 11 = .ok (.invokestatic 296, 3) := by decide +kernel
theorem dX11_sampleOf_14 : decode cX11_sampleOf 14 = .ok (.istore 4, 2) := by decide +kernel
theorem dX11_sampleOf_16 : decode cX11_sampleOf 16 = .ok (.aload_n 0, 1) := by decide +kernel
theorem dX11_sampleOf_17 : decode cX11_sampleOf 17 = .ok (.iload_n 3, 1) := by decide +kernel
theorem dX11_sampleOf_18 : decode cX11_sampleOf 18 = .ok (.iconst 1, 1) := by decide +kernel
theorem dX11_sampleOf_19 : decode cX11_sampleOf 19 = .ok (.iadd, 1) := by decide +kernel
theorem dX11_sampleOf_20 : decode cX11_sampleOf 20 = .ok (.iaload, 1) := by decide +kernel
theorem dX11_sampleOf_21 : decode cX11_sampleOf 21 = .ok (.istore 5, 2) := by decide +kernel
theorem dX11_sampleOf_23 : decode cX11_sampleOf 23 = .ok (.aload_n 0, 1) := by decide +kernel
theorem dX11_sampleOf_24 : decode cX11_sampleOf 24 = .ok (.iload_n 3, 1) := by decide +kernel
theorem dX11_sampleOf_25 : decode cX11_sampleOf 25 = .ok (.iconst 2, 1) := by decide +kernel
theorem dX11_sampleOf_26 : decode cX11_sampleOf 26 = .ok (.iadd, 1) := by decide +kernel
theorem dX11_sampleOf_27 : decode cX11_sampleOf 27 = .ok (.iaload, 1) := by decide +kernel
theorem dX11_sampleOf_28 : decode cX11_sampleOf 28 = .ok (.istore 6, 2) := by decide +kernel
theorem dX11_sampleOf_30 : decode cX11_sampleOf 30 = .ok (.iload_n 2, 1) := by decide +kernel
theorem dX11_sampleOf_31 : decode cX11_sampleOf 31 = .ok (.iload 4, 2) := by decide +kernel
theorem dX11_sampleOf_33 : decode cX11_sampleOf 33 = .ok (.irem, 1) := by decide +kernel
theorem dX11_sampleOf_34 : decode cX11_sampleOf 34 = .ok (.istore 7, 2) := by decide +kernel
theorem dX11_sampleOf_36 : decode cX11_sampleOf 36 = .ok (.iconst 4, 1) := by decide +kernel
theorem dX11_sampleOf_37 : decode cX11_sampleOf 37 = .ok (.iload 5, 2) := by decide +kernel
theorem dX11_sampleOf_39 : decode cX11_sampleOf 39 = .ok (.imul, 1) := by decide +kernel
theorem dX11_sampleOf_40 : decode cX11_sampleOf 40 = .ok (.iload 7, 2) := by decide +kernel
theorem dX11_sampleOf_42 : decode cX11_sampleOf 42 = .ok (.imul, 1) := by decide +kernel
theorem dX11_sampleOf_43 : decode cX11_sampleOf 43 = .ok (.iload 4, 2) := by decide +kernel
theorem dX11_sampleOf_45 : decode cX11_sampleOf 45 = .ok (.idiv, 1) := by decide +kernel
theorem dX11_sampleOf_46 : decode cX11_sampleOf 46 = .ok (.istore 8, 2) := by decide +kernel
theorem dX11_sampleOf_48 : decode cX11_sampleOf 48 = .ok (.iconst 2, 1) := by decide +kernel
theorem dX11_sampleOf_49 : decode cX11_sampleOf 49 = .ok (.iload 7, 2) := by decide +kernel
theorem dX11_sampleOf_51 : decode cX11_sampleOf 51 = .ok (.imul, 1) := by decide +kernel
theorem dX11_sampleOf_52 : decode cX11_sampleOf 52 = .ok (.iload 4, 2) := by decide +kernel
theorem dX11_sampleOf_54 : decode cX11_sampleOf 54 = .ok (.if_icmp .ge 11, 3) := by decide +kernel
theorem dX11_sampleOf_57 : decode cX11_sampleOf 57 = .ok (.iload 8, 2) := by decide +kernel
theorem dX11_sampleOf_59 : decode cX11_sampleOf 59 = .ok (.iload 5, 2) := by decide +kernel
theorem dX11_sampleOf_61 : decode cX11_sampleOf 61 = .ok (.isub, 1) := by decide +kernel
theorem dX11_sampleOf_62 : decode cX11_sampleOf 62 = .ok (.goto 10, 3) := by decide +kernel
theorem dX11_sampleOf_65 : decode cX11_sampleOf 65 = .ok (.iconst 3, 1) := by decide +kernel
theorem dX11_sampleOf_66 : decode cX11_sampleOf 66 = .ok (.iload 5, 2) := by decide +kernel
theorem dX11_sampleOf_68 : decode cX11_sampleOf 68 = .ok (.imul, 1) := by decide +kernel
theorem dX11_sampleOf_69 : decode cX11_sampleOf 69 = .ok (.iload 8, 2) := by decide +kernel
theorem dX11_sampleOf_71 : decode cX11_sampleOf 71 = .ok (.isub, 1) := by decide +kernel
theorem dX11_sampleOf_72 : decode cX11_sampleOf 72 = .ok (.istore 9, 2) := by decide +kernel
theorem dX11_sampleOf_74 : decode cX11_sampleOf 74 = .ok (.iload 6, 2) := by decide +kernel
theorem dX11_sampleOf_76 : decode cX11_sampleOf 76 = .ok (.ifCond .le 42, 3) := by decide +kernel
theorem dX11_sampleOf_79 : decode cX11_sampleOf 79 = .ok (.sipush 7919, 3) := by decide +kernel
theorem dX11_sampleOf_82 : decode cX11_sampleOf 82 = .ok (.iload_n 2, 1) := by decide +kernel
theorem dX11_sampleOf_83 : decode cX11_sampleOf 83 = .ok (.imul, 1) := by decide +kernel
theorem dX11_sampleOf_84 : decode cX11_sampleOf 84 = .ok (.ldc_w 313, 3) := by decide +kernel
theorem dX11_sampleOf_87 : decode cX11_sampleOf 87 = .ok (.iload_n 1, 1) := by decide +kernel
theorem dX11_sampleOf_88 : decode cX11_sampleOf 88 = .ok (.imul, 1) := by decide +kernel
theorem dX11_sampleOf_89 : decode cX11_sampleOf 89 = .ok (.iadd, 1) := by decide +kernel
theorem dX11_sampleOf_90 : decode cX11_sampleOf 90 = .ok (.aload_n 0, 1) := by decide +kernel
theorem dX11_sampleOf_91 : decode cX11_sampleOf 91 = .ok (.bipush 20, 2) := by decide +kernel
theorem dX11_sampleOf_93 : decode cX11_sampleOf 93 = .ok (.iaload, 1) := by decide +kernel
theorem dX11_sampleOf_94 : decode cX11_sampleOf 94 = .ok (.iadd, 1) := by decide +kernel
theorem dX11_sampleOf_95 : decode cX11_sampleOf 95 = .ok (.sipush 10007, 3) := by decide +kernel
theorem dX11_sampleOf_98 : decode cX11_sampleOf 98 = .ok (.irem, 1) := by decide +kernel
theorem dX11_sampleOf_99 : decode cX11_sampleOf 99 = .ok (.istore 10, 2) := by decide +kernel
theorem dX11_sampleOf_101 : decode cX11_sampleOf 101 = .ok (.iload 9, 2) := by decide +kernel
theorem dX11_sampleOf_103 : decode cX11_sampleOf 103 = .ok (.iload 10, 2) := by decide +kernel
theorem dX11_sampleOf_105 : decode cX11_sampleOf 105 = .ok (.iconst 2, 1) := by decide +kernel
theorem dX11_sampleOf_106 : decode cX11_sampleOf 106 = .ok (.iload 6, 2) := by decide +kernel
theorem dX11_sampleOf_108 : decode cX11_sampleOf 108 = .ok (.imul, 1) := by decide +kernel
theorem dX11_sampleOf_109 : decode cX11_sampleOf 109 = .ok (.iconst 1, 1) := by decide +kernel
theorem dX11_sampleOf_110 : decode cX11_sampleOf 110 = .ok (.iadd, 1) := by decide +kernel
theorem dX11_sampleOf_111 : decode cX11_sampleOf 111 = .ok (.irem, 1) := by decide +kernel
theorem dX11_sampleOf_112 : decode cX11_sampleOf 112 = .ok (.iload 6, 2) := by decide +kernel
theorem dX11_sampleOf_114 : decode cX11_sampleOf 114 = .ok (.isub, 1) := by decide +kernel
theorem dX11_sampleOf_115 : decode cX11_sampleOf 115 = .ok (.iadd, 1) := by decide +kernel
theorem dX11_sampleOf_116 : decode cX11_sampleOf 116 = .ok (.istore 9, 2) := by decide +kernel
theorem dX11_sampleOf_118 : decode cX11_sampleOf 118 = .ok (.iload 9, 2) := by decide +kernel
theorem dX11_sampleOf_120 : decode cX11_sampleOf 120 = .ok (.invokestatic 314, 3) := by decide +kernel
theorem dX11_sampleOf_123 : decode cX11_sampleOf 123 = .ok (.ireturn, 1) := by decide +kernel
theorem dX12_init_0 : decode cX12_init 0 = .ok (.aload_n 0, 1) := by decide +kernel
theorem dX12_init_1 : decode cX12_init 1 = .ok (.invokespecial 3, 3) := by decide +kernel
theorem dX12_init_4 : decode cX12_init 4 = .ok (.aload_n 0, 1) := by decide +kernel
theorem dX12_init_5 : decode cX12_init 5 = .ok (.sipush 13385, 3) := by decide +kernel
theorem dX12_init_8 : decode cX12_init 8 = .ok (.newarray .int, 2) := by decide +kernel
theorem dX12_init_10 : decode cX12_init 10 = .ok (.putfield 9, 3) := by decide +kernel
theorem dX12_init_13 : decode cX12_init 13 = .ok (.aload_n 0, 1) := by decide +kernel
theorem dX12_init_14 : decode cX12_init 14 = .ok (.sipush 26770, 3) := by decide +kernel
theorem dX12_init_17 : decode cX12_init 17 = .ok (.newarray .int, 2) := by decide +kernel
theorem dX12_init_19 : decode cX12_init 19 = .ok (.putfield 15, 3) := by decide +kernel
theorem dX12_init_22 : decode cX12_init 22 = .ok (.aload_n 0, 1) := by decide +kernel
theorem dX12_init_23 : decode cX12_init 23 = .ok (.iconst 2, 1) := by decide +kernel
theorem dX12_init_24 : decode cX12_init 24 = .ok (.newarray .boolean, 2) := by decide +kernel
theorem dX12_init_26 : decode cX12_init 26 = .ok (.putfield 18, 3) := by decide +kernel
theorem dX12_init_29 : decode cX12_init 29 = .ok (.aload_n 0, 1) := by decide +kernel
theorem dX12_init_30 : decode cX12_init 30 = .ok (.sipush 13385, 3) := by decide +kernel
theorem dX12_init_33 : decode cX12_init 33 = .ok (.newarray .int, 2) := by decide +kernel
theorem dX12_init_35 : decode cX12_init 35 = .ok (.putfield 22, 3) := by decide +kernel
theorem dX12_init_38 : decode cX12_init 38 = .ok (.aload_n 0, 1) := by decide +kernel
theorem dX12_init_39 : decode cX12_init 39 = .ok (.bipush 8, 2) := by decide +kernel
theorem dX12_init_41 : decode cX12_init 41 = .ok (.newarray .int, 2) := by decide +kernel
theorem dX12_init_43 : decode cX12_init 43 = .ok (.putfield 25, 3) := by decide +kernel
theorem dX12_init_46 : decode cX12_init 46 = .ok (.aload_n 0, 1) := by decide +kernel
theorem dX12_init_47 : decode cX12_init 47 = .ok (.bipush 8, 2) := by decide +kernel
theorem dX12_init_49 : decode cX12_init 49 = .ok (.newarray .int, 2) := by decide +kernel
theorem dX12_init_51 : decode cX12_init 51 = .ok (.putfield 28, 3) := by decide +kernel
theorem dX12_init_54 : decode cX12_init 54 = .ok (.aload_n 0, 1) := by decide +kernel
theorem dX12_init_55 : decode cX12_init 55 = .ok (.bipush 16, 2) := by decide +kernel
theorem dX12_init_57 : decode cX12_init 57 = .ok (.newarray .int, 2) := by decide +kernel
theorem dX12_init_59 : decode cX12_init 59 = .ok (.putfield 31, 3) := by decide +kernel
theorem dX12_init_62 : decode cX12_init 62 = .ok (.aload_n 0, 1) := by decide +kernel
theorem dX12_init_63 : decode cX12_init 63 = .ok (.bipush 16, 2) := by decide +kernel
theorem dX12_init_65 : decode cX12_init 65 = .ok (.newarray .int, 2) := by decide +kernel
theorem dX12_init_67 : decode cX12_init 67 = .ok (.putfield 34, 3) := by decide +kernel
theorem dX12_init_70 : decode cX12_init 70 = .ok (.aload_n 0, 1) := by decide +kernel
theorem dX12_init_71 : decode cX12_init 71 = .ok (.sipush 160, 3) := by decide +kernel
theorem dX12_init_74 : decode cX12_init 74 = .ok (.newarray .int, 2) := by decide +kernel
theorem dX12_init_76 : decode cX12_init 76 = .ok (.putfield 37, 3) := by decide +kernel
theorem dX12_init_79 : decode cX12_init 79 = .ok (.aload_n 0, 1) := by decide +kernel
theorem dX12_init_80 : decode cX12_init 80 = .ok (.sipush 224, 3) := by decide +kernel
theorem dX12_init_83 : decode cX12_init 83 = .ok (.newarray .int, 2) := by decide +kernel
theorem dX12_init_85 : decode cX12_init 85 = .ok (.putfield 40, 3) := by decide +kernel
theorem dX12_init_88 : decode cX12_init 88 = .ok (.aload_n 0, 1) := by decide +kernel
theorem dX12_init_89 : decode cX12_init 89 = .ok (.bipush 64, 2) := by decide +kernel
theorem dX12_init_91 : decode cX12_init 91 = .ok (.newarray .int, 2) := by decide +kernel
theorem dX12_init_93 : decode cX12_init 93 = .ok (.putfield 43, 3) := by decide +kernel
theorem dX12_init_96 : decode cX12_init 96 = .ok (.aload_n 0, 1) := by decide +kernel
theorem dX12_init_97 : decode cX12_init 97 = .ok (.bipush 64, 2) := by decide +kernel
theorem dX12_init_99 : decode cX12_init 99 = .ok (.newarray .int, 2) := by decide +kernel
theorem dX12_init_101 : decode cX12_init 101 = .ok (.putfield 46, 3) := by decide +kernel
theorem dX12_init_104 : decode cX12_init 104 = .ok (.aload_n 0, 1) := by decide +kernel
theorem dX12_init_105 : decode cX12_init 105 = .ok (.bipush 64, 2) := by decide +kernel
theorem dX12_init_107 : decode cX12_init 107 = .ok (.newarray .int, 2) := by decide +kernel
theorem dX12_init_109 : decode cX12_init 109 = .ok (.putfield 49, 3) := by decide +kernel
theorem dX12_init_112 : decode cX12_init 112 = .ok (.aload_n 0, 1) := by decide +kernel
theorem dX12_init_113 : decode cX12_init 113 = .ok (.bipush 14, 2) := by decide +kernel
theorem dX12_init_115 : decode cX12_init 115 = .ok (.newarray .int, 2) := by decide +kernel
theorem dX12_init_117 : decode cX12_init 117 = .ok (.putfield 52, 3) := by decide +kernel
theorem dX12_init_120 : decode cX12_init 120 = .ok (.aload_n 0, 1) := by decide +kernel
theorem dX12_init_121 : decode cX12_init 121 = .ok (.getfield 9, 3) := by decide +kernel
theorem dX12_init_124 : decode cX12_init 124 = .ok (.iconst 0, 1) := by decide +kernel
theorem dX12_init_125 : decode cX12_init 125 = .ok (.bipush 40, 2) := by decide +kernel
theorem dX12_init_127 : decode cX12_init 127 = .ok (.iastore, 1) := by decide +kernel
theorem dX12_init_128 : decode cX12_init 128 = .ok (.aload_n 0, 1) := by decide +kernel
theorem dX12_init_129 : decode cX12_init 129 = .ok (.getfield 9, 3) := by decide +kernel
theorem dX12_init_132 : decode cX12_init 132 = .ok (.iconst 1, 1) := by decide +kernel
theorem dX12_init_133 : decode cX12_init 133 = .ok (.bipush 50, 2) := by decide +kernel
theorem dX12_init_135 : decode cX12_init 135 = .ok (.iastore, 1) := by decide +kernel
theorem dX12_init_136 : decode cX12_init 136 = .ok (.aload_n 0, 1) := by decide +kernel
theorem dX12_init_137 : decode cX12_init 137 = .ok (.getfield 9, 3) := by decide +kernel
theorem dX12_init_140 : decode cX12_init 140 = .ok (.iconst 2, 1) := by decide +kernel
theorem dX12_init_141 : decode cX12_init 141 = .ok (.sipush 1000, 3) := by decide +kernel
theorem dX12_init_144 : decode cX12_init 144 = .ok (.iastore, 1) := by decide +kernel
theorem dX12_init_145 : decode cX12_init 145 = .ok (.aload_n 0, 1) := by decide +kernel
theorem dX12_init_146 : decode cX12_init 146 = .ok (.getfield 9, 3) := by decide +kernel
theorem dX12_init_149 : decode cX12_init 149 = .ok (.iconst 3, 1) := by decide +kernel
theorem dX12_init_150 : decode cX12_init 150 = .ok (.sipush 1000, 3) := by decide +kernel
theorem dX12_init_153 : decode cX12_init 153 = .ok (.iastore, 1) := by decide +kernel
theorem dX12_init_154 : decode cX12_init 154 = .ok (.aload_n 0, 1) := by decide +kernel
theorem dX12_init_155 : decode cX12_init 155 = .ok (.getfield 9, 3) := by decide +kernel
theorem dX12_init_158 : decode cX12_init 158 = .ok (.bipush 6, 2) := by decide +kernel
theorem dX12_init_160 : decode cX12_init 160 = .ok (.iconst 1, 1) := by decide +kernel
theorem dX12_init_161 : decode cX12_init 161 = .ok (.iastore, 1) := by decide +kernel
theorem dX12_init_162 : decode cX12_init 162 = .ok (.aload_n 0, 1) := by decide +kernel
theorem dX12_init_163 : decode cX12_init 163 = .ok (.getfield 9, 3) := by decide +kernel
theorem dX12_init_166 : decode cX12_init 166 = .ok (.bipush 7, 2) := by decide +kernel
theorem dX12_init_168 : decode cX12_init 168 = .ok (.bipush 40, 2) := by decide +kernel
theorem dX12_init_170 : decode cX12_init 170 = .ok (.iastore, 1) := by decide +kernel
theorem dX12_init_171 : decode cX12_init 171 = .ok (.aload_n 0, 1) := by decide +kernel
theorem dX12_init_172 : decode cX12_init 172 = .ok (.getfield 9, 3) := by decide +kernel
theorem dX12_init_175 : decode cX12_init 175 = .ok (.bipush 8, 2) := by decide +kernel
theorem dX12_init_177 : decode cX12_init 177 = .ok (.iconst 1, 1) := by decide +kernel
theorem dX12_init_178 : decode cX12_init 178 = .ok (.iastore, 1) := by decide +kernel
theorem dX12_init_179 : decode cX12_init 179 = .ok (.aload_n 0, 1) := by decide +kernel
theorem dX12_init_180 : decode cX12_init 180 = .ok (.getfield 9, 3) := by decide +kernel
theorem dX12_init_183 : decode cX12_init 183 = .ok (.bipush 9, 2) := by decide +kernel
theorem dX12_init_185 : decode cX12_init 185 = .ok (.iconst 1, 1) := by decide +kernel
theorem dX12_init_186 : decode cX12_init 186 = .ok (.iastore, 1) := by decide +kernel
theorem dX12_init_187 : decode cX12_init 187 = .ok (.aload_n 0, 1) := by decide +kernel
theorem dX12_init_188 : decode cX12_init 188 = .ok (.getfield 9, 3) := by decide +kernel
theorem dX12_init_191 : decode cX12_init 191 = .ok (.bipush 10, 2) := by decide +kernel
theorem dX12_init_193 : decode cX12_init 193 = .ok (.bipush 8, 2) := by decide +kernel
theorem dX12_init_195 : decode cX12_init 195 = .ok (.iastore, 1) := by decide +kernel
theorem dX12_init_196 : decode cX12_init 196 = .ok (.aload_n 0, 1) := by decide +kernel
theorem dX12_init_197 : decode cX12_init 197 = .ok (.getfield 9, 3) := by decide +kernel
theorem dX12_init_200 : decode cX12_init 200 = .ok (.bipush 13, 2) := by decide +kernel
theorem dX12_init_202 : decode cX12_init 202 = .ok (.iconst 2, 1) := by decide +kernel
theorem dX12_init_203 : decode cX12_init 203 = .ok (.iastore, 1) := by decide +kernel
theorem dX12_init_204 : decode cX12_init 204 = .ok (.aload_n 0, 1) := by decide +kernel
theorem dX12_init_205 : decode cX12_init 205 = .ok (.getfield 9, 3) := by decide +kernel
theorem dX12_init_208 : decode cX12_init 208 = .ok (.bipush 14, 2) := by decide +kernel
theorem dX12_init_210 : decode cX12_init 210 = .ok (.bipush 30, 2) := by decide +kernel
theorem dX12_init_212 : decode cX12_init 212 = .ok (.iastore, 1) := by decide +kernel
theorem dX12_init_213 : decode cX12_init 213 = .ok (.iconst 2, 1) := by decide +kernel
theorem dX12_init_214 : decode cX12_init 214 = .ok (.istore_n 1, 1) := by decide +kernel
theorem dX12_init_215 : decode cX12_init 215 = .ok (.iload_n 1, 1) := by decide +kernel
theorem dX12_init_216 : decode cX12_init 216 = .ok (.bipush 8, 2) := by decide +kernel
theorem dX12_init_218 : decode cX12_init 218 = .ok (.if_icmp .ge 21, 3) := by decide +kernel
theorem dX12_init_221 : decode cX12_init 221 = .ok (.aload_n 0, 1) := by decide +kernel
theorem dX12_init_222 : decode cX12_init 222 = .ok (.getfield 9, 3) := by decide +kernel
theorem dX12_init_225 : decode cX12_init 225 = .ok (.bipush 17, 2) := by decide +kernel
theorem dX12_init_227 : decode cX12_init 227 = .ok (.iload_n 1, 1) := by decide +kernel
theorem dX12_init_228 : decode cX12_init 228 = .ok (.iadd, 1) := by decide +kernel
theorem dX12_init_229 : decode cX12_init 229 = .ok (.iload_n 1, 1) := by decide +kernel
theorem dX12_init_230 : decode cX12_init 230 = .ok (.iconst 1, 1) := by decide +kernel
theorem dX12_init_231 : decode cX12_init 231 = .ok (.isub, 1) := by decide +kernel
theorem dX12_init_232 : decode cX12_init 232 = .ok (.iastore, 1) := by decide +kernel
theorem dX12_init_233 : decode cX12_init 233 = .ok (.iinc 1 1, 3) := by decide +kernel
theorem dX12_init_236 : decode cX12_init 236 = .ok (.goto (-21), 3) := by decide +kernel
theorem dX12_init_239 : decode cX12_init 239 = .ok (.aload_n 0, 1) := by decide +kernel
theorem dX12_init_240 : decode cX12_init 240 = .ok (.invokevirtual 55, 3) := by decide +kernel
theorem dX12_init_243 : decode cX12_init 243 = .ok (.return_, 1) := by decide +kernel
theorem dX12_in_0 : decode cX12_in 0 = .ok (.lload_n 0, 1) := by decide +kernel
theorem dX12_in_1 : decode cX12_in 1 = .ok (.lload_n 2, 1) := by decide +kernel
theorem dX12_in_2 : decode cX12_in 2 = .ok (.lcmp, 1) := by decide +kernel
theorem dX12_in_3 : decode cX12_in 3 = .ok (.ifCond .lt 14, 3) := by decide +kernel
theorem dX12_in_6 : decode cX12_in 6 = .ok (.lload_n 0, 1) := by decide +kernel
theorem dX12_in_7 : decode cX12_in 7 = .ok (.lload 4, 2) := by decide +kernel
theorem dX12_in_9 : decode cX12_in 9 = .ok (.lcmp, 1) := by decide +kernel
theorem dX12_in_10 : decode cX12_in 10 = .ok (.ifCond .gt 7, 3) := by decide +kernel
theorem dX12_in_13 : decode cX12_in 13 = .ok (.iconst 1, 1) := by decide +kernel
theorem dX12_in_14 : decode cX12_in 14 = .ok (.goto 4, 3) := by decide +kernel
theorem dX12_in_17 : decode cX12_in 17 = .ok (.iconst 0, 1) := by decide +kernel
theorem dX12_in_18 : decode cX12_in 18 = .ok (.ireturn, 1) := by decide +kernel
theorem dX12_nearest_0 : decode cX12_nearest 0 = .ok (.lload_n 0, 1) := by decide +kernel
theorem dX12_nearest_1 : decode cX12_nearest 1 = .ok (.lload_n 2, 1) := by decide +kernel
theorem dX12_nearest_2 : decode cX12_nearest 2 = .ok (.lcmp, 1) := by decide +kernel
theorem dX12_nearest_3 : decode cX12_nearest 3 = .ok (.ifCond .ge 7, 3) := by decide +kernel
theorem dX12_nearest_6 : decode cX12_nearest 6 = .ok (.lload_n 2, 1) := by decide +kernel
theorem dX12_nearest_7 : decode cX12_nearest 7 = .ok (.goto 16, 3) := by decide +kernel
theorem dX12_nearest_10 : decode cX12_nearest 10 = .ok (.lload_n 0, 1) := by decide +kernel
theorem dX12_nearest_11 : decode cX12_nearest 11 = .ok (.lload 4, 2) := by decide +kernel
theorem dX12_nearest_13 : decode cX12_nearest 13 = .ok (.lcmp, 1) := by decide +kernel
theorem dX12_nearest_14 : decode cX12_nearest 14 = .ok (.ifCond .le 8, 3) := by decide +kernel
theorem dX12_nearest_17 : decode cX12_nearest 17 = .ok (.lload 4, 2) := by decide +kernel
theorem dX12_nearest_19 : decode cX12_nearest 19 = .ok (.goto 4, 3) := by decide +kernel
theorem dX12_nearest_22 : decode cX12_nearest 22 = .ok (.lload_n 0, 1) := by decide +kernel
theorem dX12_nearest_23 : decode cX12_nearest 23 = .ok (.l2i, 1) := by decide +kernel
theorem dX12_nearest_24 : decode cX12_nearest 24 = .ok (.ireturn, 1) := by decide +kernel
theorem dX12_size_0 : decode cX12_size 0 = .ok (.iload_n 0, 1) := by decide +kernel
theorem dX12_size_1 : decode cX12_size 1 = .ok (.ifCond .ge 8, 3) := by decide +kernel
theorem dX12_size_4 : decode cX12_size 4 = .ok (.iload_n 0, 1) := by decide +kernel
theorem dX12_size_5 : decode cX12_size 5 = .ok (.ineg, 1) := by decide +kernel
theorem dX12_size_6 : decode cX12_size 6 = .ok (.goto 4, 3) := by decide +kernel
theorem dX12_size_9 : decode cX12_size 9 = .ok (.iload_n 0, 1) := by decide +kernel
theorem dX12_size_10 : decode cX12_size 10 = .ok (.ireturn, 1) := by decide +kernel
theorem dX12_down_0 : decode cX12_down 0 = .ok (.lload_n 0, 1) := by decide +kernel
theorem dX12_down_1 : decode cX12_down 1 = .ok (.lload_n 2, 1) := by decide +kernel
theorem dX12_down_2 : decode cX12_down 2 = .ok (.ldiv, 1) := by decide +kernel
theorem dX12_down_3 : decode cX12_down 3 = .ok (.lstore 4, 2) := by decide +kernel
theorem dX12_down_5 : decode cX12_down 5 = .ok (.lload_n 0, 1) := by decide +kernel
theorem dX12_down_6 : decode cX12_down 6 = .ok (.lload_n 2, 1) := by decide +kernel
theorem dX12_down_7 : decode cX12_down 7 = .ok (.lrem, 1) := by decide +kernel
theorem dX12_down_8 : decode cX12_down 8 = .ok (.lconst 0, 1) := by decide +kernel
theorem dX12_down_9 : decode cX12_down 9 = .ok (.lcmp, 1) := by decide +kernel
theorem dX12_down_10 : decode cX12_down 10 = .ok (.ifCond .ge 10, 3) := by decide +kernel
theorem dX12_down_13 : decode cX12_down 13 = .ok (.lload 4, 2) := by decide +kernel
theorem dX12_down_15 : decode cX12_down 15 = .ok (.lconst 1, 1) := by decide +kernel
theorem dX12_down_16 : decode cX12_down 16 = .ok (.lsub, 1) := by decide +kernel
theorem dX12_down_17 : decode cX12_down 17 = .ok (.goto 5, 3) := by decide +kernel
theorem dX12_down_20 : decode cX12_down 20 = .ok (.lload 4, 2) := by decide +kernel
theorem dX12_down_22 : decode cX12_down 22 = .ok (.lreturn, 1) := by decide +kernel
theorem dX12_copy_0 : decode cX12_copy 0 = .ok (.iconst 0, 1) := by decide +kernel
theorem dX12_copy_1 : decode cX12_copy 1 = .ok (.istore 4, 2) := by decide +kernel
theorem dX12_copy_3 : decode cX12_copy 3 = .ok (.iload 4, 2) := by decide +kernel
theorem dX12_copy_5 : decode cX12_copy 5 = .ok (.sipush 13385, 3) := by decide +kernel
theorem dX12_copy_8 : decode cX12_copy 8 = .ok (.if_icmp .ge 21, 3) := by decide +kernel
theorem dX12_copy_11 : decode cX12_copy 11 = .ok (.aload_n 2, 1) := by decide +kernel
theorem dX12_copy_12 : decode cX12_copy 12 = .ok (.iload_n 3, 1) := by decide +kernel
theorem dX12_copy_13 : decode cX12_copy 13 = .ok (.iload 4, 2) := by decide +kernel
theorem dX12_copy_15 : decode cX12_copy 15 = .ok (.iadd, 1) := by decide +kernel
theorem dX12_copy_16 : decode cX12_copy 16 = .ok (.aload_n 0, 1) := by decide +kernel
theorem dX12_copy_17 : decode cX12_copy 17 = .ok (.iload_n 1, 1) := by decide +kernel
theorem dX12_copy_18 : decode cX12_copy 18 = .ok (.iload 4, 2) := by decide +kernel
theorem dX12_copy_20 : decode cX12_copy 20 = .ok (.iadd, 1) := by decide +kernel
theorem dX12_copy_21 : decode cX12_copy 21 = .ok (.iaload, 1) := by decide +kernel
theorem dX12_copy_22 : decode cX12_copy 22 = .ok (.iastore, 1) := by decide +kernel
theorem dX12_copy_23 : decode cX12_copy 23 = .ok (.iinc 4 1, 3) := by decide +kernel
theorem dX12_copy_26 : decode cX12_copy 26 = .ok (.goto (-23), 3) := by decide +kernel
theorem dX12_copy_29 : decode cX12_copy 29 = .ok (.return_, 1) := by decide +kernel
theorem dX12_begin_0 : decode cX12_begin 0 = .ok (.bipush 25, 2) := by decide +kernel
theorem dX12_begin_2 : decode cX12_begin 2 = .ok (.istore_n 1, 1) := by decide +kernel
theorem dX12_begin_3 : decode cX12_begin 3 = .ok (.iload_n 1, 1) := by decide +kernel
theorem dX12_begin_4 : decode cX12_begin 4 = .ok (.sipush 13385, 3) := by decide +kernel
theorem dX12_begin_7 : decode cX12_begin 7 = .ok (.if_icmp .ge 16, 3) := by decide +kernel
theorem dX12_begin_10 : decode cX12_begin 10 = .ok (.aload_n 0, 1) := by decide +kernel
theorem dX12_begin_11 : decode cX12_begin 11 = .ok (.getfield 9, 3) := by decide +kernel
theorem dX12_begin_14 : decode cX12_begin 14 = .ok (.iload_n 1, 1) := by decide +kernel
theorem dX12_begin_15 : decode cX12_begin 15 = .ok (.iconst 0, 1) := by decide +kernel
theorem dX12_begin_16 : decode cX12_begin 16 = .ok (.iastore, 1) := by decide +kernel
theorem dX12_begin_17 : decode cX12_begin 17 = .ok (.iinc 1 1, 3) := by decide +kernel
theorem dX12_begin_20 : decode cX12_begin 20 = .ok (.goto (-17), 3) := by decide +kernel
theorem dX12_begin_23 : decode cX12_begin 23 = .ok (.aload_n 0, 1) := by decide +kernel
theorem dX12_begin_24 : decode cX12_begin 24 = .ok (.getfield 9, 3) := by decide +kernel
theorem dX12_begin_27 : decode cX12_begin 27 = .ok (.bipush 49, 2) := by decide +kernel
theorem dX12_begin_29 : decode cX12_begin 29 = .ok (.aload_n 0, 1) := by decide +kernel
theorem dX12_begin_30 : decode cX12_begin 30 = .ok (.getfield 9, 3) := by decide +kernel
theorem dX12_begin_33 : decode cX12_begin 33 = .ok (.bipush 6, 2) := by decide +kernel
theorem dX12_begin_35 : decode cX12_begin 35 = .ok (.iaload, 1) := by decide +kernel
theorem dX12_begin_36 : decode cX12_begin 36 = .ok (.iastore, 1) := by decide +kernel
theorem dX12_begin_37 : decode cX12_begin 37 = .ok (.aload_n 0, 1) := by decide +kernel
theorem dX12_begin_38 : decode cX12_begin 38 = .ok (.getfield 9, 3) := by decide +kernel
theorem dX12_begin_41 : decode cX12_begin 41 = .ok (.bipush 43, 2) := by decide +kernel
theorem dX12_begin_43 : decode cX12_begin 43 = .ok (.aload_n 0, 1) := by decide +kernel
theorem dX12_begin_44 : decode cX12_begin 44 = .ok (.getfield 9, 3) := by decide +kernel
theorem dX12_begin_47 : decode cX12_begin 47 = .ok (.bipush 7, 2) := by decide +kernel
theorem dX12_begin_49 : decode cX12_begin 49 = .ok (.iaload, 1) := by decide +kernel
theorem dX12_begin_50 : decode cX12_begin 50 = .ok (.iastore, 1) := by decide +kernel
theorem dX12_begin_51 : decode cX12_begin 51 = .ok (.return_, 1) := by decide +kernel
theorem dX12_draw_0 : decode cX12_draw 0 = .ok (.aload_n 0, 1) := by decide +kernel
theorem dX12_draw_1 : decode cX12_draw 1 = .ok (.getfield 9, 3) := by decide +kernel
theorem dX12_draw_4 : decode cX12_draw 4 = .ok (.bipush 49, 2) := by decide +kernel
theorem dX12_draw_6 : decode cX12_draw 6 = .ok (.aload_n 0, 1) := by decide +kernel
theorem dX12_draw_7 : decode cX12_draw 7 = .ok (.getfield 9, 3) := by decide +kernel
theorem dX12_draw_10 : decode cX12_draw 10 = .ok (.bipush 49, 2) := by decide +kernel
theorem dX12_draw_12 : decode cX12_draw 12 = .ok (.iaload, 1) := by decide +kernel
theorem dX12_draw_13 : decode cX12_draw 13 = .ok (.i2l, 1) := by decide +kernel
theorem dX12_draw_14 : decode cX12_draw 14 = .ok (.ldc2_w 62, 3) := by decide +kernel
theorem dX12_draw_17 : decode cX12_draw 17 = .ok (.lmul, 1) := by decide +kernel
theorem dX12_draw_18 : decode cX12_draw 18 = .ok (.ldc2_w 64, 3) := by decide +kernel
theorem dX12_draw_21 : decode cX12_draw 21 = .ok (.ladd, 1) := by decide +kernel
theorem dX12_draw_22 : decode cX12_draw 22 = .ok (.ldc2_w 66, 3) := by decide +kernel
theorem dX12_draw_25 : decode cX12_draw 25 = .ok (.lrem, 1) := by decide +kernel
theorem dX12_draw_26 : decode cX12_draw 26 = .ok (.l2i, 1) := by decide +kernel
theorem dX12_draw_27 : decode cX12_draw 27 = .ok (.iastore, 1) := by decide +kernel
theorem dX12_draw_28 : decode cX12_draw 28 = .ok (.aload_n 0, 1) := by decide +kernel
theorem dX12_draw_29 : decode cX12_draw 29 = .ok (.getfield 9, 3) := by decide +kernel
theorem dX12_draw_32 : decode cX12_draw 32 = .ok (.bipush 49, 2) := by decide +kernel
theorem dX12_draw_34 : decode cX12_draw 34 = .ok (.iaload, 1) := by decide +kernel
theorem dX12_draw_35 : decode cX12_draw 35 = .ok (.bipush 16, 2) := by decide +kernel
theorem dX12_draw_37 : decode cX12_draw 37 = .ok (.idiv, 1) := by decide +kernel
theorem dX12_draw_38 : decode cX12_draw 38 = .ok (.ireturn, 1) := by decide +kernel
theorem dX12_keep_0 : decode cX12_keep 0 = .ok (.aload_n 0, 1) := by decide +kernel
theorem dX12_keep_1 : decode cX12_keep 1 = .ok (.iconst 0, 1) := by decide +kernel
theorem dX12_keep_2 : decode cX12_keep 2 = .ok (.putfield 58, 3) := by decide +kernel
theorem dX12_keep_5 : decode cX12_keep 5 = .ok (.iload_n 1, 1) := by decide +kernel
theorem dX12_keep_6 : decode cX12_keep 6 = .ok (.i2l, 1) := by decide +kernel
theorem dX12_keep_7 : decode cX12_keep 7 = .ok (.lconst 0, 1) := by decide +kernel
theorem dX12_keep_8 : decode cX12_keep 8 = .ok (.lconst 1, 1) := by decide +kernel
theorem dX12_keep_9 : decode cX12_keep 9 = .ok (.invokestatic 68, 3) := by decide +kernel
theorem dX12_keep_12 : decode cX12_keep 12 = .ok (.ifCond .ne 5, 3) := by decide +kernel
theorem dX12_keep_15 : decode cX12_keep 15 = .ok (.iconst 0, 1) := by decide +kernel
theorem dX12_keep_16 : decode cX12_keep 16 = .ok (.ireturn, 1) := by decide +kernel
theorem dX12_keep_17 : decode cX12_keep 17 = .ok (.aload_n 0, 1) := by decide +kernel
theorem dX12_keep_18 : decode cX12_keep 18 = .ok (.getfield 9, 3) := by decide +kernel
theorem dX12_keep_21 : decode cX12_keep 21 = .ok (.iconst 0, 1) := by decide +kernel
theorem dX12_keep_22 : decode cX12_keep 22 = .ok (.aload_n 0, 1) := by decide +kernel
theorem dX12_keep_23 : decode cX12_keep 23 = .ok (.getfield 15, 3) := by decide +kernel
theorem dX12_keep_26 : decode cX12_keep 26 = .ok (.sipush 13385, 3) := by decide +kernel
theorem dX12_keep_29 : decode cX12_keep 29 = .ok (.iload_n 1, 1) := by decide +kernel
theorem dX12_keep_30 : decode cX12_keep 30 = .ok (.imul, 1) := by decide +kernel
theorem dX12_keep_31 : decode cX12_keep 31 = .ok (.invokestatic 72, 3) := by decide +kernel
theorem dX12_keep_34 : decode cX12_keep 34 = .ok (.aload_n 0, 1) := by decide +kernel
theorem dX12_keep_35 : decode cX12_keep 35 = .ok (.getfield 18, 3) := by decide +kernel
theorem dX12_keep_38 : decode cX12_keep 38 = .ok (.iload_n 1, 1) := by decide +kernel
theorem dX12_keep_39 : decode cX12_keep 39 = .ok (.iconst 1, 1) := by decide +kernel
theorem dX12_keep_40 : decode cX12_keep 40 = .ok (.bastore, 1) := by decide +kernel
theorem dX12_keep_41 : decode cX12_keep 41 = .ok (.iconst 1, 1) := by decide +kernel
theorem dX12_keep_42 : decode cX12_keep 42 = .ok (.ireturn, 1) := by decide +kernel
theorem dX12_again_0 : decode cX12_again 0 = .ok (.aload_n 0, 1) := by decide +kernel
theorem dX12_again_1 : decode cX12_again 1 = .ok (.iconst 0, 1) := by decide +kernel
theorem dX12_again_2 : decode cX12_again 2 = .ok (.putfield 58, 3) := by decide +kernel
theorem dX12_again_5 : decode cX12_again 5 = .ok (.iload_n 1, 1) := by decide +kernel
theorem dX12_again_6 : decode cX12_again 6 = .ok (.i2l, 1) := by decide +kernel
theorem dX12_again_7 : decode cX12_again 7 = .ok (.lconst 0, 1) := by decide +kernel
theorem dX12_again_8 : decode cX12_again 8 = .ok (.lconst 1, 1) := by decide +kernel
theorem dX12_again_9 : decode cX12_again 9 = .ok (.invokestatic 68, 3) := by decide +kernel
theorem dX12_again_12 : decode cX12_again 12 = .ok (.ifCond .eq 12, 3) := by decide +kernel
theorem dX12_again_15 : decode cX12_again 15 = .ok (.aload_n 0, 1) := by decide +kernel
theorem dX12_again_16 : decode cX12_again 16 = .ok (.getfield 18, 3) := by decide +kernel
theorem dX12_again_19 : decode cX12_again 19 = .ok (.iload_n 1, 1) := by decide +kernel
theorem dX12_again_20 : decode cX12_again 20 = .ok (.baload, 1) := by decide +kernel
theorem dX12_again_21 : decode cX12_again 21 = .ok (.ifCond .ne 5, 3) := by decide +kernel
theorem dX12_again_24 : decode cX12_again 24 = .ok (.iconst 0, 1) := by decide +kernel
theorem dX12_again_25 : decode cX12_again 25 = .ok (.ireturn, 1) := by decide +kernel
theorem dX12_again_26 : decode cX12_again 26 = .ok (.aload_n 0, 1) := by decide +kernel
theorem dX12_again_27 : decode cX12_again 27 = .ok (.getfield 15, 3) := by decide +kernel
theorem dX12_again_30 : decode cX12_again 30 = .ok (.sipush 13385, 3) := by decide +kernel
theorem dX12_again_33 : decode cX12_again 33 = .ok (.iload_n 1, 1) := by decide +kernel
theorem dX12_again_34 : decode cX12_again 34 = .ok (.imul, 1) := by decide +kernel
theorem dX12_again_35 : decode cX12_again 35 = .ok (.aload_n 0, 1) := by decide +kernel
theorem dX12_again_36 : decode cX12_again 36 = .ok (.getfield 9, 3) := by decide +kernel
theorem dX12_again_39 : decode cX12_again 39 = .ok (.iconst 0, 1) := by decide +kernel
theorem dX12_again_40 : decode cX12_again 40 = .ok (.invokestatic 72, 3) := by decide +kernel
theorem dX12_again_43 : decode cX12_again 43 = .ok (.iconst 1, 1) := by decide +kernel
theorem dX12_again_44 : decode cX12_again 44 = .ok (.ireturn, 1) := by decide +kernel
theorem dX12_tone_0 : decode cX12_tone 0 = .ok (.aload_n 0, 1) := by decide +kernel
theorem dX12_tone_1 : decode cX12_tone 1 = .ok (.iconst 0, 1) := by decide +kernel
theorem dX12_tone_2 : decode cX12_tone 2 = .ok (.putfield 58, 3) := by decide +kernel
theorem dX12_tone_5 : decode cX12_tone 5 = .ok (.iload_n 1, 1) := by decide +kernel
theorem dX12_tone_6 : decode cX12_tone 6 = .ok (.i2l, 1) := by decide +kernel
theorem dX12_tone_7 : decode cX12_tone 7 = .ok (.lconst 0, 1) := by decide +kernel
theorem dX12_tone_8 : decode cX12_tone 8 = .ok (.lconst 1, 1) := by decide +kernel
theorem dX12_tone_9 : decode cX12_tone 9 = .ok (.invokestatic 68, 3) := by decide +kernel
theorem dX12_tone_12 : decode cX12_tone 12 = .ok (.ifCond .eq 42, 3) := by decide +kernel
theorem dX12_tone_15 : decode cX12_tone 15 = .ok (.iload_n 2, 1) := by decide +kernel
theorem dX12_tone_16 : decode cX12_tone 16 = .ok (.i2l, 1) := by decide +kernel
theorem dX12_tone_17 : decode cX12_tone 17 = .ok (.ldc2_w 76, 3) := by decide +kernel
theorem dX12_tone_20 : decode cX12_tone 20 = .ok (.ldc2_w 78, 3) := by decide +kernel
theorem dX12_tone_23 : decode cX12_tone 23 = .ok (.invokestatic 68, 3) := by decide +kernel
theorem dX12_tone_26 : decode cX12_tone 26 = .ok (.ifCond .eq 28, 3) := by decide +kernel
theorem dX12_tone_29 : decode cX12_tone 29 = .ok (.iload_n 3, 1) := by decide +kernel
theorem dX12_tone_30 : decode cX12_tone 30 = .ok (.i2l, 1) := by decide +kernel
theorem dX12_tone_31 : decode cX12_tone 31 = .ok (.lconst 0, 1) := by decide +kernel
theorem dX12_tone_32 : decode cX12_tone 32 = .ok (.ldc2_w 80, 3) := by decide +kernel
theorem dX12_tone_35 : decode cX12_tone 35 = .ok (.invokestatic 68, 3) := by decide +kernel
theorem dX12_tone_38 : decode cX12_tone 38 = .ok (.ifCond .eq 16, 3) := by decide +kernel
theorem dX12_tone_41 : decode cX12_tone 41 = .ok (.iload 4, 2) := by decide +kernel
theorem dX12_tone_43 : decode cX12_tone 43 = .ok (.i2l, 1) := by decide +kernel
theorem dX12_tone_44 : decode cX12_tone 44 = .ok (.lconst 0, 1) := by decide +kernel
theorem dX12_tone_45 : decode cX12_tone 45 = .ok (.ldc2_w 82, 3) := by decide +kernel
theorem dX12_tone_48 : decode cX12_tone 48 = .ok (.invokestatic 68, 3) := by decide +kernel
theorem dX12_tone_51 : decode cX12_tone 51 = .ok (.ifCond .ne 5, 3) := by decide +kernel
theorem dX12_tone_54 : decode cX12_tone 54 = .ok (.iconst 0, 1) := by decide +kernel
theorem dX12_tone_55 : decode cX12_tone 55 = .ok (.ireturn, 1) := by decide +kernel
theorem dX12_tone_56 : decode cX12_tone 56 = .ok (.aload_n 0, 1) := by decide +kernel
theorem dX12_tone_57 : decode cX12_tone 57 = .ok (.getfield 9, 3) := by decide +kernel
theorem dX12_tone_60 : decode cX12_tone 60 = .ok (.iconst 0, 1) := by decide +kernel
theorem dX12_tone_61 : decode cX12_tone 61 = .ok (.iload_n 1, 1) := by decide +kernel
theorem dX12_tone_62 : decode cX12_tone 62 = .ok (.iadd, 1) := by decide +kernel
theorem dX12_tone_63 : decode cX12_tone 63 = .ok (.iload_n 2, 1) := by decide +kernel
theorem dX12_tone_64 : decode cX12_tone 64 = .ok (.iastore, 1) := by decide +kernel
theorem dX12_tone_65 : decode cX12_tone 65 = .ok (.aload_n 0, 1) := by decide +kernel
theorem dX12_tone_66 : decode cX12_tone 66 = .ok (.getfield 9, 3) := by decide +kernel
theorem dX12_tone_69 : decode cX12_tone 69 = .ok (.iconst 2, 1) := by decide +kernel
theorem dX12_tone_70 : decode cX12_tone 70 = .ok (.iload_n 1, 1) := by decide +kernel
theorem dX12_tone_71 : decode cX12_tone 71 = .ok (.iadd, 1) := by decide +kernel
theorem dX12_tone_72 : decode cX12_tone 72 = .ok (.iload_n 3, 1) := by decide +kernel
theorem dX12_tone_73 : decode cX12_tone 73 = .ok (.iastore, 1) := by decide +kernel
theorem dX12_tone_74 : decode cX12_tone 74 = .ok (.aload_n 0, 1) := by decide +kernel
theorem dX12_tone_75 : decode cX12_tone 75 = .ok (.getfield 9, 3) := by decide +kernel
theorem dX12_tone_78 : decode cX12_tone 78 = .ok (.iconst 4, 1) := by decide +kernel
theorem dX12_tone_79 : decode cX12_tone 79 = .ok (.iload_n 1, 1) := by decide +kernel
theorem dX12_tone_80 : decode cX12_tone 80 = .ok (.iadd, 1) := by decide +kernel
theorem dX12_tone_81 : decode cX12_tone 81 = .ok (.iload 4, 2) := by decide +kernel
theorem dX12_tone_83 : decode cX12_tone 83 = .ok (.iastore, 1) := by decide +kernel
theorem dX12_tone_84 : decode cX12_tone 84 = .ok (.iconst 1, 1) := by decide +kernel
theorem dX12_tone_85 : decode cX12_tone 85 = .ok (.ireturn, 1) := by decide +kernel
theorem dX12_isSet_0 : decode cX12_isSet 0 = .ok (.iload_n 0, 1) := by decide +kernel
theorem dX12_isSet_1 : decode cX12_isSet 1 = .ok (.tableswitch 153 0 10 #[59, 69, 81, 81, 89, 99, 109, 121, 131, 81, 143], 59) := by decide +kernel
theorem dX12_isSet_60 : decode cX12_isSet 60 = .ok (.iload_n 1, 1) := by decide +kernel
theorem dX12_isSet_61 : decode cX12_isSet 61 = .ok (.i2l, 1) := by decide +kernel
theorem dX12_isSet_62 : decode cX12_isSet 62 = .ok (.lconst 0, 1) := by decide +kernel
theorem dX12_isSet_63 : decode cX12_isSet 63 = .ok (.ldc2_w 84, 3) := by decide +kernel
theorem dX12_isSet_66 : decode cX12_isSet 66 = .ok (.invokestatic 68, 3) := by decide +kernel
theorem dX12_isSet_69 : decode cX12_isSet 69 = .ok (.ireturn, 1) := by decide +kernel
theorem dX12_isSet_70 : decode cX12_isSet 70 = .ok (.iload_n 1, 1) := by decide +kernel
theorem dX12_isSet_71 : decode cX12_isSet 71 = .ok (.i2l, 1) := by decide +kernel
theorem dX12_isSet_72 : decode cX12_isSet 72 = .ok (.ldc2_w 76, 3) := by decide +kernel
theorem dX12_isSet_75 : decode cX12_isSet 75 = .ok (.ldc2_w 86, 3) := by decide +kernel
theorem dX12_isSet_78 : decode cX12_isSet 78 = .ok (.invokestatic 68, 3) := by decide +kernel
theorem dX12_isSet_81 : decode cX12_isSet 81 = .ok (.ireturn, 1) := by decide +kernel
theorem dX12_isSet_82 : decode cX12_isSet 82 = .ok (.iload_n 1, 1) := by decide +kernel
theorem dX12_isSet_83 : decode cX12_isSet 83 = .ok (.i2l, 1) := by decide +kernel
theorem dX12_isSet_84 : decode cX12_isSet 84 = .ok (.lconst 0, 1) := by decide +kernel
theorem dX12_isSet_85 : decode cX12_isSet 85 = .ok (.lconst 1, 1) := by decide +kernel
theorem dX12_isSet_86 : decode cX12_isSet 86 = .ok (.invokestatic 68, 3) := by decide +kernel
theorem dX12_isSet_89 : decode cX12_isSet 89 = .ok (.ireturn, 1) := by decide +kernel
theorem dX12_isSet_90 : decode cX12_isSet 90 = .ok (.iload_n 1, 1) := by decide +kernel
theorem dX12_isSet_91 : decode cX12_isSet 91 = .ok (.i2l, 1) := by decide +kernel
theorem dX12_isSet_92 : decode cX12_isSet 92 = .ok (.lconst 1, 1) := by decide +kernel
theorem dX12_isSet_93 : decode cX12_isSet 93 = .ok (.ldc2_w 88, 3) := by decide +kernel
theorem dX12_isSet_96 : decode cX12_isSet 96 = .ok (.invokestatic 68, 3) := by decide +kernel
theorem dX12_isSet_99 : decode cX12_isSet 99 = .ok (.ireturn, 1) := by decide +kernel
theorem dX12_isSet_100 : decode cX12_isSet 100 = .ok (.iload_n 1, 1) := by decide +kernel
theorem dX12_isSet_101 : decode cX12_isSet 101 = .ok (.i2l, 1) := by decide +kernel
theorem dX12_isSet_102 : decode cX12_isSet 102 = .ok (.lconst 0, 1) := by decide +kernel
theorem dX12_isSet_103 : decode cX12_isSet 103 = .ok (.ldc2_w 90, 3) := by decide +kernel
theorem dX12_isSet_106 : decode cX12_isSet 106 = .ok (.invokestatic 68, 3) := by decide +kernel
theorem dX12_isSet_109 : decode cX12_isSet 109 = .ok (.ireturn, 1) := by decide +kernel
theorem dX12_isSet_110 : decode cX12_isSet 110 = .ok (.iload_n 1, 1) := by decide +kernel
theorem dX12_isSet_111 : decode cX12_isSet 111 = .ok (.i2l, 1) := by decide +kernel
theorem dX12_isSet_112 : decode cX12_isSet 112 = .ok (.ldc2_w 92, 3) := by decide +kernel
theorem dX12_isSet_115 : decode cX12_isSet 115 = .ok (.ldc2_w 94, 3) := by decide +kernel
theorem dX12_isSet_118 : decode cX12_isSet 118 = .ok (.invokestatic 68, 3) := by decide +kernel
theorem dX12_isSet_121 : decode cX12_isSet 121 = .ok (.ireturn, 1) := by decide +kernel
theorem dX12_isSet_122 : decode cX12_isSet 122 = .ok (.iload_n 1, 1) := by decide +kernel
theorem dX12_isSet_123 : decode cX12_isSet 123 = .ok (.i2l, 1) := by decide +kernel
theorem dX12_isSet_124 : decode cX12_isSet 124 = .ok (.lconst 1, 1) := by decide +kernel
theorem dX12_isSet_125 : decode cX12_isSet 125 = .ok (.ldc2_w 96, 3) := by decide +kernel
theorem dX12_isSet_128 : decode cX12_isSet 128 = .ok (.invokestatic 68, 3) := by decide +kernel
theorem dX12_isSet_131 : decode cX12_isSet 131 = .ok (.ireturn, 1) := by decide +kernel
theorem dX12_isSet_132 : decode cX12_isSet 132 = .ok (.iload_n 1, 1) := by decide +kernel
theorem dX12_isSet_133 : decode cX12_isSet 133 = .ok (.i2l, 1) := by decide +kernel
theorem dX12_isSet_134 : decode cX12_isSet 134 = .ok (.ldc2_w 98, 3) := by decide +kernel
theorem dX12_isSet_137 : decode cX12_isSet 137 = .ok (.ldc2_w 100, 3) := by decide +kernel
theorem dX12_isSet_140 : decode cX12_isSet 140 = .ok (.invokestatic 68, 3) := by decide +kernel
theorem dX12_isSet_143 : decode cX12_isSet 143 = .ok (.ireturn, 1) := by decide +kernel
theorem dX12_isSet_144 : decode cX12_isSet 144 = .ok (.iload_n 1, 1) := by decide +kernel
theorem dX12_isSet_145 : decode cX12_isSet 145 = .ok (.i2l, 1) := by decide +kernel
theorem dX12_isSet_146 : decode cX12_isSet 146 = .ok (.lconst 0, 1) := by decide +kernel
theorem dX12_isSet_147 : decode cX12_isSet 147 = .ok (.ldc2_w 102, 3) := by decide +kernel
theorem dX12_isSet_150 : decode cX12_isSet 150 = .ok (.invokestatic 68, 3) := by decide +kernel
theorem dX12_isSet_153 : decode cX12_isSet 153 = .ok (.ireturn, 1) := by decide +kernel
theorem dX12_isSet_154 : decode cX12_isSet 154 = .ok (.iconst 0, 1) := by decide +kernel
theorem dX12_isSet_155 : decode cX12_isSet 155 = .ok (.ireturn, 1) := by decide +kernel
theorem dX12_sets_0 : decode cX12_sets 0 = .ok (.aload_n 0, 1) := by decide +kernel
theorem dX12_sets_1 : decode cX12_sets 1 = .ok (.iconst 0, 1) := by decide +kernel
theorem dX12_sets_2 : decode cX12_sets 2 = .ok (.putfield 58, 3) := by decide +kernel
theorem dX12_sets_5 : decode cX12_sets 5 = .ok (.iload_n 1, 1) := by decide +kernel
theorem dX12_sets_6 : decode cX12_sets 6 = .ok (.iload_n 2, 1) := by decide +kernel
theorem dX12_sets_7 : decode cX12_sets 7 = .ok (.invokestatic 104, 3) := by decide +kernel
theorem dX12_sets_10 : decode cX12_sets 10 = .ok (.ifCond .ne 5, 3) := by decide +kernel
theorem dX12_sets_13 : decode cX12_sets 13 = .ok (.iconst 0, 1) := by decide +kernel
theorem dX12_sets_14 : decode cX12_sets 14 = .ok (.ireturn, 1) := by decide +kernel
theorem dX12_sets_15 : decode cX12_sets 15 = .ok (.aload_n 0, 1) := by decide +kernel
theorem dX12_sets_16 : decode cX12_sets 16 = .ok (.getfield 9, 3) := by decide +kernel
theorem dX12_sets_19 : decode cX12_sets 19 = .ok (.bipush 6, 2) := by decide +kernel
theorem dX12_sets_21 : decode cX12_sets 21 = .ok (.iload_n 1, 1) := by decide +kernel
theorem dX12_sets_22 : decode cX12_sets 22 = .ok (.iadd, 1) := by decide +kernel
theorem dX12_sets_23 : decode cX12_sets 23 = .ok (.iload_n 2, 1) := by decide +kernel
theorem dX12_sets_24 : decode cX12_sets 24 = .ok (.iastore, 1) := by decide +kernel
theorem dX12_sets_25 : decode cX12_sets 25 = .ok (.iload_n 1, 1) := by decide +kernel
theorem dX12_sets_26 : decode cX12_sets 26 = .ok (.ifCond .ne 11, 3) := by decide +kernel
theorem dX12_sets_29 : decode cX12_sets 29 = .ok (.aload_n 0, 1) := by decide +kernel
theorem dX12_sets_30 : decode cX12_sets 30 = .ok (.getfield 9, 3) := by decide +kernel
theorem dX12_sets_33 : decode cX12_sets 33 = .ok (.bipush 49, 2) := by decide +kernel
theorem dX12_sets_35 : decode cX12_sets 35 = .ok (.iload_n 2, 1) := by decide +kernel
theorem dX12_sets_36 : decode cX12_sets 36 = .ok (.iastore, 1) := by decide +kernel
theorem dX12_sets_37 : decode cX12_sets 37 = .ok (.iload_n 1, 1) := by decide +kernel
theorem dX12_sets_38 : decode cX12_sets 38 = .ok (.iconst 1, 1) := by decide +kernel
theorem dX12_sets_39 : decode cX12_sets 39 = .ok (.if_icmp .eq 13, 3) := by decide +kernel
theorem dX12_sets_42 : decode cX12_sets 42 = .ok (.iload_n 1, 1) := by decide +kernel
theorem dX12_sets_43 : decode cX12_sets 43 = .ok (.bipush 9, 2) := by decide +kernel
theorem dX12_sets_45 : decode cX12_sets 45 = .ok (.if_icmp .ne 21, 3) := by decide +kernel
theorem dX12_sets_48 : decode cX12_sets 48 = .ok (.iload_n 2, 1) := by decide +kernel
theorem dX12_sets_49 : decode cX12_sets 49 = .ok (.ifCond .ne 17, 3) := by decide +kernel
theorem dX12_sets_52 : decode cX12_sets 52 = .ok (.aload_n 0, 1) := by decide +kernel
theorem dX12_sets_53 : decode cX12_sets 53 = .ok (.getfield 9, 3) := by decide +kernel
theorem dX12_sets_56 : decode cX12_sets 56 = .ok (.bipush 43, 2) := by decide +kernel
theorem dX12_sets_58 : decode cX12_sets 58 = .ok (.aload_n 0, 1) := by decide +kernel
theorem dX12_sets_59 : decode cX12_sets 59 = .ok (.getfield 9, 3) := by decide +kernel
theorem dX12_sets_62 : decode cX12_sets 62 = .ok (.bipush 7, 2) := by decide +kernel
theorem dX12_sets_64 : decode cX12_sets 64 = .ok (.iaload, 1) := by decide +kernel
theorem dX12_sets_65 : decode cX12_sets 65 = .ok (.iastore, 1) := by decide +kernel
theorem dX12_sets_66 : decode cX12_sets 66 = .ok (.iconst 1, 1) := by decide +kernel
theorem dX12_sets_67 : decode cX12_sets 67 = .ok (.ireturn, 1) := by decide +kernel
theorem dX12_loud_0 : decode cX12_loud 0 = .ok (.aload_n 0, 1) := by decide +kernel
theorem dX12_loud_1 : decode cX12_loud 1 = .ok (.iconst 0, 1) := by decide +kernel
theorem dX12_loud_2 : decode cX12_loud 2 = .ok (.putfield 58, 3) := by decide +kernel
theorem dX12_loud_5 : decode cX12_loud 5 = .ok (.iload_n 1, 1) := by decide +kernel
theorem dX12_loud_6 : decode cX12_loud 6 = .ok (.i2l, 1) := by decide +kernel
theorem dX12_loud_7 : decode cX12_loud 7 = .ok (.lconst 0, 1) := by decide +kernel
theorem dX12_loud_8 : decode cX12_loud 8 = .ok (.ldc2_w 108, 3) := by decide +kernel
theorem dX12_loud_11 : decode cX12_loud 11 = .ok (.invokestatic 68, 3) := by decide +kernel
theorem dX12_loud_14 : decode cX12_loud 14 = .ok (.ifCond .eq 17, 3) := by decide +kernel
theorem dX12_loud_17 : decode cX12_loud 17 = .ok (.iload_n 2, 1) := by decide +kernel
theorem dX12_loud_18 : decode cX12_loud 18 = .ok (.i2l, 1) := by decide +kernel
theorem dX12_loud_19 : decode cX12_loud 19 = .ok (.ldc2_w 110, 3) := by decide +kernel
theorem dX12_loud_22 : decode cX12_loud 22 = .ok (.ldc2_w 112, 3) := by decide +kernel
theorem dX12_loud_25 : decode cX12_loud 25 = .ok (.invokestatic 68, 3) := by decide +kernel
theorem dX12_loud_28 : decode cX12_loud 28 = .ok (.ifCond .ne 5, 3) := by decide +kernel
theorem dX12_loud_31 : decode cX12_loud 31 = .ok (.iconst 0, 1) := by decide +kernel
theorem dX12_loud_32 : decode cX12_loud 32 = .ok (.ireturn, 1) := by decide +kernel
theorem dX12_loud_33 : decode cX12_loud 33 = .ok (.aload_n 0, 1) := by decide +kernel
theorem dX12_loud_34 : decode cX12_loud 34 = .ok (.getfield 9, 3) := by decide +kernel
theorem dX12_loud_37 : decode cX12_loud 37 = .ok (.bipush 17, 2) := by decide +kernel
theorem dX12_loud_39 : decode cX12_loud 39 = .ok (.iload_n 1, 1) := by decide +kernel
theorem dX12_loud_40 : decode cX12_loud 40 = .ok (.iadd, 1) := by decide +kernel
theorem dX12_loud_41 : decode cX12_loud 41 = .ok (.iload_n 2, 1) := by decide +kernel
theorem dX12_loud_42 : decode cX12_loud 42 = .ok (.iastore, 1) := by decide +kernel
theorem dX12_loud_43 : decode cX12_loud 43 = .ok (.iconst 1, 1) := by decide +kernel
theorem dX12_loud_44 : decode cX12_loud 44 = .ok (.ireturn, 1) := by decide +kernel
theorem dX12_burst_0 : decode cX12_burst 0 = .ok (.aload_n 0, 1) := by decide +kernel
theorem dX12_burst_1 : decode cX12_burst 1 = .ok (.iconst 0, 1) := by decide +kernel
theorem dX12_burst_2 : decode cX12_burst 2 = .ok (.putfield 58, 3) := by decide +kernel
theorem dX12_burst_5 : decode cX12_burst 5 = .ok (.iload_n 1, 1) := by decide +kernel
theorem dX12_burst_6 : decode cX12_burst 6 = .ok (.i2l, 1) := by decide +kernel
theorem dX12_burst_7 : decode cX12_burst 7 = .ok (.lconst 0, 1) := by decide +kernel
theorem dX12_burst_8 : decode cX12_burst 8 = .ok (.ldc2_w 114, 3) := by decide +kernel
theorem dX12_burst_11 : decode cX12_burst 11 = .ok (.invokestatic 68, 3) := by decide +kernel
theorem dX12_burst_14 : decode cX12_burst 14 = .ok (.ifCond .ne 5, 3) := by decide +kernel
theorem dX12_burst_17 : decode cX12_burst 17 = .ok (.iconst (-1), 1) := by decide +kernel
theorem dX12_burst_18 : decode cX12_burst 18 = .ok (.ireturn, 1) := by decide +kernel
theorem dX12_burst_19 : decode cX12_burst 19 = .ok (.aload_n 0, 1) := by decide +kernel
theorem dX12_burst_20 : decode cX12_burst 20 = .ok (.getfield 9, 3) := by decide +kernel
theorem dX12_burst_23 : decode cX12_burst 23 = .ok (.bipush 48, 2) := by decide +kernel
theorem dX12_burst_25 : decode cX12_burst 25 = .ok (.iaload, 1) := by decide +kernel
theorem dX12_burst_26 : decode cX12_burst 26 = .ok (.istore_n 2, 1) := by decide +kernel
theorem dX12_burst_27 : decode cX12_burst 27 = .ok (.aload_n 0, 1) := by decide +kernel
theorem dX12_burst_28 : decode cX12_burst 28 = .ok (.getfield 9, 3) := by decide +kernel
theorem dX12_burst_31 : decode cX12_burst 31 = .ok (.bipush 48, 2) := by decide +kernel
theorem dX12_burst_33 : decode cX12_burst 33 = .ok (.iload_n 1, 1) := by decide +kernel
theorem dX12_burst_34 : decode cX12_burst 34 = .ok (.iastore, 1) := by decide +kernel
theorem dX12_burst_35 : decode cX12_burst 35 = .ok (.iload_n 2, 1) := by decide +kernel
theorem dX12_burst_36 : decode cX12_burst 36 = .ok (.ireturn, 1) := by decide +kernel
theorem dX12_restart_0 : decode cX12_restart 0 = .ok (.aload_n 0, 1) := by decide +kernel
theorem dX12_restart_1 : decode cX12_restart 1 = .ok (.iconst 0, 1) := by decide +kernel
theorem dX12_restart_2 : decode cX12_restart 2 = .ok (.putfield 58, 3) := by decide +kernel
theorem dX12_restart_5 : decode cX12_restart 5 = .ok (.aload_n 0, 1) := by decide +kernel
theorem dX12_restart_6 : decode cX12_restart 6 = .ok (.getfield 9, 3) := by decide +kernel
theorem dX12_restart_9 : decode cX12_restart 9 = .ok (.bipush 25, 2) := by decide +kernel
theorem dX12_restart_11 : decode cX12_restart 11 = .ok (.iaload, 1) := by decide +kernel
theorem dX12_restart_12 : decode cX12_restart 12 = .ok (.istore_n 1, 1) := by decide +kernel
theorem dX12_restart_13 : decode cX12_restart 13 = .ok (.aload_n 0, 1) := by decide +kernel
theorem dX12_restart_14 : decode cX12_restart 14 = .ok (.invokevirtual 55, 3) := by decide +kernel
theorem dX12_restart_17 : decode cX12_restart 17 = .ok (.iload_n 1, 1) := by decide +kernel
theorem dX12_restart_18 : decode cX12_restart 18 = .ok (.ireturn, 1) := by decide +kernel
theorem dX12_sample_0 : decode cX12_sample 0 = .ok (.aload_n 0, 1) := by decide +kernel
theorem dX12_sample_1 : decode cX12_sample 1 = .ok (.getfield 9, 3) := by decide +kernel
theorem dX12_sample_4 : decode cX12_sample 4 = .ok (.iconst 0, 1) := by decide +kernel
theorem dX12_sample_5 : decode cX12_sample 5 = .ok (.iload_n 1, 1) := by decide +kernel
theorem dX12_sample_6 : decode cX12_sample 6 = .ok (.iadd, 1) := by decide +kernel
theorem dX12_sample_7 : decode cX12_sample 7 = .ok (.iaload, 1) := by decide +kernel
theorem dX12_sample_8 : decode cX12_sample 8 = .ok (.istore_n 3, 1) := by decide +kernel
theorem dX12_sample_9 : decode cX12_sample 9 = .ok (.aload_n 0, 1) := by decide +kernel
theorem dX12_sample_10 : decode cX12_sample 10 = .ok (.getfield 9, 3) := by decide +kernel
theorem dX12_sample_13 : decode cX12_sample 13 = .ok (.iconst 2, 1) := by decide +kernel
theorem dX12_sample_14 : decode cX12_sample 14 = .ok (.iload_n 1, 1) := by decide +kernel
theorem dX12_sample_15 : decode cX12_sample 15 = .ok (.iadd, 1) := by decide +kernel
theorem dX12_sample_16 : decode cX12_sample 16 = .ok (.iaload, 1) := by decide +kernel
theorem dX12_sample_17 : decode cX12_sample 17 = .ok (.istore 4, 2) := by decide +kernel
theorem dX12_sample_19 : decode cX12_sample 19 = .ok (.aload_n 0, 1) := by decide +kernel
theorem dX12_sample_20 : decode cX12_sample 20 = .ok (.getfield 9, 3) := by decide +kernel
theorem dX12_sample_23 : decode cX12_sample 23 = .ok (.iconst 4, 1) := by decide +kernel
theorem dX12_sample_24 : decode cX12_sample 24 = .ok (.iload_n 1, 1) := by decide +kernel
theorem dX12_sample_25 : decode cX12_sample 25 = .ok (.iadd, 1) := by decide +kernel
theorem dX12_sample_26 : decode cX12_sample 26 = .ok (.iaload, 1) := by decide +kernel
theorem dX12_sample_27 : decode cX12_sample 27 = .ok (.istore 5, 2) := by decide +kernel
theorem dX12_sample_29 : decode cX12_sample 29 = .ok (.iload_n 2, 1) := by decide +kernel
theorem dX12_sample_30 : decode cX12_sample 30 = .ok (.iload_n 3, 1) := by decide +kernel
theorem dX12_sample_31 : decode cX12_sample 31 = .ok (.irem, 1) := by decide +kernel
theorem dX12_sample_32 : decode cX12_sample 32 = .ok (.istore 6, 2) := by decide +kernel
theorem dX12_sample_34 : decode cX12_sample 34 = .ok (.iconst 2, 1) := by decide +kernel
theorem dX12_sample_35 : decode cX12_sample 35 = .ok (.iload 6, 2) := by decide +kernel
theorem dX12_sample_37 : decode cX12_sample 37 = .ok (.imul, 1) := by decide +kernel
theorem dX12_sample_38 : decode cX12_sample 38 = .ok (.iload_n 3, 1) := by decide +kernel
theorem dX12_sample_39 : decode cX12_sample 39 = .ok (.if_icmp .ge 18, 3) := by decide +kernel
theorem dX12_sample_42 : decode cX12_sample 42 = .ok (.iconst 4, 1) := by decide +kernel
theorem dX12_sample_43 : decode cX12_sample 43 = .ok (.iload 4, 2) := by decide +kernel
theorem dX12_sample_45 : decode cX12_sample 45 = .ok (.imul, 1) := by decide +kernel
theorem dX12_sample_46 : decode cX12_sample 46 = .ok (.iload 6, 2) := by decide +kernel
theorem dX12_sample_48 : decode cX12_sample 48 = .ok (.imul, 1) := by decide +kernel
theorem dX12_sample_49 : decode cX12_sample 49 = .ok (.iload_n 3, 1) := by decide +kernel
theorem dX12_sample_50 : decode cX12_sample 50 = .ok (.idiv, 1) := by decide +kernel
theorem dX12_sample_51 : decode cX12_sample 51 = .ok (.iload 4, 2) := by decide +kernel
theorem dX12_sample_53 : decode cX12_sample 53 = .ok (.isub, 1) := by decide +kernel
theorem dX12_sample_54 : decode cX12_sample 54 = .ok (.goto 17, 3) := by decide +kernel
theorem dX12_sample_57 : decode cX12_sample 57 = .ok (.iconst 3, 1) := by decide +kernel
theorem dX12_sample_58 : decode cX12_sample 58 = .ok (.iload 4, 2) := by decide +kernel
theorem dX12_sample_60 : decode cX12_sample 60 = .ok (.imul, 1) := by decide +kernel
theorem dX12_sample_61 : decode cX12_sample 61 = .ok (.iconst 4, 1) := by decide +kernel
theorem dX12_sample_62 : decode cX12_sample 62 = .ok (.iload 4, 2) := by decide +kernel
theorem dX12_sample_64 : decode cX12_sample 64 = .ok (.imul, 1) := by decide +kernel
theorem dX12_sample_65 : decode cX12_sample 65 = .ok (.iload 6, 2) := by decide +kernel
theorem dX12_sample_67 : decode cX12_sample 67 = .ok (.imul, 1) := by decide +kernel
theorem dX12_sample_68 : decode cX12_sample 68 = .ok (.iload_n 3, 1) := by decide +kernel
theorem dX12_sample_69 : decode cX12_sample 69 = .ok (.idiv, 1) := by decide +kernel
theorem dX12_sample_70 : decode cX12_sample 70 = .ok (.isub, 1) := by decide +kernel
theorem dX12_sample_71 : decode cX12_sample 71 = .ok (.istore 7, 2) := by decide +kernel
theorem dX12_sample_73 : decode cX12_sample 73 = .ok (.iload 5, 2) := by decide +kernel
theorem dX12_sample_75 : decode cX12_sample 75 = .ok (.ifCond .le 49, 3) := by decide +kernel
theorem dX12_sample_78 : decode cX12_sample 78 = .ok (.ldc2_w 116, 3) := by decide +kernel
theorem dX12_sample_81 : decode cX12_sample 81 = .ok (.iload_n 2, 1) := by decide +kernel
theorem dX12_sample_82 : decode cX12_sample 82 = .ok (.i2l, 1) := by decide +kernel
theorem dX12_sample_83 : decode cX12_sample 83 = .ok (.lmul, 1) := by decide +kernel
theorem dX12_sample_84 : decode cX12_sample 84 = .ok (.ldc2_w 118, 3) := by decide +kernel
theorem dX12_sample_87 : decode cX12_sample 87 = .ok (.iload_n 1, 1) := by decide +kernel
theorem dX12_sample_88 : decode cX12_sample 88 = .ok (.i2l, 1) := by decide +kernel
theorem dX12_sample_89 : decode cX12_sample 89 = .ok (.lmul, 1) := by decide +kernel
theorem dX12_sample_90 : decode cX12_sample 90 = .ok (.ladd, 1) := by decide +kernel
theorem dX12_sample_91 : decode cX12_sample 91 = .ok (.aload_n 0, 1) := by decide +kernel
theorem dX12_sample_92 : decode cX12_sample 92 = .ok (.getfield 9, 3) := by decide +kernel
theorem dX12_sample_95 : decode cX12_sample 95 = .ok (.bipush 6, 2) := by decide +kernel
theorem dX12_sample_97 : decode cX12_sample 97 = .ok (.iaload, 1) := by decide +kernel
theorem dX12_sample_98 : decode cX12_sample 98 = .ok (.i2l, 1) := by decide +kernel
theorem dX12_sample_99 : decode cX12_sample 99 = .ok (.ladd, 1) := by decide +kernel
theorem dX12_sample_100 : decode cX12_sample 100 = .ok (.ldc2_w 120, 3) := by decide +kernel
theorem dX12_sample_103 : decode cX12_sample 103 = .ok (.lrem, 1) := by decide +kernel
theorem dX12_sample_104 : decode cX12_sample 104 = .ok (.l2i, 1) := by decide +kernel
theorem dX12_sample_105 : decode cX12_sample 105 = .ok (.istore 8, 2) := by decide +kernel
theorem dX12_sample_107 : decode cX12_sample 107 = .ok (.iload 7, 2) := by decide +kernel
theorem dX12_sample_109 : decode cX12_sample 109 = .ok (.iload 8, 2) := by decide +kernel
theorem dX12_sample_111 : decode cX12_sample 111 = .ok (.iconst 2, 1) := by decide +kernel
theorem dX12_sample_112 : decode cX12_sample 112 = .ok (.iload 5, 2) := by decide +kernel
theorem dX12_sample_114 : decode cX12_sample 114 = .ok (.imul, 1) := by decide +kernel
theorem dX12_sample_115 : decode cX12_sample 115 = .ok (.iconst 1, 1) := by decide +kernel
theorem dX12_sample_116 : decode cX12_sample 116 = .ok (.iadd, 1) := by decide +kernel
theorem dX12_sample_117 : decode cX12_sample 117 = .ok (.irem, 1) := by decide +kernel
theorem dX12_sample_118 : decode cX12_sample 118 = .ok (.iload 5, 2) := by decide +kernel
theorem dX12_sample_120 : decode cX12_sample 120 = .ok (.isub, 1) := by decide +kernel
theorem dX12_sample_121 : decode cX12_sample 121 = .ok (.iadd, 1) := by decide +kernel
theorem dX12_sample_122 : decode cX12_sample 122 = .ok (.istore 7, 2) := by decide +kernel
theorem dX12_sample_124 : decode cX12_sample 124 = .ok (.iload 7, 2) := by decide +kernel
theorem dX12_sample_126 : decode cX12_sample 126 = .ok (.i2l, 1) := by decide +kernel
theorem dX12_sample_127 : decode cX12_sample 127 = .ok (.ldc2_w 122, 3) := by decide +kernel
theorem dX12_sample_130 : decode cX12_sample 130 = .ok (.ldc2_w 124, 3) := by decide +kernel
theorem dX12_sample_133 : decode cX12_sample 133 = .ok (.invokestatic 126, 3) := by decide +kernel
theorem dX12_sample_136 : decode cX12_sample 136 = .ok (.ireturn, 1) := by decide +kernel
theorem dX12_source_0 : decode cX12_source 0 = .ok (.aload_n 0, 1) := by decide +kernel
theorem dX12_source_1 : decode cX12_source 1 = .ok (.iconst 0, 1) := by decide +kernel
theorem dX12_source_2 : decode cX12_source 2 = .ok (.putfield 58, 3) := by decide +kernel
theorem dX12_source_5 : decode cX12_source 5 = .ok (.iload_n 1, 1) := by decide +kernel
theorem dX12_source_6 : decode cX12_source 6 = .ok (.i2l, 1) := by decide +kernel
theorem dX12_source_7 : decode cX12_source 7 = .ok (.lconst 0, 1) := by decide +kernel
theorem dX12_source_8 : decode cX12_source 8 = .ok (.lconst 1, 1) := by decide +kernel
theorem dX12_source_9 : decode cX12_source 9 = .ok (.invokestatic 68, 3) := by decide +kernel
theorem dX12_source_12 : decode cX12_source 12 = .ok (.ifCond .eq 24, 3) := by decide +kernel
theorem dX12_source_15 : decode cX12_source 15 = .ok (.iload_n 2, 1) := by decide +kernel
theorem dX12_source_16 : decode cX12_source 16 = .ok (.i2l, 1) := by decide +kernel
theorem dX12_source_17 : decode cX12_source 17 = .ok (.lconst 0, 1) := by decide +kernel
theorem dX12_source_18 : decode cX12_source 18 = .ok (.ldc2_w 130, 3) := by decide +kernel
theorem dX12_source_21 : decode cX12_source 21 = .ok (.invokestatic 68, 3) := by decide +kernel
theorem dX12_source_24 : decode cX12_source 24 = .ok (.ifCond .eq 12, 3) := by decide +kernel
theorem dX12_source_27 : decode cX12_source 27 = .ok (.aload_n 0, 1) := by decide +kernel
theorem dX12_source_28 : decode cX12_source 28 = .ok (.iload_n 1, 1) := by decide +kernel
theorem dX12_source_29 : decode cX12_source 29 = .ok (.iload_n 2, 1) := by decide +kernel
theorem dX12_source_30 : decode cX12_source 30 = .ok (.invokevirtual 132, 3) := by decide +kernel
theorem dX12_source_33 : decode cX12_source 33 = .ok (.goto 5, 3) := by decide +kernel
theorem dX12_source_36 : decode cX12_source 36 = .ok (.ldc 136, 2) := by decide +kernel
theorem dX12_source_38 : decode cX12_source 38 = .ok (.ireturn, 1) := by decide +kernel
theorem dX12_splitPair_0 : decode cX12_splitPair 0 = .ok (.aload_n 0, 1) := by decide +kernel
theorem dX12_splitPair_1 : decode cX12_splitPair 1 = .ok (.iload_n 3, 1) := by decide +kernel
theorem dX12_splitPair_2 : decode cX12_splitPair 2 = .ok (.aload_n 1, 1) := by decide +kernel
theorem dX12_splitPair_3 : decode cX12_splitPair 3 = .ok (.iload_n 2, 1) := by decide +kernel
theorem dX12_splitPair_4 : decode cX12_splitPair 4 = .ok (.iaload, 1) := by decide +kernel
theorem dX12_splitPair_5 : decode cX12_splitPair 5 = .ok (.iload 4, 2) := by decide +kernel
theorem dX12_splitPair_7 : decode cX12_splitPair 7 = .ok (.iadd, 1) := by decide +kernel
theorem dX12_splitPair_8 : decode cX12_splitPair 8 = .ok (.iconst 1, 1) := by decide +kernel
theorem dX12_splitPair_9 : decode cX12_splitPair 9 = .ok (.ishr, 1) := by decide +kernel
