theorem dX0_init_0 : decode cX0_init 0 = .ok (.aload_n 0, 1) := by decide +kernel
theorem dX0_init_1 : decode cX0_init 1 = .ok (.invokespecial 3, 3) := by decide +kernel
theorem dX0_init_4 : decode cX0_init 4 = .ok (.aload_n 0, 1) := by decide +kernel
theorem dX0_init_5 : decode cX0_init 5 = .ok (.sipush 2500, 3) := by decide +kernel
theorem dX0_init_8 : decode cX0_init 8 = .ok (.newarray .int, 2) := by decide +kernel
theorem dX0_init_10 : decode cX0_init 10 = .ok (.putfield 9, 3) := by decide +kernel
theorem dX0_init_13 : decode cX0_init 13 = .ok (.aload_n 0, 1) := by decide +kernel
theorem dX0_init_14 : decode cX0_init 14 = .ok (.bipush 16, 2) := by decide +kernel
theorem dX0_init_16 : decode cX0_init 16 = .ok (.newarray .int, 2) := by decide +kernel
theorem dX0_init_18 : decode cX0_init 18 = .ok (.putfield 15, 3) := by decide +kernel
theorem dX0_init_21 : decode cX0_init 21 = .ok (.return_, 1) := by decide +kernel
theorem dX0_clear_0 : decode cX0_clear 0 = .ok (.aload_n 0, 1) := by decide +kernel
theorem dX0_clear_1 : decode cX0_clear 1 = .ok (.getfield 9, 3) := by decide +kernel
theorem dX0_clear_4 : decode cX0_clear 4 = .ok (.iconst 0, 1) := by decide +kernel
theorem dX0_clear_5 : decode cX0_clear 5 = .ok (.invokestatic 18, 3) := by decide +kernel
theorem dX0_clear_8 : decode cX0_clear 8 = .ok (.aload_n 0, 1) := by decide +kernel
theorem dX0_clear_9 : decode cX0_clear 9 = .ok (.getfield 15, 3) := by decide +kernel
theorem dX0_clear_12 : decode cX0_clear 12 = .ok (.iconst 0, 1) := by decide +kernel
theorem dX0_clear_13 : decode cX0_clear 13 = .ok (.invokestatic 18, 3) := by decide +kernel
theorem dX0_clear_16 : decode cX0_clear 16 = .ok (.return_, 1) := by decide +kernel
theorem dX0_become_0 : decode cX0_become 0 = .ok (.aload_n 1, 1) := by decide +kernel
theorem dX0_become_1 : decode cX0_become 1 = .ok (.getfield 9, 3) := by decide +kernel
theorem dX0_become_4 : decode cX0_become 4 = .ok (.iconst 0, 1) := by decide +kernel
theorem dX0_become_5 : decode cX0_become 5 = .ok (.aload_n 0, 1) := by decide +kernel
theorem dX0_become_6 : decode cX0_become 6 = .ok (.getfield 9, 3) := by decide +kernel
theorem dX0_become_9 : decode cX0_become 9 = .ok (.iconst 0, 1) := by decide +kernel
theorem dX0_become_10 : decode cX0_become 10 = .ok (.sipush 2500, 3) := by decide +kernel
theorem dX0_become_13 : decode cX0_become 13 = .ok (.invokestatic 24, 3) := by decide +kernel
theorem dX0_become_16 : decode cX0_become 16 = .ok (.aload_n 1, 1) := by decide +kernel
theorem dX0_become_17 : decode cX0_become 17 = .ok (.getfield 15, 3) := by decide +kernel
theorem dX0_become_20 : decode cX0_become 20 = .ok (.iconst 0, 1) := by decide +kernel
theorem dX0_become_21 : decode cX0_become 21 = .ok (.aload_n 0, 1) := by decide +kernel
theorem dX0_become_22 : decode cX0_become 22 = .ok (.getfield 15, 3) := by decide +kernel
theorem dX0_become_25 : decode cX0_become 25 = .ok (.iconst 0, 1) := by decide +kernel
theorem dX0_become_26 : decode cX0_become 26 = .ok (.bipush 16, 2) := by decide +kernel
theorem dX0_become_28 : decode cX0_become 28 = .ok (.invokestatic 24, 3) := by decide +kernel
theorem dX0_become_31 : decode cX0_become 31 = .ok (.return_, 1) := by decide +kernel
theorem dX0_status_0 : decode cX0_status 0 = .ok (.aload_n 0, 1) := by decide +kernel
theorem dX0_status_1 : decode cX0_status 1 = .ok (.getfield 9, 3) := by decide +kernel
theorem dX0_status_4 : decode cX0_status 4 = .ok (.iload_n 1, 1) := by decide +kernel
theorem dX0_status_5 : decode cX0_status 5 = .ok (.iaload, 1) := by decide +kernel
theorem dX0_status_6 : decode cX0_status 6 = .ok (.iconst 3, 1) := by decide +kernel
theorem dX0_status_7 : decode cX0_status 7 = .ok (.iand, 1) := by decide +kernel
theorem dX0_status_8 : decode cX0_status 8 = .ok (.ireturn, 1) := by decide +kernel
theorem dX0_howHeard_0 : decode cX0_howHeard 0 = .ok (.aload_n 0, 1) := by decide +kernel
theorem dX0_howHeard_1 : decode cX0_howHeard 1 = .ok (.getfield 9, 3) := by decide +kernel
theorem dX0_howHeard_4 : decode cX0_howHeard 4 = .ok (.iload_n 1, 1) := by decide +kernel
theorem dX0_howHeard_5 : decode cX0_howHeard 5 = .ok (.iaload, 1) := by decide +kernel
theorem dX0_howHeard_6 : decode cX0_howHeard 6 = .ok (.iconst 2, 1) := by decide +kernel
theorem dX0_howHeard_7 : decode cX0_howHeard 7 = .ok (.ishr, 1) := by decide +kernel
theorem dX0_howHeard_8 : decode cX0_howHeard 8 = .ok (.iconst 3, 1) := by decide +kernel
theorem dX0_howHeard_9 : decode cX0_howHeard 9 = .ok (.iand, 1) := by decide +kernel
theorem dX0_howHeard_10 : decode cX0_howHeard 10 = .ok (.ireturn, 1) := by decide +kernel
theorem dX0_sentPieces_0 : decode cX0_sentPieces 0 = .ok (.aload_n 0, 1) := by decide +kernel
theorem dX0_sentPieces_1 : decode cX0_sentPieces 1 = .ok (.getfield 9, 3) := by decide +kernel
theorem dX0_sentPieces_4 : decode cX0_sentPieces 4 = .ok (.iload_n 1, 1) := by decide +kernel
theorem dX0_sentPieces_5 : decode cX0_sentPieces 5 = .ok (.iaload, 1) := by decide +kernel
theorem dX0_sentPieces_6 : decode cX0_sentPieces 6 = .ok (.iconst 4, 1) := by decide +kernel
theorem dX0_sentPieces_7 : decode cX0_sentPieces 7 = .ok (.ishr, 1) := by decide +kernel
theorem dX0_sentPieces_8 : decode cX0_sentPieces 8 = .ok (.sipush 255, 3) := by decide +kernel
theorem dX0_sentPieces_11 : decode cX0_sentPieces 11 = .ok (.iand, 1) := by decide +kernel
theorem dX0_sentPieces_12 : decode cX0_sentPieces 12 = .ok (.ireturn, 1) := by decide +kernel
theorem dX0_arrivalSlot_0 : decode cX0_arrivalSlot 0 = .ok (.aload_n 0, 1) := by decide +kernel
theorem dX0_arrivalSlot_1 : decode cX0_arrivalSlot 1 = .ok (.getfield 9, 3) := by decide +kernel
theorem dX0_arrivalSlot_4 : decode cX0_arrivalSlot 4 = .ok (.iload_n 1, 1) := by decide +kernel
theorem dX0_arrivalSlot_5 : decode cX0_arrivalSlot 5 = .ok (.iaload, 1) := by decide +kernel
theorem dX0_arrivalSlot_6 : decode cX0_arrivalSlot 6 = .ok (.bipush 12, 2) := by decide +kernel
theorem dX0_arrivalSlot_8 : decode cX0_arrivalSlot 8 = .ok (.ishr, 1) := by decide +kernel
theorem dX0_arrivalSlot_9 : decode cX0_arrivalSlot 9 = .ok (.iconst 1, 1) := by decide +kernel
theorem dX0_arrivalSlot_10 : decode cX0_arrivalSlot 10 = .ok (.isub, 1) := by decide +kernel
theorem dX0_arrivalSlot_11 : decode cX0_arrivalSlot 11 = .ok (.ireturn, 1) := by decide +kernel
theorem dX0_setStatus_0 : decode cX0_setStatus 0 = .ok (.iload_n 1, 1) := by decide +kernel
theorem dX0_setStatus_1 : decode cX0_setStatus 1 = .ok (.iconst 0, 1) := by decide +kernel
theorem dX0_setStatus_2 : decode cX0_setStatus 2 = .ok (.sipush 2499, 3) := by decide +kernel
theorem dX0_setStatus_5 : decode cX0_setStatus 5 = .ok (.invokestatic 30, 3) := by decide +kernel
theorem dX0_setStatus_8 : decode cX0_setStatus 8 = .ok (.ifCond .eq 20, 3) := by decide +kernel
theorem dX0_setStatus_11 : decode cX0_setStatus 11 = .ok (.aload_n 0, 1) := by decide +kernel
theorem dX0_setStatus_12 : decode cX0_setStatus 12 = .ok (.getfield 9, 3) := by decide +kernel
theorem dX0_setStatus_15 : decode cX0_setStatus 15 = .ok (.iload_n 1, 1) := by decide +kernel
theorem dX0_setStatus_16 : decode cX0_setStatus 16 = .ok (.aload_n 0, 1) := by decide +kernel
theorem dX0_setStatus_17 : decode cX0_setStatus 17 = .ok (.getfield 9, 3) := by decide +kernel
theorem dX0_setStatus_20 : decode cX0_setStatus 20 = .ok (.iload_n 1, 1) := by decide +kernel
theorem dX0_setStatus_21 : decode cX0_setStatus 21 = .ok (.iaload, 1) := by decide +kernel
theorem dX0_setStatus_22 : decode cX0_setStatus 22 = .ok (.bipush (-4), 2) := by decide +kernel
theorem dX0_setStatus_24 : decode cX0_setStatus 24 = .ok (.iand, 1) := by decide +kernel
theorem dX0_setStatus_25 : decode cX0_setStatus 25 = .ok (.iload_n 2, 1) := by decide +kernel
theorem dX0_setStatus_26 : decode cX0_setStatus 26 = .ok (.ior, 1) := by decide +kernel
theorem dX0_setStatus_27 : decode cX0_setStatus 27 = .ok (.iastore, 1) := by decide +kernel
theorem dX0_setStatus_28 : decode cX0_setStatus 28 = .ok (.return_, 1) := by decide +kernel
theorem dX0_setHowHeard_0 : decode cX0_setHowHeard 0 = .ok (.iload_n 1, 1) := by decide +kernel
theorem dX0_setHowHeard_1 : decode cX0_setHowHeard 1 = .ok (.iconst 0, 1) := by decide +kernel
theorem dX0_setHowHeard_2 : decode cX0_setHowHeard 2 = .ok (.sipush 2499, 3) := by decide +kernel
theorem dX0_setHowHeard_5 : decode cX0_setHowHeard 5 = .ok (.invokestatic 30, 3) := by decide +kernel
theorem dX0_setHowHeard_8 : decode cX0_setHowHeard 8 = .ok (.ifCond .eq 15, 3) := by decide +kernel
theorem dX0_setHowHeard_11 : decode cX0_setHowHeard 11 = .ok (.aload_n 0, 1) := by decide +kernel
theorem dX0_setHowHeard_12 : decode cX0_setHowHeard 12 = .ok (.getfield 9, 3) := by decide +kernel
theorem dX0_setHowHeard_15 : decode cX0_setHowHeard 15 = .ok (.iload_n 1, 1) := by decide +kernel
theorem dX0_setHowHeard_16 : decode cX0_setHowHeard 16 = .ok (.dup2, 1) := by decide +kernel
theorem dX0_setHowHeard_17 : decode cX0_setHowHeard 17 = .ok (.iaload, 1) := by decide +kernel
theorem dX0_setHowHeard_18 : decode cX0_setHowHeard 18 = .ok (.iload_n 2, 1) := by decide +kernel
theorem dX0_setHowHeard_19 : decode cX0_setHowHeard 19 = .ok (.iconst 2, 1) := by decide +kernel
theorem dX0_setHowHeard_20 : decode cX0_setHowHeard 20 = .ok (.ishl, 1) := by decide +kernel
theorem dX0_setHowHeard_21 : decode cX0_setHowHeard 21 = .ok (.ior, 1) := by decide +kernel
theorem dX0_setHowHeard_22 : decode cX0_setHowHeard 22 = .ok (.iastore, 1) := by decide +kernel
theorem dX0_setHowHeard_23 : decode cX0_setHowHeard 23 = .ok (.return_, 1) := by decide +kernel
theorem dX0_addSent_0 : decode cX0_addSent 0 = .ok (.iload_n 1, 1) := by decide +kernel
theorem dX0_addSent_1 : decode cX0_addSent 1 = .ok (.iconst 0, 1) := by decide +kernel
theorem dX0_addSent_2 : decode cX0_addSent 2 = .ok (.sipush 2499, 3) := by decide +kernel
theorem dX0_addSent_5 : decode cX0_addSent 5 = .ok (.invokestatic 30, 3) := by decide +kernel
theorem dX0_addSent_8 : decode cX0_addSent 8 = .ok (.ifCond .eq 14, 3) := by decide +kernel
theorem dX0_addSent_11 : decode cX0_addSent 11 = .ok (.aload_n 0, 1) := by decide +kernel
theorem dX0_addSent_12 : decode cX0_addSent 12 = .ok (.getfield 9, 3) := by decide +kernel
theorem dX0_addSent_15 : decode cX0_addSent 15 = .ok (.iload_n 1, 1) := by decide +kernel
theorem dX0_addSent_16 : decode cX0_addSent 16 = .ok (.dup2, 1) := by decide +kernel
theorem dX0_addSent_17 : decode cX0_addSent 17 = .ok (.iaload, 1) := by decide +kernel
theorem dX0_addSent_18 : decode cX0_addSent 18 = .ok (.bipush 16, 2) := by decide +kernel
theorem dX0_addSent_20 : decode cX0_addSent 20 = .ok (.iadd, 1) := by decide +kernel
theorem dX0_addSent_21 : decode cX0_addSent 21 = .ok (.iastore, 1) := by decide +kernel
theorem dX0_addSent_22 : decode cX0_addSent 22 = .ok (.return_, 1) := by decide +kernel
theorem dX0_arrive_0 : decode cX0_arrive 0 = .ok (.iload_n 1, 1) := by decide +kernel
theorem dX0_arrive_1 : decode cX0_arrive 1 = .ok (.iconst 0, 1) := by decide +kernel
theorem dX0_arrive_2 : decode cX0_arrive 2 = .ok (.sipush 2499, 3) := by decide +kernel
theorem dX0_arrive_5 : decode cX0_arrive 5 = .ok (.invokestatic 30, 3) := by decide +kernel
theorem dX0_arrive_8 : decode cX0_arrive 8 = .ok (.ifCond .eq 44, 3) := by decide +kernel
theorem dX0_arrive_11 : decode cX0_arrive 11 = .ok (.aload_n 0, 1) := by decide +kernel
theorem dX0_arrive_12 : decode cX0_arrive 12 = .ok (.iload_n 1, 1) := by decide +kernel
theorem dX0_arrive_13 : decode cX0_arrive 13 = .ok (.iconst 2, 1) := by decide +kernel
theorem dX0_arrive_14 : decode cX0_arrive 14 = .ok (.invokevirtual 34, 3) := by decide +kernel
theorem dX0_arrive_17 : decode cX0_arrive 17 = .ok (.aload_n 0, 1) := by decide +kernel
theorem dX0_arrive_18 : decode cX0_arrive 18 = .ok (.getfield 9, 3) := by decide +kernel
theorem dX0_arrive_21 : decode cX0_arrive 21 = .ok (.iload_n 1, 1) := by decide +kernel
theorem dX0_arrive_22 : decode cX0_arrive 22 = .ok (.dup2, 1) := by decide +kernel
theorem dX0_arrive_23 : decode cX0_arrive 23 = .ok (.iaload, 1) := by decide +kernel
theorem dX0_arrive_24 : decode cX0_arrive 24 = .ok (.iload_n 2, 1) := by decide +kernel
theorem dX0_arrive_25 : decode cX0_arrive 25 = .ok (.iconst 1, 1) := by decide +kernel
theorem dX0_arrive_26 : decode cX0_arrive 26 = .ok (.iadd, 1) := by decide +kernel
theorem dX0_arrive_27 : decode cX0_arrive 27 = .ok (.bipush 12, 2) := by decide +kernel
theorem dX0_arrive_29 : decode cX0_arrive 29 = .ok (.ishl, 1) := by decide +kernel
theorem dX0_arrive_30 : decode cX0_arrive 30 = .ok (.ior, 1) := by decide +kernel
theorem dX0_arrive_31 : decode cX0_arrive 31 = .ok (.iastore, 1) := by decide +kernel
theorem dX0_arrive_32 : decode cX0_arrive 32 = .ok (.aload_n 0, 1) := by decide +kernel
theorem dX0_arrive_33 : decode cX0_arrive 33 = .ok (.getfield 15, 3) := by decide +kernel
theorem dX0_arrive_36 : decode cX0_arrive 36 = .ok (.iload_n 2, 1) := by decide +kernel
theorem dX0_arrive_37 : decode cX0_arrive 37 = .ok (.iconst 4, 1) := by decide +kernel
theorem dX0_arrive_38 : decode cX0_arrive 38 = .ok (.iload_n 1, 1) := by decide +kernel
theorem dX0_arrive_39 : decode cX0_arrive 39 = .ok (.imul, 1) := by decide +kernel
theorem dX0_arrive_40 : decode cX0_arrive 40 = .ok (.isub, 1) := by decide +kernel
theorem dX0_arrive_41 : decode cX0_arrive 41 = .ok (.iconst 0, 1) := by decide +kernel
theorem dX0_arrive_42 : decode cX0_arrive 42 = .ok (.bipush 15, 2) := by decide +kernel
theorem dX0_arrive_44 : decode cX0_arrive 44 = .ok (.invokestatic 38, 3) := by decide +kernel
theorem dX0_arrive_47 : decode cX0_arrive 47 = .ok (.dup2, 1) := by decide +kernel
theorem dX0_arrive_48 : decode cX0_arrive 48 = .ok (.iaload, 1) := by decide +kernel
theorem dX0_arrive_49 : decode cX0_arrive 49 = .ok (.iconst 1, 1) := by decide +kernel
theorem dX0_arrive_50 : decode cX0_arrive 50 = .ok (.iadd, 1) := by decide +kernel
theorem dX0_arrive_51 : decode cX0_arrive 51 = .ok (.iastore, 1) := by decide +kernel
theorem dX0_arrive_52 : decode cX0_arrive 52 = .ok (.return_, 1) := by decide +kernel
theorem dX0_delaysAbove_0 : decode cX0_delaysAbove 0 = .ok (.iconst 0, 1) := by decide +kernel
theorem dX0_delaysAbove_1 : decode cX0_delaysAbove 1 = .ok (.istore_n 2, 1) := by decide +kernel
theorem dX0_delaysAbove_2 : decode cX0_delaysAbove 2 = .ok (.iload_n 1, 1) := by decide +kernel
theorem dX0_delaysAbove_3 : decode cX0_delaysAbove 3 = .ok (.iconst 1, 1) := by decide +kernel
theorem dX0_delaysAbove_4 : decode cX0_delaysAbove 4 = .ok (.iadd, 1) := by decide +kernel
theorem dX0_delaysAbove_5 : decode cX0_delaysAbove 5 = .ok (.istore_n 3, 1) := by decide +kernel
theorem dX0_delaysAbove_6 : decode cX0_delaysAbove 6 = .ok (.iload_n 3, 1) := by decide +kernel
theorem dX0_delaysAbove_7 : decode cX0_delaysAbove 7 = .ok (.bipush 16, 2) := by decide +kernel
theorem dX0_delaysAbove_9 : decode cX0_delaysAbove 9 = .ok (.if_icmp .ge 18, 3) := by decide +kernel
theorem dX0_delaysAbove_12 : decode cX0_delaysAbove 12 = .ok (.iload_n 2, 1) := by decide +kernel
theorem dX0_delaysAbove_13 : decode cX0_delaysAbove 13 = .ok (.aload_n 0, 1) := by decide +kernel
theorem dX0_delaysAbove_14 : decode cX0_delaysAbove 14 = .ok (.getfield 15, 3) := by decide +kernel
theorem dX0_delaysAbove_17 : decode cX0_delaysAbove 17 = .ok (.iload_n 3, 1) := by decide +kernel
theorem dX0_delaysAbove_18 : decode cX0_delaysAbove 18 = .ok (.iaload, 1) := by decide +kernel
theorem dX0_delaysAbove_19 : decode cX0_delaysAbove 19 = .ok (.iadd, 1) := by decide +kernel
theorem dX0_delaysAbove_20 : decode cX0_delaysAbove 20 = .ok (.istore_n 2, 1) := by decide +kernel
theorem dX0_delaysAbove_21 : decode cX0_delaysAbove 21 = .ok (.iinc 3 1, 3) := by decide +kernel
theorem dX0_delaysAbove_24 : decode cX0_delaysAbove 24 = .ok (.goto (-18), 3) := by decide +kernel
theorem dX0_delaysAbove_27 : decode cX0_delaysAbove 27 = .ok (.iload_n 2, 1) := by decide +kernel
theorem dX0_delaysAbove_28 : decode cX0_delaysAbove 28 = .ok (.ireturn, 1) := by decide +kernel
theorem dX1_init_0 : decode cX1_init 0 = .ok (.aload_n 0, 1) := by decide +kernel
theorem dX1_init_1 : decode cX1_init 1 = .ok (.invokespecial 3, 3) := by decide +kernel
theorem dX1_init_4 : decode cX1_init 4 = .ok (.aload_n 0, 1) := by decide +kernel
theorem dX1_init_5 : decode cX1_init 5 = .ok (.bipush 80, 2) := by decide +kernel
theorem dX1_init_7 : decode cX1_init 7 = .ok (.newarray .int, 2) := by decide +kernel
theorem dX1_init_9 : decode cX1_init 9 = .ok (.putfield 9, 3) := by decide +kernel
theorem dX1_init_12 : decode cX1_init 12 = .ok (.aload_n 0, 1) := by decide +kernel
theorem dX1_init_13 : decode cX1_init 13 = .ok (.iconst 0, 1) := by decide +kernel
theorem dX1_init_14 : decode cX1_init 14 = .ok (.putfield 15, 3) := by decide +kernel
theorem dX1_init_17 : decode cX1_init 17 = .ok (.aload_n 0, 1) := by decide +kernel
theorem dX1_init_18 : decode cX1_init 18 = .ok (.iconst 0, 1) := by decide +kernel
theorem dX1_init_19 : decode cX1_init 19 = .ok (.putfield 19, 3) := by decide +kernel
theorem dX1_init_22 : decode cX1_init 22 = .ok (.return_, 1) := by decide +kernel
theorem dX1_bytesFor_0 : decode cX1_bytesFor 0 = .ok (.bipush 13, 2) := by decide +kernel
theorem dX1_bytesFor_2 : decode cX1_bytesFor 2 = .ok (.iload_n 0, 1) := by decide +kernel
theorem dX1_bytesFor_3 : decode cX1_bytesFor 3 = .ok (.iconst 4, 1) := by decide +kernel
theorem dX1_bytesFor_4 : decode cX1_bytesFor 4 = .ok (.imul, 1) := by decide +kernel
theorem dX1_bytesFor_5 : decode cX1_bytesFor 5 = .ok (.bipush 7, 2) := by decide +kernel
theorem dX1_bytesFor_7 : decode cX1_bytesFor 7 = .ok (.iadd, 1) := by decide +kernel
theorem dX1_bytesFor_8 : decode cX1_bytesFor 8 = .ok (.bipush 8, 2) := by decide +kernel
theorem dX1_bytesFor_10 : decode cX1_bytesFor 10 = .ok (.idiv, 1) := by decide +kernel
theorem dX1_bytesFor_11 : decode cX1_bytesFor 11 = .ok (.iadd, 1) := by decide +kernel
theorem dX1_bytesFor_12 : decode cX1_bytesFor 12 = .ok (.ireturn, 1) := by decide +kernel
theorem dX1_become_0 : decode cX1_become 0 = .ok (.aload_n 1, 1) := by decide +kernel
theorem dX1_become_1 : decode cX1_become 1 = .ok (.getfield 9, 3) := by decide +kernel
theorem dX1_become_4 : decode cX1_become 4 = .ok (.iconst 0, 1) := by decide +kernel
theorem dX1_become_5 : decode cX1_become 5 = .ok (.aload_n 0, 1) := by decide +kernel
theorem dX1_become_6 : decode cX1_become 6 = .ok (.getfield 9, 3) := by decide +kernel
theorem dX1_become_9 : decode cX1_become 9 = .ok (.iconst 0, 1) := by decide +kernel
theorem dX1_become_10 : decode cX1_become 10 = .ok (.bipush 80, 2) := by decide +kernel
theorem dX1_become_12 : decode cX1_become 12 = .ok (.invokestatic 22, 3) := by decide +kernel
theorem dX1_become_15 : decode cX1_become 15 = .ok (.aload_n 0, 1) := by decide +kernel
theorem dX1_become_16 : decode cX1_become 16 = .ok (.aload_n 1, 1) := by decide +kernel
theorem dX1_become_17 : decode cX1_become 17 = .ok (.getfield 15, 3) := by decide +kernel
theorem dX1_become_20 : decode cX1_become 20 = .ok (.putfield 15, 3) := by decide +kernel
theorem dX1_become_23 : decode cX1_become 23 = .ok (.return_, 1) := by decide +kernel
theorem dX1_rewind_0 : decode cX1_rewind 0 = .ok (.aload_n 0, 1) := by decide +kernel
theorem dX1_rewind_1 : decode cX1_rewind 1 = .ok (.iconst 0, 1) := by decide +kernel
theorem dX1_rewind_2 : decode cX1_rewind 2 = .ok (.putfield 19, 3) := by decide +kernel
theorem dX1_rewind_5 : decode cX1_rewind 5 = .ok (.return_, 1) := by decide +kernel
theorem dX1_write_0 : decode cX1_write 0 = .ok (.aload_n 0, 1) := by decide +kernel
theorem dX1_write_1 : decode cX1_write 1 = .ok (.getfield 9, 3) := by decide +kernel
theorem dX1_write_4 : decode cX1_write 4 = .ok (.iconst 0, 1) := by decide +kernel
theorem dX1_write_5 : decode cX1_write 5 = .ok (.invokestatic 28, 3) := by decide +kernel
theorem dX1_write_8 : decode cX1_write 8 = .ok (.aload_n 0, 1) := by decide +kernel
theorem dX1_write_9 : decode cX1_write 9 = .ok (.bipush 80, 2) := by decide +kernel
theorem dX1_write_11 : decode cX1_write 11 = .ok (.aload_n 1, 1) := by decide +kernel
theorem dX1_write_12 : decode cX1_write 12 = .ok (.iconst 0, 1) := by decide +kernel
theorem dX1_write_13 : decode cX1_write 13 = .ok (.invokevirtual 34, 3) := by decide +kernel
theorem dX1_write_16 : decode cX1_write 16 = .ok (.aload_n 1, 1) := by decide +kernel
theorem dX1_write_17 : decode cX1_write 17 = .ok (.iconst 1, 1) := by decide +kernel
theorem dX1_write_18 : decode cX1_write 18 = .ok (.invokevirtual 34, 3) := by decide +kernel
theorem dX1_write_21 : decode cX1_write 21 = .ok (.iadd, 1) := by decide +kernel
theorem dX1_write_22 : decode cX1_write 22 = .ok (.invokestatic 40, 3) := by decide +kernel
theorem dX1_write_25 : decode cX1_write 25 = .ok (.invokestatic 43, 3) := by decide +kernel
theorem dX1_write_28 : decode cX1_write 28 = .ok (.putfield 15, 3) := by decide +kernel
theorem dX1_write_31 : decode cX1_write 31 = .ok (.aload_n 0, 1) := by decide +kernel
theorem dX1_write_32 : decode cX1_write 32 = .ok (.invokevirtual 49, 3) := by decide +kernel
theorem dX1_write_35 : decode cX1_write 35 = .ok (.aload_n 0, 1) := by decide +kernel
theorem dX1_write_36 : decode cX1_write 36 = .ok (.sipush 156, 3) := by decide +kernel
theorem dX1_write_39 : decode cX1_write 39 = .ok (.bipush 8, 2) := by decide +kernel
theorem dX1_write_41 : decode cX1_write 41 = .ok (.invokevirtual 52, 3) := by decide +kernel
theorem dX1_write_44 : decode cX1_write 44 = .ok (.aload_n 0, 1) := by decide +kernel
theorem dX1_write_45 : decode cX1_write 45 = .ok (.aload_n 1, 1) := by decide +kernel
theorem dX1_write_46 : decode cX1_write 46 = .ok (.getfield 56, 3) := by decide +kernel
theorem dX1_write_49 : decode cX1_write 49 = .ok (.sipush 128, 3) := by decide +kernel
theorem dX1_write_52 : decode cX1_write 52 = .ok (.imul, 1) := by decide +kernel
theorem dX1_write_53 : decode cX1_write 53 = .ok (.iload_n 3, 1) := by decide +kernel
theorem dX1_write_54 : decode cX1_write 54 = .ok (.bipush 64, 2) := by decide +kernel
theorem dX1_write_56 : decode cX1_write 56 = .ok (.imul, 1) := by decide +kernel
theorem dX1_write_57 : decode cX1_write 57 = .ok (.iadd, 1) := by decide +kernel
theorem dX1_write_58 : decode cX1_write 58 = .ok (.iload_n 2, 1) := by decide +kernel
theorem dX1_write_59 : decode cX1_write 59 = .ok (.bipush 64, 2) := by decide +kernel
theorem dX1_write_61 : decode cX1_write 61 = .ok (.irem, 1) := by decide +kernel
theorem dX1_write_62 : decode cX1_write 62 = .ok (.iadd, 1) := by decide +kernel
theorem dX1_write_63 : decode cX1_write 63 = .ok (.bipush 8, 2) := by decide +kernel
theorem dX1_write_65 : decode cX1_write 65 = .ok (.invokevirtual 52, 3) := by decide +kernel
theorem dX1_write_68 : decode cX1_write 68 = .ok (.aload_n 0, 1) := by decide +kernel
theorem dX1_write_69 : decode cX1_write 69 = .ok (.aload_n 1, 1) := by decide +kernel
theorem dX1_write_70 : decode cX1_write 70 = .ok (.getfield 59, 3) := by decide +kernel
theorem dX1_write_73 : decode cX1_write 73 = .ok (.bipush 8, 2) := by decide +kernel
theorem dX1_write_75 : decode cX1_write 75 = .ok (.invokevirtual 52, 3) := by decide +kernel
theorem dX1_write_78 : decode cX1_write 78 = .ok (.aload_n 0, 1) := by decide +kernel
theorem dX1_write_79 : decode cX1_write 79 = .ok (.iconst 0, 1) := by decide +kernel
theorem dX1_write_80 : decode cX1_write 80 = .ok (.bipush 8, 2) := by decide +kernel
theorem dX1_write_82 : decode cX1_write 82 = .ok (.invokevirtual 52, 3) := by decide +kernel
theorem dX1_write_85 : decode cX1_write 85 = .ok (.aload_n 0, 1) := by decide +kernel
theorem dX1_write_86 : decode cX1_write 86 = .ok (.aload_n 1, 1) := by decide +kernel
theorem dX1_write_87 : decode cX1_write 87 = .ok (.getfield 62, 3) := by decide +kernel
theorem dX1_write_90 : decode cX1_write 90 = .ok (.bipush 8, 2) := by decide +kernel
theorem dX1_write_92 : decode cX1_write 92 = .ok (.invokevirtual 52, 3) := by decide +kernel
theorem dX1_write_95 : decode cX1_write 95 = .ok (.iconst 0, 1) := by decide +kernel
theorem dX1_write_96 : decode cX1_write 96 = .ok (.istore 4, 2) := by decide +kernel
theorem dX1_write_98 : decode cX1_write 98 = .ok (.iload 4, 2) := by decide +kernel
theorem dX1_write_100 : decode cX1_write 100 = .ok (.bipush 16, 2) := by decide +kernel
theorem dX1_write_102 : decode cX1_write 102 = .ok (.if_icmp .ge 21, 3) := by decide +kernel
theorem dX1_write_105 : decode cX1_write 105 = .ok (.aload_n 0, 1) := by decide +kernel
theorem dX1_write_106 : decode cX1_write 106 = .ok (.aload_n 1, 1) := by decide +kernel
theorem dX1_write_107 : decode cX1_write 107 = .ok (.getfield 65, 3) := by decide +kernel
theorem dX1_write_110 : decode cX1_write 110 = .ok (.iload 4, 2) := by decide +kernel
theorem dX1_write_112 : decode cX1_write 112 = .ok (.iaload, 1) := by decide +kernel
theorem dX1_write_113 : decode cX1_write 113 = .ok (.iconst 4, 1) := by decide +kernel
theorem dX1_write_114 : decode cX1_write 114 = .ok (.invokevirtual 52, 3) := by decide +kernel
theorem dX1_write_117 : decode cX1_write 117 = .ok (.iinc 4 1, 3) := by decide +kernel
theorem dX1_write_120 : decode cX1_write 120 = .ok (.goto (-22), 3) := by decide +kernel
theorem dX1_write_123 : decode cX1_write 123 = .ok (.iconst 0, 1) := by decide +kernel
theorem dX1_write_124 : decode cX1_write 124 = .ok (.istore 4, 2) := by decide +kernel
theorem dX1_write_126 : decode cX1_write 126 = .ok (.iload 4, 2) := by decide +kernel
theorem dX1_write_128 : decode cX1_write 128 = .ok (.bipush 64, 2) := by decide +kernel
theorem dX1_write_130 : decode cX1_write 130 = .ok (.if_icmp .ge 30, 3) := by decide +kernel
theorem dX1_write_133 : decode cX1_write 133 = .ok (.aload_n 0, 1) := by decide +kernel
theorem dX1_write_134 : decode cX1_write 134 = .ok (.aload_n 1, 1) := by decide +kernel
theorem dX1_write_135 : decode cX1_write 135 = .ok (.getfield 68, 3) := by decide +kernel
theorem dX1_write_138 : decode cX1_write 138 = .ok (.iload 4, 2) := by decide +kernel
theorem dX1_write_140 : decode cX1_write 140 = .ok (.iaload, 1) := by decide +kernel
theorem dX1_write_141 : decode cX1_write 141 = .ok (.aload_n 1, 1) := by decide +kernel
theorem dX1_write_142 : decode cX1_write 142 = .ok (.getfield 71, 3) := by decide +kernel
theorem dX1_write_145 : decode cX1_write 145 = .ok (.iload 4, 2) := by decide +kernel
theorem dX1_write_147 : decode cX1_write 147 = .ok (.bipush 16, 2) := by decide +kernel
theorem dX1_write_149 : decode cX1_write 149 = .ok (.irem, 1) := by decide +kernel
theorem dX1_write_150 : decode cX1_write 150 = .ok (.iaload, 1) := by decide +kernel
theorem dX1_write_151 : decode cX1_write 151 = .ok (.invokevirtual 52, 3) := by decide +kernel
theorem dX1_write_154 : decode cX1_write 154 = .ok (.iinc 4 1, 3) := by decide +kernel
theorem dX1_write_157 : decode cX1_write 157 = .ok (.goto (-31), 3) := by decide +kernel
theorem dX1_write_160 : decode cX1_write 160 = .ok (.aload_n 0, 1) := by decide +kernel
theorem dX1_write_161 : decode cX1_write 161 = .ok (.getfield 9, 3) := by decide +kernel
theorem dX1_write_164 : decode cX1_write 164 = .ok (.iconst 3, 1) := by decide +kernel
theorem dX1_write_165 : decode cX1_write 165 = .ok (.aload_n 0, 1) := by decide +kernel
theorem dX1_write_166 : decode cX1_write 166 = .ok (.invokevirtual 74, 3) := by decide +kernel
theorem dX1_write_169 : decode cX1_write 169 = .ok (.iastore, 1) := by decide +kernel
theorem dX1_write_170 : decode cX1_write 170 = .ok (.return_, 1) := by decide +kernel
theorem dX1_put_0 : decode cX1_put 0 = .ok (.iload_n 2, 1) := by decide +kernel
theorem dX1_put_1 : decode cX1_put 1 = .ok (.iconst 1, 1) := by decide +kernel
theorem dX1_put_2 : decode cX1_put 2 = .ok (.isub, 1) := by decide +kernel
theorem dX1_put_3 : decode cX1_put 3 = .ok (.istore_n 3, 1) := by decide +kernel
theorem dX1_put_4 : decode cX1_put 4 = .ok (.iload_n 3, 1) := by decide +kernel
theorem dX1_put_5 : decode cX1_put 5 = .ok (.ifCond .lt 64, 3) := by decide +kernel
theorem dX1_put_8 : decode cX1_put 8 = .ok (.aload_n 0, 1) := by decide +kernel
theorem dX1_put_9 : decode cX1_put 9 = .ok (.getfield 19, 3) := by decide +kernel
theorem dX1_put_12 : decode cX1_put 12 = .ok (.bipush 8, 2) := by decide +kernel
theorem dX1_put_14 : decode cX1_put 14 = .ok (.aload_n 0, 1) := by decide +kernel
theorem dX1_put_15 : decode cX1_put 15 = .ok (.getfield 15, 3) := by decide +kernel
theorem dX1_put_18 : decode cX1_put 18 = .ok (.imul, 1) := by decide +kernel
theorem dX1_put_19 : decode cX1_put 19 = .ok (.if_icmp .ge 34, 3) := by decide +kernel
theorem dX1_put_22 : decode cX1_put 22 = .ok (.aload_n 0, 1) := by decide +kernel
theorem dX1_put_23 : decode cX1_put 23 = .ok (.getfield 9, 3) := by decide +kernel
theorem dX1_put_26 : decode cX1_put 26 = .ok (.aload_n 0, 1) := by decide +kernel
theorem dX1_put_27 : decode cX1_put 27 = .ok (.getfield 19, 3) := by decide +kernel
theorem dX1_put_30 : decode cX1_put 30 = .ok (.bipush 8, 2) := by decide +kernel
theorem dX1_put_32 : decode cX1_put 32 = .ok (.idiv, 1) := by decide +kernel
theorem dX1_put_33 : decode cX1_put 33 = .ok (.dup2, 1) := by decide +kernel
theorem dX1_put_34 : decode cX1_put 34 = .ok (.iaload, 1) := by decide +kernel
theorem dX1_put_35 : decode cX1_put 35 = .ok (.iload_n 1, 1) := by decide +kernel
theorem dX1_put_36 : decode cX1_put 36 = .ok (.iload_n 3, 1) := by decide +kernel
theorem dX1_put_37 : decode cX1_put 37 = .ok (.ishr, 1) := by decide +kernel
theorem dX1_put_38 : decode cX1_put 38 = .ok (.iconst 1, 1) := by decide +kernel
theorem dX1_put_39 : decode cX1_put 39 = .ok (.iand, 1) := by decide +kernel
theorem dX1_put_40 : decode cX1_put 40 = .ok (.bipush 7, 2) := by decide +kernel
theorem dX1_put_42 : decode cX1_put 42 = .ok (.aload_n 0, 1) := by decide +kernel
theorem dX1_put_43 : decode cX1_put 43 = .ok (.getfield 19, 3) := by decide +kernel
theorem dX1_put_46 : decode cX1_put 46 = .ok (.bipush 8, 2) := by decide +kernel
theorem dX1_put_48 : decode cX1_put 48 = .ok (.irem, 1) := by decide +kernel
theorem dX1_put_49 : decode cX1_put 49 = .ok (.isub, 1) := by decide +kernel
theorem dX1_put_50 : decode cX1_put 50 = .ok (.ishl, 1) := by decide +kernel
theorem dX1_put_51 : decode cX1_put 51 = .ok (.ior, 1) := by decide +kernel
theorem dX1_put_52 : decode cX1_put 52 = .ok (.iastore, 1) := by decide +kernel
theorem dX1_put_53 : decode cX1_put 53 = .ok (.aload_n 0, 1) := by decide +kernel
theorem dX1_put_54 : decode cX1_put 54 = .ok (.dup, 1) := by decide +kernel
theorem dX1_put_55 : decode cX1_put 55 = .ok (.getfield 19, 3) := by decide +kernel
theorem dX1_put_58 : decode cX1_put 58 = .ok (.iconst 1, 1) := by decide +kernel
theorem dX1_put_59 : decode cX1_put 59 = .ok (.iadd, 1) := by decide +kernel
theorem dX1_put_60 : decode cX1_put 60 = .ok (.putfield 19, 3) := by decide +kernel
theorem dX1_put_63 : decode cX1_put 63 = .ok (.iinc 3 (-1), 3) := by decide +kernel
theorem dX1_put_66 : decode cX1_put 66 = .ok (.goto (-62), 3) := by decide +kernel
theorem dX1_put_69 : decode cX1_put 69 = .ok (.return_, 1) := by decide +kernel
theorem dX1_take_0 : decode cX1_take 0 = .ok (.iconst 0, 1) := by decide +kernel
theorem dX1_take_1 : decode cX1_take 1 = .ok (.istore_n 2, 1) := by decide +kernel
theorem dX1_take_2 : decode cX1_take 2 = .ok (.iconst 0, 1) := by decide +kernel
theorem dX1_take_3 : decode cX1_take 3 = .ok (.istore_n 3, 1) := by decide +kernel
theorem dX1_take_4 : decode cX1_take 4 = .ok (.iload_n 3, 1) := by decide +kernel
theorem dX1_take_5 : decode cX1_take 5 = .ok (.iload_n 1, 1) := by decide +kernel
theorem dX1_take_6 : decode cX1_take 6 = .ok (.if_icmp .ge 67, 3) := by decide +kernel
theorem dX1_take_9 : decode cX1_take 9 = .ok (.iconst 2, 1) := by decide +kernel
theorem dX1_take_10 : decode cX1_take 10 = .ok (.iload_n 2, 1) := by decide +kernel
theorem dX1_take_11 : decode cX1_take 11 = .ok (.imul, 1) := by decide +kernel
theorem dX1_take_12 : decode cX1_take 12 = .ok (.aload_n 0, 1) := by decide +kernel
theorem dX1_take_13 : decode cX1_take 13 = .ok (.getfield 19, 3) := by decide +kernel
theorem dX1_take_16 : decode cX1_take 16 = .ok (.bipush 8, 2) := by decide +kernel
theorem dX1_take_18 : decode cX1_take 18 = .ok (.aload_n 0, 1) := by decide +kernel
theorem dX1_take_19 : decode cX1_take 19 = .ok (.getfield 15, 3) := by decide +kernel
theorem dX1_take_22 : decode cX1_take 22 = .ok (.imul, 1) := by decide +kernel
theorem dX1_take_23 : decode cX1_take 23 = .ok (.if_icmp .ge 31, 3) := by decide +kernel
theorem dX1_take_26 : decode cX1_take 26 = .ok (.aload_n 0, 1) := by decide +kernel
theorem dX1_take_27 : decode cX1_take 27 = .ok (.getfield 9, 3) := by decide +kernel
theorem dX1_take_30 : decode cX1_take 30 = .ok (.aload_n 0, 1) := by decide +kernel
theorem dX1_take_31 : decode cX1_take 31 = .ok (.getfield 19, 3) := by decide +kernel
theorem dX1_take_34 : decode cX1_take 34 = .ok (.bipush 8, 2) := by decide +kernel
theorem dX1_take_36 : decode cX1_take 36 = .ok (.idiv, 1) := by decide +kernel
theorem dX1_take_37 : decode cX1_take 37 = .ok (.iaload, 1) := by decide +kernel
theorem dX1_take_38 : decode cX1_take 38 = .ok (.bipush 7, 2) := by decide +kernel
theorem dX1_take_40 : decode cX1_take 40 = .ok (.aload_n 0, 1) := by decide +kernel
theorem dX1_take_41 : decode cX1_take 41 = .ok (.getfield 19, 3) := by decide +kernel
theorem dX1_take_44 : decode cX1_take 44 = .ok (.bipush 8, 2) := by decide +kernel
theorem dX1_take_46 : decode cX1_take 46 = .ok (.irem, 1) := by decide +kernel
theorem dX1_take_47 : decode cX1_take 47 = .ok (.isub, 1) := by decide +kernel
theorem dX1_take_48 : decode cX1_take 48 = .ok (.ishr, 1) := by decide +kernel
theorem dX1_take_49 : decode cX1_take 49 = .ok (.iconst 1, 1) := by decide +kernel
theorem dX1_take_50 : decode cX1_take 50 = .ok (.iand, 1) := by decide +kernel
theorem dX1_take_51 : decode cX1_take 51 = .ok (.goto 4, 3) := by decide +kernel
theorem dX1_take_54 : decode cX1_take 54 = .ok (.iconst 0, 1) := by decide +kernel
theorem dX1_take_55 : decode cX1_take 55 = .ok (.iadd, 1) := by decide +kernel
theorem dX1_take_56 : decode cX1_take 56 = .ok (.istore_n 2, 1) := by decide +kernel
theorem dX1_take_57 : decode cX1_take 57 = .ok (.aload_n 0, 1) := by decide +kernel
theorem dX1_take_58 : decode cX1_take 58 = .ok (.dup, 1) := by decide +kernel
theorem dX1_take_59 : decode cX1_take 59 = .ok (.getfield 19, 3) := by decide +kernel
theorem dX1_take_62 : decode cX1_take 62 = .ok (.iconst 1, 1) := by decide +kernel
theorem dX1_take_63 : decode cX1_take 63 = .ok (.iadd, 1) := by decide +kernel
theorem dX1_take_64 : decode cX1_take 64 = .ok (.putfield 19, 3) := by decide +kernel
theorem dX1_take_67 : decode cX1_take 67 = .ok (.iinc 3 1, 3) := by decide +kernel
theorem dX1_take_70 : decode cX1_take 70 = .ok (.goto (-66), 3) := by decide +kernel
theorem dX1_take_73 : decode cX1_take 73 = .ok (.iload_n 2, 1) := by decide +kernel
theorem dX1_take_74 : decode cX1_take 74 = .ok (.ireturn, 1) := by decide +kernel
theorem dX1_turnRound_0 : decode cX1_turnRound 0 = .ok (.iload_n 1, 1) := by decide +kernel
theorem dX1_turnRound_1 : decode cX1_turnRound 1 = .ok (.ifCond .lt 35, 3) := by decide +kernel
theorem dX1_turnRound_4 : decode cX1_turnRound 4 = .ok (.iload_n 1, 1) := by decide +kernel
theorem dX1_turnRound_5 : decode cX1_turnRound 5 = .ok (.bipush 8, 2) := by decide +kernel
theorem dX1_turnRound_7 : decode cX1_turnRound 7 = .ok (.aload_n 0, 1) := by decide +kernel
theorem dX1_turnRound_8 : decode cX1_turnRound 8 = .ok (.getfield 15, 3) := by decide +kernel
theorem dX1_turnRound_11 : decode cX1_turnRound 11 = .ok (.imul, 1) := by decide +kernel
theorem dX1_turnRound_12 : decode cX1_turnRound 12 = .ok (.if_icmp .ge 24, 3) := by decide +kernel
theorem dX1_turnRound_15 : decode cX1_turnRound 15 = .ok (.aload_n 0, 1) := by decide +kernel
theorem dX1_turnRound_16 : decode cX1_turnRound 16 = .ok (.getfield 9, 3) := by decide +kernel
theorem dX1_turnRound_19 : decode cX1_turnRound 19 = .ok (.iload_n 1, 1) := by decide +kernel
theorem dX1_turnRound_20 : decode cX1_turnRound 20 = .ok (.bipush 8, 2) := by decide +kernel
theorem dX1_turnRound_22 : decode cX1_turnRound 22 = .ok (.idiv, 1) := by decide +kernel
theorem dX1_turnRound_23 : decode cX1_turnRound 23 = .ok (.dup2, 1) := by decide +kernel
theorem dX1_turnRound_24 : decode cX1_turnRound 24 = .ok (.iaload, 1) := by decide +kernel
theorem dX1_turnRound_25 : decode cX1_turnRound 25 = .ok (.iconst 1, 1) := by decide +kernel
theorem dX1_turnRound_26 : decode cX1_turnRound 26 = .ok (.bipush 7, 2) := by decide +kernel
theorem dX1_turnRound_28 : decode cX1_turnRound 28 = .ok (.iload_n 1, 1) := by decide +kernel
theorem dX1_turnRound_29 : decode cX1_turnRound 29 = .ok (.bipush 8, 2) := by decide +kernel
theorem dX1_turnRound_31 : decode cX1_turnRound 31 = .ok (.irem, 1) := by decide +kernel
theorem dX1_turnRound_32 : decode cX1_turnRound 32 = .ok (.isub, 1) := by decide +kernel
theorem dX1_turnRound_33 : decode cX1_turnRound 33 = .ok (.ishl, 1) := by decide +kernel
theorem dX1_turnRound_34 : decode cX1_turnRound 34 = .ok (.ixor, 1) := by decide +kernel
theorem dX1_turnRound_35 : decode cX1_turnRound 35 = .ok (.iastore, 1) := by decide +kernel
theorem dX1_turnRound_36 : decode cX1_turnRound 36 = .ok (.return_, 1) := by decide +kernel
theorem dX1_check_0 : decode cX1_check 0 = .ok (.bipush 15, 2) := by decide +kernel
theorem dX1_check_2 : decode cX1_check 2 = .ok (.istore_n 1, 1) := by decide +kernel
theorem dX1_check_3 : decode cX1_check 3 = .ok (.iconst 1, 1) := by decide +kernel
theorem dX1_check_4 : decode cX1_check 4 = .ok (.istore_n 2, 1) := by decide +kernel
theorem dX1_check_5 : decode cX1_check 5 = .ok (.iload_n 2, 1) := by decide +kernel
theorem dX1_check_6 : decode cX1_check 6 = .ok (.aload_n 0, 1) := by decide +kernel
theorem dX1_check_7 : decode cX1_check 7 = .ok (.getfield 15, 3) := by decide +kernel
theorem dX1_check_10 : decode cX1_check 10 = .ok (.if_icmp .ge 61, 3) := by decide +kernel
theorem dX1_check_13 : decode cX1_check 13 = .ok (.iload_n 2, 1) := by decide +kernel
theorem dX1_check_14 : decode cX1_check 14 = .ok (.iconst 3, 1) := by decide +kernel
theorem dX1_check_15 : decode cX1_check 15 = .ok (.if_icmp .ne 6, 3) := by decide +kernel
theorem dX1_check_18 : decode cX1_check 18 = .ok (.goto 47, 3) := by decide +kernel
theorem dX1_check_21 : decode cX1_check 21 = .ok (.bipush 7, 2) := by decide +kernel
theorem dX1_check_23 : decode cX1_check 23 = .ok (.istore_n 3, 1) := by decide +kernel
theorem dX1_check_24 : decode cX1_check 24 = .ok (.iload_n 3, 1) := by decide +kernel
theorem dX1_check_25 : decode cX1_check 25 = .ok (.ifCond .lt 40, 3) := by decide +kernel
theorem dX1_check_28 : decode cX1_check 28 = .ok (.iload_n 1, 1) := by decide +kernel
theorem dX1_check_29 : decode cX1_check 29 = .ok (.bipush 7, 2) := by decide +kernel
theorem dX1_check_31 : decode cX1_check 31 = .ok (.ishr, 1) := by decide +kernel
theorem dX1_check_32 : decode cX1_check 32 = .ok (.aload_n 0, 1) := by decide +kernel
theorem dX1_check_33 : decode cX1_check 33 = .ok (.getfield 9, 3) := by decide +kernel
theorem dX1_check_36 : decode cX1_check 36 = .ok (.iload_n 2, 1) := by decide +kernel
theorem dX1_check_37 : decode cX1_check 37 = .ok (.iaload, 1) := by decide +kernel
theorem dX1_check_38 : decode cX1_check 38 = .ok (.iload_n 3, 1) := by decide +kernel
theorem dX1_check_39 : decode cX1_check 39 = .ok (.ishr, 1) := by decide +kernel
theorem dX1_check_40 : decode cX1_check 40 = .ok (.ixor, 1) := by decide +kernel
theorem dX1_check_41 : decode cX1_check 41 = .ok (.iconst 1, 1) := by decide +kernel
theorem dX1_check_42 : decode cX1_check 42 = .ok (.iand, 1) := by decide +kernel
theorem dX1_check_43 : decode cX1_check 43 = .ok (.istore 4, 2) := by decide +kernel
theorem dX1_check_45 : decode cX1_check 45 = .ok (.iconst 2, 1) := by decide +kernel
theorem dX1_check_46 : decode cX1_check 46 = .ok (.iload_n 1, 1) := by decide +kernel
theorem dX1_check_47 : decode cX1_check 47 = .ok (.imul, 1) := by decide +kernel
theorem dX1_check_48 : decode cX1_check 48 = .ok (.bipush 29, 2) := by decide +kernel
theorem dX1_check_50 : decode cX1_check 50 = .ok (.iload 4, 2) := by decide +kernel
theorem dX1_check_52 : decode cX1_check 52 = .ok (.imul, 1) := by decide +kernel
theorem dX1_check_53 : decode cX1_check 53 = .ok (.ixor, 1) := by decide +kernel
theorem dX1_check_54 : decode cX1_check 54 = .ok (.sipush 255, 3) := by decide +kernel
theorem dX1_check_57 : decode cX1_check 57 = .ok (.iand, 1) := by decide +kernel
theorem dX1_check_58 : decode cX1_check 58 = .ok (.istore_n 1, 1) := by decide +kernel
theorem dX1_check_59 : decode cX1_check 59 = .ok (.iinc 3 (-1), 3) := by decide +kernel
theorem dX1_check_62 : decode cX1_check 62 = .ok (.goto (-38), 3) := by decide +kernel
theorem dX1_check_65 : decode cX1_check 65 = .ok (.iinc 2 1, 3) := by decide +kernel
theorem dX1_check_68 : decode cX1_check 68 = .ok (.goto (-63), 3) := by decide +kernel
theorem dX1_check_71 : decode cX1_check 71 = .ok (.iload_n 1, 1) := by decide +kernel
theorem dX1_check_72 : decode cX1_check 72 = .ok (.ireturn, 1) := by decide +kernel
theorem dX1_look_0 : decode cX1_look 0 = .ok (.aload_n 0, 1) := by decide +kernel
theorem dX1_look_1 : decode cX1_look 1 = .ok (.getfield 9, 3) := by decide +kernel
theorem dX1_look_4 : decode cX1_look 4 = .ok (.iconst 0, 1) := by decide +kernel
theorem dX1_look_5 : decode cX1_look 5 = .ok (.iaload, 1) := by decide +kernel
theorem dX1_look_6 : decode cX1_look 6 = .ok (.sipush 156, 3) := by decide +kernel
theorem dX1_look_9 : decode cX1_look 9 = .ok (.if_icmp .eq 5, 3) := by decide +kernel
theorem dX1_look_12 : decode cX1_look 12 = .ok (.iconst 0, 1) := by decide +kernel
theorem dX1_look_13 : decode cX1_look 13 = .ok (.ireturn, 1) := by decide +kernel
theorem dX1_look_14 : decode cX1_look 14 = .ok (.aload_n 0, 1) := by decide +kernel
theorem dX1_look_15 : decode cX1_look 15 = .ok (.getfield 9, 3) := by decide +kernel
theorem dX1_look_18 : decode cX1_look 18 = .ok (.iconst 3, 1) := by decide +kernel
theorem dX1_look_19 : decode cX1_look 19 = .ok (.iaload, 1) := by decide +kernel
theorem dX1_look_20 : decode cX1_look 20 = .ok (.aload_n 0, 1) := by decide +kernel
theorem dX1_look_21 : decode cX1_look 21 = .ok (.invokevirtual 74, 3) := by decide +kernel
theorem dX1_look_24 : decode cX1_look 24 = .ok (.if_icmp .ne 7, 3) := by decide +kernel
theorem dX1_look_27 : decode cX1_look 27 = .ok (.iconst 2, 1) := by decide +kernel
theorem dX1_look_28 : decode cX1_look 28 = .ok (.goto 4, 3) := by decide +kernel
theorem dX1_look_31 : decode cX1_look 31 = .ok (.iconst 1, 1) := by decide +kernel
theorem dX1_look_32 : decode cX1_look 32 = .ok (.ireturn, 1) := by decide +kernel
theorem dX2_init_0 : decode cX2_init 0 = .ok (.aload_n 0, 1) := by decide +kernel
theorem dX2_init_1 : decode cX2_init 1 = .ok (.invokespecial 3, 3) := by decide +kernel
theorem dX2_init_4 : decode cX2_init 4 = .ok (.aload_n 0, 1) := by decide +kernel
theorem dX2_init_5 : decode cX2_init 5 = .ok (.iconst 2, 1) := by decide +kernel
theorem dX2_init_6 : decode cX2_init 6 = .ok (.anewarray 9, 3) := by decide +kernel
theorem dX2_init_9 : decode cX2_init 9 = .ok (.dup, 1) := by decide +kernel
theorem dX2_init_10 : decode cX2_init 10 = .ok (.iconst 0, 1) := by decide +kernel
theorem dX2_init_11 : decode cX2_init 11 = .ok (.new 9, 3) := by decide +kernel
theorem dX2_init_14 : decode cX2_init 14 = .ok (.dup, 1) := by decide +kernel
theorem dX2_init_15 : decode cX2_init 15 = .ok (.invokespecial 11, 3) := by decide +kernel
theorem dX2_init_18 : decode cX2_init 18 = .ok (.aastore, 1) := by decide +kernel
theorem dX2_init_19 : decode cX2_init 19 = .ok (.dup, 1) := by decide +kernel
theorem dX2_init_20 : decode cX2_init 20 = .ok (.iconst 1, 1) := by decide +kernel
theorem dX2_init_21 : decode cX2_init 21 = .ok (.new 9, 3) := by decide +kernel
theorem dX2_init_24 : decode cX2_init 24 = .ok (.dup, 1) := by decide +kernel
theorem dX2_init_25 : decode cX2_init 25 = .ok (.invokespecial 11, 3) := by decide +kernel
theorem dX2_init_28 : decode cX2_init 28 = .ok (.aastore, 1) := by decide +kernel
theorem dX2_init_29 : decode cX2_init 29 = .ok (.putfield 12, 3) := by decide +kernel
theorem dX2_init_32 : decode cX2_init 32 = .ok (.aload_n 0, 1) := by decide +kernel
theorem dX2_init_33 : decode cX2_init 33 = .ok (.bipush 32, 2) := by decide +kernel
theorem dX2_init_35 : decode cX2_init 35 = .ok (.newarray .int, 2) := by decide +kernel
theorem dX2_init_37 : decode cX2_init 37 = .ok (.putfield 18, 3) := by decide +kernel
theorem dX2_init_40 : decode cX2_init 40 = .ok (.aload_n 0, 1) := by decide +kernel
theorem dX2_init_41 : decode cX2_init 41 = .ok (.new 22, 3) := by decide +kernel
theorem dX2_init_44 : decode cX2_init 44 = .ok (.dup, 1) := by decide +kernel
theorem dX2_init_45 : decode cX2_init 45 = .ok (.invokespecial 24, 3) := by decide +kernel
theorem dX2_init_48 : decode cX2_init 48 = .ok (.putfield 25, 3) := by decide +kernel
theorem dX2_init_51 : decode cX2_init 51 = .ok (.aload_n 0, 1) := by decide +kernel
theorem dX2_init_52 : decode cX2_init 52 = .ok (.new 29, 3) := by decide +kernel
theorem dX2_init_55 : decode cX2_init 55 = .ok (.dup, 1) := by decide +kernel
theorem dX2_init_56 : decode cX2_init 56 = .ok (.invokespecial 31, 3) := by decide +kernel
theorem dX2_init_59 : decode cX2_init 59 = .ok (.putfield 32, 3) := by decide +kernel
theorem dX2_init_62 : decode cX2_init 62 = .ok (.aload_n 0, 1) := by decide +kernel
theorem dX2_init_63 : decode cX2_init 63 = .ok (.aload_n 1, 1) := by decide +kernel
theorem dX2_init_64 : decode cX2_init 64 = .ok (.putfield 36, 3) := by decide +kernel
theorem dX2_init_67 : decode cX2_init 67 = .ok (.return_, 1) := by decide +kernel
theorem dX2_clear_0 : decode cX2_clear 0 = .ok (.aload_n 0, 1) := by decide +kernel
theorem dX2_clear_1 : decode cX2_clear 1 = .ok (.getfield 12, 3) := by decide +kernel
theorem dX2_clear_4 : decode cX2_clear 4 = .ok (.iconst 0, 1) := by decide +kernel
theorem dX2_clear_5 : decode cX2_clear 5 = .ok (.aaload, 1) := by decide +kernel
theorem dX2_clear_6 : decode cX2_clear 6 = .ok (.invokevirtual 39, 3) := by decide +kernel
theorem dX2_clear_9 : decode cX2_clear 9 = .ok (.aload_n 0, 1) := by decide +kernel
theorem dX2_clear_10 : decode cX2_clear 10 = .ok (.getfield 12, 3) := by decide +kernel
theorem dX2_clear_13 : decode cX2_clear 13 = .ok (.iconst 1, 1) := by decide +kernel
theorem dX2_clear_14 : decode cX2_clear 14 = .ok (.aaload, 1) := by decide +kernel
theorem dX2_clear_15 : decode cX2_clear 15 = .ok (.invokevirtual 39, 3) := by decide +kernel
theorem dX2_clear_18 : decode cX2_clear 18 = .ok (.return_, 1) := by decide +kernel
theorem dX2_become_0 : decode cX2_become 0 = .ok (.aload_n 0, 1) := by decide +kernel
theorem dX2_become_1 : decode cX2_become 1 = .ok (.getfield 12, 3) := by decide +kernel
theorem dX2_become_4 : decode cX2_become 4 = .ok (.iconst 0, 1) := by decide +kernel
theorem dX2_become_5 : decode cX2_become 5 = .ok (.aaload, 1) := by decide +kernel
theorem dX2_become_6 : decode cX2_become 6 = .ok (.aload_n 1, 1) := by decide +kernel
theorem dX2_become_7 : decode cX2_become 7 = .ok (.getfield 12, 3) := by decide +kernel
theorem dX2_become_10 : decode cX2_become 10 = .ok (.iconst 0, 1) := by decide +kernel
theorem dX2_become_11 : decode cX2_become 11 = .ok (.aaload, 1) := by decide +kernel
theorem dX2_become_12 : decode cX2_become 12 = .ok (.invokevirtual 42, 3) := by decide +kernel
theorem dX2_become_15 : decode cX2_become 15 = .ok (.aload_n 0, 1) := by decide +kernel
theorem dX2_become_16 : decode cX2_become 16 = .ok (.getfield 12, 3) := by decide +kernel
theorem dX2_become_19 : decode cX2_become 19 = .ok (.iconst 1, 1) := by decide +kernel
theorem dX2_become_20 : decode cX2_become 20 = .ok (.aaload, 1) := by decide +kernel
theorem dX2_become_21 : decode cX2_become 21 = .ok (.aload_n 1, 1) := by decide +kernel
theorem dX2_become_22 : decode cX2_become 22 = .ok (.getfield 12, 3) := by decide +kernel
theorem dX2_become_25 : decode cX2_become 25 = .ok (.iconst 1, 1) := by decide +kernel
theorem dX2_become_26 : decode cX2_become 26 = .ok (.aaload, 1) := by decide +kernel
theorem dX2_become_27 : decode cX2_become 27 = .ok (.invokevirtual 42, 3) := by decide +kernel
theorem dX2_become_30 : decode cX2_become 30 = .ok (.aload_n 0, 1) := by decide +kernel
theorem dX2_become_31 : decode cX2_become 31 = .ok (.getfield 25, 3) := by decide +kernel
theorem dX2_become_34 : decode cX2_become 34 = .ok (.aload_n 1, 1) := by decide +kernel
theorem dX2_become_35 : decode cX2_become 35 = .ok (.getfield 25, 3) := by decide +kernel
theorem dX2_become_38 : decode cX2_become 38 = .ok (.invokevirtual 46, 3) := by decide +kernel
theorem dX2_become_41 : decode cX2_become 41 = .ok (.aload_n 0, 1) := by decide +kernel
theorem dX2_become_42 : decode cX2_become 42 = .ok (.getfield 32, 3) := by decide +kernel
theorem dX2_become_45 : decode cX2_become 45 = .ok (.aload_n 1, 1) := by decide +kernel
theorem dX2_become_46 : decode cX2_become 46 = .ok (.getfield 32, 3) := by decide +kernel
theorem dX2_become_49 : decode cX2_become 49 = .ok (.invokevirtual 49, 3) := by decide +kernel
theorem dX2_become_52 : decode cX2_become 52 = .ok (.return_, 1) := by decide +kernel
theorem dX2_codeFrame_0 : decode cX2_codeFrame 0 = .ok (.iconst 0, 1) := by decide +kernel
theorem dX2_codeFrame_1 : decode cX2_codeFrame 1 = .ok (.istore_n 2, 1) := by decide +kernel
theorem dX2_codeFrame_2 : decode cX2_codeFrame 2 = .ok (.iload_n 2, 1) := by decide +kernel
theorem dX2_codeFrame_3 : decode cX2_codeFrame 3 = .ok (.iconst 2, 1) := by decide +kernel
theorem dX2_codeFrame_4 : decode cX2_codeFrame 4 = .ok (.if_icmp .ge 89, 3) := by decide +kernel
theorem dX2_codeFrame_7 : decode cX2_codeFrame 7 = .ok (.iconst 0, 1) := by decide +kernel
theorem dX2_codeFrame_8 : decode cX2_codeFrame 8 = .ok (.istore_n 3, 1) := by decide +kernel
theorem dX2_codeFrame_9 : decode cX2_codeFrame 9 = .ok (.iload_n 3, 1) := by decide +kernel
theorem dX2_codeFrame_10 : decode cX2_codeFrame 10 = .ok (.bipush 32, 2) := by decide +kernel
theorem dX2_codeFrame_12 : decode cX2_codeFrame 12 = .ok (.if_icmp .ge 29, 3) := by decide +kernel
theorem dX2_codeFrame_15 : decode cX2_codeFrame 15 = .ok (.aload_n 0, 1) := by decide +kernel
theorem dX2_codeFrame_16 : decode cX2_codeFrame 16 = .ok (.getfield 18, 3) := by decide +kernel
theorem dX2_codeFrame_19 : decode cX2_codeFrame 19 = .ok (.iload_n 3, 1) := by decide +kernel
theorem dX2_codeFrame_20 : decode cX2_codeFrame 20 = .ok (.aload_n 0, 1) := by decide +kernel
theorem dX2_codeFrame_21 : decode cX2_codeFrame 21 = .ok (.getfield 36, 3) := by decide +kernel
theorem dX2_codeFrame_24 : decode cX2_codeFrame 24 = .ok (.iload_n 2, 1) := by decide +kernel
theorem dX2_codeFrame_25 : decode cX2_codeFrame 25 = .ok (.bipush 32, 2) := by decide +kernel
theorem dX2_codeFrame_27 : decode cX2_codeFrame 27 = .ok (.iload_n 1, 1) := by decide +kernel
theorem dX2_codeFrame_28 : decode cX2_codeFrame 28 = .ok (.imul, 1) := by decide +kernel
theorem dX2_codeFrame_29 : decode cX2_codeFrame 29 = .ok (.iload_n 3, 1) := by decide +kernel
theorem dX2_codeFrame_30 : decode cX2_codeFrame 30 = .ok (.iadd, 1) := by decide +kernel
theorem dX2_codeFrame_31 : decode cX2_codeFrame 31 = .ok (.invokestatic 52, 3) := by decide +kernel
theorem dX2_codeFrame_34 : decode cX2_codeFrame 34 = .ok (.iastore, 1) := by decide +kernel
theorem dX2_codeFrame_35 : decode cX2_codeFrame 35 = .ok (.iinc 3 1, 3) := by decide +kernel
theorem dX2_codeFrame_38 : decode cX2_codeFrame 38 = .ok (.goto (-29), 3) := by decide +kernel
theorem dX2_codeFrame_41 : decode cX2_codeFrame 41 = .ok (.iconst 0, 1) := by decide +kernel
theorem dX2_codeFrame_42 : decode cX2_codeFrame 42 = .ok (.istore_n 3, 1) := by decide +kernel
theorem dX2_codeFrame_43 : decode cX2_codeFrame 43 = .ok (.iload_n 3, 1) := by decide +kernel
theorem dX2_codeFrame_44 : decode cX2_codeFrame 44 = .ok (.iconst 4, 1) := by decide +kernel
theorem dX2_codeFrame_45 : decode cX2_codeFrame 45 = .ok (.if_icmp .ge 42, 3) := by decide +kernel
theorem dX2_codeFrame_48 : decode cX2_codeFrame 48 = .ok (.aload_n 0, 1) := by decide +kernel
theorem dX2_codeFrame_49 : decode cX2_codeFrame 49 = .ok (.getfield 12, 3) := by decide +kernel
theorem dX2_codeFrame_52 : decode cX2_codeFrame 52 = .ok (.iload_n 2, 1) := by decide +kernel
theorem dX2_codeFrame_53 : decode cX2_codeFrame 53 = .ok (.aaload, 1) := by decide +kernel
theorem dX2_codeFrame_54 : decode cX2_codeFrame 54 = .ok (.aload_n 0, 1) := by decide +kernel
theorem dX2_codeFrame_55 : decode cX2_codeFrame 55 = .ok (.getfield 18, 3) := by decide +kernel
theorem dX2_codeFrame_58 : decode cX2_codeFrame 58 = .ok (.bipush 8, 2) := by decide +kernel
theorem dX2_codeFrame_60 : decode cX2_codeFrame 60 = .ok (.iload_n 3, 1) := by decide +kernel
theorem dX2_codeFrame_61 : decode cX2_codeFrame 61 = .ok (.imul, 1) := by decide +kernel
theorem dX2_codeFrame_62 : decode cX2_codeFrame 62 = .ok (.aload_n 0, 1) := by decide +kernel
theorem dX2_codeFrame_63 : decode cX2_codeFrame 63 = .ok (.getfield 25, 3) := by decide +kernel
theorem dX2_codeFrame_66 : decode cX2_codeFrame 66 = .ok (.getfield 56, 3) := by decide +kernel
theorem dX2_codeFrame_69 : decode cX2_codeFrame 69 = .ok (.bipush 16, 2) := by decide +kernel
theorem dX2_codeFrame_71 : decode cX2_codeFrame 71 = .ok (.iload_n 3, 1) := by decide +kernel
theorem dX2_codeFrame_72 : decode cX2_codeFrame 72 = .ok (.imul, 1) := by decide +kernel
theorem dX2_codeFrame_73 : decode cX2_codeFrame 73 = .ok (.bipush 8, 2) := by decide +kernel
theorem dX2_codeFrame_75 : decode cX2_codeFrame 75 = .ok (.iload_n 2, 1) := by decide +kernel
theorem dX2_codeFrame_76 : decode cX2_codeFrame 76 = .ok (.imul, 1) := by decide +kernel
theorem dX2_codeFrame_77 : decode cX2_codeFrame 77 = .ok (.iadd, 1) := by decide +kernel
theorem dX2_codeFrame_78 : decode cX2_codeFrame 78 = .ok (.invokevirtual 59, 3) := by decide +kernel
theorem dX2_codeFrame_81 : decode cX2_codeFrame 81 = .ok (.iinc 3 1, 3) := by decide +kernel
theorem dX2_codeFrame_84 : decode cX2_codeFrame 84 = .ok (.goto (-41), 3) := by decide +kernel
theorem dX2_codeFrame_87 : decode cX2_codeFrame 87 = .ok (.iinc 2 1, 3) := by decide +kernel
theorem dX2_codeFrame_90 : decode cX2_codeFrame 90 = .ok (.goto (-88), 3) := by decide +kernel
theorem dX2_codeFrame_93 : decode cX2_codeFrame 93 = .ok (.aload_n 0, 1) := by decide +kernel
theorem dX2_codeFrame_94 : decode cX2_codeFrame 94 = .ok (.getfield 25, 3) := by decide +kernel
theorem dX2_codeFrame_97 : decode cX2_codeFrame 97 = .ok (.aload_n 0, 1) := by decide +kernel
theorem dX2_codeFrame_98 : decode cX2_codeFrame 98 = .ok (.getfield 36, 3) := by decide +kernel
theorem dX2_codeFrame_101 : decode cX2_codeFrame 101 = .ok (.bipush 23, 2) := by decide +kernel
theorem dX2_codeFrame_103 : decode cX2_codeFrame 103 = .ok (.iaload, 1) := by decide +kernel
theorem dX2_codeFrame_104 : decode cX2_codeFrame 104 = .ok (.invokevirtual 63, 3) := by decide +kernel
theorem dX2_codeFrame_107 : decode cX2_codeFrame 107 = .ok (.aload_n 0, 1) := by decide +kernel
theorem dX2_codeFrame_108 : decode cX2_codeFrame 108 = .ok (.getfield 25, 3) := by decide +kernel
theorem dX2_codeFrame_111 : decode cX2_codeFrame 111 = .ok (.aload_n 0, 1) := by decide +kernel
theorem dX2_codeFrame_112 : decode cX2_codeFrame 112 = .ok (.getfield 36, 3) := by decide +kernel
theorem dX2_codeFrame_115 : decode cX2_codeFrame 115 = .ok (.bipush 31, 2) := by decide +kernel
theorem dX2_codeFrame_117 : decode cX2_codeFrame 117 = .ok (.iaload, 1) := by decide +kernel
theorem dX2_codeFrame_118 : decode cX2_codeFrame 118 = .ok (.aload_n 0, 1) := by decide +kernel
theorem dX2_codeFrame_119 : decode cX2_codeFrame 119 = .ok (.getfield 36, 3) := by decide +kernel
theorem dX2_codeFrame_122 : decode cX2_codeFrame 122 = .ok (.bipush 22, 2) := by decide +kernel
theorem dX2_codeFrame_124 : decode cX2_codeFrame 124 = .ok (.iaload, 1) := by decide +kernel
theorem dX2_codeFrame_125 : decode cX2_codeFrame 125 = .ok (.aload_n 0, 1) := by decide +kernel
theorem dX2_codeFrame_126 : decode cX2_codeFrame 126 = .ok (.getfield 36, 3) := by decide +kernel
theorem dX2_codeFrame_129 : decode cX2_codeFrame 129 = .ok (.invokevirtual 67, 3) := by decide +kernel
theorem dX2_codeFrame_132 : decode cX2_codeFrame 132 = .ok (.aload_n 0, 1) := by decide +kernel
theorem dX2_codeFrame_133 : decode cX2_codeFrame 133 = .ok (.getfield 25, 3) := by decide +kernel
theorem dX2_codeFrame_136 : decode cX2_codeFrame 136 = .ok (.invokevirtual 71, 3) := by decide +kernel
theorem dX2_codeFrame_139 : decode cX2_codeFrame 139 = .ok (.aload_n 0, 1) := by decide +kernel
theorem dX2_codeFrame_140 : decode cX2_codeFrame 140 = .ok (.getfield 32, 3) := by decide +kernel
theorem dX2_codeFrame_143 : decode cX2_codeFrame 143 = .ok (.aload_n 0, 1) := by decide +kernel
theorem dX2_codeFrame_144 : decode cX2_codeFrame 144 = .ok (.getfield 25, 3) := by decide +kernel
theorem dX2_codeFrame_147 : decode cX2_codeFrame 147 = .ok (.iload_n 1, 1) := by decide +kernel
theorem dX2_codeFrame_148 : decode cX2_codeFrame 148 = .ok (.aload_n 0, 1) := by decide +kernel
theorem dX2_codeFrame_149 : decode cX2_codeFrame 149 = .ok (.getfield 36, 3) := by decide +kernel
theorem dX2_codeFrame_152 : decode cX2_codeFrame 152 = .ok (.bipush 23, 2) := by decide +kernel
theorem dX2_codeFrame_154 : decode cX2_codeFrame 154 = .ok (.iaload, 1) := by decide +kernel
theorem dX2_codeFrame_155 : decode cX2_codeFrame 155 = .ok (.invokevirtual 74, 3) := by decide +kernel
theorem dX2_codeFrame_158 : decode cX2_codeFrame 158 = .ok (.aload_n 0, 1) := by decide +kernel
theorem dX2_codeFrame_159 : decode cX2_codeFrame 159 = .ok (.getfield 36, 3) := by decide +kernel
theorem dX2_codeFrame_162 : decode cX2_codeFrame 162 = .ok (.iconst 1, 1) := by decide +kernel
theorem dX2_codeFrame_163 : decode cX2_codeFrame 163 = .ok (.dup2, 1) := by decide +kernel
theorem dX2_codeFrame_164 : decode cX2_codeFrame 164 = .ok (.iaload, 1) := by decide +kernel
theorem dX2_codeFrame_165 : decode cX2_codeFrame 165 = .ok (.iconst 1, 1) := by decide +kernel
theorem dX2_codeFrame_166 : decode cX2_codeFrame 166 = .ok (.iadd, 1) := by decide +kernel
theorem dX2_codeFrame_167 : decode cX2_codeFrame 167 = .ok (.iastore, 1) := by decide +kernel
theorem dX2_codeFrame_168 : decode cX2_codeFrame 168 = .ok (.aload_n 0, 1) := by decide +kernel
theorem dX2_codeFrame_169 : decode cX2_codeFrame 169 = .ok (.getfield 36, 3) := by decide +kernel
theorem dX2_codeFrame_172 : decode cX2_codeFrame 172 = .ok (.bipush 19, 2) := by decide +kernel
theorem dX2_codeFrame_174 : decode cX2_codeFrame 174 = .ok (.dup2, 1) := by decide +kernel
theorem dX2_codeFrame_175 : decode cX2_codeFrame 175 = .ok (.iaload, 1) := by decide +kernel
theorem dX2_codeFrame_176 : decode cX2_codeFrame 176 = .ok (.aload_n 0, 1) := by decide +kernel
theorem dX2_codeFrame_177 : decode cX2_codeFrame 177 = .ok (.getfield 32, 3) := by decide +kernel
theorem dX2_codeFrame_180 : decode cX2_codeFrame 180 = .ok (.getfield 78, 3) := by decide +kernel
theorem dX2_codeFrame_183 : decode cX2_codeFrame 183 = .ok (.iadd, 1) := by decide +kernel
theorem dX2_codeFrame_184 : decode cX2_codeFrame 184 = .ok (.iastore, 1) := by decide +kernel
theorem dX2_codeFrame_185 : decode cX2_codeFrame 185 = .ok (.return_, 1) := by decide +kernel
theorem dX2_steer_0 : decode cX2_steer 0 = .ok (.aload_n 0, 1) := by decide +kernel
theorem dX2_steer_1 : decode cX2_steer 1 = .ok (.getfield 36, 3) := by decide +kernel
theorem dX2_steer_4 : decode cX2_steer 4 = .ok (.iconst 1, 1) := by decide +kernel
theorem dX2_steer_5 : decode cX2_steer 5 = .ok (.iaload, 1) := by decide +kernel
theorem dX2_steer_6 : decode cX2_steer 6 = .ok (.bipush 8, 2) := by decide +kernel
theorem dX2_steer_8 : decode cX2_steer 8 = .ok (.irem, 1) := by decide +kernel
theorem dX2_steer_9 : decode cX2_steer 9 = .ok (.ifCond .eq 4, 3) := by decide +kernel
theorem dX2_steer_12 : decode cX2_steer 12 = .ok (.return_, 1) := by decide +kernel
theorem dX2_steer_13 : decode cX2_steer 13 = .ok (.aload_n 0, 1) := by decide +kernel
theorem dX2_steer_14 : decode cX2_steer 14 = .ok (.getfield 36, 3) := by decide +kernel
theorem dX2_steer_17 : decode cX2_steer 17 = .ok (.bipush 29, 2) := by decide +kernel
theorem dX2_steer_19 : decode cX2_steer 19 = .ok (.iaload, 1) := by decide +kernel
theorem dX2_steer_20 : decode cX2_steer 20 = .ok (.iconst 1, 1) := by decide +kernel
theorem dX2_steer_21 : decode cX2_steer 21 = .ok (.if_icmp .ne 64, 3) := by decide +kernel
theorem dX2_steer_24 : decode cX2_steer 24 = .ok (.aload_n 0, 1) := by decide +kernel
theorem dX2_steer_25 : decode cX2_steer 25 = .ok (.getfield 36, 3) := by decide +kernel
theorem dX2_steer_28 : decode cX2_steer 28 = .ok (.bipush 31, 2) := by decide +kernel
theorem dX2_steer_30 : decode cX2_steer 30 = .ok (.iaload, 1) := by decide +kernel
theorem dX2_steer_31 : decode cX2_steer 31 = .ok (.istore_n 1, 1) := by decide +kernel
theorem dX2_steer_32 : decode cX2_steer 32 = .ok (.aload_n 0, 1) := by decide +kernel
theorem dX2_steer_33 : decode cX2_steer 33 = .ok (.getfield 36, 3) := by decide +kernel
theorem dX2_steer_36 : decode cX2_steer 36 = .ok (.bipush 38, 2) := by decide +kernel
theorem dX2_steer_38 : decode cX2_steer 38 = .ok (.iaload, 1) := by decide +kernel
theorem dX2_steer_39 : decode cX2_steer 39 = .ok (.iconst 1, 1) := by decide +kernel
theorem dX2_steer_40 : decode cX2_steer 40 = .ok (.if_icmp .ne 7, 3) := by decide +kernel
theorem dX2_steer_43 : decode cX2_steer 43 = .ok (.iconst 1, 1) := by decide +kernel
theorem dX2_steer_44 : decode cX2_steer 44 = .ok (.goto 4, 3) := by decide +kernel
theorem dX2_steer_47 : decode cX2_steer 47 = .ok (.iconst 0, 1) := by decide +kernel
theorem dX2_steer_48 : decode cX2_steer 48 = .ok (.istore_n 2, 1) := by decide +kernel
theorem dX2_steer_49 : decode cX2_steer 49 = .ok (.aload_n 0, 1) := by decide +kernel
theorem dX2_steer_50 : decode cX2_steer 50 = .ok (.getfield 36, 3) := by decide +kernel
theorem dX2_steer_53 : decode cX2_steer 53 = .ok (.bipush 31, 2) := by decide +kernel
theorem dX2_steer_55 : decode cX2_steer 55 = .ok (.iload_n 2, 1) := by decide +kernel
theorem dX2_steer_56 : decode cX2_steer 56 = .ok (.ifCond .eq 15, 3) := by decide +kernel
theorem dX2_steer_59 : decode cX2_steer 59 = .ok (.iconst 2, 1) := by decide +kernel
theorem dX2_steer_60 : decode cX2_steer 60 = .ok (.iload_n 1, 1) := by decide +kernel
theorem dX2_steer_61 : decode cX2_steer 61 = .ok (.iconst 3, 1) := by decide +kernel
theorem dX2_steer_62 : decode cX2_steer 62 = .ok (.imul, 1) := by decide +kernel
theorem dX2_steer_63 : decode cX2_steer 63 = .ok (.iconst 4, 1) := by decide +kernel
theorem dX2_steer_64 : decode cX2_steer 64 = .ok (.idiv, 1) := by decide +kernel
theorem dX2_steer_65 : decode cX2_steer 65 = .ok (.invokestatic 82, 3) := by decide +kernel
theorem dX2_steer_68 : decode cX2_steer 68 = .ok (.goto 16, 3) := by decide +kernel
theorem dX2_steer_71 : decode cX2_steer 71 = .ok (.aload_n 0, 1) := by decide +kernel
theorem dX2_steer_72 : decode cX2_steer 72 = .ok (.getfield 36, 3) := by decide +kernel
theorem dX2_steer_75 : decode cX2_steer 75 = .ok (.bipush 21, 2) := by decide +kernel
theorem dX2_steer_77 : decode cX2_steer 77 = .ok (.iaload, 1) := by decide +kernel
theorem dX2_steer_78 : decode cX2_steer 78 = .ok (.iload_n 1, 1) := by decide +kernel
theorem dX2_steer_79 : decode cX2_steer 79 = .ok (.iconst 2, 1) := by decide +kernel
theorem dX2_steer_80 : decode cX2_steer 80 = .ok (.iadd, 1) := by decide +kernel
theorem dX2_steer_81 : decode cX2_steer 81 = .ok (.invokestatic 88, 3) := by decide +kernel
theorem dX2_steer_84 : decode cX2_steer 84 = .ok (.iastore, 1) := by decide +kernel
theorem dX2_steer_85 : decode cX2_steer 85 = .ok (.aload_n 0, 1) := by decide +kernel
theorem dX2_steer_86 : decode cX2_steer 86 = .ok (.getfield 36, 3) := by decide +kernel
theorem dX2_steer_89 : decode cX2_steer 89 = .ok (.bipush 38, 2) := by decide +kernel
theorem dX2_steer_91 : decode cX2_steer 91 = .ok (.iconst 0, 1) := by decide +kernel
theorem dX2_steer_92 : decode cX2_steer 92 = .ok (.iastore, 1) := by decide +kernel
theorem dX2_steer_93 : decode cX2_steer 93 = .ok (.return_, 1) := by decide +kernel
theorem dX3_init_0 : decode cX3_init 0 = .ok (.aload_n 0, 1) := by decide +kernel
theorem dX3_init_1 : decode cX3_init 1 = .ok (.invokespecial 3, 3) := by decide +kernel
theorem dX3_init_4 : decode cX3_init 4 = .ok (.aload_n 0, 1) := by decide +kernel
theorem dX3_init_5 : decode cX3_init 5 = .ok (.new 9, 3) := by decide +kernel
theorem dX3_init_8 : decode cX3_init 8 = .ok (.dup, 1) := by decide +kernel
theorem dX3_init_9 : decode cX3_init 9 = .ok (.invokespecial 11, 3) := by decide +kernel
theorem dX3_init_12 : decode cX3_init 12 = .ok (.putfield 12, 3) := by decide +kernel
theorem dX3_init_15 : decode cX3_init 15 = .ok (.aload_n 0, 1) := by decide +kernel
theorem dX3_init_16 : decode cX3_init 16 = .ok (.sipush 224, 3) := by decide +kernel
theorem dX3_init_19 : decode cX3_init 19 = .ok (.newarray .int, 2) := by decide +kernel
theorem dX3_init_21 : decode cX3_init 21 = .ok (.putfield 18, 3) := by decide +kernel
theorem dX3_init_24 : decode cX3_init 24 = .ok (.aload_n 0, 1) := by decide +kernel
theorem dX3_init_25 : decode cX3_init 25 = .ok (.bipush 32, 2) := by decide +kernel
theorem dX3_init_27 : decode cX3_init 27 = .ok (.newarray .int, 2) := by decide +kernel
theorem dX3_init_29 : decode cX3_init 29 = .ok (.putfield 22, 3) := by decide +kernel
theorem dX3_init_32 : decode cX3_init 32 = .ok (.aload_n 0, 1) := by decide +kernel
theorem dX3_init_33 : decode cX3_init 33 = .ok (.bipush 32, 2) := by decide +kernel
theorem dX3_init_35 : decode cX3_init 35 = .ok (.newarray .int, 2) := by decide +kernel
theorem dX3_init_37 : decode cX3_init 37 = .ok (.putfield 25, 3) := by decide +kernel
theorem dX3_init_40 : decode cX3_init 40 = .ok (.aload_n 0, 1) := by decide +kernel
theorem dX3_init_41 : decode cX3_init 41 = .ok (.bipush 16, 2) := by decide +kernel
theorem dX3_init_43 : decode cX3_init 43 = .ok (.putfield 28, 3) := by decide +kernel
theorem dX3_init_46 : decode cX3_init 46 = .ok (.aload_n 0, 1) := by decide +kernel
theorem dX3_init_47 : decode cX3_init 47 = .ok (.iconst 0, 1) := by decide +kernel
theorem dX3_init_48 : decode cX3_init 48 = .ok (.putfield 32, 3) := by decide +kernel
theorem dX3_init_51 : decode cX3_init 51 = .ok (.return_, 1) := by decide +kernel
theorem dX3_clear_0 : decode cX3_clear 0 = .ok (.aload_n 0, 1) := by decide +kernel
theorem dX3_clear_1 : decode cX3_clear 1 = .ok (.getfield 12, 3) := by decide +kernel
theorem dX3_clear_4 : decode cX3_clear 4 = .ok (.invokevirtual 35, 3) := by decide +kernel
theorem dX3_clear_7 : decode cX3_clear 7 = .ok (.aload_n 0, 1) := by decide +kernel
theorem dX3_clear_8 : decode cX3_clear 8 = .ok (.getfield 18, 3) := by decide +kernel
theorem dX3_clear_11 : decode cX3_clear 11 = .ok (.iconst 0, 1) := by decide +kernel
theorem dX3_clear_12 : decode cX3_clear 12 = .ok (.invokestatic 38, 3) := by decide +kernel
theorem dX3_clear_15 : decode cX3_clear 15 = .ok (.return_, 1) := by decide +kernel
theorem dX3_become_0 : decode cX3_become 0 = .ok (.aload_n 0, 1) := by decide +kernel
theorem dX3_become_1 : decode cX3_become 1 = .ok (.getfield 12, 3) := by decide +kernel
theorem dX3_become_4 : decode cX3_become 4 = .ok (.aload_n 1, 1) := by decide +kernel
theorem dX3_become_5 : decode cX3_become 5 = .ok (.getfield 12, 3) := by decide +kernel
theorem dX3_become_8 : decode cX3_become 8 = .ok (.invokevirtual 44, 3) := by decide +kernel
theorem dX3_become_11 : decode cX3_become 11 = .ok (.aload_n 1, 1) := by decide +kernel
theorem dX3_become_12 : decode cX3_become 12 = .ok (.getfield 18, 3) := by decide +kernel
theorem dX3_become_15 : decode cX3_become 15 = .ok (.iconst 0, 1) := by decide +kernel
theorem dX3_become_16 : decode cX3_become 16 = .ok (.aload_n 0, 1) := by decide +kernel
theorem dX3_become_17 : decode cX3_become 17 = .ok (.getfield 18, 3) := by decide +kernel
theorem dX3_become_20 : decode cX3_become 20 = .ok (.iconst 0, 1) := by decide +kernel
theorem dX3_become_21 : decode cX3_become 21 = .ok (.sipush 192, 3) := by decide +kernel
theorem dX3_become_24 : decode cX3_become 24 = .ok (.invokestatic 48, 3) := by decide +kernel
theorem dX3_become_27 : decode cX3_become 27 = .ok (.return_, 1) := by decide +kernel
theorem dX3_sampleAgo_0 : decode cX3_sampleAgo 0 = .ok (.aload_n 0, 1) := by decide +kernel
theorem dX3_sampleAgo_1 : decode cX3_sampleAgo 1 = .ok (.getfield 18, 3) := by decide +kernel
theorem dX3_sampleAgo_4 : decode cX3_sampleAgo 4 = .ok (.sipush 191, 3) := by decide +kernel
theorem dX3_sampleAgo_7 : decode cX3_sampleAgo 7 = .ok (.iload_n 1, 1) := by decide +kernel
theorem dX3_sampleAgo_8 : decode cX3_sampleAgo 8 = .ok (.isub, 1) := by decide +kernel
theorem dX3_sampleAgo_9 : decode cX3_sampleAgo 9 = .ok (.iaload, 1) := by decide +kernel
theorem dX3_sampleAgo_10 : decode cX3_sampleAgo 10 = .ok (.ireturn, 1) := by decide +kernel
theorem dX3_makeUp_0 : decode cX3_makeUp 0 = .ok (.aload_n 0, 1) := by decide +kernel
theorem dX3_makeUp_1 : decode cX3_makeUp 1 = .ok (.invokevirtual 54, 3) := by decide +kernel
theorem dX3_makeUp_4 : decode cX3_makeUp 4 = .ok (.iconst 0, 1) := by decide +kernel
theorem dX3_makeUp_5 : decode cX3_makeUp 5 = .ok (.istore_n 2, 1) := by decide +kernel
theorem dX3_makeUp_6 : decode cX3_makeUp 6 = .ok (.iload_n 2, 1) := by decide +kernel
theorem dX3_makeUp_7 : decode cX3_makeUp 7 = .ok (.bipush 32, 2) := by decide +kernel
theorem dX3_makeUp_9 : decode cX3_makeUp 9 = .ok (.if_icmp .ge 54, 3) := by decide +kernel
theorem dX3_makeUp_12 : decode cX3_makeUp 12 = .ok (.aload_n 0, 1) := by decide +kernel
theorem dX3_makeUp_13 : decode cX3_makeUp 13 = .ok (.getfield 18, 3) := by decide +kernel
theorem dX3_makeUp_16 : decode cX3_makeUp 16 = .ok (.sipush 192, 3) := by decide +kernel
theorem dX3_makeUp_19 : decode cX3_makeUp 19 = .ok (.iload_n 2, 1) := by decide +kernel
theorem dX3_makeUp_20 : decode cX3_makeUp 20 = .ok (.iadd, 1) := by decide +kernel
theorem dX3_makeUp_21 : decode cX3_makeUp 21 = .ok (.aload_n 0, 1) := by decide +kernel
theorem dX3_makeUp_22 : decode cX3_makeUp 22 = .ok (.getfield 18, 3) := by decide +kernel
theorem dX3_makeUp_25 : decode cX3_makeUp 25 = .ok (.sipush 192, 3) := by decide +kernel
theorem dX3_makeUp_28 : decode cX3_makeUp 28 = .ok (.iload_n 2, 1) := by decide +kernel
theorem dX3_makeUp_29 : decode cX3_makeUp 29 = .ok (.iadd, 1) := by decide +kernel
theorem dX3_makeUp_30 : decode cX3_makeUp 30 = .ok (.aload_n 0, 1) := by decide +kernel
theorem dX3_makeUp_31 : decode cX3_makeUp 31 = .ok (.getfield 28, 3) := by decide +kernel
theorem dX3_makeUp_34 : decode cX3_makeUp 34 = .ok (.isub, 1) := by decide +kernel
theorem dX3_makeUp_35 : decode cX3_makeUp 35 = .ok (.iaload, 1) := by decide +kernel
theorem dX3_makeUp_36 : decode cX3_makeUp 36 = .ok (.iastore, 1) := by decide +kernel
theorem dX3_makeUp_37 : decode cX3_makeUp 37 = .ok (.aload_n 0, 1) := by decide +kernel
theorem dX3_makeUp_38 : decode cX3_makeUp 38 = .ok (.getfield 22, 3) := by decide +kernel
theorem dX3_makeUp_41 : decode cX3_makeUp 41 = .ok (.iload_n 2, 1) := by decide +kernel
theorem dX3_makeUp_42 : decode cX3_makeUp 42 = .ok (.aload_n 0, 1) := by decide +kernel
theorem dX3_makeUp_43 : decode cX3_makeUp 43 = .ok (.getfield 18, 3) := by decide +kernel
theorem dX3_makeUp_46 : decode cX3_makeUp 46 = .ok (.sipush 192, 3) := by decide +kernel
theorem dX3_makeUp_49 : decode cX3_makeUp 49 = .ok (.iload_n 2, 1) := by decide +kernel
theorem dX3_makeUp_50 : decode cX3_makeUp 50 = .ok (.iadd, 1) := by decide +kernel
theorem dX3_makeUp_51 : decode cX3_makeUp 51 = .ok (.iaload, 1) := by decide +kernel
theorem dX3_makeUp_52 : decode cX3_makeUp 52 = .ok (.iload_n 1, 1) := by decide +kernel
theorem dX3_makeUp_53 : decode cX3_makeUp 53 = .ok (.imul, 1) := by decide +kernel
theorem dX3_makeUp_54 : decode cX3_makeUp 54 = .ok (.iconst 3, 1) := by decide +kernel
theorem dX3_makeUp_55 : decode cX3_makeUp 55 = .ok (.ishr, 1) := by decide +kernel
theorem dX3_makeUp_56 : decode cX3_makeUp 56 = .ok (.iastore, 1) := by decide +kernel
theorem dX3_makeUp_57 : decode cX3_makeUp 57 = .ok (.iinc 2 1, 3) := by decide +kernel
theorem dX3_makeUp_60 : decode cX3_makeUp 60 = .ok (.goto (-54), 3) := by decide +kernel
theorem dX3_makeUp_63 : decode cX3_makeUp 63 = .ok (.return_, 1) := by decide +kernel
theorem dX3_findLag_0 : decode cX3_findLag 0 = .ok (.aload_n 0, 1) := by decide +kernel
theorem dX3_findLag_1 : decode cX3_findLag 1 = .ok (.ldc 57, 2) := by decide +kernel
theorem dX3_findLag_3 : decode cX3_findLag 3 = .ok (.putfield 32, 3) := by decide +kernel
theorem dX3_findLag_6 : decode cX3_findLag 6 = .ok (.bipush 16, 2) := by decide +kernel
theorem dX3_findLag_8 : decode cX3_findLag 8 = .ok (.istore_n 1, 1) := by decide +kernel
theorem dX3_findLag_9 : decode cX3_findLag 9 = .ok (.iload_n 1, 1) := by decide +kernel
theorem dX3_findLag_10 : decode cX3_findLag 10 = .ok (.bipush 120, 2) := by decide +kernel
theorem dX3_findLag_12 : decode cX3_findLag 12 = .ok (.if_icmp .gt 75, 3) := by decide +kernel
theorem dX3_findLag_15 : decode cX3_findLag 15 = .ok (.iconst 0, 1) := by decide +kernel
theorem dX3_findLag_16 : decode cX3_findLag 16 = .ok (.istore_n 2, 1) := by decide +kernel
theorem dX3_findLag_17 : decode cX3_findLag 17 = .ok (.sipush 160, 3) := by decide +kernel
theorem dX3_findLag_20 : decode cX3_findLag 20 = .ok (.istore_n 3, 1) := by decide +kernel
theorem dX3_findLag_21 : decode cX3_findLag 21 = .ok (.iload_n 3, 1) := by decide +kernel
theorem dX3_findLag_22 : decode cX3_findLag 22 = .ok (.sipush 192, 3) := by decide +kernel
theorem dX3_findLag_25 : decode cX3_findLag 25 = .ok (.if_icmp .ge 38, 3) := by decide +kernel
theorem dX3_findLag_28 : decode cX3_findLag 28 = .ok (.iload_n 2, 1) := by decide +kernel
theorem dX3_findLag_29 : decode cX3_findLag 29 = .ok (.aload_n 0, 1) := by decide +kernel
theorem dX3_findLag_30 : decode cX3_findLag 30 = .ok (.getfield 32, 3) := by decide +kernel
theorem dX3_findLag_33 : decode cX3_findLag 33 = .ok (.if_icmp .ge 30, 3) := by decide +kernel
theorem dX3_findLag_36 : decode cX3_findLag 36 = .ok (.iload_n 2, 1) := by decide +kernel
theorem dX3_findLag_37 : decode cX3_findLag 37 = .ok (.aload_n 0, 1) := by decide +kernel
theorem dX3_findLag_38 : decode cX3_findLag 38 = .ok (.getfield 18, 3) := by decide +kernel
theorem dX3_findLag_41 : decode cX3_findLag 41 = .ok (.iload_n 3, 1) := by decide +kernel
theorem dX3_findLag_42 : decode cX3_findLag 42 = .ok (.iaload, 1) := by decide +kernel
theorem dX3_findLag_43 : decode cX3_findLag 43 = .ok (.aload_n 0, 1) := by decide +kernel
theorem dX3_findLag_44 : decode cX3_findLag 44 = .ok (.getfield 18, 3) := by decide +kernel
theorem dX3_findLag_47 : decode cX3_findLag 47 = .ok (.iload_n 3, 1) := by decide +kernel
theorem dX3_findLag_48 : decode cX3_findLag 48 = .ok (.iload_n 1, 1) := by decide +kernel
theorem dX3_findLag_49 : decode cX3_findLag 49 = .ok (.isub, 1) := by decide +kernel
theorem dX3_findLag_50 : decode cX3_findLag 50 = .ok (.iaload, 1) := by decide +kernel
theorem dX3_findLag_51 : decode cX3_findLag 51 = .ok (.isub, 1) := by decide +kernel
theorem dX3_findLag_52 : decode cX3_findLag 52 = .ok (.invokestatic 58, 3) := by decide +kernel
theorem dX3_findLag_55 : decode cX3_findLag 55 = .ok (.iadd, 1) := by decide +kernel
theorem dX3_findLag_56 : decode cX3_findLag 56 = .ok (.istore_n 2, 1) := by decide +kernel
theorem dX3_findLag_57 : decode cX3_findLag 57 = .ok (.iinc 3 1, 3) := by decide +kernel
theorem dX3_findLag_60 : decode cX3_findLag 60 = .ok (.goto (-39), 3) := by decide +kernel
theorem dX3_findLag_63 : decode cX3_findLag 63 = .ok (.iload_n 2, 1) := by decide +kernel
theorem dX3_findLag_64 : decode cX3_findLag 64 = .ok (.aload_n 0, 1) := by decide +kernel
theorem dX3_findLag_65 : decode cX3_findLag 65 = .ok (.getfield 32, 3) := by decide +kernel
theorem dX3_findLag_68 : decode cX3_findLag 68 = .ok (.if_icmp .ge 13, 3) := by decide +kernel
theorem dX3_findLag_71 : decode cX3_findLag 71 = .ok (.aload_n 0, 1) := by decide +kernel
theorem dX3_findLag_72 : decode cX3_findLag 72 = .ok (.iload_n 1, 1) := by decide +kernel
theorem dX3_findLag_73 : decode cX3_findLag 73 = .ok (.putfield 28, 3) := by decide +kernel
theorem dX3_findLag_76 : decode cX3_findLag 76 = .ok (.aload_n 0, 1) := by decide +kernel
theorem dX3_findLag_77 : decode cX3_findLag 77 = .ok (.iload_n 2, 1) := by decide +kernel
theorem dX3_findLag_78 : decode cX3_findLag 78 = .ok (.putfield 32, 3) := by decide +kernel
theorem dX3_findLag_81 : decode cX3_findLag 81 = .ok (.iinc 1 1, 3) := by decide +kernel
theorem dX3_findLag_84 : decode cX3_findLag 84 = .ok (.goto (-75), 3) := by decide +kernel
theorem dX3_findLag_87 : decode cX3_findLag 87 = .ok (.return_, 1) := by decide +kernel
theorem dX3_hearBands_0 : decode cX3_hearBands 0 = .ok (.iconst 0, 1) := by decide +kernel
theorem dX3_hearBands_1 : decode cX3_hearBands 1 = .ok (.istore_n 3, 1) := by decide +kernel
theorem dX3_hearBands_2 : decode cX3_hearBands 2 = .ok (.iload_n 3, 1) := by decide +kernel
theorem dX3_hearBands_3 : decode cX3_hearBands 3 = .ok (.iconst 4, 1) := by decide +kernel
theorem dX3_hearBands_4 : decode cX3_hearBands 4 = .ok (.if_icmp .ge 34, 3) := by decide +kernel
theorem dX3_hearBands_7 : decode cX3_hearBands 7 = .ok (.aload_n 0, 1) := by decide +kernel
theorem dX3_hearBands_8 : decode cX3_hearBands 8 = .ok (.getfield 12, 3) := by decide +kernel
theorem dX3_hearBands_11 : decode cX3_hearBands 11 = .ok (.aload_n 1, 1) := by decide +kernel
theorem dX3_hearBands_12 : decode cX3_hearBands 12 = .ok (.bipush 16, 2) := by decide +kernel
theorem dX3_hearBands_14 : decode cX3_hearBands 14 = .ok (.iload_n 3, 1) := by decide +kernel
theorem dX3_hearBands_15 : decode cX3_hearBands 15 = .ok (.imul, 1) := by decide +kernel
theorem dX3_hearBands_16 : decode cX3_hearBands 16 = .ok (.bipush 8, 2) := by decide +kernel
theorem dX3_hearBands_18 : decode cX3_hearBands 18 = .ok (.iload_n 2, 1) := by decide +kernel
theorem dX3_hearBands_19 : decode cX3_hearBands 19 = .ok (.imul, 1) := by decide +kernel
theorem dX3_hearBands_20 : decode cX3_hearBands 20 = .ok (.iadd, 1) := by decide +kernel
theorem dX3_hearBands_21 : decode cX3_hearBands 21 = .ok (.aload_n 0, 1) := by decide +kernel
theorem dX3_hearBands_22 : decode cX3_hearBands 22 = .ok (.getfield 25, 3) := by decide +kernel
theorem dX3_hearBands_25 : decode cX3_hearBands 25 = .ok (.bipush 8, 2) := by decide +kernel
theorem dX3_hearBands_27 : decode cX3_hearBands 27 = .ok (.iload_n 3, 1) := by decide +kernel
theorem dX3_hearBands_28 : decode cX3_hearBands 28 = .ok (.imul, 1) := by decide +kernel
theorem dX3_hearBands_29 : decode cX3_hearBands 29 = .ok (.invokevirtual 64, 3) := by decide +kernel
theorem dX3_hearBands_32 : decode cX3_hearBands 32 = .ok (.iinc 3 1, 3) := by decide +kernel
theorem dX3_hearBands_35 : decode cX3_hearBands 35 = .ok (.goto (-33), 3) := by decide +kernel
theorem dX3_hearBands_38 : decode cX3_hearBands 38 = .ok (.iconst 0, 1) := by decide +kernel
theorem dX3_hearBands_39 : decode cX3_hearBands 39 = .ok (.istore_n 3, 1) := by decide +kernel
theorem dX3_hearBands_40 : decode cX3_hearBands 40 = .ok (.iload_n 3, 1) := by decide +kernel
theorem dX3_hearBands_41 : decode cX3_hearBands 41 = .ok (.bipush 32, 2) := by decide +kernel
theorem dX3_hearBands_43 : decode cX3_hearBands 43 = .ok (.if_icmp .ge 24, 3) := by decide +kernel
theorem dX3_hearBands_46 : decode cX3_hearBands 46 = .ok (.aload_n 0, 1) := by decide +kernel
theorem dX3_hearBands_47 : decode cX3_hearBands 47 = .ok (.getfield 25, 3) := by decide +kernel
theorem dX3_hearBands_50 : decode cX3_hearBands 50 = .ok (.iload_n 3, 1) := by decide +kernel
theorem dX3_hearBands_51 : decode cX3_hearBands 51 = .ok (.aload_n 0, 1) := by decide +kernel
theorem dX3_hearBands_52 : decode cX3_hearBands 52 = .ok (.getfield 25, 3) := by decide +kernel
theorem dX3_hearBands_55 : decode cX3_hearBands 55 = .ok (.iload_n 3, 1) := by decide +kernel
theorem dX3_hearBands_56 : decode cX3_hearBands 56 = .ok (.iaload, 1) := by decide +kernel
theorem dX3_hearBands_57 : decode cX3_hearBands 57 = .ok (.invokestatic 68, 3) := by decide +kernel
theorem dX3_hearBands_60 : decode cX3_hearBands 60 = .ok (.iastore, 1) := by decide +kernel
theorem dX3_hearBands_61 : decode cX3_hearBands 61 = .ok (.iinc 3 1, 3) := by decide +kernel
theorem dX3_hearBands_64 : decode cX3_hearBands 64 = .ok (.goto (-24), 3) := by decide +kernel
theorem dX3_hearBands_67 : decode cX3_hearBands 67 = .ok (.return_, 1) := by decide +kernel
theorem dX3_blendWithMade_0 : decode cX3_blendWithMade 0 = .ok (.iconst 0, 1) := by decide +kernel
theorem dX3_blendWithMade_1 : decode cX3_blendWithMade 1 = .ok (.istore_n 1, 1) := by decide +kernel
theorem dX3_blendWithMade_2 : decode cX3_blendWithMade 2 = .ok (.iload_n 1, 1) := by decide +kernel
theorem dX3_blendWithMade_3 : decode cX3_blendWithMade 3 = .ok (.bipush 8, 2) := by decide +kernel
theorem dX3_blendWithMade_5 : decode cX3_blendWithMade 5 = .ok (.if_icmp .ge 37, 3) := by decide +kernel
theorem dX3_blendWithMade_8 : decode cX3_blendWithMade 8 = .ok (.aload_n 0, 1) := by decide +kernel
theorem dX3_blendWithMade_9 : decode cX3_blendWithMade 9 = .ok (.getfield 25, 3) := by decide +kernel
theorem dX3_blendWithMade_12 : decode cX3_blendWithMade 12 = .ok (.iload_n 1, 1) := by decide +kernel
theorem dX3_blendWithMade_13 : decode cX3_blendWithMade 13 = .ok (.bipush 8, 2) := by decide +kernel
theorem dX3_blendWithMade_15 : decode cX3_blendWithMade 15 = .ok (.iload_n 1, 1) := by decide +kernel
theorem dX3_blendWithMade_16 : decode cX3_blendWithMade 16 = .ok (.isub, 1) := by decide +kernel
theorem dX3_blendWithMade_17 : decode cX3_blendWithMade 17 = .ok (.aload_n 0, 1) := by decide +kernel
theorem dX3_blendWithMade_18 : decode cX3_blendWithMade 18 = .ok (.getfield 22, 3) := by decide +kernel
theorem dX3_blendWithMade_21 : decode cX3_blendWithMade 21 = .ok (.iload_n 1, 1) := by decide +kernel
theorem dX3_blendWithMade_22 : decode cX3_blendWithMade 22 = .ok (.iaload, 1) := by decide +kernel
theorem dX3_blendWithMade_23 : decode cX3_blendWithMade 23 = .ok (.imul, 1) := by decide +kernel
theorem dX3_blendWithMade_24 : decode cX3_blendWithMade 24 = .ok (.iload_n 1, 1) := by decide +kernel
theorem dX3_blendWithMade_25 : decode cX3_blendWithMade 25 = .ok (.aload_n 0, 1) := by decide +kernel
theorem dX3_blendWithMade_26 : decode cX3_blendWithMade 26 = .ok (.getfield 25, 3) := by decide +kernel
theorem dX3_blendWithMade_29 : decode cX3_blendWithMade 29 = .ok (.iload_n 1, 1) := by decide +kernel
theorem dX3_blendWithMade_30 : decode cX3_blendWithMade 30 = .ok (.iaload, 1) := by decide +kernel
theorem dX3_blendWithMade_31 : decode cX3_blendWithMade 31 = .ok (.imul, 1) := by decide +kernel
theorem dX3_blendWithMade_32 : decode cX3_blendWithMade 32 = .ok (.iadd, 1) := by decide +kernel
theorem dX3_blendWithMade_33 : decode cX3_blendWithMade 33 = .ok (.iconst 3, 1) := by decide +kernel
theorem dX3_blendWithMade_34 : decode cX3_blendWithMade 34 = .ok (.ishr, 1) := by decide +kernel
theorem dX3_blendWithMade_35 : decode cX3_blendWithMade 35 = .ok (.iastore, 1) := by decide +kernel
theorem dX3_blendWithMade_36 : decode cX3_blendWithMade 36 = .ok (.iinc 1 1, 3) := by decide +kernel
theorem dX3_blendWithMade_39 : decode cX3_blendWithMade 39 = .ok (.goto (-37), 3) := by decide +kernel
theorem dX3_blendWithMade_42 : decode cX3_blendWithMade 42 = .ok (.return_, 1) := by decide +kernel
theorem dX3_keepSamples_0 : decode cX3_keepSamples 0 = .ok (.aload_n 0, 1) := by decide +kernel
theorem dX3_keepSamples_1 : decode cX3_keepSamples 1 = .ok (.getfield 18, 3) := by decide +kernel
theorem dX3_keepSamples_4 : decode cX3_keepSamples 4 = .ok (.bipush 32, 2) := by decide +kernel
theorem dX3_keepSamples_6 : decode cX3_keepSamples 6 = .ok (.aload_n 0, 1) := by decide +kernel
theorem dX3_keepSamples_7 : decode cX3_keepSamples 7 = .ok (.getfield 18, 3) := by decide +kernel
theorem dX3_keepSamples_10 : decode cX3_keepSamples 10 = .ok (.iconst 0, 1) := by decide +kernel
theorem dX3_keepSamples_11 : decode cX3_keepSamples 11 = .ok (.sipush 160, 3) := by decide +kernel
theorem dX3_keepSamples_14 : decode cX3_keepSamples 14 = .ok (.invokestatic 48, 3) := by decide +kernel
theorem dX3_keepSamples_17 : decode cX3_keepSamples 17 = .ok (.aload_n 1, 1) := by decide +kernel
theorem dX3_keepSamples_18 : decode cX3_keepSamples 18 = .ok (.iconst 0, 1) := by decide +kernel
theorem dX3_keepSamples_19 : decode cX3_keepSamples 19 = .ok (.aload_n 0, 1) := by decide +kernel
theorem dX3_keepSamples_20 : decode cX3_keepSamples 20 = .ok (.getfield 18, 3) := by decide +kernel
theorem dX3_keepSamples_23 : decode cX3_keepSamples 23 = .ok (.sipush 160, 3) := by decide +kernel
theorem dX3_keepSamples_26 : decode cX3_keepSamples 26 = .ok (.bipush 32, 2) := by decide +kernel
theorem dX3_keepSamples_28 : decode cX3_keepSamples 28 = .ok (.invokestatic 48, 3) := by decide +kernel
theorem dX3_keepSamples_31 : decode cX3_keepSamples 31 = .ok (.return_, 1) := by decide +kernel
theorem dX4_init_0 : decode cX4_init 0 = .ok (.aload_n 0, 1) := by decide +kernel
theorem dX4_init_1 : decode cX4_init 1 = .ok (.invokespecial 3, 3) := by decide +kernel
theorem dX4_init_4 : decode cX4_init 4 = .ok (.aload_n 0, 1) := by decide +kernel
theorem dX4_init_5 : decode cX4_init 5 = .ok (.bipush 64, 2) := by decide +kernel
theorem dX4_init_7 : decode cX4_init 7 = .ok (.newarray .int, 2) := by decide +kernel
theorem dX4_init_9 : decode cX4_init 9 = .ok (.putfield 9, 3) := by decide +kernel
theorem dX4_init_12 : decode cX4_init 12 = .ok (.aload_n 0, 1) := by decide +kernel
theorem dX4_init_13 : decode cX4_init 13 = .ok (.bipush 64, 2) := by decide +kernel
theorem dX4_init_15 : decode cX4_init 15 = .ok (.newarray .int, 2) := by decide +kernel
theorem dX4_init_17 : decode cX4_init 17 = .ok (.putfield 15, 3) := by decide +kernel
theorem dX4_init_20 : decode cX4_init 20 = .ok (.aload_n 0, 1) := by decide +kernel
theorem dX4_init_21 : decode cX4_init 21 = .ok (.bipush 64, 2) := by decide +kernel
theorem dX4_init_23 : decode cX4_init 23 = .ok (.newarray .int, 2) := by decide +kernel
theorem dX4_init_25 : decode cX4_init 25 = .ok (.putfield 18, 3) := by decide +kernel
theorem dX4_init_28 : decode cX4_init 28 = .ok (.aload_n 0, 1) := by decide +kernel
theorem dX4_init_29 : decode cX4_init 29 = .ok (.bipush 64, 2) := by decide +kernel
theorem dX4_init_31 : decode cX4_init 31 = .ok (.newarray .int, 2) := by decide +kernel
theorem dX4_init_33 : decode cX4_init 33 = .ok (.putfield 21, 3) := by decide +kernel
theorem dX4_init_36 : decode cX4_init 36 = .ok (.aload_n 0, 1) := by decide +kernel
theorem dX4_init_37 : decode cX4_init 37 = .ok (.bipush 64, 2) := by decide +kernel
theorem dX4_init_39 : decode cX4_init 39 = .ok (.newarray .int, 2) := by decide +kernel
theorem dX4_init_41 : decode cX4_init 41 = .ok (.putfield 24, 3) := by decide +kernel
theorem dX4_init_44 : decode cX4_init 44 = .ok (.aload_n 0, 1) := by decide +kernel
theorem dX4_init_45 : decode cX4_init 45 = .ok (.bipush 16, 2) := by decide +kernel
theorem dX4_init_47 : decode cX4_init 47 = .ok (.newarray .int, 2) := by decide +kernel
theorem dX4_init_49 : decode cX4_init 49 = .ok (.putfield 27, 3) := by decide +kernel
theorem dX4_init_52 : decode cX4_init 52 = .ok (.aload_n 0, 1) := by decide +kernel
theorem dX4_init_53 : decode cX4_init 53 = .ok (.bipush 16, 2) := by decide +kernel
theorem dX4_init_55 : decode cX4_init 55 = .ok (.newarray .int, 2) := by decide +kernel
theorem dX4_init_57 : decode cX4_init 57 = .ok (.putfield 30, 3) := by decide +kernel
theorem dX4_init_60 : decode cX4_init 60 = .ok (.aload_n 0, 1) := by decide +kernel
theorem dX4_init_61 : decode cX4_init 61 = .ok (.bipush 16, 2) := by decide +kernel
theorem dX4_init_63 : decode cX4_init 63 = .ok (.newarray .int, 2) := by decide +kernel
theorem dX4_init_65 : decode cX4_init 65 = .ok (.putfield 33, 3) := by decide +kernel
theorem dX4_init_68 : decode cX4_init 68 = .ok (.aload_n 0, 1) := by decide +kernel
theorem dX4_init_69 : decode cX4_init 69 = .ok (.iconst 0, 1) := by decide +kernel
theorem dX4_init_70 : decode cX4_init 70 = .ok (.putfield 36, 3) := by decide +kernel
theorem dX4_init_73 : decode cX4_init 73 = .ok (.aload_n 0, 1) := by decide +kernel
theorem dX4_init_74 : decode cX4_init 74 = .ok (.iconst 0, 1) := by decide +kernel
theorem dX4_init_75 : decode cX4_init 75 = .ok (.putfield 40, 3) := by decide +kernel
theorem dX4_init_78 : decode cX4_init 78 = .ok (.aload_n 0, 1) := by decide +kernel
theorem dX4_init_79 : decode cX4_init 79 = .ok (.iconst 0, 1) := by decide +kernel
theorem dX4_init_80 : decode cX4_init 80 = .ok (.putfield 43, 3) := by decide +kernel
theorem dX4_init_83 : decode cX4_init 83 = .ok (.return_, 1) := by decide +kernel
theorem dX4_become_0 : decode cX4_become 0 = .ok (.aload_n 1, 1) := by decide +kernel
theorem dX4_become_1 : decode cX4_become 1 = .ok (.getfield 9, 3) := by decide +kernel
theorem dX4_become_4 : decode cX4_become 4 = .ok (.iconst 0, 1) := by decide +kernel
theorem dX4_become_5 : decode cX4_become 5 = .ok (.aload_n 0, 1) := by decide +kernel
theorem dX4_become_6 : decode cX4_become 6 = .ok (.getfield 9, 3) := by decide +kernel
theorem dX4_become_9 : decode cX4_become 9 = .ok (.iconst 0, 1) := by decide +kernel
theorem dX4_become_10 : decode cX4_become 10 = .ok (.bipush 64, 2) := by decide +kernel
theorem dX4_become_12 : decode cX4_become 12 = .ok (.invokestatic 46, 3) := by decide +kernel
theorem dX4_become_15 : decode cX4_become 15 = .ok (.aload_n 1, 1) := by decide +kernel
theorem dX4_become_16 : decode cX4_become 16 = .ok (.getfield 15, 3) := by decide +kernel
theorem dX4_become_19 : decode cX4_become 19 = .ok (.iconst 0, 1) := by decide +kernel
theorem dX4_become_20 : decode cX4_become 20 = .ok (.aload_n 0, 1) := by decide +kernel
theorem dX4_become_21 : decode cX4_become 21 = .ok (.getfield 15, 3) := by decide +kernel
theorem dX4_become_24 : decode cX4_become 24 = .ok (.iconst 0, 1) := by decide +kernel
theorem dX4_become_25 : decode cX4_become 25 = .ok (.bipush 64, 2) := by decide +kernel
theorem dX4_become_27 : decode cX4_become 27 = .ok (.invokestatic 46, 3) := by decide +kernel
theorem dX4_become_30 : decode cX4_become 30 = .ok (.aload_n 1, 1) := by decide +kernel
theorem dX4_become_31 : decode cX4_become 31 = .ok (.getfield 18, 3) := by decide +kernel
theorem dX4_become_34 : decode cX4_become 34 = .ok (.iconst 0, 1) := by decide +kernel
theorem dX4_become_35 : decode cX4_become 35 = .ok (.aload_n 0, 1) := by decide +kernel
theorem dX4_become_36 : decode cX4_become 36 = .ok (.getfield 18, 3) := by decide +kernel
theorem dX4_become_39 : decode cX4_become 39 = .ok (.iconst 0, 1) := by decide +kernel
theorem dX4_become_40 : decode cX4_become 40 = .ok (.bipush 64, 2) := by decide +kernel
theorem dX4_become_42 : decode cX4_become 42 = .ok (.invokestatic 46, 3) := by decide +kernel
theorem dX4_become_45 : decode cX4_become 45 = .ok (.aload_n 1, 1) := by decide +kernel
theorem dX4_become_46 : decode cX4_become 46 = .ok (.getfield 21, 3) := by decide +kernel
theorem dX4_become_49 : decode cX4_become 49 = .ok (.iconst 0, 1) := by decide +kernel
theorem dX4_become_50 : decode cX4_become 50 = .ok (.aload_n 0, 1) := by decide +kernel
theorem dX4_become_51 : decode cX4_become 51 = .ok (.getfield 21, 3) := by decide +kernel
theorem dX4_become_54 : decode cX4_become 54 = .ok (.iconst 0, 1) := by decide +kernel
theorem dX4_become_55 : decode cX4_become 55 = .ok (.bipush 64, 2) := by decide +kernel
theorem dX4_become_57 : decode cX4_become 57 = .ok (.invokestatic 46, 3) := by decide +kernel
theorem dX4_become_60 : decode cX4_become 60 = .ok (.aload_n 1, 1) := by decide +kernel
theorem dX4_become_61 : decode cX4_become 61 = .ok (.getfield 27, 3) := by decide +kernel
theorem dX4_become_64 : decode cX4_become 64 = .ok (.iconst 0, 1) := by decide +kernel
theorem dX4_become_65 : decode cX4_become 65 = .ok (.aload_n 0, 1) := by decide +kernel
theorem dX4_become_66 : decode cX4_become 66 = .ok (.getfield 27, 3) := by decide +kernel
theorem dX4_become_69 : decode cX4_become 69 = .ok (.iconst 0, 1) := by decide +kernel
theorem dX4_become_70 : decode cX4_become 70 = .ok (.bipush 16, 2) := by decide +kernel
theorem dX4_become_72 : decode cX4_become 72 = .ok (.invokestatic 46, 3) := by decide +kernel
theorem dX4_become_75 : decode cX4_become 75 = .ok (.aload_n 1, 1) := by decide +kernel
theorem dX4_become_76 : decode cX4_become 76 = .ok (.getfield 33, 3) := by decide +kernel
theorem dX4_become_79 : decode cX4_become 79 = .ok (.iconst 0, 1) := by decide +kernel
theorem dX4_become_80 : decode cX4_become 80 = .ok (.aload_n 0, 1) := by decide +kernel
theorem dX4_become_81 : decode cX4_become 81 = .ok (.getfield 33, 3) := by decide +kernel
theorem dX4_become_84 : decode cX4_become 84 = .ok (.iconst 0, 1) := by decide +kernel
theorem dX4_become_85 : decode cX4_become 85 = .ok (.bipush 16, 2) := by decide +kernel
theorem dX4_become_87 : decode cX4_become 87 = .ok (.invokestatic 46, 3) := by decide +kernel
theorem dX4_become_90 : decode cX4_become 90 = .ok (.aload_n 0, 1) := by decide +kernel
theorem dX4_become_91 : decode cX4_become 91 = .ok (.aload_n 1, 1) := by decide +kernel
theorem dX4_become_92 : decode cX4_become 92 = .ok (.getfield 36, 3) := by decide +kernel
theorem dX4_become_95 : decode cX4_become 95 = .ok (.putfield 36, 3) := by decide +kernel
theorem dX4_become_98 : decode cX4_become 98 = .ok (.aload_n 0, 1) := by decide +kernel
theorem dX4_become_99 : decode cX4_become 99 = .ok (.aload_n 1, 1) := by decide +kernel
theorem dX4_become_100 : decode cX4_become 100 = .ok (.getfield 40, 3) := by decide +kernel
theorem dX4_become_103 : decode cX4_become 103 = .ok (.putfield 40, 3) := by decide +kernel
theorem dX4_become_106 : decode cX4_become 106 = .ok (.aload_n 0, 1) := by decide +kernel
theorem dX4_become_107 : decode cX4_become 107 = .ok (.aload_n 1, 1) := by decide +kernel
theorem dX4_become_108 : decode cX4_become 108 = .ok (.getfield 43, 3) := by decide +kernel
theorem dX4_become_111 : decode cX4_become 111 = .ok (.putfield 43, 3) := by decide +kernel
theorem dX4_become_114 : decode cX4_become 114 = .ok (.return_, 1) := by decide +kernel
theorem dX4_sumApart_0 : decode cX4_sumApart 0 = .ok (.iconst 0, 1) := by decide +kernel
theorem dX4_sumApart_1 : decode cX4_sumApart 1 = .ok (.istore_n 2, 1) := by decide +kernel
theorem dX4_sumApart_2 : decode cX4_sumApart 2 = .ok (.iload_n 1, 1) := by decide +kernel
theorem dX4_sumApart_3 : decode cX4_sumApart 3 = .ok (.istore_n 3, 1) := by decide +kernel
theorem dX4_sumApart_4 : decode cX4_sumApart 4 = .ok (.iload_n 3, 1) := by decide +kernel
theorem dX4_sumApart_5 : decode cX4_sumApart 5 = .ok (.bipush 64, 2) := by decide +kernel
theorem dX4_sumApart_7 : decode cX4_sumApart 7 = .ok (.if_icmp .ge 34, 3) := by decide +kernel
theorem dX4_sumApart_10 : decode cX4_sumApart 10 = .ok (.iload_n 2, 1) := by decide +kernel
theorem dX4_sumApart_11 : decode cX4_sumApart 11 = .ok (.aload_n 0, 1) := by decide +kernel
theorem dX4_sumApart_12 : decode cX4_sumApart 12 = .ok (.getfield 9, 3) := by decide +kernel
theorem dX4_sumApart_15 : decode cX4_sumApart 15 = .ok (.iload_n 3, 1) := by decide +kernel
theorem dX4_sumApart_16 : decode cX4_sumApart 16 = .ok (.iaload, 1) := by decide +kernel
theorem dX4_sumApart_17 : decode cX4_sumApart 17 = .ok (.invokestatic 52, 3) := by decide +kernel
theorem dX4_sumApart_20 : decode cX4_sumApart 20 = .ok (.aload_n 0, 1) := by decide +kernel
theorem dX4_sumApart_21 : decode cX4_sumApart 21 = .ok (.getfield 9, 3) := by decide +kernel
theorem dX4_sumApart_24 : decode cX4_sumApart 24 = .ok (.iload_n 3, 1) := by decide +kernel
theorem dX4_sumApart_25 : decode cX4_sumApart 25 = .ok (.bipush 8, 2) := by decide +kernel
theorem dX4_sumApart_27 : decode cX4_sumApart 27 = .ok (.iadd, 1) := by decide +kernel
theorem dX4_sumApart_28 : decode cX4_sumApart 28 = .ok (.iaload, 1) := by decide +kernel
theorem dX4_sumApart_29 : decode cX4_sumApart 29 = .ok (.invokestatic 52, 3) := by decide +kernel
theorem dX4_sumApart_32 : decode cX4_sumApart 32 = .ok (.iadd, 1) := by decide +kernel
theorem dX4_sumApart_33 : decode cX4_sumApart 33 = .ok (.iadd, 1) := by decide +kernel
theorem dX4_sumApart_34 : decode cX4_sumApart 34 = .ok (.istore_n 2, 1) := by decide +kernel
theorem dX4_sumApart_35 : decode cX4_sumApart 35 = .ok (.iinc 3 16, 3) := by decide +kernel
theorem dX4_sumApart_38 : decode cX4_sumApart 38 = .ok (.goto (-34), 3) := by decide +kernel
theorem dX4_sumApart_41 : decode cX4_sumApart 41 = .ok (.iload_n 2, 1) := by decide +kernel
theorem dX4_sumApart_42 : decode cX4_sumApart 42 = .ok (.ireturn, 1) := by decide +kernel
theorem dX4_sumPaired_0 : decode cX4_sumPaired 0 = .ok (.iconst 0, 1) := by decide +kernel
theorem dX4_sumPaired_1 : decode cX4_sumPaired 1 = .ok (.istore_n 2, 1) := by decide +kernel
theorem dX4_sumPaired_2 : decode cX4_sumPaired 2 = .ok (.iload_n 1, 1) := by decide +kernel
theorem dX4_sumPaired_3 : decode cX4_sumPaired 3 = .ok (.istore_n 3, 1) := by decide +kernel
theorem dX4_sumPaired_4 : decode cX4_sumPaired 4 = .ok (.iload_n 3, 1) := by decide +kernel
theorem dX4_sumPaired_5 : decode cX4_sumPaired 5 = .ok (.bipush 64, 2) := by decide +kernel
theorem dX4_sumPaired_7 : decode cX4_sumPaired 7 = .ok (.if_icmp .ge 50, 3) := by decide +kernel
theorem dX4_sumPaired_10 : decode cX4_sumPaired 10 = .ok (.aload_n 0, 1) := by decide +kernel
theorem dX4_sumPaired_11 : decode cX4_sumPaired 11 = .ok (.getfield 9, 3) := by decide +kernel
theorem dX4_sumPaired_14 : decode cX4_sumPaired 14 = .ok (.iload_n 3, 1) := by decide +kernel
theorem dX4_sumPaired_15 : decode cX4_sumPaired 15 = .ok (.iaload, 1) := by decide +kernel
theorem dX4_sumPaired_16 : decode cX4_sumPaired 16 = .ok (.istore 4, 2) := by decide +kernel
theorem dX4_sumPaired_18 : decode cX4_sumPaired 18 = .ok (.aload_n 0, 1) := by decide +kernel
theorem dX4_sumPaired_19 : decode cX4_sumPaired 19 = .ok (.getfield 9, 3) := by decide +kernel
theorem dX4_sumPaired_22 : decode cX4_sumPaired 22 = .ok (.iload_n 3, 1) := by decide +kernel
theorem dX4_sumPaired_23 : decode cX4_sumPaired 23 = .ok (.bipush 8, 2) := by decide +kernel
theorem dX4_sumPaired_25 : decode cX4_sumPaired 25 = .ok (.iadd, 1) := by decide +kernel
theorem dX4_sumPaired_26 : decode cX4_sumPaired 26 = .ok (.iaload, 1) := by decide +kernel
theorem dX4_sumPaired_27 : decode cX4_sumPaired 27 = .ok (.istore 5, 2) := by decide +kernel
theorem dX4_sumPaired_29 : decode cX4_sumPaired 29 = .ok (.iload_n 2, 1) := by decide +kernel
theorem dX4_sumPaired_30 : decode cX4_sumPaired 30 = .ok (.iload 4, 2) := by decide +kernel
theorem dX4_sumPaired_32 : decode cX4_sumPaired 32 = .ok (.iload 5, 2) := by decide +kernel
theorem dX4_sumPaired_34 : decode cX4_sumPaired 34 = .ok (.iadd, 1) := by decide +kernel
theorem dX4_sumPaired_35 : decode cX4_sumPaired 35 = .ok (.iconst 1, 1) := by decide +kernel
theorem dX4_sumPaired_36 : decode cX4_sumPaired 36 = .ok (.ishr, 1) := by decide +kernel
theorem dX4_sumPaired_37 : decode cX4_sumPaired 37 = .ok (.invokestatic 52, 3) := by decide +kernel
theorem dX4_sumPaired_40 : decode cX4_sumPaired 40 = .ok (.iload 4, 2) := by decide +kernel
theorem dX4_sumPaired_42 : decode cX4_sumPaired 42 = .ok (.iload 5, 2) := by decide +kernel
theorem dX4_sumPaired_44 : decode cX4_sumPaired 44 = .ok (.isub, 1) := by decide +kernel
theorem dX4_sumPaired_45 : decode cX4_sumPaired 45 = .ok (.invokestatic 52, 3) := by decide +kernel
theorem dX4_sumPaired_48 : decode cX4_sumPaired 48 = .ok (.iadd, 1) := by decide +kernel
theorem dX4_sumPaired_49 : decode cX4_sumPaired 49 = .ok (.iadd, 1) := by decide +kernel
theorem dX4_sumPaired_50 : decode cX4_sumPaired 50 = .ok (.istore_n 2, 1) := by decide +kernel
theorem dX4_sumPaired_51 : decode cX4_sumPaired 51 = .ok (.iinc 3 16, 3) := by decide +kernel
theorem dX4_sumPaired_54 : decode cX4_sumPaired 54 = .ok (.goto (-50), 3) := by decide +kernel
theorem dX4_sumPaired_57 : decode cX4_sumPaired 57 = .ok (.iload_n 2, 1) := by decide +kernel
theorem dX4_sumPaired_58 : decode cX4_sumPaired 58 = .ok (.ireturn, 1) := by decide +kernel
theorem dX4_tell_0 : decode cX4_tell 0 = .ok (.aload_n 0, 1) := by decide +kernel
theorem dX4_tell_1 : decode cX4_tell 1 = .ok (.getfield 9, 3) := by decide +kernel
theorem dX4_tell_4 : decode cX4_tell 4 = .ok (.iconst 0, 1) := by decide +kernel
theorem dX4_tell_5 : decode cX4_tell 5 = .ok (.aload_n 0, 1) := by decide +kernel
theorem dX4_tell_6 : decode cX4_tell 6 = .ok (.getfield 15, 3) := by decide +kernel
theorem dX4_tell_9 : decode cX4_tell 9 = .ok (.iconst 0, 1) := by decide +kernel
theorem dX4_tell_10 : decode cX4_tell 10 = .ok (.bipush 64, 2) := by decide +kernel
theorem dX4_tell_12 : decode cX4_tell 12 = .ok (.invokestatic 46, 3) := by decide +kernel
theorem dX4_tell_15 : decode cX4_tell 15 = .ok (.aload_n 0, 1) := by decide +kernel
theorem dX4_tell_16 : decode cX4_tell 16 = .ok (.iconst 0, 1) := by decide +kernel
theorem dX4_tell_17 : decode cX4_tell 17 = .ok (.putfield 36, 3) := by decide +kernel
theorem dX4_tell_20 : decode cX4_tell 20 = .ok (.iconst 0, 1) := by decide +kernel
theorem dX4_tell_21 : decode cX4_tell 21 = .ok (.istore_n 2, 1) := by decide +kernel
theorem dX4_tell_22 : decode cX4_tell 22 = .ok (.iload_n 2, 1) := by decide +kernel
theorem dX4_tell_23 : decode cX4_tell 23 = .ok (.bipush 7, 2) := by decide +kernel
theorem dX4_tell_25 : decode cX4_tell 25 = .ok (.if_icmp .ge 44, 3) := by decide +kernel
theorem dX4_tell_28 : decode cX4_tell 28 = .ok (.iload_n 1, 1) := by decide +kernel
theorem dX4_tell_29 : decode cX4_tell 29 = .ok (.iconst 1, 1) := by decide +kernel
theorem dX4_tell_30 : decode cX4_tell 30 = .ok (.if_icmp .ne 33, 3) := by decide +kernel
theorem dX4_tell_33 : decode cX4_tell 33 = .ok (.aload_n 0, 1) := by decide +kernel
theorem dX4_tell_34 : decode cX4_tell 34 = .ok (.iload_n 2, 1) := by decide +kernel
theorem dX4_tell_35 : decode cX4_tell 35 = .ok (.invokevirtual 58, 3) := by decide +kernel
theorem dX4_tell_38 : decode cX4_tell 38 = .ok (.aload_n 0, 1) := by decide +kernel
theorem dX4_tell_39 : decode cX4_tell 39 = .ok (.iload_n 2, 1) := by decide +kernel
theorem dX4_tell_40 : decode cX4_tell 40 = .ok (.invokevirtual 61, 3) := by decide +kernel
theorem dX4_tell_43 : decode cX4_tell 43 = .ok (.if_icmp .ge 20, 3) := by decide +kernel
theorem dX4_tell_46 : decode cX4_tell 46 = .ok (.aload_n 0, 1) := by decide +kernel
theorem dX4_tell_47 : decode cX4_tell 47 = .ok (.dup, 1) := by decide +kernel
theorem dX4_tell_48 : decode cX4_tell 48 = .ok (.getfield 36, 3) := by decide +kernel
theorem dX4_tell_51 : decode cX4_tell 51 = .ok (.iconst 1, 1) := by decide +kernel
theorem dX4_tell_52 : decode cX4_tell 52 = .ok (.iload_n 2, 1) := by decide +kernel
theorem dX4_tell_53 : decode cX4_tell 53 = .ok (.ishl, 1) := by decide +kernel
theorem dX4_tell_54 : decode cX4_tell 54 = .ok (.ior, 1) := by decide +kernel
theorem dX4_tell_55 : decode cX4_tell 55 = .ok (.putfield 36, 3) := by decide +kernel
theorem dX4_tell_58 : decode cX4_tell 58 = .ok (.aload_n 0, 1) := by decide +kernel
theorem dX4_tell_59 : decode cX4_tell 59 = .ok (.iload_n 2, 1) := by decide +kernel
theorem dX4_tell_60 : decode cX4_tell 60 = .ok (.invokevirtual 64, 3) := by decide +kernel
theorem dX4_tell_63 : decode cX4_tell 63 = .ok (.iinc 2 1, 3) := by decide +kernel
theorem dX4_tell_66 : decode cX4_tell 66 = .ok (.goto (-44), 3) := by decide +kernel
theorem dX4_tell_69 : decode cX4_tell 69 = .ok (.iconst 0, 1) := by decide +kernel
theorem dX4_tell_70 : decode cX4_tell 70 = .ok (.istore_n 2, 1) := by decide +kernel
theorem dX4_tell_71 : decode cX4_tell 71 = .ok (.iload_n 2, 1) := by decide +kernel
theorem dX4_tell_72 : decode cX4_tell 72 = .ok (.bipush 16, 2) := by decide +kernel
theorem dX4_tell_74 : decode cX4_tell 74 = .ok (.if_icmp .ge 20, 3) := by decide +kernel
theorem dX4_tell_77 : decode cX4_tell 77 = .ok (.aload_n 0, 1) := by decide +kernel
theorem dX4_tell_78 : decode cX4_tell 78 = .ok (.getfield 27, 3) := by decide +kernel
theorem dX4_tell_81 : decode cX4_tell 81 = .ok (.iload_n 2, 1) := by decide +kernel
theorem dX4_tell_82 : decode cX4_tell 82 = .ok (.aload_n 0, 1) := by decide +kernel
theorem dX4_tell_83 : decode cX4_tell 83 = .ok (.iload_n 2, 1) := by decide +kernel
theorem dX4_tell_84 : decode cX4_tell 84 = .ok (.invokevirtual 68, 3) := by decide +kernel
theorem dX4_tell_87 : decode cX4_tell 87 = .ok (.iastore, 1) := by decide +kernel
theorem dX4_tell_88 : decode cX4_tell 88 = .ok (.iinc 2 1, 3) := by decide +kernel
theorem dX4_tell_91 : decode cX4_tell 91 = .ok (.goto (-20), 3) := by decide +kernel
theorem dX4_tell_94 : decode cX4_tell 94 = .ok (.return_, 1) := by decide +kernel
theorem dX4_makeTwin_0 : decode cX4_makeTwin 0 = .ok (.iload_n 1, 1) := by decide +kernel
theorem dX4_makeTwin_1 : decode cX4_makeTwin 1 = .ok (.istore_n 2, 1) := by decide +kernel
theorem dX4_makeTwin_2 : decode cX4_makeTwin 2 = .ok (.iload_n 2, 1) := by decide +kernel
theorem dX4_makeTwin_3 : decode cX4_makeTwin 3 = .ok (.bipush 64, 2) := by decide +kernel
theorem dX4_makeTwin_5 : decode cX4_makeTwin 5 = .ok (.if_icmp .ge 52, 3) := by decide +kernel
theorem dX4_makeTwin_8 : decode cX4_makeTwin 8 = .ok (.aload_n 0, 1) := by decide +kernel
theorem dX4_makeTwin_9 : decode cX4_makeTwin 9 = .ok (.getfield 9, 3) := by decide +kernel
theorem dX4_makeTwin_12 : decode cX4_makeTwin 12 = .ok (.iload_n 2, 1) := by decide +kernel
theorem dX4_makeTwin_13 : decode cX4_makeTwin 13 = .ok (.iaload, 1) := by decide +kernel
theorem dX4_makeTwin_14 : decode cX4_makeTwin 14 = .ok (.istore_n 3, 1) := by decide +kernel
theorem dX4_makeTwin_15 : decode cX4_makeTwin 15 = .ok (.aload_n 0, 1) := by decide +kernel
theorem dX4_makeTwin_16 : decode cX4_makeTwin 16 = .ok (.getfield 9, 3) := by decide +kernel
theorem dX4_makeTwin_19 : decode cX4_makeTwin 19 = .ok (.iload_n 2, 1) := by decide +kernel
theorem dX4_makeTwin_20 : decode cX4_makeTwin 20 = .ok (.bipush 8, 2) := by decide +kernel
theorem dX4_makeTwin_22 : decode cX4_makeTwin 22 = .ok (.iadd, 1) := by decide +kernel
theorem dX4_makeTwin_23 : decode cX4_makeTwin 23 = .ok (.iaload, 1) := by decide +kernel
theorem dX4_makeTwin_24 : decode cX4_makeTwin 24 = .ok (.istore 4, 2) := by decide +kernel
theorem dX4_makeTwin_26 : decode cX4_makeTwin 26 = .ok (.aload_n 0, 1) := by decide +kernel
theorem dX4_makeTwin_27 : decode cX4_makeTwin 27 = .ok (.getfield 15, 3) := by decide +kernel
theorem dX4_makeTwin_30 : decode cX4_makeTwin 30 = .ok (.iload_n 2, 1) := by decide +kernel
theorem dX4_makeTwin_31 : decode cX4_makeTwin 31 = .ok (.iload_n 3, 1) := by decide +kernel
theorem dX4_makeTwin_32 : decode cX4_makeTwin 32 = .ok (.iload 4, 2) := by decide +kernel
theorem dX4_makeTwin_34 : decode cX4_makeTwin 34 = .ok (.iadd, 1) := by decide +kernel
theorem dX4_makeTwin_35 : decode cX4_makeTwin 35 = .ok (.iconst 1, 1) := by decide +kernel
theorem dX4_makeTwin_36 : decode cX4_makeTwin 36 = .ok (.ishr, 1) := by decide +kernel
theorem dX4_makeTwin_37 : decode cX4_makeTwin 37 = .ok (.iastore, 1) := by decide +kernel
theorem dX4_makeTwin_38 : decode cX4_makeTwin 38 = .ok (.aload_n 0, 1) := by decide +kernel
theorem dX4_makeTwin_39 : decode cX4_makeTwin 39 = .ok (.getfield 15, 3) := by decide +kernel
theorem dX4_makeTwin_42 : decode cX4_makeTwin 42 = .ok (.iload_n 2, 1) := by decide +kernel
theorem dX4_makeTwin_43 : decode cX4_makeTwin 43 = .ok (.bipush 8, 2) := by decide +kernel
theorem dX4_makeTwin_45 : decode cX4_makeTwin 45 = .ok (.iadd, 1) := by decide +kernel
theorem dX4_makeTwin_46 : decode cX4_makeTwin 46 = .ok (.iload_n 3, 1) := by decide +kernel
theorem dX4_makeTwin_47 : decode cX4_makeTwin 47 = .ok (.iload 4, 2) := by decide +kernel
theorem dX4_makeTwin_49 : decode cX4_makeTwin 49 = .ok (.isub, 1) := by decide +kernel
theorem dX4_makeTwin_50 : decode cX4_makeTwin 50 = .ok (.iastore, 1) := by decide +kernel
theorem dX4_makeTwin_51 : decode cX4_makeTwin 51 = .ok (.iinc 2 16, 3) := by decide +kernel
theorem dX4_makeTwin_54 : decode cX4_makeTwin 54 = .ok (.goto (-52), 3) := by decide +kernel
theorem dX4_makeTwin_57 : decode cX4_makeTwin 57 = .ok (.return_, 1) := by decide +kernel
theorem dX4_scaleOf_0 : decode cX4_scaleOf 0 = .ok (.iconst 0, 1) := by decide +kernel
theorem dX4_scaleOf_1 : decode cX4_scaleOf 1 = .ok (.istore_n 2, 1) := by decide +kernel
theorem dX4_scaleOf_2 : decode cX4_scaleOf 2 = .ok (.iload_n 1, 1) := by decide +kernel
theorem dX4_scaleOf_3 : decode cX4_scaleOf 3 = .ok (.istore_n 3, 1) := by decide +kernel
theorem dX4_scaleOf_4 : decode cX4_scaleOf 4 = .ok (.iload_n 3, 1) := by decide +kernel
theorem dX4_scaleOf_5 : decode cX4_scaleOf 5 = .ok (.bipush 64, 2) := by decide +kernel
theorem dX4_scaleOf_7 : decode cX4_scaleOf 7 = .ok (.if_icmp .ge 23, 3) := by decide +kernel
theorem dX4_scaleOf_10 : decode cX4_scaleOf 10 = .ok (.iload_n 2, 1) := by decide +kernel
theorem dX4_scaleOf_11 : decode cX4_scaleOf 11 = .ok (.aload_n 0, 1) := by decide +kernel
theorem dX4_scaleOf_12 : decode cX4_scaleOf 12 = .ok (.getfield 15, 3) := by decide +kernel
theorem dX4_scaleOf_15 : decode cX4_scaleOf 15 = .ok (.iload_n 3, 1) := by decide +kernel
theorem dX4_scaleOf_16 : decode cX4_scaleOf 16 = .ok (.iaload, 1) := by decide +kernel
theorem dX4_scaleOf_17 : decode cX4_scaleOf 17 = .ok (.invokestatic 52, 3) := by decide +kernel
theorem dX4_scaleOf_20 : decode cX4_scaleOf 20 = .ok (.invokestatic 71, 3) := by decide +kernel
theorem dX4_scaleOf_23 : decode cX4_scaleOf 23 = .ok (.istore_n 2, 1) := by decide +kernel
theorem dX4_scaleOf_24 : decode cX4_scaleOf 24 = .ok (.iinc 3 16, 3) := by decide +kernel
theorem dX4_scaleOf_27 : decode cX4_scaleOf 27 = .ok (.goto (-23), 3) := by decide +kernel
theorem dX4_scaleOf_30 : decode cX4_scaleOf 30 = .ok (.iconst 0, 1) := by decide +kernel
theorem dX4_scaleOf_31 : decode cX4_scaleOf 31 = .ok (.istore_n 3, 1) := by decide +kernel
theorem dX4_scaleOf_32 : decode cX4_scaleOf 32 = .ok (.iload_n 3, 1) := by decide +kernel
theorem dX4_scaleOf_33 : decode cX4_scaleOf 33 = .ok (.bipush 15, 2) := by decide +kernel
theorem dX4_scaleOf_35 : decode cX4_scaleOf 35 = .ok (.if_icmp .ge 18, 3) := by decide +kernel
theorem dX4_scaleOf_38 : decode cX4_scaleOf 38 = .ok (.iload_n 2, 1) := by decide +kernel
theorem dX4_scaleOf_39 : decode cX4_scaleOf 39 = .ok (.iconst 1, 1) := by decide +kernel
theorem dX4_scaleOf_40 : decode cX4_scaleOf 40 = .ok (.iload_n 3, 1) := by decide +kernel
theorem dX4_scaleOf_41 : decode cX4_scaleOf 41 = .ok (.ishl, 1) := by decide +kernel
theorem dX4_scaleOf_42 : decode cX4_scaleOf 42 = .ok (.if_icmp .ge 5, 3) := by decide +kernel
theorem dX4_scaleOf_45 : decode cX4_scaleOf 45 = .ok (.iload_n 3, 1) := by decide +kernel
theorem dX4_scaleOf_46 : decode cX4_scaleOf 46 = .ok (.ireturn, 1) := by decide +kernel
theorem dX4_scaleOf_47 : decode cX4_scaleOf 47 = .ok (.iinc 3 1, 3) := by decide +kernel
theorem dX4_scaleOf_50 : decode cX4_scaleOf 50 = .ok (.goto (-18), 3) := by decide +kernel
theorem dX4_scaleOf_53 : decode cX4_scaleOf 53 = .ok (.bipush 15, 2) := by decide +kernel
theorem dX4_scaleOf_55 : decode cX4_scaleOf 55 = .ok (.ireturn, 1) := by decide +kernel
theorem dX4_need_0 : decode cX4_need 0 = .ok (.aload_n 0, 1) := by decide +kernel
theorem dX4_need_1 : decode cX4_need 1 = .ok (.getfield 27, 3) := by decide +kernel
theorem dX4_need_4 : decode cX4_need 4 = .ok (.iload_n 1, 1) := by decide +kernel
theorem dX4_need_5 : decode cX4_need 5 = .ok (.iaload, 1) := by decide +kernel
theorem dX4_need_6 : decode cX4_need 6 = .ok (.istore 4, 2) := by decide +kernel
theorem dX4_need_8 : decode cX4_need 8 = .ok (.iload 4, 2) := by decide +kernel
theorem dX4_need_10 : decode cX4_need 10 = .ok (.ifCond .eq 7, 3) := by decide +kernel
theorem dX4_need_13 : decode cX4_need 13 = .ok (.iload_n 2, 1) := by decide +kernel
theorem dX4_need_14 : decode cX4_need 14 = .ok (.ifCond .ne 6, 3) := by decide +kernel
theorem dX4_need_17 : decode cX4_need 17 = .ok (.iload 4, 2) := by decide +kernel
theorem dX4_need_19 : decode cX4_need 19 = .ok (.ireturn, 1) := by decide +kernel
theorem dX4_need_20 : decode cX4_need 20 = .ok (.iload 4, 2) := by decide +kernel
theorem dX4_need_22 : decode cX4_need 22 = .ok (.aload_n 3, 1) := by decide +kernel
theorem dX4_need_23 : decode cX4_need 23 = .ok (.bipush 40, 2) := by decide +kernel
theorem dX4_need_25 : decode cX4_need 25 = .ok (.iload_n 1, 1) := by decide +kernel
theorem dX4_need_26 : decode cX4_need 26 = .ok (.bipush 8, 2) := by decide +kernel
theorem dX4_need_28 : decode cX4_need 28 = .ok (.irem, 1) := by decide +kernel
theorem dX4_need_29 : decode cX4_need 29 = .ok (.iadd, 1) := by decide +kernel
theorem dX4_need_30 : decode cX4_need 30 = .ok (.iaload, 1) := by decide +kernel
theorem dX4_need_31 : decode cX4_need 31 = .ok (.isub, 1) := by decide +kernel
theorem dX4_need_32 : decode cX4_need 32 = .ok (.istore 5, 2) := by decide +kernel
theorem dX4_need_34 : decode cX4_need 34 = .ok (.iload 5, 2) := by decide +kernel
theorem dX4_need_36 : decode cX4_need 36 = .ok (.ifCond .le 10, 3) := by decide +kernel
theorem dX4_need_39 : decode cX4_need 39 = .ok (.iload 5, 2) := by decide +kernel
theorem dX4_need_41 : decode cX4_need 41 = .ok (.iconst 2, 1) := by decide +kernel
theorem dX4_need_42 : decode cX4_need 42 = .ok (.idiv, 1) := by decide +kernel
theorem dX4_need_43 : decode cX4_need 43 = .ok (.goto 5, 3) := by decide +kernel
theorem dX4_need_46 : decode cX4_need 46 = .ok (.iload 5, 2) := by decide +kernel
theorem dX4_need_48 : decode cX4_need 48 = .ok (.ireturn, 1) := by decide +kernel
theorem dX4_deal_0 : decode cX4_deal 0 = .ok (.iconst 0, 1) := by decide +kernel
theorem dX4_deal_1 : decode cX4_deal 1 = .ok (.istore 4, 2) := by decide +kernel
theorem dX4_deal_3 : decode cX4_deal 3 = .ok (.iload 4, 2) := by decide +kernel
theorem dX4_deal_5 : decode cX4_deal 5 = .ok (.bipush 16, 2) := by decide +kernel
theorem dX4_deal_7 : decode cX4_deal 7 = .ok (.if_icmp .ge 32, 3) := by decide +kernel
theorem dX4_deal_10 : decode cX4_deal 10 = .ok (.aload_n 0, 1) := by decide +kernel
theorem dX4_deal_11 : decode cX4_deal 11 = .ok (.getfield 30, 3) := by decide +kernel
theorem dX4_deal_14 : decode cX4_deal 14 = .ok (.iload 4, 2) := by decide +kernel
theorem dX4_deal_16 : decode cX4_deal 16 = .ok (.aload_n 0, 1) := by decide +kernel
theorem dX4_deal_17 : decode cX4_deal 17 = .ok (.iload 4, 2) := by decide +kernel
theorem dX4_deal_19 : decode cX4_deal 19 = .ok (.iload_n 2, 1) := by decide +kernel
theorem dX4_deal_20 : decode cX4_deal 20 = .ok (.aload_n 3, 1) := by decide +kernel
theorem dX4_deal_21 : decode cX4_deal 21 = .ok (.invokevirtual 75, 3) := by decide +kernel
theorem dX4_deal_24 : decode cX4_deal 24 = .ok (.iastore, 1) := by decide +kernel
theorem dX4_deal_25 : decode cX4_deal 25 = .ok (.aload_n 0, 1) := by decide +kernel
theorem dX4_deal_26 : decode cX4_deal 26 = .ok (.getfield 33, 3) := by decide +kernel
theorem dX4_deal_29 : decode cX4_deal 29 = .ok (.iload 4, 2) := by decide +kernel
theorem dX4_deal_31 : decode cX4_deal 31 = .ok (.iconst 0, 1) := by decide +kernel
theorem dX4_deal_32 : decode cX4_deal 32 = .ok (.iastore, 1) := by decide +kernel
theorem dX4_deal_33 : decode cX4_deal 33 = .ok (.iinc 4 1, 3) := by decide +kernel
theorem dX4_deal_36 : decode cX4_deal 36 = .ok (.goto (-33), 3) := by decide +kernel
theorem dX4_deal_39 : decode cX4_deal 39 = .ok (.aload_n 0, 1) := by decide +kernel
theorem dX4_deal_40 : decode cX4_deal 40 = .ok (.iload_n 1, 1) := by decide +kernel
theorem dX4_deal_41 : decode cX4_deal 41 = .ok (.putfield 43, 3) := by decide +kernel
theorem dX4_deal_44 : decode cX4_deal 44 = .ok (.aload_n 0, 1) := by decide +kernel
theorem dX4_deal_45 : decode cX4_deal 45 = .ok (.iload_n 2, 1) := by decide +kernel
theorem dX4_deal_46 : decode cX4_deal 46 = .ok (.putfield 40, 3) := by decide +kernel
theorem dX4_deal_49 : decode cX4_deal 49 = .ok (.iload_n 1, 1) := by decide +kernel
theorem dX4_deal_50 : decode cX4_deal 50 = .ok (.istore 4, 2) := by decide +kernel
theorem dX4_deal_52 : decode cX4_deal 52 = .ok (.iconst 0, 1) := by decide +kernel
theorem dX4_deal_53 : decode cX4_deal 53 = .ok (.istore 5, 2) := by decide +kernel
theorem dX4_deal_55 : decode cX4_deal 55 = .ok (.iload 5, 2) := by decide +kernel
theorem dX4_deal_57 : decode cX4_deal 57 = .ok (.iload_n 1, 1) := by decide +kernel
theorem dX4_deal_58 : decode cX4_deal 58 = .ok (.if_icmp .ge 60, 3) := by decide +kernel
theorem dX4_deal_61 : decode cX4_deal 61 = .ok (.aload_n 0, 1) := by decide +kernel
theorem dX4_deal_62 : decode cX4_deal 62 = .ok (.iload 4, 2) := by decide +kernel
theorem dX4_deal_64 : decode cX4_deal 64 = .ok (.invokevirtual 79, 3) := by decide +kernel
theorem dX4_deal_67 : decode cX4_deal 67 = .ok (.istore 6, 2) := by decide +kernel
theorem dX4_deal_69 : decode cX4_deal 69 = .ok (.iload 6, 2) := by decide +kernel
theorem dX4_deal_71 : decode cX4_deal 71 = .ok (.iconst (-1), 1) := by decide +kernel
theorem dX4_deal_72 : decode cX4_deal 72 = .ok (.if_icmp .ne 4, 3) := by decide +kernel
theorem dX4_deal_75 : decode cX4_deal 75 = .ok (.return_, 1) := by decide +kernel
theorem dX4_deal_76 : decode cX4_deal 76 = .ok (.aload_n 0, 1) := by decide +kernel
theorem dX4_deal_77 : decode cX4_deal 77 = .ok (.getfield 33, 3) := by decide +kernel
theorem dX4_deal_80 : decode cX4_deal 80 = .ok (.iload 6, 2) := by decide +kernel
theorem dX4_deal_82 : decode cX4_deal 82 = .ok (.iaload, 1) := by decide +kernel
theorem dX4_deal_83 : decode cX4_deal 83 = .ok (.ifCond .ne 7, 3) := by decide +kernel
theorem dX4_deal_86 : decode cX4_deal 86 = .ok (.iconst 2, 1) := by decide +kernel
theorem dX4_deal_87 : decode cX4_deal 87 = .ok (.goto 4, 3) := by decide +kernel
theorem dX4_deal_90 : decode cX4_deal 90 = .ok (.iconst 1, 1) := by decide +kernel
theorem dX4_deal_91 : decode cX4_deal 91 = .ok (.istore 7, 2) := by decide +kernel
theorem dX4_deal_93 : decode cX4_deal 93 = .ok (.aload_n 0, 1) := by decide +kernel
theorem dX4_deal_94 : decode cX4_deal 94 = .ok (.getfield 33, 3) := by decide +kernel
theorem dX4_deal_97 : decode cX4_deal 97 = .ok (.iload 6, 2) := by decide +kernel
theorem dX4_deal_99 : decode cX4_deal 99 = .ok (.dup2, 1) := by decide +kernel
theorem dX4_deal_100 : decode cX4_deal 100 = .ok (.iaload, 1) := by decide +kernel
theorem dX4_deal_101 : decode cX4_deal 101 = .ok (.iload 7, 2) := by decide +kernel
theorem dX4_deal_103 : decode cX4_deal 103 = .ok (.iadd, 1) := by decide +kernel
theorem dX4_deal_104 : decode cX4_deal 104 = .ok (.iastore, 1) := by decide +kernel
theorem dX4_deal_105 : decode cX4_deal 105 = .ok (.iload 4, 2) := by decide +kernel
theorem dX4_deal_107 : decode cX4_deal 107 = .ok (.iload 7, 2) := by decide +kernel
theorem dX4_deal_109 : decode cX4_deal 109 = .ok (.isub, 1) := by decide +kernel
theorem dX4_deal_110 : decode cX4_deal 110 = .ok (.istore 4, 2) := by decide +kernel
theorem dX4_deal_112 : decode cX4_deal 112 = .ok (.iinc 5 1, 3) := by decide +kernel
theorem dX4_deal_115 : decode cX4_deal 115 = .ok (.goto (-60), 3) := by decide +kernel
theorem dX4_deal_118 : decode cX4_deal 118 = .ok (.return_, 1) := by decide +kernel
theorem dX4_neediest_0 : decode cX4_neediest 0 = .ok (.iconst (-1), 1) := by decide +kernel
theorem dX4_neediest_1 : decode cX4_neediest 1 = .ok (.istore_n 2, 1) := by decide +kernel
theorem dX4_neediest_2 : decode cX4_neediest 2 = .ok (.iconst 0, 1) := by decide +kernel
theorem dX4_neediest_3 : decode cX4_neediest 3 = .ok (.istore_n 3, 1) := by decide +kernel
theorem dX4_neediest_4 : decode cX4_neediest 4 = .ok (.iconst 0, 1) := by decide +kernel
theorem dX4_neediest_5 : decode cX4_neediest 5 = .ok (.istore 4, 2) := by decide +kernel
theorem dX4_neediest_7 : decode cX4_neediest 7 = .ok (.iload 4, 2) := by decide +kernel
theorem dX4_neediest_9 : decode cX4_neediest 9 = .ok (.bipush 16, 2) := by decide +kernel
theorem dX4_neediest_11 : decode cX4_neediest 11 = .ok (.if_icmp .ge 73, 3) := by decide +kernel
theorem dX4_neediest_14 : decode cX4_neediest 14 = .ok (.aload_n 0, 1) := by decide +kernel
theorem dX4_neediest_15 : decode cX4_neediest 15 = .ok (.getfield 30, 3) := by decide +kernel
theorem dX4_neediest_18 : decode cX4_neediest 18 = .ok (.iload 4, 2) := by decide +kernel
theorem dX4_neediest_20 : decode cX4_neediest 20 = .ok (.iaload, 1) := by decide +kernel
theorem dX4_neediest_21 : decode cX4_neediest 21 = .ok (.aload_n 0, 1) := by decide +kernel
theorem dX4_neediest_22 : decode cX4_neediest 22 = .ok (.getfield 33, 3) := by decide +kernel
theorem dX4_neediest_25 : decode cX4_neediest 25 = .ok (.iload 4, 2) := by decide +kernel
theorem dX4_neediest_27 : decode cX4_neediest 27 = .ok (.iaload, 1) := by decide +kernel
theorem dX4_neediest_28 : decode cX4_neediest 28 = .ok (.isub, 1) := by decide +kernel
theorem dX4_neediest_29 : decode cX4_neediest 29 = .ok (.istore 5, 2) := by decide +kernel
theorem dX4_neediest_31 : decode cX4_neediest 31 = .ok (.aload_n 0, 1) := by decide +kernel
theorem dX4_neediest_32 : decode cX4_neediest 32 = .ok (.getfield 33, 3) := by decide +kernel
theorem dX4_neediest_35 : decode cX4_neediest 35 = .ok (.iload 4, 2) := by decide +kernel
theorem dX4_neediest_37 : decode cX4_neediest 37 = .ok (.iaload, 1) := by decide +kernel
theorem dX4_neediest_38 : decode cX4_neediest 38 = .ok (.ifCond .ne 7, 3) := by decide +kernel
theorem dX4_neediest_41 : decode cX4_neediest 41 = .ok (.iconst 2, 1) := by decide +kernel
theorem dX4_neediest_42 : decode cX4_neediest 42 = .ok (.goto 4, 3) := by decide +kernel
theorem dX4_neediest_45 : decode cX4_neediest 45 = .ok (.iconst 1, 1) := by decide +kernel
theorem dX4_neediest_46 : decode cX4_neediest 46 = .ok (.istore 6, 2) := by decide +kernel
theorem dX4_neediest_48 : decode cX4_neediest 48 = .ok (.iload 5, 2) := by decide +kernel
theorem dX4_neediest_50 : decode cX4_neediest 50 = .ok (.iload_n 3, 1) := by decide +kernel
theorem dX4_neediest_51 : decode cX4_neediest 51 = .ok (.if_icmp .le 27, 3) := by decide +kernel
theorem dX4_neediest_54 : decode cX4_neediest 54 = .ok (.aload_n 0, 1) := by decide +kernel
theorem dX4_neediest_55 : decode cX4_neediest 55 = .ok (.getfield 33, 3) := by decide +kernel
theorem dX4_neediest_58 : decode cX4_neediest 58 = .ok (.iload 4, 2) := by decide +kernel
theorem dX4_neediest_60 : decode cX4_neediest 60 = .ok (.iaload, 1) := by decide +kernel
theorem dX4_neediest_61 : decode cX4_neediest 61 = .ok (.bipush 16, 2) := by decide +kernel
theorem dX4_neediest_63 : decode cX4_neediest 63 = .ok (.if_icmp .ge 15, 3) := by decide +kernel
theorem dX4_neediest_66 : decode cX4_neediest 66 = .ok (.iload_n 1, 1) := by decide +kernel
theorem dX4_neediest_67 : decode cX4_neediest 67 = .ok (.iload 6, 2) := by decide +kernel
theorem dX4_neediest_69 : decode cX4_neediest 69 = .ok (.if_icmp .lt 9, 3) := by decide +kernel
theorem dX4_neediest_72 : decode cX4_neediest 72 = .ok (.iload 4, 2) := by decide +kernel
theorem dX4_neediest_74 : decode cX4_neediest 74 = .ok (.istore_n 2, 1) := by decide +kernel
theorem dX4_neediest_75 : decode cX4_neediest 75 = .ok (.iload 5, 2) := by decide +kernel
theorem dX4_neediest_77 : decode cX4_neediest 77 = .ok (.istore_n 3, 1) := by decide +kernel
theorem dX4_neediest_78 : decode cX4_neediest 78 = .ok (.iinc 4 1, 3) := by decide +kernel
theorem dX4_neediest_81 : decode cX4_neediest 81 = .ok (.goto (-74), 3) := by decide +kernel
theorem dX4_neediest_84 : decode cX4_neediest 84 = .ok (.iload_n 2, 1) := by decide +kernel
theorem dX4_neediest_85 : decode cX4_neediest 85 = .ok (.ireturn, 1) := by decide +kernel
theorem dX4_quantise_0 : decode cX4_quantise 0 = .ok (.iconst 0, 1) := by decide +kernel
theorem dX4_quantise_1 : decode cX4_quantise 1 = .ok (.istore_n 1, 1) := by decide +kernel
theorem dX4_quantise_2 : decode cX4_quantise 2 = .ok (.iload_n 1, 1) := by decide +kernel
theorem dX4_quantise_3 : decode cX4_quantise 3 = .ok (.bipush 64, 2) := by decide +kernel
theorem dX4_quantise_5 : decode cX4_quantise 5 = .ok (.if_icmp .ge 68, 3) := by decide +kernel
theorem dX4_quantise_8 : decode cX4_quantise 8 = .ok (.iload_n 1, 1) := by decide +kernel
theorem dX4_quantise_9 : decode cX4_quantise 9 = .ok (.bipush 16, 2) := by decide +kernel
theorem dX4_quantise_11 : decode cX4_quantise 11 = .ok (.irem, 1) := by decide +kernel
theorem dX4_quantise_12 : decode cX4_quantise 12 = .ok (.istore_n 2, 1) := by decide +kernel
theorem dX4_quantise_13 : decode cX4_quantise 13 = .ok (.aload_n 0, 1) := by decide +kernel
theorem dX4_quantise_14 : decode cX4_quantise 14 = .ok (.getfield 18, 3) := by decide +kernel
theorem dX4_quantise_17 : decode cX4_quantise 17 = .ok (.iload_n 1, 1) := by decide +kernel
theorem dX4_quantise_18 : decode cX4_quantise 18 = .ok (.aload_n 0, 1) := by decide +kernel
theorem dX4_quantise_19 : decode cX4_quantise 19 = .ok (.getfield 15, 3) := by decide +kernel
theorem dX4_quantise_22 : decode cX4_quantise 22 = .ok (.iload_n 1, 1) := by decide +kernel
theorem dX4_quantise_23 : decode cX4_quantise 23 = .ok (.iaload, 1) := by decide +kernel
theorem dX4_quantise_24 : decode cX4_quantise 24 = .ok (.aload_n 0, 1) := by decide +kernel
theorem dX4_quantise_25 : decode cX4_quantise 25 = .ok (.getfield 27, 3) := by decide +kernel
theorem dX4_quantise_28 : decode cX4_quantise 28 = .ok (.iload_n 2, 1) := by decide +kernel
theorem dX4_quantise_29 : decode cX4_quantise 29 = .ok (.iaload, 1) := by decide +kernel
theorem dX4_quantise_30 : decode cX4_quantise 30 = .ok (.aload_n 0, 1) := by decide +kernel
theorem dX4_quantise_31 : decode cX4_quantise 31 = .ok (.getfield 33, 3) := by decide +kernel
theorem dX4_quantise_34 : decode cX4_quantise 34 = .ok (.iload_n 2, 1) := by decide +kernel
theorem dX4_quantise_35 : decode cX4_quantise 35 = .ok (.iaload, 1) := by decide +kernel
theorem dX4_quantise_36 : decode cX4_quantise 36 = .ok (.invokestatic 82, 3) := by decide +kernel
theorem dX4_quantise_39 : decode cX4_quantise 39 = .ok (.iastore, 1) := by decide +kernel
theorem dX4_quantise_40 : decode cX4_quantise 40 = .ok (.aload_n 0, 1) := by decide +kernel
theorem dX4_quantise_41 : decode cX4_quantise 41 = .ok (.getfield 21, 3) := by decide +kernel
theorem dX4_quantise_44 : decode cX4_quantise 44 = .ok (.iload_n 1, 1) := by decide +kernel
theorem dX4_quantise_45 : decode cX4_quantise 45 = .ok (.aload_n 0, 1) := by decide +kernel
theorem dX4_quantise_46 : decode cX4_quantise 46 = .ok (.getfield 18, 3) := by decide +kernel
theorem dX4_quantise_49 : decode cX4_quantise 49 = .ok (.iload_n 1, 1) := by decide +kernel
theorem dX4_quantise_50 : decode cX4_quantise 50 = .ok (.iaload, 1) := by decide +kernel
theorem dX4_quantise_51 : decode cX4_quantise 51 = .ok (.aload_n 0, 1) := by decide +kernel
theorem dX4_quantise_52 : decode cX4_quantise 52 = .ok (.getfield 27, 3) := by decide +kernel
theorem dX4_quantise_55 : decode cX4_quantise 55 = .ok (.iload_n 2, 1) := by decide +kernel
theorem dX4_quantise_56 : decode cX4_quantise 56 = .ok (.iaload, 1) := by decide +kernel
theorem dX4_quantise_57 : decode cX4_quantise 57 = .ok (.aload_n 0, 1) := by decide +kernel
theorem dX4_quantise_58 : decode cX4_quantise 58 = .ok (.getfield 33, 3) := by decide +kernel
theorem dX4_quantise_61 : decode cX4_quantise 61 = .ok (.iload_n 2, 1) := by decide +kernel
theorem dX4_quantise_62 : decode cX4_quantise 62 = .ok (.iaload, 1) := by decide +kernel
theorem dX4_quantise_63 : decode cX4_quantise 63 = .ok (.invokestatic 86, 3) := by decide +kernel
theorem dX4_quantise_66 : decode cX4_quantise 66 = .ok (.iastore, 1) := by decide +kernel
theorem dX4_quantise_67 : decode cX4_quantise 67 = .ok (.iinc 1 1, 3) := by decide +kernel
theorem dX4_quantise_70 : decode cX4_quantise 70 = .ok (.goto (-68), 3) := by decide +kernel
theorem dX4_quantise_73 : decode cX4_quantise 73 = .ok (.return_, 1) := by decide +kernel
theorem dX4_quantOf_0 : decode cX4_quantOf 0 = .ok (.iload_n 2, 1) := by decide +kernel
theorem dX4_quantOf_1 : decode cX4_quantOf 1 = .ok (.ifCond .gt 5, 3) := by decide +kernel
theorem dX4_quantOf_4 : decode cX4_quantOf 4 = .ok (.iconst 0, 1) := by decide +kernel
theorem dX4_quantOf_5 : decode cX4_quantOf 5 = .ok (.ireturn, 1) := by decide +kernel
theorem dX4_quantOf_6 : decode cX4_quantOf 6 = .ok (.lconst 1, 1) := by decide +kernel
theorem dX4_quantOf_7 : decode cX4_quantOf 7 = .ok (.iload_n 2, 1) := by decide +kernel
theorem dX4_quantOf_8 : decode cX4_quantOf 8 = .ok (.lshl, 1) := by decide +kernel
theorem dX4_quantOf_9 : decode cX4_quantOf 9 = .ok (.lconst 1, 1) := by decide +kernel
theorem dX4_quantOf_10 : decode cX4_quantOf 10 = .ok (.lsub, 1) := by decide +kernel
theorem dX4_quantOf_11 : decode cX4_quantOf 11 = .ok (.lstore_n 3, 1) := by decide +kernel
theorem dX4_quantOf_12 : decode cX4_quantOf 12 = .ok (.iload_n 0, 1) := by decide +kernel
theorem dX4_quantOf_13 : decode cX4_quantOf 13 = .ok (.i2l, 1) := by decide +kernel
theorem dX4_quantOf_14 : decode cX4_quantOf 14 = .ok (.lconst 1, 1) := by decide +kernel
theorem dX4_quantOf_15 : decode cX4_quantOf 15 = .ok (.iload_n 1, 1) := by decide +kernel
theorem dX4_quantOf_16 : decode cX4_quantOf 16 = .ok (.lshl, 1) := by decide +kernel
theorem dX4_quantOf_17 : decode cX4_quantOf 17 = .ok (.ladd, 1) := by decide +kernel
theorem dX4_quantOf_18 : decode cX4_quantOf 18 = .ok (.lload_n 3, 1) := by decide +kernel
theorem dX4_quantOf_19 : decode cX4_quantOf 19 = .ok (.lmul, 1) := by decide +kernel
theorem dX4_quantOf_20 : decode cX4_quantOf 20 = .ok (.iload_n 1, 1) := by decide +kernel
theorem dX4_quantOf_21 : decode cX4_quantOf 21 = .ok (.iconst 1, 1) := by decide +kernel
theorem dX4_quantOf_22 : decode cX4_quantOf 22 = .ok (.iadd, 1) := by decide +kernel
theorem dX4_quantOf_23 : decode cX4_quantOf 23 = .ok (.lshr, 1) := by decide +kernel
theorem dX4_quantOf_24 : decode cX4_quantOf 24 = .ok (.lstore 5, 2) := by decide +kernel
theorem dX4_quantOf_26 : decode cX4_quantOf 26 = .ok (.lconst 0, 1) := by decide +kernel
theorem dX4_quantOf_27 : decode cX4_quantOf 27 = .ok (.lload_n 3, 1) := by decide +kernel
theorem dX4_quantOf_28 : decode cX4_quantOf 28 = .ok (.lconst 1, 1) := by decide +kernel
theorem dX4_quantOf_29 : decode cX4_quantOf 29 = .ok (.lsub, 1) := by decide +kernel
theorem dX4_quantOf_30 : decode cX4_quantOf 30 = .ok (.lload 5, 2) := by decide +kernel
theorem dX4_quantOf_32 : decode cX4_quantOf 32 = .ok (.invokestatic 89, 3) := by decide +kernel
theorem dX4_quantOf_35 : decode cX4_quantOf 35 = .ok (.invokestatic 93, 3) := by decide +kernel
theorem dX4_quantOf_38 : decode cX4_quantOf 38 = .ok (.l2i, 1) := by decide +kernel
theorem dX4_quantOf_39 : decode cX4_quantOf 39 = .ok (.ireturn, 1) := by decide +kernel
theorem dX4_backOf_0 : decode cX4_backOf 0 = .ok (.iload_n 2, 1) := by decide +kernel
theorem dX4_backOf_1 : decode cX4_backOf 1 = .ok (.ifCond .gt 5, 3) := by decide +kernel
theorem dX4_backOf_4 : decode cX4_backOf 4 = .ok (.iconst 0, 1) := by decide +kernel
theorem dX4_backOf_5 : decode cX4_backOf 5 = .ok (.ireturn, 1) := by decide +kernel
theorem dX4_backOf_6 : decode cX4_backOf 6 = .ok (.lconst 1, 1) := by decide +kernel
theorem dX4_backOf_7 : decode cX4_backOf 7 = .ok (.iload_n 2, 1) := by decide +kernel
theorem dX4_backOf_8 : decode cX4_backOf 8 = .ok (.lshl, 1) := by decide +kernel
theorem dX4_backOf_9 : decode cX4_backOf 9 = .ok (.lconst 1, 1) := by decide +kernel
theorem dX4_backOf_10 : decode cX4_backOf 10 = .ok (.lsub, 1) := by decide +kernel
theorem dX4_backOf_11 : decode cX4_backOf 11 = .ok (.lstore_n 3, 1) := by decide +kernel
theorem dX4_backOf_12 : decode cX4_backOf 12 = .ok (.ldc2_w 95, 3) := by decide +kernel
theorem dX4_backOf_15 : decode cX4_backOf 15 = .ok (.iload_n 0, 1) := by decide +kernel
theorem dX4_backOf_16 : decode cX4_backOf 16 = .ok (.i2l, 1) := by decide +kernel
theorem dX4_backOf_17 : decode cX4_backOf 17 = .ok (.lmul, 1) := by decide +kernel
theorem dX4_backOf_18 : decode cX4_backOf 18 = .ok (.lconst 1, 1) := by decide +kernel
theorem dX4_backOf_19 : decode cX4_backOf 19 = .ok (.ladd, 1) := by decide +kernel
theorem dX4_backOf_20 : decode cX4_backOf 20 = .ok (.iload_n 1, 1) := by decide +kernel
theorem dX4_backOf_21 : decode cX4_backOf 21 = .ok (.lshl, 1) := by decide +kernel
theorem dX4_backOf_22 : decode cX4_backOf 22 = .ok (.lload_n 3, 1) := by decide +kernel
theorem dX4_backOf_23 : decode cX4_backOf 23 = .ok (.ldiv, 1) := by decide +kernel
theorem dX4_backOf_24 : decode cX4_backOf 24 = .ok (.lconst 1, 1) := by decide +kernel
theorem dX4_backOf_25 : decode cX4_backOf 25 = .ok (.iload_n 1, 1) := by decide +kernel
theorem dX4_backOf_26 : decode cX4_backOf 26 = .ok (.lshl, 1) := by decide +kernel
theorem dX4_backOf_27 : decode cX4_backOf 27 = .ok (.lsub, 1) := by decide +kernel
theorem dX4_backOf_28 : decode cX4_backOf 28 = .ok (.l2i, 1) := by decide +kernel
theorem dX4_backOf_29 : decode cX4_backOf 29 = .ok (.ireturn, 1) := by decide +kernel
theorem dX4_costOf_0 : decode cX4_costOf 0 = .ok (.iconst 0, 1) := by decide +kernel
theorem dX4_costOf_1 : decode cX4_costOf 1 = .ok (.istore_n 2, 1) := by decide +kernel
theorem dX4_costOf_2 : decode cX4_costOf 2 = .ok (.iload_n 1, 1) := by decide +kernel
theorem dX4_costOf_3 : decode cX4_costOf 3 = .ok (.istore_n 3, 1) := by decide +kernel
theorem dX4_costOf_4 : decode cX4_costOf 4 = .ok (.iload_n 3, 1) := by decide +kernel
theorem dX4_costOf_5 : decode cX4_costOf 5 = .ok (.bipush 64, 2) := by decide +kernel
theorem dX4_costOf_7 : decode cX4_costOf 7 = .ok (.if_icmp .ge 28, 3) := by decide +kernel
theorem dX4_costOf_10 : decode cX4_costOf 10 = .ok (.iload_n 2, 1) := by decide +kernel
theorem dX4_costOf_11 : decode cX4_costOf 11 = .ok (.aload_n 0, 1) := by decide +kernel
theorem dX4_costOf_12 : decode cX4_costOf 12 = .ok (.getfield 15, 3) := by decide +kernel
theorem dX4_costOf_15 : decode cX4_costOf 15 = .ok (.iload_n 3, 1) := by decide +kernel
theorem dX4_costOf_16 : decode cX4_costOf 16 = .ok (.iaload, 1) := by decide +kernel
theorem dX4_costOf_17 : decode cX4_costOf 17 = .ok (.aload_n 0, 1) := by decide +kernel
theorem dX4_costOf_18 : decode cX4_costOf 18 = .ok (.getfield 21, 3) := by decide +kernel
theorem dX4_costOf_21 : decode cX4_costOf 21 = .ok (.iload_n 3, 1) := by decide +kernel
theorem dX4_costOf_22 : decode cX4_costOf 22 = .ok (.iaload, 1) := by decide +kernel
theorem dX4_costOf_23 : decode cX4_costOf 23 = .ok (.isub, 1) := by decide +kernel
theorem dX4_costOf_24 : decode cX4_costOf 24 = .ok (.invokestatic 52, 3) := by decide +kernel
theorem dX4_costOf_27 : decode cX4_costOf 27 = .ok (.iadd, 1) := by decide +kernel
theorem dX4_costOf_28 : decode cX4_costOf 28 = .ok (.istore_n 2, 1) := by decide +kernel
theorem dX4_costOf_29 : decode cX4_costOf 29 = .ok (.iinc 3 16, 3) := by decide +kernel
theorem dX4_costOf_32 : decode cX4_costOf 32 = .ok (.goto (-28), 3) := by decide +kernel
theorem dX4_costOf_35 : decode cX4_costOf 35 = .ok (.iload_n 2, 1) := by decide +kernel
theorem dX4_costOf_36 : decode cX4_costOf 36 = .ok (.ireturn, 1) := by decide +kernel
theorem dX4_bitsOf_0 : decode cX4_bitsOf 0 = .ok (.iconst 0, 1) := by decide +kernel
theorem dX4_bitsOf_1 : decode cX4_bitsOf 1 = .ok (.istore_n 2, 1) := by decide +kernel
theorem dX4_bitsOf_2 : decode cX4_bitsOf 2 = .ok (.iconst 0, 1) := by decide +kernel
theorem dX4_bitsOf_3 : decode cX4_bitsOf 3 = .ok (.istore_n 3, 1) := by decide +kernel
theorem dX4_bitsOf_4 : decode cX4_bitsOf 4 = .ok (.iload_n 3, 1) := by decide +kernel
theorem dX4_bitsOf_5 : decode cX4_bitsOf 5 = .ok (.bipush 8, 2) := by decide +kernel
theorem dX4_bitsOf_7 : decode cX4_bitsOf 7 = .ok (.if_icmp .ge 23, 3) := by decide +kernel
theorem dX4_bitsOf_10 : decode cX4_bitsOf 10 = .ok (.iload_n 2, 1) := by decide +kernel
theorem dX4_bitsOf_11 : decode cX4_bitsOf 11 = .ok (.aload_n 0, 1) := by decide +kernel
theorem dX4_bitsOf_12 : decode cX4_bitsOf 12 = .ok (.getfield 33, 3) := by decide +kernel
theorem dX4_bitsOf_15 : decode cX4_bitsOf 15 = .ok (.iload_n 1, 1) := by decide +kernel
theorem dX4_bitsOf_16 : decode cX4_bitsOf 16 = .ok (.bipush 8, 2) := by decide +kernel
theorem dX4_bitsOf_18 : decode cX4_bitsOf 18 = .ok (.imul, 1) := by decide +kernel
theorem dX4_bitsOf_19 : decode cX4_bitsOf 19 = .ok (.iload_n 3, 1) := by decide +kernel
theorem dX4_bitsOf_20 : decode cX4_bitsOf 20 = .ok (.iadd, 1) := by decide +kernel
theorem dX4_bitsOf_21 : decode cX4_bitsOf 21 = .ok (.iaload, 1) := by decide +kernel
theorem dX4_bitsOf_22 : decode cX4_bitsOf 22 = .ok (.iadd, 1) := by decide +kernel
theorem dX4_bitsOf_23 : decode cX4_bitsOf 23 = .ok (.istore_n 2, 1) := by decide +kernel
theorem dX4_bitsOf_24 : decode cX4_bitsOf 24 = .ok (.iinc 3 1, 3) := by decide +kernel
theorem dX4_bitsOf_27 : decode cX4_bitsOf 27 = .ok (.goto (-23), 3) := by decide +kernel
theorem dX4_bitsOf_30 : decode cX4_bitsOf 30 = .ok (.iload_n 2, 1) := by decide +kernel
theorem dX4_bitsOf_31 : decode cX4_bitsOf 31 = .ok (.ireturn, 1) := by decide +kernel
theorem dX4_undoTwins_0 : decode cX4_undoTwins 0 = .ok (.aload_n 0, 1) := by decide +kernel
theorem dX4_undoTwins_1 : decode cX4_undoTwins 1 = .ok (.getfield 21, 3) := by decide +kernel
theorem dX4_undoTwins_4 : decode cX4_undoTwins 4 = .ok (.iconst 0, 1) := by decide +kernel
theorem dX4_undoTwins_5 : decode cX4_undoTwins 5 = .ok (.aload_n 0, 1) := by decide +kernel
theorem dX4_undoTwins_6 : decode cX4_undoTwins 6 = .ok (.getfield 24, 3) := by decide +kernel
theorem dX4_undoTwins_9 : decode cX4_undoTwins 9 = .ok (.iconst 0, 1) := by decide +kernel
theorem dX4_undoTwins_10 : decode cX4_undoTwins 10 = .ok (.bipush 64, 2) := by decide +kernel
theorem dX4_undoTwins_12 : decode cX4_undoTwins 12 = .ok (.invokestatic 46, 3) := by decide +kernel
theorem dX4_undoTwins_15 : decode cX4_undoTwins 15 = .ok (.iconst 0, 1) := by decide +kernel
theorem dX4_undoTwins_16 : decode cX4_undoTwins 16 = .ok (.istore_n 1, 1) := by decide +kernel
theorem dX4_undoTwins_17 : decode cX4_undoTwins 17 = .ok (.iload_n 1, 1) := by decide +kernel
theorem dX4_undoTwins_18 : decode cX4_undoTwins 18 = .ok (.bipush 64, 2) := by decide +kernel
theorem dX4_undoTwins_20 : decode cX4_undoTwins 20 = .ok (.if_icmp .ge 77, 3) := by decide +kernel
theorem dX4_undoTwins_23 : decode cX4_undoTwins 23 = .ok (.iload_n 1, 1) := by decide +kernel
theorem dX4_undoTwins_24 : decode cX4_undoTwins 24 = .ok (.bipush 16, 2) := by decide +kernel
theorem dX4_undoTwins_26 : decode cX4_undoTwins 26 = .ok (.irem, 1) := by decide +kernel
theorem dX4_undoTwins_27 : decode cX4_undoTwins 27 = .ok (.istore_n 2, 1) := by decide +kernel
theorem dX4_undoTwins_28 : decode cX4_undoTwins 28 = .ok (.iload_n 2, 1) := by decide +kernel
theorem dX4_undoTwins_29 : decode cX4_undoTwins 29 = .ok (.bipush 8, 2) := by decide +kernel
theorem dX4_undoTwins_31 : decode cX4_undoTwins 31 = .ok (.if_icmp .ge 60, 3) := by decide +kernel
theorem dX4_undoTwins_34 : decode cX4_undoTwins 34 = .ok (.aload_n 0, 1) := by decide +kernel
theorem dX4_undoTwins_35 : decode cX4_undoTwins 35 = .ok (.getfield 36, 3) := by decide +kernel
theorem dX4_undoTwins_38 : decode cX4_undoTwins 38 = .ok (.iload_n 2, 1) := by decide +kernel
theorem dX4_undoTwins_39 : decode cX4_undoTwins 39 = .ok (.ishr, 1) := by decide +kernel
theorem dX4_undoTwins_40 : decode cX4_undoTwins 40 = .ok (.iconst 1, 1) := by decide +kernel
theorem dX4_undoTwins_41 : decode cX4_undoTwins 41 = .ok (.iand, 1) := by decide +kernel
theorem dX4_undoTwins_42 : decode cX4_undoTwins 42 = .ok (.iconst 1, 1) := by decide +kernel
theorem dX4_undoTwins_43 : decode cX4_undoTwins 43 = .ok (.if_icmp .ne 48, 3) := by decide +kernel
theorem dX4_undoTwins_46 : decode cX4_undoTwins 46 = .ok (.aload_n 0, 1) := by decide +kernel
theorem dX4_undoTwins_47 : decode cX4_undoTwins 47 = .ok (.getfield 21, 3) := by decide +kernel
theorem dX4_undoTwins_50 : decode cX4_undoTwins 50 = .ok (.iload_n 1, 1) := by decide +kernel
theorem dX4_undoTwins_51 : decode cX4_undoTwins 51 = .ok (.bipush 8, 2) := by decide +kernel
theorem dX4_undoTwins_53 : decode cX4_undoTwins 53 = .ok (.iadd, 1) := by decide +kernel
theorem dX4_undoTwins_54 : decode cX4_undoTwins 54 = .ok (.iaload, 1) := by decide +kernel
theorem dX4_undoTwins_55 : decode cX4_undoTwins 55 = .ok (.istore_n 3, 1) := by decide +kernel
theorem dX4_undoTwins_56 : decode cX4_undoTwins 56 = .ok (.aload_n 0, 1) := by decide +kernel
theorem dX4_undoTwins_57 : decode cX4_undoTwins 57 = .ok (.getfield 24, 3) := by decide +kernel
theorem dX4_undoTwins_60 : decode cX4_undoTwins 60 = .ok (.iload_n 1, 1) := by decide +kernel
theorem dX4_undoTwins_61 : decode cX4_undoTwins 61 = .ok (.aload_n 0, 1) := by decide +kernel
theorem dX4_undoTwins_62 : decode cX4_undoTwins 62 = .ok (.getfield 21, 3) := by decide +kernel
theorem dX4_undoTwins_65 : decode cX4_undoTwins 65 = .ok (.iload_n 1, 1) := by decide +kernel
theorem dX4_undoTwins_66 : decode cX4_undoTwins 66 = .ok (.iaload, 1) := by decide +kernel
theorem dX4_undoTwins_67 : decode cX4_undoTwins 67 = .ok (.iload_n 3, 1) := by decide +kernel
theorem dX4_undoTwins_68 : decode cX4_undoTwins 68 = .ok (.iconst 1, 1) := by decide +kernel
theorem dX4_undoTwins_69 : decode cX4_undoTwins 69 = .ok (.iadd, 1) := by decide +kernel
theorem dX4_undoTwins_70 : decode cX4_undoTwins 70 = .ok (.iconst 1, 1) := by decide +kernel
theorem dX4_undoTwins_71 : decode cX4_undoTwins 71 = .ok (.ishr, 1) := by decide +kernel
theorem dX4_undoTwins_72 : decode cX4_undoTwins 72 = .ok (.iadd, 1) := by decide +kernel
theorem dX4_undoTwins_73 : decode cX4_undoTwins 73 = .ok (.iastore, 1) := by decide +kernel
theorem dX4_undoTwins_74 : decode cX4_undoTwins 74 = .ok (.aload_n 0, 1) := by decide +kernel
theorem dX4_undoTwins_75 : decode cX4_undoTwins 75 = .ok (.getfield 24, 3) := by decide +kernel
theorem dX4_undoTwins_78 : decode cX4_undoTwins 78 = .ok (.iload_n 1, 1) := by decide +kernel
theorem dX4_undoTwins_79 : decode cX4_undoTwins 79 = .ok (.bipush 8, 2) := by decide +kernel
theorem dX4_undoTwins_81 : decode cX4_undoTwins 81 = .ok (.iadd, 1) := by decide +kernel
theorem dX4_undoTwins_82 : decode cX4_undoTwins 82 = .ok (.aload_n 0, 1) := by decide +kernel
theorem dX4_undoTwins_83 : decode cX4_undoTwins 83 = .ok (.getfield 24, 3) := by decide +kernel
theorem dX4_undoTwins_86 : decode cX4_undoTwins 86 = .ok (.iload_n 1, 1) := by decide +kernel
theorem dX4_undoTwins_87 : decode cX4_undoTwins 87 = .ok (.iaload, 1) := by decide +kernel
theorem dX4_undoTwins_88 : decode cX4_undoTwins 88 = .ok (.iload_n 3, 1) := by decide +kernel
theorem dX4_undoTwins_89 : decode cX4_undoTwins 89 = .ok (.isub, 1) := by decide +kernel
theorem dX4_undoTwins_90 : decode cX4_undoTwins 90 = .ok (.iastore, 1) := by decide +kernel
theorem dX4_undoTwins_91 : decode cX4_undoTwins 91 = .ok (.iinc 1 1, 3) := by decide +kernel
theorem dX4_undoTwins_94 : decode cX4_undoTwins 94 = .ok (.goto (-77), 3) := by decide +kernel
theorem dX4_undoTwins_97 : decode cX4_undoTwins 97 = .ok (.return_, 1) := by decide +kernel
theorem dX4_sumOff_0 : decode cX4_sumOff 0 = .ok (.iconst 0, 1) := by decide +kernel
theorem dX4_sumOff_1 : decode cX4_sumOff 1 = .ok (.istore_n 1, 1) := by decide +kernel
theorem dX4_sumOff_2 : decode cX4_sumOff 2 = .ok (.iconst 0, 1) := by decide +kernel
theorem dX4_sumOff_3 : decode cX4_sumOff 3 = .ok (.istore_n 2, 1) := by decide +kernel
theorem dX4_sumOff_4 : decode cX4_sumOff 4 = .ok (.iload_n 2, 1) := by decide +kernel
theorem dX4_sumOff_5 : decode cX4_sumOff 5 = .ok (.bipush 64, 2) := by decide +kernel
theorem dX4_sumOff_7 : decode cX4_sumOff 7 = .ok (.if_icmp .ge 28, 3) := by decide +kernel
theorem dX4_sumOff_10 : decode cX4_sumOff 10 = .ok (.iload_n 1, 1) := by decide +kernel
theorem dX4_sumOff_11 : decode cX4_sumOff 11 = .ok (.aload_n 0, 1) := by decide +kernel
theorem dX4_sumOff_12 : decode cX4_sumOff 12 = .ok (.getfield 9, 3) := by decide +kernel
theorem dX4_sumOff_15 : decode cX4_sumOff 15 = .ok (.iload_n 2, 1) := by decide +kernel
theorem dX4_sumOff_16 : decode cX4_sumOff 16 = .ok (.iaload, 1) := by decide +kernel
theorem dX4_sumOff_17 : decode cX4_sumOff 17 = .ok (.aload_n 0, 1) := by decide +kernel
theorem dX4_sumOff_18 : decode cX4_sumOff 18 = .ok (.getfield 24, 3) := by decide +kernel
theorem dX4_sumOff_21 : decode cX4_sumOff 21 = .ok (.iload_n 2, 1) := by decide +kernel
theorem dX4_sumOff_22 : decode cX4_sumOff 22 = .ok (.iaload, 1) := by decide +kernel
theorem dX4_sumOff_23 : decode cX4_sumOff 23 = .ok (.isub, 1) := by decide +kernel
theorem dX4_sumOff_24 : decode cX4_sumOff 24 = .ok (.invokestatic 52, 3) := by decide +kernel
theorem dX4_sumOff_27 : decode cX4_sumOff 27 = .ok (.iadd, 1) := by decide +kernel
theorem dX4_sumOff_28 : decode cX4_sumOff 28 = .ok (.istore_n 1, 1) := by decide +kernel
theorem dX4_sumOff_29 : decode cX4_sumOff 29 = .ok (.iinc 2 1, 3) := by decide +kernel
theorem dX4_sumOff_32 : decode cX4_sumOff 32 = .ok (.goto (-28), 3) := by decide +kernel
theorem dX4_sumOff_35 : decode cX4_sumOff 35 = .ok (.iload_n 1, 1) := by decide +kernel
theorem dX4_sumOff_36 : decode cX4_sumOff 36 = .ok (.ireturn, 1) := by decide +kernel
theorem dX4_mostOff_0 : decode cX4_mostOff 0 = .ok (.iconst 0, 1) := by decide +kernel
theorem dX4_mostOff_1 : decode cX4_mostOff 1 = .ok (.istore_n 1, 1) := by decide +kernel
theorem dX4_mostOff_2 : decode cX4_mostOff 2 = .ok (.iconst 0, 1) := by decide +kernel
theorem dX4_mostOff_3 : decode cX4_mostOff 3 = .ok (.istore_n 2, 1) := by decide +kernel
theorem dX4_mostOff_4 : decode cX4_mostOff 4 = .ok (.iload_n 2, 1) := by decide +kernel
theorem dX4_mostOff_5 : decode cX4_mostOff 5 = .ok (.bipush 64, 2) := by decide +kernel
theorem dX4_mostOff_7 : decode cX4_mostOff 7 = .ok (.if_icmp .ge 30, 3) := by decide +kernel
theorem dX4_mostOff_10 : decode cX4_mostOff 10 = .ok (.iload_n 1, 1) := by decide +kernel
theorem dX4_mostOff_11 : decode cX4_mostOff 11 = .ok (.aload_n 0, 1) := by decide +kernel
theorem dX4_mostOff_12 : decode cX4_mostOff 12 = .ok (.getfield 9, 3) := by decide +kernel
theorem dX4_mostOff_15 : decode cX4_mostOff 15 = .ok (.iload_n 2, 1) := by decide +kernel
theorem dX4_mostOff_16 : decode cX4_mostOff 16 = .ok (.iaload, 1) := by decide +kernel
theorem dX4_mostOff_17 : decode cX4_mostOff 17 = .ok (.aload_n 0, 1) := by decide +kernel
theorem dX4_mostOff_18 : decode cX4_mostOff 18 = .ok (.getfield 24, 3) := by decide +kernel
theorem dX4_mostOff_21 : decode cX4_mostOff 21 = .ok (.iload_n 2, 1) := by decide +kernel
theorem dX4_mostOff_22 : decode cX4_mostOff 22 = .ok (.iaload, 1) := by decide +kernel
theorem dX4_mostOff_23 : decode cX4_mostOff 23 = .ok (.isub, 1) := by decide +kernel
theorem dX4_mostOff_24 : decode cX4_mostOff 24 = .ok (.invokestatic 52, 3) := by decide +kernel
theorem dX4_mostOff_27 : decode cX4_mostOff 27 = .ok (.invokestatic 71, 3) := by decide +kernel
theorem dX4_mostOff_30 : decode cX4_mostOff 30 = .ok (.istore_n 1, 1) := by decide +kernel
theorem dX4_mostOff_31 : decode cX4_mostOff 31 = .ok (.iinc 2 1, 3) := by decide +kernel
theorem dX4_mostOff_34 : decode cX4_mostOff 34 = .ok (.goto (-30), 3) := by decide +kernel
theorem dX4_mostOff_37 : decode cX4_mostOff 37 = .ok (.iload_n 1, 1) := by decide +kernel
theorem dX4_mostOff_38 : decode cX4_mostOff 38 = .ok (.ireturn, 1) := by decide +kernel
theorem dX4_read_0 : decode cX4_read 0 = .ok (.aload_n 1, 1) := by decide +kernel
theorem dX4_read_1 : decode cX4_read 1 = .ok (.invokevirtual 97, 3) := by decide +kernel
theorem dX4_read_4 : decode cX4_read 4 = .ok (.aload_n 1, 1) := by decide +kernel
theorem dX4_read_5 : decode cX4_read 5 = .ok (.bipush 8, 2) := by decide +kernel
theorem dX4_read_7 : decode cX4_read 7 = .ok (.invokevirtual 102, 3) := by decide +kernel
theorem dX4_read_10 : decode cX4_read 10 = .ok (.pop, 1) := by decide +kernel
theorem dX4_read_11 : decode cX4_read 11 = .ok (.aload_n 1, 1) := by decide +kernel
theorem dX4_read_12 : decode cX4_read 12 = .ok (.bipush 8, 2) := by decide +kernel
theorem dX4_read_14 : decode cX4_read 14 = .ok (.invokevirtual 102, 3) := by decide +kernel
theorem dX4_read_17 : decode cX4_read 17 = .ok (.bipush 7, 2) := by decide +kernel
theorem dX4_read_19 : decode cX4_read 19 = .ok (.ishr, 1) := by decide +kernel
theorem dX4_read_20 : decode cX4_read 20 = .ok (.istore_n 3, 1) := by decide +kernel
theorem dX4_read_21 : decode cX4_read 21 = .ok (.aload_n 1, 1) := by decide +kernel
theorem dX4_read_22 : decode cX4_read 22 = .ok (.bipush 8, 2) := by decide +kernel
theorem dX4_read_24 : decode cX4_read 24 = .ok (.invokevirtual 102, 3) := by decide +kernel
theorem dX4_read_27 : decode cX4_read 27 = .ok (.istore 4, 2) := by decide +kernel
theorem dX4_read_29 : decode cX4_read 29 = .ok (.aload_n 1, 1) := by decide +kernel
theorem dX4_read_30 : decode cX4_read 30 = .ok (.bipush 8, 2) := by decide +kernel
theorem dX4_read_32 : decode cX4_read 32 = .ok (.invokevirtual 102, 3) := by decide +kernel
theorem dX4_read_35 : decode cX4_read 35 = .ok (.pop, 1) := by decide +kernel
theorem dX4_read_36 : decode cX4_read 36 = .ok (.aload_n 0, 1) := by decide +kernel
theorem dX4_read_37 : decode cX4_read 37 = .ok (.aload_n 1, 1) := by decide +kernel
theorem dX4_read_38 : decode cX4_read 38 = .ok (.bipush 8, 2) := by decide +kernel
theorem dX4_read_40 : decode cX4_read 40 = .ok (.invokevirtual 102, 3) := by decide +kernel
theorem dX4_read_43 : decode cX4_read 43 = .ok (.putfield 36, 3) := by decide +kernel
theorem dX4_read_46 : decode cX4_read 46 = .ok (.iconst 0, 1) := by decide +kernel
theorem dX4_read_47 : decode cX4_read 47 = .ok (.istore 5, 2) := by decide +kernel
theorem dX4_read_49 : decode cX4_read 49 = .ok (.iload 5, 2) := by decide +kernel
theorem dX4_read_51 : decode cX4_read 51 = .ok (.bipush 16, 2) := by decide +kernel
theorem dX4_read_53 : decode cX4_read 53 = .ok (.if_icmp .ge 21, 3) := by decide +kernel
theorem dX4_read_56 : decode cX4_read 56 = .ok (.aload_n 0, 1) := by decide +kernel
theorem dX4_read_57 : decode cX4_read 57 = .ok (.getfield 27, 3) := by decide +kernel
theorem dX4_read_60 : decode cX4_read 60 = .ok (.iload 5, 2) := by decide +kernel
theorem dX4_read_62 : decode cX4_read 62 = .ok (.aload_n 1, 1) := by decide +kernel
theorem dX4_read_63 : decode cX4_read 63 = .ok (.iconst 4, 1) := by decide +kernel
theorem dX4_read_64 : decode cX4_read 64 = .ok (.invokevirtual 102, 3) := by decide +kernel
theorem dX4_read_67 : decode cX4_read 67 = .ok (.iastore, 1) := by decide +kernel
theorem dX4_read_68 : decode cX4_read 68 = .ok (.iinc 5 1, 3) := by decide +kernel
theorem dX4_read_71 : decode cX4_read 71 = .ok (.goto (-22), 3) := by decide +kernel
theorem dX4_read_74 : decode cX4_read 74 = .ok (.aload_n 0, 1) := by decide +kernel
theorem dX4_read_75 : decode cX4_read 75 = .ok (.iload 4, 2) := by decide +kernel
theorem dX4_read_77 : decode cX4_read 77 = .ok (.iload_n 3, 1) := by decide +kernel
theorem dX4_read_78 : decode cX4_read 78 = .ok (.aload_n 2, 1) := by decide +kernel
theorem dX4_read_79 : decode cX4_read 79 = .ok (.invokevirtual 105, 3) := by decide +kernel
theorem dX4_read_82 : decode cX4_read 82 = .ok (.iconst 0, 1) := by decide +kernel
theorem dX4_read_83 : decode cX4_read 83 = .ok (.istore 5, 2) := by decide +kernel
theorem dX4_read_85 : decode cX4_read 85 = .ok (.iload 5, 2) := by decide +kernel
theorem dX4_read_87 : decode cX4_read 87 = .ok (.bipush 64, 2) := by decide +kernel
theorem dX4_read_89 : decode cX4_read 89 = .ok (.if_icmp .ge 65, 3) := by decide +kernel
theorem dX4_read_92 : decode cX4_read 92 = .ok (.iload 5, 2) := by decide +kernel
theorem dX4_read_94 : decode cX4_read 94 = .ok (.bipush 16, 2) := by decide +kernel
theorem dX4_read_96 : decode cX4_read 96 = .ok (.irem, 1) := by decide +kernel
theorem dX4_read_97 : decode cX4_read 97 = .ok (.istore 6, 2) := by decide +kernel
theorem dX4_read_99 : decode cX4_read 99 = .ok (.aload_n 0, 1) := by decide +kernel
theorem dX4_read_100 : decode cX4_read 100 = .ok (.getfield 18, 3) := by decide +kernel
theorem dX4_read_103 : decode cX4_read 103 = .ok (.iload 5, 2) := by decide +kernel
theorem dX4_read_105 : decode cX4_read 105 = .ok (.aload_n 1, 1) := by decide +kernel
theorem dX4_read_106 : decode cX4_read 106 = .ok (.aload_n 0, 1) := by decide +kernel
theorem dX4_read_107 : decode cX4_read 107 = .ok (.getfield 33, 3) := by decide +kernel
theorem dX4_read_110 : decode cX4_read 110 = .ok (.iload 6, 2) := by decide +kernel
theorem dX4_read_112 : decode cX4_read 112 = .ok (.iaload, 1) := by decide +kernel
theorem dX4_read_113 : decode cX4_read 113 = .ok (.invokevirtual 102, 3) := by decide +kernel
theorem dX4_read_116 : decode cX4_read 116 = .ok (.iastore, 1) := by decide +kernel
theorem dX4_read_117 : decode cX4_read 117 = .ok (.aload_n 0, 1) := by decide +kernel
theorem dX4_read_118 : decode cX4_read 118 = .ok (.getfield 21, 3) := by decide +kernel
theorem dX4_read_121 : decode cX4_read 121 = .ok (.iload 5, 2) := by decide +kernel
theorem dX4_read_123 : decode cX4_read 123 = .ok (.aload_n 0, 1) := by decide +kernel
theorem dX4_read_124 : decode cX4_read 124 = .ok (.getfield 18, 3) := by decide +kernel
theorem dX4_read_127 : decode cX4_read 127 = .ok (.iload 5, 2) := by decide +kernel
theorem dX4_read_129 : decode cX4_read 129 = .ok (.iaload, 1) := by decide +kernel
theorem dX4_read_130 : decode cX4_read 130 = .ok (.aload_n 0, 1) := by decide +kernel
theorem dX4_read_131 : decode cX4_read 131 = .ok (.getfield 27, 3) := by decide +kernel
theorem dX4_read_134 : decode cX4_read 134 = .ok (.iload 6, 2) := by decide +kernel
theorem dX4_read_136 : decode cX4_read 136 = .ok (.iaload, 1) := by decide +kernel
theorem dX4_read_137 : decode cX4_read 137 = .ok (.aload_n 0, 1) := by decide +kernel
theorem dX4_read_138 : decode cX4_read 138 = .ok (.getfield 33, 3) := by decide +kernel
theorem dX4_read_141 : decode cX4_read 141 = .ok (.iload 6, 2) := by decide +kernel
theorem dX4_read_143 : decode cX4_read 143 = .ok (.iaload, 1) := by decide +kernel
theorem dX4_read_144 : decode cX4_read 144 = .ok (.invokestatic 86, 3) := by decide +kernel
theorem dX4_read_147 : decode cX4_read 147 = .ok (.iastore, 1) := by decide +kernel
theorem dX4_read_148 : decode cX4_read 148 = .ok (.iinc 5 1, 3) := by decide +kernel
theorem dX4_read_151 : decode cX4_read 151 = .ok (.goto (-66), 3) := by decide +kernel
theorem dX4_read_154 : decode cX4_read 154 = .ok (.return_, 1) := by decide +kernel
theorem dX5_init_0 : decode cX5_init 0 = .ok (.aload_n 0, 1) := by decide +kernel
theorem dX5_init_1 : decode cX5_init 1 = .ok (.invokespecial 1, 3) := by decide +kernel
theorem dX5_init_4 : decode cX5_init 4 = .ok (.aload_n 0, 1) := by decide +kernel
theorem dX5_init_5 : decode cX5_init 5 = .ok (.iconst 0, 1) := by decide +kernel
theorem dX5_init_6 : decode cX5_init 6 = .ok (.putfield 7, 3) := by decide +kernel
theorem dX5_init_9 : decode cX5_init 9 = .ok (.aload_n 0, 1) := by decide +kernel
theorem dX5_init_10 : decode cX5_init 10 = .ok (.iconst 0, 1) := by decide +kernel
theorem dX5_init_11 : decode cX5_init 11 = .ok (.putfield 13, 3) := by decide +kernel
theorem dX5_init_14 : decode cX5_init 14 = .ok (.aload_n 0, 1) := by decide +kernel
theorem dX5_init_15 : decode cX5_init 15 = .ok (.iconst 0, 1) := by decide +kernel
theorem dX5_init_16 : decode cX5_init 16 = .ok (.putfield 16, 3) := by decide +kernel
theorem dX5_init_19 : decode cX5_init 19 = .ok (.aload_n 0, 1) := by decide +kernel
theorem dX5_init_20 : decode cX5_init 20 = .ok (.iconst 1, 1) := by decide +kernel
theorem dX5_init_21 : decode cX5_init 21 = .ok (.putfield 19, 3) := by decide +kernel
theorem dX5_init_24 : decode cX5_init 24 = .ok (.aload_n 0, 1) := by decide +kernel
theorem dX5_init_25 : decode cX5_init 25 = .ok (.new 22, 3) := by decide +kernel
theorem dX5_init_28 : decode cX5_init 28 = .ok (.dup, 1) := by decide +kernel
theorem dX5_init_29 : decode cX5_init 29 = .ok (.invokespecial 24, 3) := by decide +kernel
theorem dX5_init_32 : decode cX5_init 32 = .ok (.putfield 25, 3) := by decide +kernel
theorem dX5_init_35 : decode cX5_init 35 = .ok (.aload_n 0, 1) := by decide +kernel
theorem dX5_init_36 : decode cX5_init 36 = .ok (.new 22, 3) := by decide +kernel
theorem dX5_init_39 : decode cX5_init 39 = .ok (.dup, 1) := by decide +kernel
theorem dX5_init_40 : decode cX5_init 40 = .ok (.invokespecial 24, 3) := by decide +kernel
theorem dX5_init_43 : decode cX5_init 43 = .ok (.putfield 29, 3) := by decide +kernel
theorem dX5_init_46 : decode cX5_init 46 = .ok (.return_, 1) := by decide +kernel
theorem dX5_become_0 : decode cX5_become 0 = .ok (.aload_n 0, 1) := by decide +kernel
theorem dX5_become_1 : decode cX5_become 1 = .ok (.aload_n 1, 1) := by decide +kernel
theorem dX5_become_2 : decode cX5_become 2 = .ok (.getfield 7, 3) := by decide +kernel
theorem dX5_become_5 : decode cX5_become 5 = .ok (.putfield 7, 3) := by decide +kernel
theorem dX5_become_8 : decode cX5_become 8 = .ok (.aload_n 0, 1) := by decide +kernel
theorem dX5_become_9 : decode cX5_become 9 = .ok (.aload_n 1, 1) := by decide +kernel
theorem dX5_become_10 : decode cX5_become 10 = .ok (.getfield 13, 3) := by decide +kernel
theorem dX5_become_13 : decode cX5_become 13 = .ok (.putfield 13, 3) := by decide +kernel
theorem dX5_become_16 : decode cX5_become 16 = .ok (.aload_n 0, 1) := by decide +kernel
theorem dX5_become_17 : decode cX5_become 17 = .ok (.aload_n 1, 1) := by decide +kernel
theorem dX5_become_18 : decode cX5_become 18 = .ok (.getfield 16, 3) := by decide +kernel
theorem dX5_become_21 : decode cX5_become 21 = .ok (.putfield 16, 3) := by decide +kernel
theorem dX5_become_24 : decode cX5_become 24 = .ok (.aload_n 0, 1) := by decide +kernel
theorem dX5_become_25 : decode cX5_become 25 = .ok (.aload_n 1, 1) := by decide +kernel
theorem dX5_become_26 : decode cX5_become 26 = .ok (.getfield 19, 3) := by decide +kernel
theorem dX5_become_29 : decode cX5_become 29 = .ok (.putfield 19, 3) := by decide +kernel
theorem dX5_become_32 : decode cX5_become 32 = .ok (.aload_n 0, 1) := by decide +kernel
theorem dX5_become_33 : decode cX5_become 33 = .ok (.getfield 25, 3) := by decide +kernel
theorem dX5_become_36 : decode cX5_become 36 = .ok (.aload_n 1, 1) := by decide +kernel
theorem dX5_become_37 : decode cX5_become 37 = .ok (.getfield 25, 3) := by decide +kernel
theorem dX5_become_40 : decode cX5_become 40 = .ok (.invokevirtual 32, 3) := by decide +kernel
theorem dX5_become_43 : decode cX5_become 43 = .ok (.aload_n 0, 1) := by decide +kernel
theorem dX5_become_44 : decode cX5_become 44 = .ok (.getfield 29, 3) := by decide +kernel
theorem dX5_become_47 : decode cX5_become 47 = .ok (.aload_n 1, 1) := by decide +kernel
theorem dX5_become_48 : decode cX5_become 48 = .ok (.getfield 29, 3) := by decide +kernel
theorem dX5_become_51 : decode cX5_become 51 = .ok (.invokevirtual 32, 3) := by decide +kernel
theorem dX5_become_54 : decode cX5_become 54 = .ok (.return_, 1) := by decide +kernel
theorem dX5_load_0 : decode cX5_load 0 = .ok (.aload_n 0, 1) := by decide +kernel
theorem dX5_load_1 : decode cX5_load 1 = .ok (.iload_n 1, 1) := by decide +kernel
theorem dX5_load_2 : decode cX5_load 2 = .ok (.putfield 7, 3) := by decide +kernel
theorem dX5_load_5 : decode cX5_load 5 = .ok (.aload_n 0, 1) := by decide +kernel
theorem dX5_load_6 : decode cX5_load 6 = .ok (.iconst 0, 1) := by decide +kernel
theorem dX5_load_7 : decode cX5_load 7 = .ok (.putfield 13, 3) := by decide +kernel
theorem dX5_load_10 : decode cX5_load 10 = .ok (.aload_n 0, 1) := by decide +kernel
theorem dX5_load_11 : decode cX5_load 11 = .ok (.iconst 1, 1) := by decide +kernel
theorem dX5_load_12 : decode cX5_load 12 = .ok (.iload_n 3, 1) := by decide +kernel
theorem dX5_load_13 : decode cX5_load 13 = .ok (.invokestatic 36, 3) := by decide +kernel
theorem dX5_load_16 : decode cX5_load 16 = .ok (.putfield 19, 3) := by decide +kernel
theorem dX5_load_19 : decode cX5_load 19 = .ok (.aload_n 0, 1) := by decide +kernel
theorem dX5_load_20 : decode cX5_load 20 = .ok (.getfield 25, 3) := by decide +kernel
theorem dX5_load_23 : decode cX5_load 23 = .ok (.aload_n 2, 1) := by decide +kernel
theorem dX5_load_24 : decode cX5_load 24 = .ok (.invokevirtual 32, 3) := by decide +kernel
theorem dX5_load_27 : decode cX5_load 27 = .ok (.aload_n 0, 1) := by decide +kernel
theorem dX5_load_28 : decode cX5_load 28 = .ok (.invokevirtual 42, 3) := by decide +kernel
theorem dX5_load_31 : decode cX5_load 31 = .ok (.return_, 1) := by decide +kernel
theorem dX5_beginAnew_0 : decode cX5_beginAnew 0 = .ok (.aload_n 0, 1) := by decide +kernel
theorem dX5_beginAnew_1 : decode cX5_beginAnew 1 = .ok (.iconst 0, 1) := by decide +kernel
theorem dX5_beginAnew_2 : decode cX5_beginAnew 2 = .ok (.putfield 16, 3) := by decide +kernel
theorem dX5_beginAnew_5 : decode cX5_beginAnew 5 = .ok (.aload_n 0, 1) := by decide +kernel
theorem dX5_beginAnew_6 : decode cX5_beginAnew 6 = .ok (.getfield 29, 3) := by decide +kernel
theorem dX5_beginAnew_9 : decode cX5_beginAnew 9 = .ok (.aload_n 0, 1) := by decide +kernel
theorem dX5_beginAnew_10 : decode cX5_beginAnew 10 = .ok (.getfield 25, 3) := by decide +kernel
theorem dX5_beginAnew_13 : decode cX5_beginAnew 13 = .ok (.invokevirtual 32, 3) := by decide +kernel
theorem dX5_beginAnew_16 : decode cX5_beginAnew 16 = .ok (.return_, 1) := by decide +kernel
theorem dX5_pieces_0 : decode cX5_pieces 0 = .ok (.aload_n 0, 1) := by decide +kernel
theorem dX5_pieces_1 : decode cX5_pieces 1 = .ok (.getfield 25, 3) := by decide +kernel
theorem dX5_pieces_4 : decode cX5_pieces 4 = .ok (.getfield 45, 3) := by decide +kernel
theorem dX5_pieces_7 : decode cX5_pieces 7 = .ok (.aload_n 0, 1) := by decide +kernel
theorem dX5_pieces_8 : decode cX5_pieces 8 = .ok (.getfield 19, 3) := by decide +kernel
theorem dX5_pieces_11 : decode cX5_pieces 11 = .ok (.iadd, 1) := by decide +kernel
theorem dX5_pieces_12 : decode cX5_pieces 12 = .ok (.iconst 1, 1) := by decide +kernel
theorem dX5_pieces_13 : decode cX5_pieces 13 = .ok (.isub, 1) := by decide +kernel
theorem dX5_pieces_14 : decode cX5_pieces 14 = .ok (.aload_n 0, 1) := by decide +kernel
theorem dX5_pieces_15 : decode cX5_pieces 15 = .ok (.getfield 19, 3) := by decide +kernel
theorem dX5_pieces_18 : decode cX5_pieces 18 = .ok (.idiv, 1) := by decide +kernel
theorem dX5_pieces_19 : decode cX5_pieces 19 = .ok (.ireturn, 1) := by decide +kernel
theorem dX5_bitsOfNextPiece_0 : decode cX5_bitsOfNextPiece 0 = .ok (.bipush 8, 2) := by decide +kernel
theorem dX5_bitsOfNextPiece_2 : decode cX5_bitsOfNextPiece 2 = .ok (.aload_n 0, 1) := by decide +kernel
theorem dX5_bitsOfNextPiece_3 : decode cX5_bitsOfNextPiece 3 = .ok (.getfield 19, 3) := by decide +kernel
theorem dX5_bitsOfNextPiece_6 : decode cX5_bitsOfNextPiece 6 = .ok (.aload_n 0, 1) := by decide +kernel
theorem dX5_bitsOfNextPiece_7 : decode cX5_bitsOfNextPiece 7 = .ok (.getfield 25, 3) := by decide +kernel
theorem dX5_bitsOfNextPiece_10 : decode cX5_bitsOfNextPiece 10 = .ok (.getfield 45, 3) := by decide +kernel
theorem dX5_bitsOfNextPiece_13 : decode cX5_bitsOfNextPiece 13 = .ok (.aload_n 0, 1) := by decide +kernel
theorem dX5_bitsOfNextPiece_14 : decode cX5_bitsOfNextPiece 14 = .ok (.getfield 16, 3) := by decide +kernel
theorem dX5_bitsOfNextPiece_17 : decode cX5_bitsOfNextPiece 17 = .ok (.aload_n 0, 1) := by decide +kernel
theorem dX5_bitsOfNextPiece_18 : decode cX5_bitsOfNextPiece 18 = .ok (.getfield 19, 3) := by decide +kernel
theorem dX5_bitsOfNextPiece_21 : decode cX5_bitsOfNextPiece 21 = .ok (.imul, 1) := by decide +kernel
theorem dX5_bitsOfNextPiece_22 : decode cX5_bitsOfNextPiece 22 = .ok (.isub, 1) := by decide +kernel
theorem dX5_bitsOfNextPiece_23 : decode cX5_bitsOfNextPiece 23 = .ok (.invokestatic 48, 3) := by decide +kernel
theorem dX5_bitsOfNextPiece_26 : decode cX5_bitsOfNextPiece 26 = .ok (.imul, 1) := by decide +kernel
theorem dX5_bitsOfNextPiece_27 : decode cX5_bitsOfNextPiece 27 = .ok (.ireturn, 1) := by decide +kernel
theorem dX5_damageNextPiece_0 : decode cX5_damageNextPiece 0 = .ok (.aload_n 0, 1) := by decide +kernel
theorem dX5_damageNextPiece_1 : decode cX5_damageNextPiece 1 = .ok (.getfield 29, 3) := by decide +kernel
theorem dX5_damageNextPiece_4 : decode cX5_damageNextPiece 4 = .ok (.bipush 8, 2) := by decide +kernel
theorem dX5_damageNextPiece_6 : decode cX5_damageNextPiece 6 = .ok (.aload_n 0, 1) := by decide +kernel
theorem dX5_damageNextPiece_7 : decode cX5_damageNextPiece 7 = .ok (.getfield 16, 3) := by decide +kernel
theorem dX5_damageNextPiece_10 : decode cX5_damageNextPiece 10 = .ok (.imul, 1) := by decide +kernel
theorem dX5_damageNextPiece_11 : decode cX5_damageNextPiece 11 = .ok (.aload_n 0, 1) := by decide +kernel
theorem dX5_damageNextPiece_12 : decode cX5_damageNextPiece 12 = .ok (.getfield 19, 3) := by decide +kernel
theorem dX5_damageNextPiece_15 : decode cX5_damageNextPiece 15 = .ok (.imul, 1) := by decide +kernel
theorem dX5_damageNextPiece_16 : decode cX5_damageNextPiece 16 = .ok (.iload_n 1, 1) := by decide +kernel
theorem dX5_damageNextPiece_17 : decode cX5_damageNextPiece 17 = .ok (.iadd, 1) := by decide +kernel
theorem dX5_damageNextPiece_18 : decode cX5_damageNextPiece 18 = .ok (.invokevirtual 51, 3) := by decide +kernel
theorem dX5_damageNextPiece_21 : decode cX5_damageNextPiece 21 = .ok (.return_, 1) := by decide +kernel
theorem dX6_init_0 : decode cX6_init 0 = .ok (.aload_n 0, 1) := by decide +kernel
theorem dX6_init_1 : decode cX6_init 1 = .ok (.invokespecial 3, 3) := by decide +kernel
theorem dX6_init_4 : decode cX6_init 4 = .ok (.aload_n 0, 1) := by decide +kernel
theorem dX6_init_5 : decode cX6_init 5 = .ok (.iconst 2, 1) := by decide +kernel
theorem dX6_init_6 : decode cX6_init 6 = .ok (.anewarray 9, 3) := by decide +kernel
theorem dX6_init_9 : decode cX6_init 9 = .ok (.dup, 1) := by decide +kernel
theorem dX6_init_10 : decode cX6_init 10 = .ok (.iconst 0, 1) := by decide +kernel
theorem dX6_init_11 : decode cX6_init 11 = .ok (.new 9, 3) := by decide +kernel
theorem dX6_init_14 : decode cX6_init 14 = .ok (.dup, 1) := by decide +kernel
theorem dX6_init_15 : decode cX6_init 15 = .ok (.invokespecial 11, 3) := by decide +kernel
theorem dX6_init_18 : decode cX6_init 18 = .ok (.aastore, 1) := by decide +kernel
theorem dX6_init_19 : decode cX6_init 19 = .ok (.dup, 1) := by decide +kernel
theorem dX6_init_20 : decode cX6_init 20 = .ok (.iconst 1, 1) := by decide +kernel
theorem dX6_init_21 : decode cX6_init 21 = .ok (.new 9, 3) := by decide +kernel
theorem dX6_init_24 : decode cX6_init 24 = .ok (.dup, 1) := by decide +kernel
theorem dX6_init_25 : decode cX6_init 25 = .ok (.invokespecial 11, 3) := by decide +kernel
theorem dX6_init_28 : decode cX6_init 28 = .ok (.aastore, 1) := by decide +kernel
theorem dX6_init_29 : decode cX6_init 29 = .ok (.putfield 12, 3) := by decide +kernel
theorem dX6_init_32 : decode cX6_init 32 = .ok (.aload_n 0, 1) := by decide +kernel
theorem dX6_init_33 : decode cX6_init 33 = .ok (.new 18, 3) := by decide +kernel
theorem dX6_init_36 : decode cX6_init 36 = .ok (.dup, 1) := by decide +kernel
theorem dX6_init_37 : decode cX6_init 37 = .ok (.invokespecial 20, 3) := by decide +kernel
theorem dX6_init_40 : decode cX6_init 40 = .ok (.putfield 21, 3) := by decide +kernel
theorem dX6_init_43 : decode cX6_init 43 = .ok (.aload_n 0, 1) := by decide +kernel
theorem dX6_init_44 : decode cX6_init 44 = .ok (.bipush 112, 2) := by decide +kernel
theorem dX6_init_46 : decode cX6_init 46 = .ok (.newarray .int, 2) := by decide +kernel
theorem dX6_init_48 : decode cX6_init 48 = .ok (.putfield 25, 3) := by decide +kernel
theorem dX6_init_51 : decode cX6_init 51 = .ok (.aload_n 0, 1) := by decide +kernel
theorem dX6_init_52 : decode cX6_init 52 = .ok (.aload_n 1, 1) := by decide +kernel
theorem dX6_init_53 : decode cX6_init 53 = .ok (.putfield 29, 3) := by decide +kernel
theorem dX6_init_56 : decode cX6_init 56 = .ok (.aload_n 0, 1) := by decide +kernel
theorem dX6_init_57 : decode cX6_init 57 = .ok (.aload_n 2, 1) := by decide +kernel
theorem dX6_init_58 : decode cX6_init 58 = .ok (.putfield 32, 3) := by decide +kernel
theorem dX6_init_61 : decode cX6_init 61 = .ok (.aload_n 0, 1) := by decide +kernel
theorem dX6_init_62 : decode cX6_init 62 = .ok (.aload_n 3, 1) := by decide +kernel
theorem dX6_init_63 : decode cX6_init 63 = .ok (.putfield 36, 3) := by decide +kernel
theorem dX6_init_66 : decode cX6_init 66 = .ok (.return_, 1) := by decide +kernel
theorem dX6_clear_0 : decode cX6_clear 0 = .ok (.aload_n 0, 1) := by decide +kernel
theorem dX6_clear_1 : decode cX6_clear 1 = .ok (.getfield 12, 3) := by decide +kernel
theorem dX6_clear_4 : decode cX6_clear 4 = .ok (.iconst 0, 1) := by decide +kernel
theorem dX6_clear_5 : decode cX6_clear 5 = .ok (.aaload, 1) := by decide +kernel
theorem dX6_clear_6 : decode cX6_clear 6 = .ok (.invokevirtual 40, 3) := by decide +kernel
theorem dX6_clear_9 : decode cX6_clear 9 = .ok (.aload_n 0, 1) := by decide +kernel
theorem dX6_clear_10 : decode cX6_clear 10 = .ok (.getfield 12, 3) := by decide +kernel
theorem dX6_clear_13 : decode cX6_clear 13 = .ok (.iconst 1, 1) := by decide +kernel
theorem dX6_clear_14 : decode cX6_clear 14 = .ok (.aaload, 1) := by decide +kernel
theorem dX6_clear_15 : decode cX6_clear 15 = .ok (.invokevirtual 40, 3) := by decide +kernel
theorem dX6_clear_18 : decode cX6_clear 18 = .ok (.return_, 1) := by decide +kernel
theorem dX6_become_0 : decode cX6_become 0 = .ok (.aload_n 0, 1) := by decide +kernel
theorem dX6_become_1 : decode cX6_become 1 = .ok (.getfield 36, 3) := by decide +kernel
theorem dX6_become_4 : decode cX6_become 4 = .ok (.aload_n 1, 1) := by decide +kernel
theorem dX6_become_5 : decode cX6_become 5 = .ok (.getfield 36, 3) := by decide +kernel
theorem dX6_become_8 : decode cX6_become 8 = .ok (.invokevirtual 43, 3) := by decide +kernel
theorem dX6_become_11 : decode cX6_become 11 = .ok (.aload_n 0, 1) := by decide +kernel
theorem dX6_become_12 : decode cX6_become 12 = .ok (.getfield 12, 3) := by decide +kernel
theorem dX6_become_15 : decode cX6_become 15 = .ok (.iconst 0, 1) := by decide +kernel
theorem dX6_become_16 : decode cX6_become 16 = .ok (.aaload, 1) := by decide +kernel
theorem dX6_become_17 : decode cX6_become 17 = .ok (.aload_n 1, 1) := by decide +kernel
theorem dX6_become_18 : decode cX6_become 18 = .ok (.getfield 12, 3) := by decide +kernel
theorem dX6_become_21 : decode cX6_become 21 = .ok (.iconst 0, 1) := by decide +kernel
theorem dX6_become_22 : decode cX6_become 22 = .ok (.aaload, 1) := by decide +kernel
theorem dX6_become_23 : decode cX6_become 23 = .ok (.invokevirtual 49, 3) := by decide +kernel
theorem dX6_become_26 : decode cX6_become 26 = .ok (.aload_n 0, 1) := by decide +kernel
theorem dX6_become_27 : decode cX6_become 27 = .ok (.getfield 12, 3) := by decide +kernel
theorem dX6_become_30 : decode cX6_become 30 = .ok (.iconst 1, 1) := by decide +kernel
theorem dX6_become_31 : decode cX6_become 31 = .ok (.aaload, 1) := by decide +kernel
theorem dX6_become_32 : decode cX6_become 32 = .ok (.aload_n 1, 1) := by decide +kernel
theorem dX6_become_33 : decode cX6_become 33 = .ok (.getfield 12, 3) := by decide +kernel
theorem dX6_become_36 : decode cX6_become 36 = .ok (.iconst 1, 1) := by decide +kernel
theorem dX6_become_37 : decode cX6_become 37 = .ok (.aaload, 1) := by decide +kernel
theorem dX6_become_38 : decode cX6_become 38 = .ok (.invokevirtual 49, 3) := by decide +kernel
theorem dX6_become_41 : decode cX6_become 41 = .ok (.aload_n 1, 1) := by decide +kernel
theorem dX6_become_42 : decode cX6_become 42 = .ok (.getfield 25, 3) := by decide +kernel
theorem dX6_become_45 : decode cX6_become 45 = .ok (.iconst 0, 1) := by decide +kernel
theorem dX6_become_46 : decode cX6_become 46 = .ok (.aload_n 0, 1) := by decide +kernel
theorem dX6_become_47 : decode cX6_become 47 = .ok (.getfield 25, 3) := by decide +kernel
theorem dX6_become_50 : decode cX6_become 50 = .ok (.iconst 0, 1) := by decide +kernel
theorem dX6_become_51 : decode cX6_become 51 = .ok (.aload_n 0, 1) := by decide +kernel
theorem dX6_become_52 : decode cX6_become 52 = .ok (.getfield 25, 3) := by decide +kernel
theorem dX6_become_55 : decode cX6_become 55 = .ok (.arraylength, 1) := by decide +kernel
theorem dX6_become_56 : decode cX6_become 56 = .ok (.invokestatic 52, 3) := by decide +kernel
theorem dX6_become_59 : decode cX6_become 59 = .ok (.return_, 1) := by decide +kernel
theorem dX6_fade_0 : decode cX6_fade 0 = .ok (.iconst 0, 1) := by decide +kernel
theorem dX6_fade_1 : decode cX6_fade 1 = .ok (.bipush 8, 2) := by decide +kernel
theorem dX6_fade_3 : decode cX6_fade 3 = .ok (.aload_n 0, 1) := by decide +kernel
theorem dX6_fade_4 : decode cX6_fade 4 = .ok (.getfield 29, 3) := by decide +kernel
theorem dX6_fade_7 : decode cX6_fade 7 = .ok (.bipush 15, 2) := by decide +kernel
theorem dX6_fade_9 : decode cX6_fade 9 = .ok (.iaload, 1) := by decide +kernel
theorem dX6_fade_10 : decode cX6_fade 10 = .ok (.isub, 1) := by decide +kernel
theorem dX6_fade_11 : decode cX6_fade 11 = .ok (.invokestatic 58, 3) := by decide +kernel
theorem dX6_fade_14 : decode cX6_fade 14 = .ok (.ireturn, 1) := by decide +kernel
theorem dX6_toldFrames_0 : decode cX6_toldFrames 0 = .ok (.bipush 16, 2) := by decide +kernel
theorem dX6_toldFrames_2 : decode cX6_toldFrames 2 = .ok (.aload_n 0, 1) := by decide +kernel
theorem dX6_toldFrames_3 : decode cX6_toldFrames 3 = .ok (.getfield 29, 3) := by decide +kernel
theorem dX6_toldFrames_6 : decode cX6_toldFrames 6 = .ok (.bipush 7, 2) := by decide +kernel
theorem dX6_toldFrames_8 : decode cX6_toldFrames 8 = .ok (.iaload, 1) := by decide +kernel
theorem dX6_toldFrames_9 : decode cX6_toldFrames 9 = .ok (.invokestatic 64, 3) := by decide +kernel
theorem dX6_toldFrames_12 : decode cX6_toldFrames 12 = .ok (.ireturn, 1) := by decide +kernel
theorem dX6_recordOf_0 : decode cX6_recordOf 0 = .ok (.aload_n 0, 1) := by decide +kernel
theorem dX6_recordOf_1 : decode cX6_recordOf 1 = .ok (.getfield 25, 3) := by decide +kernel
theorem dX6_recordOf_4 : decode cX6_recordOf 4 = .ok (.aload_n 0, 1) := by decide +kernel
theorem dX6_recordOf_5 : decode cX6_recordOf 5 = .ok (.getfield 29, 3) := by decide +kernel
theorem dX6_recordOf_8 : decode cX6_recordOf 8 = .ok (.bipush 7, 2) := by decide +kernel
theorem dX6_recordOf_10 : decode cX6_recordOf 10 = .ok (.iaload, 1) := by decide +kernel
theorem dX6_recordOf_11 : decode cX6_recordOf 11 = .ok (.iconst 1, 1) := by decide +kernel
theorem dX6_recordOf_12 : decode cX6_recordOf 12 = .ok (.isub, 1) := by decide +kernel
theorem dX6_recordOf_13 : decode cX6_recordOf 13 = .ok (.iload_n 1, 1) := by decide +kernel
theorem dX6_recordOf_14 : decode cX6_recordOf 14 = .ok (.isub, 1) := by decide +kernel
theorem dX6_recordOf_15 : decode cX6_recordOf 15 = .ok (.invokestatic 67, 3) := by decide +kernel
theorem dX6_recordOf_18 : decode cX6_recordOf 18 = .ok (.iload_n 2, 1) := by decide +kernel
theorem dX6_recordOf_19 : decode cX6_recordOf 19 = .ok (.iadd, 1) := by decide +kernel
theorem dX6_recordOf_20 : decode cX6_recordOf 20 = .ok (.iaload, 1) := by decide +kernel
theorem dX6_recordOf_21 : decode cX6_recordOf 21 = .ok (.ireturn, 1) := by decide +kernel
theorem dX6_lateness_0 : decode cX6_lateness 0 = .ok (.aload_n 0, 1) := by decide +kernel
theorem dX6_lateness_1 : decode cX6_lateness 1 = .ok (.iload_n 1, 1) := by decide +kernel
theorem dX6_lateness_2 : decode cX6_lateness 2 = .ok (.bipush 6, 2) := by decide +kernel
theorem dX6_lateness_4 : decode cX6_lateness 4 = .ok (.invokevirtual 71, 3) := by decide +kernel
theorem dX6_lateness_7 : decode cX6_lateness 7 = .ok (.iconst 4, 1) := by decide +kernel
theorem dX6_lateness_8 : decode cX6_lateness 8 = .ok (.aload_n 0, 1) := by decide +kernel
theorem dX6_lateness_9 : decode cX6_lateness 9 = .ok (.getfield 29, 3) := by decide +kernel
theorem dX6_lateness_12 : decode cX6_lateness 12 = .ok (.bipush 7, 2) := by decide +kernel
theorem dX6_lateness_14 : decode cX6_lateness 14 = .ok (.iaload, 1) := by decide +kernel
theorem dX6_lateness_15 : decode cX6_lateness 15 = .ok (.iconst 1, 1) := by decide +kernel
theorem dX6_lateness_16 : decode cX6_lateness 16 = .ok (.isub, 1) := by decide +kernel
theorem dX6_lateness_17 : decode cX6_lateness 17 = .ok (.iload_n 1, 1) := by decide +kernel
theorem dX6_lateness_18 : decode cX6_lateness 18 = .ok (.isub, 1) := by decide +kernel
theorem dX6_lateness_19 : decode cX6_lateness 19 = .ok (.imul, 1) := by decide +kernel
theorem dX6_lateness_20 : decode cX6_lateness 20 = .ok (.isub, 1) := by decide +kernel
theorem dX6_lateness_21 : decode cX6_lateness 21 = .ok (.ireturn, 1) := by decide +kernel
theorem dX6_recordAt_0 : decode cX6_recordAt 0 = .ok (.iload_n 0, 1) := by decide +kernel
theorem dX6_recordAt_1 : decode cX6_recordAt 1 = .ok (.bipush 16, 2) := by decide +kernel
theorem dX6_recordAt_3 : decode cX6_recordAt 3 = .ok (.invokestatic 74, 3) := by decide +kernel
theorem dX6_recordAt_6 : decode cX6_recordAt 6 = .ok (.bipush 7, 2) := by decide +kernel
theorem dX6_recordAt_8 : decode cX6_recordAt 8 = .ok (.imul, 1) := by decide +kernel
theorem dX6_recordAt_9 : decode cX6_recordAt 9 = .ok (.ireturn, 1) := by decide +kernel
theorem dX6_tick_0 : decode cX6_tick 0 = .ok (.aload_n 0, 1) := by decide +kernel
theorem dX6_tick_1 : decode cX6_tick 1 = .ok (.getfield 29, 3) := by decide +kernel
theorem dX6_tick_4 : decode cX6_tick 4 = .ok (.bipush 6, 2) := by decide +kernel
theorem dX6_tick_6 : decode cX6_tick 6 = .ok (.iaload, 1) := by decide +kernel
theorem dX6_tick_7 : decode cX6_tick 7 = .ok (.aload_n 0, 1) := by decide +kernel
theorem dX6_tick_8 : decode cX6_tick 8 = .ok (.getfield 29, 3) := by decide +kernel
theorem dX6_tick_11 : decode cX6_tick 11 = .ok (.bipush 27, 2) := by decide +kernel
theorem dX6_tick_13 : decode cX6_tick 13 = .ok (.iaload, 1) := by decide +kernel
theorem dX6_tick_14 : decode cX6_tick 14 = .ok (.if_icmp .lt 11, 3) := by decide +kernel
theorem dX6_tick_17 : decode cX6_tick 17 = .ok (.aload_n 0, 1) := by decide +kernel
theorem dX6_tick_18 : decode cX6_tick 18 = .ok (.getfield 29, 3) := by decide +kernel
theorem dX6_tick_21 : decode cX6_tick 21 = .ok (.bipush 8, 2) := by decide +kernel
theorem dX6_tick_23 : decode cX6_tick 23 = .ok (.iconst 1, 1) := by decide +kernel
theorem dX6_tick_24 : decode cX6_tick 24 = .ok (.iastore, 1) := by decide +kernel
theorem dX6_tick_25 : decode cX6_tick 25 = .ok (.aload_n 0, 1) := by decide +kernel
theorem dX6_tick_26 : decode cX6_tick 26 = .ok (.getfield 29, 3) := by decide +kernel
theorem dX6_tick_29 : decode cX6_tick 29 = .ok (.bipush 8, 2) := by decide +kernel
theorem dX6_tick_31 : decode cX6_tick 31 = .ok (.iaload, 1) := by decide +kernel
theorem dX6_tick_32 : decode cX6_tick 32 = .ok (.ifCond .ne 5, 3) := by decide +kernel
theorem dX6_tick_35 : decode cX6_tick 35 = .ok (.iconst 0, 1) := by decide +kernel
theorem dX6_tick_36 : decode cX6_tick 36 = .ok (.ireturn, 1) := by decide +kernel
theorem dX6_tick_37 : decode cX6_tick 37 = .ok (.aload_n 0, 1) := by decide +kernel
theorem dX6_tick_38 : decode cX6_tick 38 = .ok (.getfield 29, 3) := by decide +kernel
theorem dX6_tick_41 : decode cX6_tick 41 = .ok (.bipush 9, 2) := by decide +kernel
theorem dX6_tick_43 : decode cX6_tick 43 = .ok (.iaload, 1) := by decide +kernel
theorem dX6_tick_44 : decode cX6_tick 44 = .ok (.sipush 1000, 3) := by decide +kernel
theorem dX6_tick_47 : decode cX6_tick 47 = .ok (.iadd, 1) := by decide +kernel
theorem dX6_tick_48 : decode cX6_tick 48 = .ok (.aload_n 0, 1) := by decide +kernel
theorem dX6_tick_49 : decode cX6_tick 49 = .ok (.getfield 29, 3) := by decide +kernel
theorem dX6_tick_52 : decode cX6_tick 52 = .ok (.bipush 26, 2) := by decide +kernel
theorem dX6_tick_54 : decode cX6_tick 54 = .ok (.iaload, 1) := by decide +kernel
theorem dX6_tick_55 : decode cX6_tick 55 = .ok (.iadd, 1) := by decide +kernel
theorem dX6_tick_56 : decode cX6_tick 56 = .ok (.aload_n 0, 1) := by decide +kernel
theorem dX6_tick_57 : decode cX6_tick 57 = .ok (.getfield 29, 3) := by decide +kernel
theorem dX6_tick_60 : decode cX6_tick 60 = .ok (.bipush 10, 2) := by decide +kernel
theorem dX6_tick_62 : decode cX6_tick 62 = .ok (.iaload, 1) := by decide +kernel
theorem dX6_tick_63 : decode cX6_tick 63 = .ok (.iadd, 1) := by decide +kernel
theorem dX6_tick_64 : decode cX6_tick 64 = .ok (.istore_n 1, 1) := by decide +kernel
theorem dX6_tick_65 : decode cX6_tick 65 = .ok (.aload_n 0, 1) := by decide +kernel
theorem dX6_tick_66 : decode cX6_tick 66 = .ok (.getfield 29, 3) := by decide +kernel
theorem dX6_tick_69 : decode cX6_tick 69 = .ok (.bipush 9, 2) := by decide +kernel
theorem dX6_tick_71 : decode cX6_tick 71 = .ok (.iload_n 1, 1) := by decide +kernel
theorem dX6_tick_72 : decode cX6_tick 72 = .ok (.sipush 4000, 3) := by decide +kernel
theorem dX6_tick_75 : decode cX6_tick 75 = .ok (.irem, 1) := by decide +kernel
theorem dX6_tick_76 : decode cX6_tick 76 = .ok (.iastore, 1) := by decide +kernel
theorem dX6_tick_77 : decode cX6_tick 77 = .ok (.iload_n 1, 1) := by decide +kernel
theorem dX6_tick_78 : decode cX6_tick 78 = .ok (.sipush 4000, 3) := by decide +kernel
theorem dX6_tick_81 : decode cX6_tick 81 = .ok (.idiv, 1) := by decide +kernel
theorem dX6_tick_82 : decode cX6_tick 82 = .ok (.ireturn, 1) := by decide +kernel
theorem dX6_playNext_0 : decode cX6_playNext 0 = .ok (.aload_n 0, 1) := by decide +kernel
theorem dX6_playNext_1 : decode cX6_playNext 1 = .ok (.getfield 29, 3) := by decide +kernel
theorem dX6_playNext_4 : decode cX6_playNext 4 = .ok (.bipush 7, 2) := by decide +kernel
theorem dX6_playNext_6 : decode cX6_playNext 6 = .ok (.iaload, 1) := by decide +kernel
theorem dX6_playNext_7 : decode cX6_playNext 7 = .ok (.istore_n 2, 1) := by decide +kernel
theorem dX6_playNext_8 : decode cX6_playNext 8 = .ok (.aload_n 0, 1) := by decide +kernel
theorem dX6_playNext_9 : decode cX6_playNext 9 = .ok (.getfield 29, 3) := by decide +kernel
theorem dX6_playNext_12 : decode cX6_playNext 12 = .ok (.bipush 6, 2) := by decide +kernel
theorem dX6_playNext_14 : decode cX6_playNext 14 = .ok (.iaload, 1) := by decide +kernel
theorem dX6_playNext_15 : decode cX6_playNext 15 = .ok (.istore_n 3, 1) := by decide +kernel
theorem dX6_playNext_16 : decode cX6_playNext 16 = .ok (.aload_n 0, 1) := by decide +kernel
theorem dX6_playNext_17 : decode cX6_playNext 17 = .ok (.getfield 36, 3) := by decide +kernel
theorem dX6_playNext_20 : decode cX6_playNext 20 = .ok (.iconst 0, 1) := by decide +kernel
theorem dX6_playNext_21 : decode cX6_playNext 21 = .ok (.invokevirtual 77, 3) := by decide +kernel
theorem dX6_playNext_24 : decode cX6_playNext 24 = .ok (.astore 4, 2) := by decide +kernel
theorem dX6_playNext_26 : decode cX6_playNext 26 = .ok (.aload 4, 2) := by decide +kernel
theorem dX6_playNext_28 : decode cX6_playNext 28 = .ok (.ifnull 16, 3) := by decide +kernel
theorem dX6_playNext_31 : decode cX6_playNext 31 = .ok (.aload 4, 2) := by decide +kernel
theorem dX6_playNext_33 : decode cX6_playNext 33 = .ok (.getfield 81, 3) := by decide +kernel
theorem dX6_playNext_36 : decode cX6_playNext 36 = .ok (.iload_n 2, 1) := by decide +kernel
theorem dX6_playNext_37 : decode cX6_playNext 37 = .ok (.if_icmp .ne 7, 3) := by decide +kernel
theorem dX6_playNext_40 : decode cX6_playNext 40 = .ok (.iconst 1, 1) := by decide +kernel
theorem dX6_playNext_41 : decode cX6_playNext 41 = .ok (.goto 4, 3) := by decide +kernel
theorem dX6_playNext_44 : decode cX6_playNext 44 = .ok (.iconst 0, 1) := by decide +kernel
theorem dX6_playNext_45 : decode cX6_playNext 45 = .ok (.istore 5, 2) := by decide +kernel
theorem dX6_playNext_47 : decode cX6_playNext 47 = .ok (.iload 5, 2) := by decide +kernel
theorem dX6_playNext_49 : decode cX6_playNext 49 = .ok (.ifCond .eq 8, 3) := by decide +kernel
theorem dX6_playNext_52 : decode cX6_playNext 52 = .ok (.bipush 8, 2) := by decide +kernel
theorem dX6_playNext_54 : decode cX6_playNext 54 = .ok (.goto 7, 3) := by decide +kernel
theorem dX6_playNext_57 : decode cX6_playNext 57 = .ok (.aload_n 0, 1) := by decide +kernel
theorem dX6_playNext_58 : decode cX6_playNext 58 = .ok (.invokevirtual 87, 3) := by decide +kernel
theorem dX6_playNext_61 : decode cX6_playNext 61 = .ok (.istore 6, 2) := by decide +kernel
theorem dX6_playNext_63 : decode cX6_playNext 63 = .ok (.aload_n 0, 1) := by decide +kernel
theorem dX6_playNext_64 : decode cX6_playNext 64 = .ok (.getfield 29, 3) := by decide +kernel
theorem dX6_playNext_67 : decode cX6_playNext 67 = .ok (.bipush 12, 2) := by decide +kernel
theorem dX6_playNext_69 : decode cX6_playNext 69 = .ok (.dup2, 1) := by decide +kernel
theorem dX6_playNext_70 : decode cX6_playNext 70 = .ok (.iaload, 1) := by decide +kernel
theorem dX6_playNext_71 : decode cX6_playNext 71 = .ok (.iload_n 3, 1) := by decide +kernel
theorem dX6_playNext_72 : decode cX6_playNext 72 = .ok (.iadd, 1) := by decide +kernel
theorem dX6_playNext_73 : decode cX6_playNext 73 = .ok (.iastore, 1) := by decide +kernel
theorem dX6_playNext_74 : decode cX6_playNext 74 = .ok (.iload 5, 2) := by decide +kernel
theorem dX6_playNext_76 : decode cX6_playNext 76 = .ok (.ifCond .eq 22, 3) := by decide +kernel
theorem dX6_playNext_79 : decode cX6_playNext 79 = .ok (.aload_n 0, 1) := by decide +kernel
theorem dX6_playNext_80 : decode cX6_playNext 80 = .ok (.aload 4, 2) := by decide +kernel
theorem dX6_playNext_82 : decode cX6_playNext 82 = .ok (.getfield 91, 3) := by decide +kernel
theorem dX6_playNext_85 : decode cX6_playNext 85 = .ok (.invokevirtual 95, 3) := by decide +kernel
theorem dX6_playNext_88 : decode cX6_playNext 88 = .ok (.aload_n 0, 1) := by decide +kernel
theorem dX6_playNext_89 : decode cX6_playNext 89 = .ok (.getfield 36, 3) := by decide +kernel
theorem dX6_playNext_92 : decode cX6_playNext 92 = .ok (.invokevirtual 99, 3) := by decide +kernel
theorem dX6_playNext_95 : decode cX6_playNext 95 = .ok (.goto 9, 3) := by decide +kernel
theorem dX6_playNext_98 : decode cX6_playNext 98 = .ok (.aload_n 0, 1) := by decide +kernel
theorem dX6_playNext_99 : decode cX6_playNext 99 = .ok (.iload 6, 2) := by decide +kernel
theorem dX6_playNext_101 : decode cX6_playNext 101 = .ok (.invokevirtual 102, 3) := by decide +kernel
theorem dX6_playNext_104 : decode cX6_playNext 104 = .ok (.iload 5, 2) := by decide +kernel
theorem dX6_playNext_106 : decode cX6_playNext 106 = .ok (.ifCond .eq 7, 3) := by decide +kernel
theorem dX6_playNext_109 : decode cX6_playNext 109 = .ok (.iconst 1, 1) := by decide +kernel
theorem dX6_playNext_110 : decode cX6_playNext 110 = .ok (.goto 4, 3) := by decide +kernel
theorem dX6_playNext_113 : decode cX6_playNext 113 = .ok (.iconst 2, 1) := by decide +kernel
theorem dX6_playNext_114 : decode cX6_playNext 114 = .ok (.istore 7, 2) := by decide +kernel
theorem dX6_playNext_116 : decode cX6_playNext 116 = .ok (.iload_n 2, 1) := by decide +kernel
theorem dX6_playNext_117 : decode cX6_playNext 117 = .ok (.invokestatic 67, 3) := by decide +kernel
theorem dX6_playNext_120 : decode cX6_playNext 120 = .ok (.istore 8, 2) := by decide +kernel
theorem dX6_playNext_122 : decode cX6_playNext 122 = .ok (.aload_n 0, 1) := by decide +kernel
theorem dX6_playNext_123 : decode cX6_playNext 123 = .ok (.getfield 25, 3) := by decide +kernel
theorem dX6_playNext_126 : decode cX6_playNext 126 = .ok (.iload 8, 2) := by decide +kernel
theorem dX6_playNext_128 : decode cX6_playNext 128 = .ok (.iconst 1, 1) := by decide +kernel
theorem dX6_playNext_129 : decode cX6_playNext 129 = .ok (.iadd, 1) := by decide +kernel
theorem dX6_playNext_130 : decode cX6_playNext 130 = .ok (.iload 7, 2) := by decide +kernel
theorem dX6_playNext_132 : decode cX6_playNext 132 = .ok (.iastore, 1) := by decide +kernel
theorem dX6_playNext_133 : decode cX6_playNext 133 = .ok (.aload_n 0, 1) := by decide +kernel
theorem dX6_playNext_134 : decode cX6_playNext 134 = .ok (.getfield 25, 3) := by decide +kernel
theorem dX6_playNext_137 : decode cX6_playNext 137 = .ok (.iload 8, 2) := by decide +kernel
theorem dX6_playNext_139 : decode cX6_playNext 139 = .ok (.iconst 2, 1) := by decide +kernel
theorem dX6_playNext_140 : decode cX6_playNext 140 = .ok (.iadd, 1) := by decide +kernel
theorem dX6_playNext_141 : decode cX6_playNext 141 = .ok (.iload_n 3, 1) := by decide +kernel
theorem dX6_playNext_142 : decode cX6_playNext 142 = .ok (.iastore, 1) := by decide +kernel
theorem dX6_playNext_143 : decode cX6_playNext 143 = .ok (.aload_n 0, 1) := by decide +kernel
theorem dX6_playNext_144 : decode cX6_playNext 144 = .ok (.getfield 25, 3) := by decide +kernel
theorem dX6_playNext_147 : decode cX6_playNext 147 = .ok (.iload 8, 2) := by decide +kernel
theorem dX6_playNext_149 : decode cX6_playNext 149 = .ok (.iconst 3, 1) := by decide +kernel
theorem dX6_playNext_150 : decode cX6_playNext 150 = .ok (.iadd, 1) := by decide +kernel
theorem dX6_playNext_151 : decode cX6_playNext 151 = .ok (.aload_n 0, 1) := by decide +kernel
theorem dX6_playNext_152 : decode cX6_playNext 152 = .ok (.getfield 29, 3) := by decide +kernel
theorem dX6_playNext_155 : decode cX6_playNext 155 = .ok (.bipush 10, 2) := by decide +kernel
theorem dX6_playNext_157 : decode cX6_playNext 157 = .ok (.iaload, 1) := by decide +kernel
theorem dX6_playNext_158 : decode cX6_playNext 158 = .ok (.iastore, 1) := by decide +kernel
theorem dX6_playNext_159 : decode cX6_playNext 159 = .ok (.aload_n 0, 1) := by decide +kernel
theorem dX6_playNext_160 : decode cX6_playNext 160 = .ok (.getfield 25, 3) := by decide +kernel
theorem dX6_playNext_163 : decode cX6_playNext 163 = .ok (.iload 8, 2) := by decide +kernel
theorem dX6_playNext_165 : decode cX6_playNext 165 = .ok (.iconst 4, 1) := by decide +kernel
theorem dX6_playNext_166 : decode cX6_playNext 166 = .ok (.iadd, 1) := by decide +kernel
theorem dX6_playNext_167 : decode cX6_playNext 167 = .ok (.aload_n 0, 1) := by decide +kernel
theorem dX6_playNext_168 : decode cX6_playNext 168 = .ok (.iload_n 2, 1) := by decide +kernel
theorem dX6_playNext_169 : decode cX6_playNext 169 = .ok (.iload 5, 2) := by decide +kernel
theorem dX6_playNext_171 : decode cX6_playNext 171 = .ok (.invokevirtual 106, 3) := by decide +kernel
theorem dX6_playNext_174 : decode cX6_playNext 174 = .ok (.iastore, 1) := by decide +kernel
theorem dX6_playNext_175 : decode cX6_playNext 175 = .ok (.aload_n 0, 1) := by decide +kernel
theorem dX6_playNext_176 : decode cX6_playNext 176 = .ok (.getfield 25, 3) := by decide +kernel
theorem dX6_playNext_179 : decode cX6_playNext 179 = .ok (.iload 8, 2) := by decide +kernel
theorem dX6_playNext_181 : decode cX6_playNext 181 = .ok (.iconst 5, 1) := by decide +kernel
theorem dX6_playNext_182 : decode cX6_playNext 182 = .ok (.iadd, 1) := by decide +kernel
theorem dX6_playNext_183 : decode cX6_playNext 183 = .ok (.iload 6, 2) := by decide +kernel
theorem dX6_playNext_185 : decode cX6_playNext 185 = .ok (.iastore, 1) := by decide +kernel
theorem dX6_playNext_186 : decode cX6_playNext 186 = .ok (.aload_n 0, 1) := by decide +kernel
theorem dX6_playNext_187 : decode cX6_playNext 187 = .ok (.getfield 25, 3) := by decide +kernel
theorem dX6_playNext_190 : decode cX6_playNext 190 = .ok (.iload 8, 2) := by decide +kernel
theorem dX6_playNext_192 : decode cX6_playNext 192 = .ok (.bipush 6, 2) := by decide +kernel
theorem dX6_playNext_194 : decode cX6_playNext 194 = .ok (.iadd, 1) := by decide +kernel
theorem dX6_playNext_195 : decode cX6_playNext 195 = .ok (.iload_n 1, 1) := by decide +kernel
theorem dX6_playNext_196 : decode cX6_playNext 196 = .ok (.iastore, 1) := by decide +kernel
theorem dX6_playNext_197 : decode cX6_playNext 197 = .ok (.aload_n 0, 1) := by decide +kernel
theorem dX6_playNext_198 : decode cX6_playNext 198 = .ok (.getfield 32, 3) := by decide +kernel
theorem dX6_playNext_201 : decode cX6_playNext 201 = .ok (.iload_n 2, 1) := by decide +kernel
theorem dX6_playNext_202 : decode cX6_playNext 202 = .ok (.iload 7, 2) := by decide +kernel
theorem dX6_playNext_204 : decode cX6_playNext 204 = .ok (.invokevirtual 110, 3) := by decide +kernel
theorem dX6_playNext_207 : decode cX6_playNext 207 = .ok (.aload_n 0, 1) := by decide +kernel
theorem dX6_playNext_208 : decode cX6_playNext 208 = .ok (.getfield 29, 3) := by decide +kernel
theorem dX6_playNext_211 : decode cX6_playNext 211 = .ok (.bipush 7, 2) := by decide +kernel
theorem dX6_playNext_213 : decode cX6_playNext 213 = .ok (.dup2, 1) := by decide +kernel
theorem dX6_playNext_214 : decode cX6_playNext 214 = .ok (.iaload, 1) := by decide +kernel
theorem dX6_playNext_215 : decode cX6_playNext 215 = .ok (.iconst 1, 1) := by decide +kernel
theorem dX6_playNext_216 : decode cX6_playNext 216 = .ok (.iadd, 1) := by decide +kernel
theorem dX6_playNext_217 : decode cX6_playNext 217 = .ok (.iastore, 1) := by decide +kernel
theorem dX6_playNext_218 : decode cX6_playNext 218 = .ok (.aload_n 0, 1) := by decide +kernel
theorem dX6_playNext_219 : decode cX6_playNext 219 = .ok (.getfield 29, 3) := by decide +kernel
theorem dX6_playNext_222 : decode cX6_playNext 222 = .ok (.bipush 7, 2) := by decide +kernel
theorem dX6_playNext_224 : decode cX6_playNext 224 = .ok (.iaload, 1) := by decide +kernel
theorem dX6_playNext_225 : decode cX6_playNext 225 = .ok (.bipush 8, 2) := by decide +kernel
theorem dX6_playNext_227 : decode cX6_playNext 227 = .ok (.irem, 1) := by decide +kernel
theorem dX6_playNext_228 : decode cX6_playNext 228 = .ok (.ifCond .ne 7, 3) := by decide +kernel
theorem dX6_playNext_231 : decode cX6_playNext 231 = .ok (.aload_n 0, 1) := by decide +kernel
theorem dX6_playNext_232 : decode cX6_playNext 232 = .ok (.invokevirtual 116, 3) := by decide +kernel
theorem dX6_playNext_235 : decode cX6_playNext 235 = .ok (.return_, 1) := by decide +kernel
theorem dX6_hearCode_0 : decode cX6_hearCode 0 = .ok (.aload_n 0, 1) := by decide +kernel
theorem dX6_hearCode_1 : decode cX6_hearCode 1 = .ok (.getfield 21, 3) := by decide +kernel
theorem dX6_hearCode_4 : decode cX6_hearCode 4 = .ok (.aload_n 1, 1) := by decide +kernel
theorem dX6_hearCode_5 : decode cX6_hearCode 5 = .ok (.aload_n 0, 1) := by decide +kernel
theorem dX6_hearCode_6 : decode cX6_hearCode 6 = .ok (.getfield 29, 3) := by decide +kernel
theorem dX6_hearCode_9 : decode cX6_hearCode 9 = .ok (.invokevirtual 119, 3) := by decide +kernel
theorem dX6_hearCode_12 : decode cX6_hearCode 12 = .ok (.aload_n 0, 1) := by decide +kernel
theorem dX6_hearCode_13 : decode cX6_hearCode 13 = .ok (.getfield 21, 3) := by decide +kernel
theorem dX6_hearCode_16 : decode cX6_hearCode 16 = .ok (.invokevirtual 123, 3) := by decide +kernel
theorem dX6_hearCode_19 : decode cX6_hearCode 19 = .ok (.iconst 0, 1) := by decide +kernel
theorem dX6_hearCode_20 : decode cX6_hearCode 20 = .ok (.istore_n 2, 1) := by decide +kernel
theorem dX6_hearCode_21 : decode cX6_hearCode 21 = .ok (.iload_n 2, 1) := by decide +kernel
theorem dX6_hearCode_22 : decode cX6_hearCode 22 = .ok (.iconst 2, 1) := by decide +kernel
theorem dX6_hearCode_23 : decode cX6_hearCode 23 = .ok (.if_icmp .ge 58, 3) := by decide +kernel
theorem dX6_hearCode_26 : decode cX6_hearCode 26 = .ok (.aload_n 0, 1) := by decide +kernel
theorem dX6_hearCode_27 : decode cX6_hearCode 27 = .ok (.getfield 12, 3) := by decide +kernel
theorem dX6_hearCode_30 : decode cX6_hearCode 30 = .ok (.iload_n 2, 1) := by decide +kernel
theorem dX6_hearCode_31 : decode cX6_hearCode 31 = .ok (.aaload, 1) := by decide +kernel
theorem dX6_hearCode_32 : decode cX6_hearCode 32 = .ok (.astore_n 3, 1) := by decide +kernel
theorem dX6_hearCode_33 : decode cX6_hearCode 33 = .ok (.aload_n 3, 1) := by decide +kernel
theorem dX6_hearCode_34 : decode cX6_hearCode 34 = .ok (.aload_n 0, 1) := by decide +kernel
theorem dX6_hearCode_35 : decode cX6_hearCode 35 = .ok (.getfield 21, 3) := by decide +kernel
theorem dX6_hearCode_38 : decode cX6_hearCode 38 = .ok (.getfield 126, 3) := by decide +kernel
theorem dX6_hearCode_41 : decode cX6_hearCode 41 = .ok (.iload_n 2, 1) := by decide +kernel
theorem dX6_hearCode_42 : decode cX6_hearCode 42 = .ok (.invokevirtual 129, 3) := by decide +kernel
theorem dX6_hearCode_45 : decode cX6_hearCode 45 = .ok (.aload_n 0, 1) := by decide +kernel
theorem dX6_hearCode_46 : decode cX6_hearCode 46 = .ok (.getfield 29, 3) := by decide +kernel
theorem dX6_hearCode_49 : decode cX6_hearCode 49 = .ok (.bipush 15, 2) := by decide +kernel
theorem dX6_hearCode_51 : decode cX6_hearCode 51 = .ok (.iaload, 1) := by decide +kernel
theorem dX6_hearCode_52 : decode cX6_hearCode 52 = .ok (.ifCond .le 15, 3) := by decide +kernel
theorem dX6_hearCode_55 : decode cX6_hearCode 55 = .ok (.aload_n 3, 1) := by decide +kernel
theorem dX6_hearCode_56 : decode cX6_hearCode 56 = .ok (.aload_n 0, 1) := by decide +kernel
theorem dX6_hearCode_57 : decode cX6_hearCode 57 = .ok (.invokevirtual 87, 3) := by decide +kernel
theorem dX6_hearCode_60 : decode cX6_hearCode 60 = .ok (.invokevirtual 133, 3) := by decide +kernel
theorem dX6_hearCode_63 : decode cX6_hearCode 63 = .ok (.aload_n 3, 1) := by decide +kernel
theorem dX6_hearCode_64 : decode cX6_hearCode 64 = .ok (.invokevirtual 136, 3) := by decide +kernel
theorem dX6_hearCode_67 : decode cX6_hearCode 67 = .ok (.aload_n 3, 1) := by decide +kernel
theorem dX6_hearCode_68 : decode cX6_hearCode 68 = .ok (.aload_n 3, 1) := by decide +kernel
theorem dX6_hearCode_69 : decode cX6_hearCode 69 = .ok (.getfield 139, 3) := by decide +kernel
theorem dX6_hearCode_72 : decode cX6_hearCode 72 = .ok (.invokevirtual 142, 3) := by decide +kernel
theorem dX6_hearCode_75 : decode cX6_hearCode 75 = .ok (.iinc 2 1, 3) := by decide +kernel
theorem dX6_hearCode_78 : decode cX6_hearCode 78 = .ok (.goto (-57), 3) := by decide +kernel
theorem dX6_hearCode_81 : decode cX6_hearCode 81 = .ok (.aload_n 0, 1) := by decide +kernel
theorem dX6_hearCode_82 : decode cX6_hearCode 82 = .ok (.getfield 29, 3) := by decide +kernel
theorem dX6_hearCode_85 : decode cX6_hearCode 85 = .ok (.bipush 13, 2) := by decide +kernel
theorem dX6_hearCode_87 : decode cX6_hearCode 87 = .ok (.dup2, 1) := by decide +kernel
theorem dX6_hearCode_88 : decode cX6_hearCode 88 = .ok (.iaload, 1) := by decide +kernel
theorem dX6_hearCode_89 : decode cX6_hearCode 89 = .ok (.iconst 1, 1) := by decide +kernel
theorem dX6_hearCode_90 : decode cX6_hearCode 90 = .ok (.iadd, 1) := by decide +kernel
theorem dX6_hearCode_91 : decode cX6_hearCode 91 = .ok (.iastore, 1) := by decide +kernel
theorem dX6_hearCode_92 : decode cX6_hearCode 92 = .ok (.aload_n 0, 1) := by decide +kernel
theorem dX6_hearCode_93 : decode cX6_hearCode 93 = .ok (.getfield 29, 3) := by decide +kernel
theorem dX6_hearCode_96 : decode cX6_hearCode 96 = .ok (.bipush 15, 2) := by decide +kernel
theorem dX6_hearCode_98 : decode cX6_hearCode 98 = .ok (.iconst 0, 1) := by decide +kernel
theorem dX6_hearCode_99 : decode cX6_hearCode 99 = .ok (.iastore, 1) := by decide +kernel
theorem dX6_hearCode_100 : decode cX6_hearCode 100 = .ok (.return_, 1) := by decide +kernel
theorem dX6_hearMadeUp_0 : decode cX6_hearMadeUp 0 = .ok (.iconst 0, 1) := by decide +kernel
theorem dX6_hearMadeUp_1 : decode cX6_hearMadeUp 1 = .ok (.istore_n 2, 1) := by decide +kernel
theorem dX6_hearMadeUp_2 : decode cX6_hearMadeUp 2 = .ok (.iload_n 2, 1) := by decide +kernel
theorem dX6_hearMadeUp_3 : decode cX6_hearMadeUp 3 = .ok (.iconst 2, 1) := by decide +kernel
theorem dX6_hearMadeUp_4 : decode cX6_hearMadeUp 4 = .ok (.if_icmp .ge 29, 3) := by decide +kernel
theorem dX6_hearMadeUp_7 : decode cX6_hearMadeUp 7 = .ok (.aload_n 0, 1) := by decide +kernel
theorem dX6_hearMadeUp_8 : decode cX6_hearMadeUp 8 = .ok (.getfield 12, 3) := by decide +kernel
theorem dX6_hearMadeUp_11 : decode cX6_hearMadeUp 11 = .ok (.iload_n 2, 1) := by decide +kernel
theorem dX6_hearMadeUp_12 : decode cX6_hearMadeUp 12 = .ok (.aaload, 1) := by decide +kernel
theorem dX6_hearMadeUp_13 : decode cX6_hearMadeUp 13 = .ok (.astore_n 3, 1) := by decide +kernel
theorem dX6_hearMadeUp_14 : decode cX6_hearMadeUp 14 = .ok (.aload_n 3, 1) := by decide +kernel
theorem dX6_hearMadeUp_15 : decode cX6_hearMadeUp 15 = .ok (.iload_n 1, 1) := by decide +kernel
theorem dX6_hearMadeUp_16 : decode cX6_hearMadeUp 16 = .ok (.invokevirtual 133, 3) := by decide +kernel
theorem dX6_hearMadeUp_19 : decode cX6_hearMadeUp 19 = .ok (.aload_n 3, 1) := by decide +kernel
theorem dX6_hearMadeUp_20 : decode cX6_hearMadeUp 20 = .ok (.aload_n 3, 1) := by decide +kernel
theorem dX6_hearMadeUp_21 : decode cX6_hearMadeUp 21 = .ok (.getfield 146, 3) := by decide +kernel
theorem dX6_hearMadeUp_24 : decode cX6_hearMadeUp 24 = .ok (.invokevirtual 142, 3) := by decide +kernel
theorem dX6_hearMadeUp_27 : decode cX6_hearMadeUp 27 = .ok (.iinc 2 1, 3) := by decide +kernel
theorem dX6_hearMadeUp_30 : decode cX6_hearMadeUp 30 = .ok (.goto (-28), 3) := by decide +kernel
theorem dX6_hearMadeUp_33 : decode cX6_hearMadeUp 33 = .ok (.aload_n 0, 1) := by decide +kernel
theorem dX6_hearMadeUp_34 : decode cX6_hearMadeUp 34 = .ok (.getfield 29, 3) := by decide +kernel
theorem dX6_hearMadeUp_37 : decode cX6_hearMadeUp 37 = .ok (.bipush 14, 2) := by decide +kernel
theorem dX6_hearMadeUp_39 : decode cX6_hearMadeUp 39 = .ok (.dup2, 1) := by decide +kernel
theorem dX6_hearMadeUp_40 : decode cX6_hearMadeUp 40 = .ok (.iaload, 1) := by decide +kernel
theorem dX6_hearMadeUp_41 : decode cX6_hearMadeUp 41 = .ok (.iconst 1, 1) := by decide +kernel
theorem dX6_hearMadeUp_42 : decode cX6_hearMadeUp 42 = .ok (.iadd, 1) := by decide +kernel
theorem dX6_hearMadeUp_43 : decode cX6_hearMadeUp 43 = .ok (.iastore, 1) := by decide +kernel
theorem dX6_hearMadeUp_44 : decode cX6_hearMadeUp 44 = .ok (.aload_n 0, 1) := by decide +kernel
theorem dX6_hearMadeUp_45 : decode cX6_hearMadeUp 45 = .ok (.getfield 29, 3) := by decide +kernel
theorem dX6_hearMadeUp_48 : decode cX6_hearMadeUp 48 = .ok (.bipush 15, 2) := by decide +kernel
theorem dX6_hearMadeUp_50 : decode cX6_hearMadeUp 50 = .ok (.dup2, 1) := by decide +kernel
theorem dX6_hearMadeUp_51 : decode cX6_hearMadeUp 51 = .ok (.iaload, 1) := by decide +kernel
theorem dX6_hearMadeUp_52 : decode cX6_hearMadeUp 52 = .ok (.iconst 1, 1) := by decide +kernel
theorem dX6_hearMadeUp_53 : decode cX6_hearMadeUp 53 = .ok (.iadd, 1) := by decide +kernel
theorem dX6_hearMadeUp_54 : decode cX6_hearMadeUp 54 = .ok (.iastore, 1) := by decide +kernel
theorem dX6_hearMadeUp_55 : decode cX6_hearMadeUp 55 = .ok (.aload_n 0, 1) := by decide +kernel
theorem dX6_hearMadeUp_56 : decode cX6_hearMadeUp 56 = .ok (.getfield 29, 3) := by decide +kernel
theorem dX6_hearMadeUp_59 : decode cX6_hearMadeUp 59 = .ok (.bipush 16, 2) := by decide +kernel
theorem dX6_hearMadeUp_61 : decode cX6_hearMadeUp 61 = .ok (.aload_n 0, 1) := by decide +kernel
theorem dX6_hearMadeUp_62 : decode cX6_hearMadeUp 62 = .ok (.getfield 29, 3) := by decide +kernel
theorem dX6_hearMadeUp_65 : decode cX6_hearMadeUp 65 = .ok (.bipush 16, 2) := by decide +kernel
theorem dX6_hearMadeUp_67 : decode cX6_hearMadeUp 67 = .ok (.iaload, 1) := by decide +kernel
theorem dX6_hearMadeUp_68 : decode cX6_hearMadeUp 68 = .ok (.aload_n 0, 1) := by decide +kernel
theorem dX6_hearMadeUp_69 : decode cX6_hearMadeUp 69 = .ok (.getfield 29, 3) := by decide +kernel
theorem dX6_hearMadeUp_72 : decode cX6_hearMadeUp 72 = .ok (.bipush 15, 2) := by decide +kernel
theorem dX6_hearMadeUp_74 : decode cX6_hearMadeUp 74 = .ok (.iaload, 1) := by decide +kernel
theorem dX6_hearMadeUp_75 : decode cX6_hearMadeUp 75 = .ok (.invokestatic 58, 3) := by decide +kernel
theorem dX6_hearMadeUp_78 : decode cX6_hearMadeUp 78 = .ok (.iastore, 1) := by decide +kernel
theorem dX6_hearMadeUp_79 : decode cX6_hearMadeUp 79 = .ok (.return_, 1) := by decide +kernel
theorem dX6_compare_0 : decode cX6_compare 0 = .ok (.iconst 0, 1) := by decide +kernel
theorem dX6_compare_1 : decode cX6_compare 1 = .ok (.istore_n 3, 1) := by decide +kernel
theorem dX6_compare_2 : decode cX6_compare 2 = .ok (.iconst 0, 1) := by decide +kernel
theorem dX6_compare_3 : decode cX6_compare 3 = .ok (.istore 4, 2) := by decide +kernel
theorem dX6_compare_5 : decode cX6_compare 5 = .ok (.iconst 0, 1) := by decide +kernel
theorem dX6_compare_6 : decode cX6_compare 6 = .ok (.istore 5, 2) := by decide +kernel
theorem dX6_compare_8 : decode cX6_compare 8 = .ok (.iload 5, 2) := by decide +kernel
theorem dX6_compare_10 : decode cX6_compare 10 = .ok (.iconst 2, 1) := by decide +kernel
theorem dX6_compare_11 : decode cX6_compare 11 = .ok (.if_icmp .ge 80, 3) := by decide +kernel
theorem dX6_compare_14 : decode cX6_compare 14 = .ok (.iconst 0, 1) := by decide +kernel
theorem dX6_compare_15 : decode cX6_compare 15 = .ok (.istore 6, 2) := by decide +kernel
theorem dX6_compare_17 : decode cX6_compare 17 = .ok (.iload 6, 2) := by decide +kernel
theorem dX6_compare_19 : decode cX6_compare 19 = .ok (.bipush 32, 2) := by decide +kernel
theorem dX6_compare_21 : decode cX6_compare 21 = .ok (.if_icmp .ge 64, 3) := by decide +kernel
theorem dX6_compare_24 : decode cX6_compare 24 = .ok (.aload_n 0, 1) := by decide +kernel
theorem dX6_compare_25 : decode cX6_compare 25 = .ok (.getfield 29, 3) := by decide +kernel
theorem dX6_compare_28 : decode cX6_compare 28 = .ok (.iload 5, 2) := by decide +kernel
theorem dX6_compare_30 : decode cX6_compare 30 = .ok (.bipush 32, 2) := by decide +kernel
theorem dX6_compare_32 : decode cX6_compare 32 = .ok (.iload_n 1, 1) := by decide +kernel
theorem dX6_compare_33 : decode cX6_compare 33 = .ok (.imul, 1) := by decide +kernel
theorem dX6_compare_34 : decode cX6_compare 34 = .ok (.iload 6, 2) := by decide +kernel
theorem dX6_compare_36 : decode cX6_compare 36 = .ok (.iadd, 1) := by decide +kernel
theorem dX6_compare_37 : decode cX6_compare 37 = .ok (.invokestatic 149, 3) := by decide +kernel
theorem dX6_compare_40 : decode cX6_compare 40 = .ok (.istore 7, 2) := by decide +kernel
theorem dX6_compare_42 : decode cX6_compare 42 = .ok (.aload_n 0, 1) := by decide +kernel
theorem dX6_compare_43 : decode cX6_compare 43 = .ok (.getfield 12, 3) := by decide +kernel
theorem dX6_compare_46 : decode cX6_compare 46 = .ok (.iload 5, 2) := by decide +kernel
theorem dX6_compare_48 : decode cX6_compare 48 = .ok (.aaload, 1) := by decide +kernel
theorem dX6_compare_49 : decode cX6_compare 49 = .ok (.bipush 31, 2) := by decide +kernel
theorem dX6_compare_51 : decode cX6_compare 51 = .ok (.iload 6, 2) := by decide +kernel
theorem dX6_compare_53 : decode cX6_compare 53 = .ok (.isub, 1) := by decide +kernel
theorem dX6_compare_54 : decode cX6_compare 54 = .ok (.invokevirtual 153, 3) := by decide +kernel
theorem dX6_compare_57 : decode cX6_compare 57 = .ok (.iload 7, 2) := by decide +kernel
theorem dX6_compare_59 : decode cX6_compare 59 = .ok (.isub, 1) := by decide +kernel
theorem dX6_compare_60 : decode cX6_compare 60 = .ok (.invokestatic 156, 3) := by decide +kernel
theorem dX6_compare_63 : decode cX6_compare 63 = .ok (.istore 8, 2) := by decide +kernel
theorem dX6_compare_65 : decode cX6_compare 65 = .ok (.iload_n 3, 1) := by decide +kernel
theorem dX6_compare_66 : decode cX6_compare 66 = .ok (.iload 8, 2) := by decide +kernel
theorem dX6_compare_68 : decode cX6_compare 68 = .ok (.iadd, 1) := by decide +kernel
theorem dX6_compare_69 : decode cX6_compare 69 = .ok (.istore_n 3, 1) := by decide +kernel
theorem dX6_compare_70 : decode cX6_compare 70 = .ok (.iload 4, 2) := by decide +kernel
theorem dX6_compare_72 : decode cX6_compare 72 = .ok (.iload 8, 2) := by decide +kernel
theorem dX6_compare_74 : decode cX6_compare 74 = .ok (.invokestatic 58, 3) := by decide +kernel
theorem dX6_compare_77 : decode cX6_compare 77 = .ok (.istore 4, 2) := by decide +kernel
theorem dX6_compare_79 : decode cX6_compare 79 = .ok (.iinc 6 1, 3) := by decide +kernel
theorem dX6_compare_82 : decode cX6_compare 82 = .ok (.goto (-65), 3) := by decide +kernel
theorem dX6_compare_85 : decode cX6_compare 85 = .ok (.iinc 5 1, 3) := by decide +kernel
theorem dX6_compare_88 : decode cX6_compare 88 = .ok (.goto (-80), 3) := by decide +kernel
theorem dX6_compare_91 : decode cX6_compare 91 = .ok (.iload_n 2, 1) := by decide +kernel
theorem dX6_compare_92 : decode cX6_compare 92 = .ok (.ifCond .eq 33, 3) := by decide +kernel
theorem dX6_compare_95 : decode cX6_compare 95 = .ok (.aload_n 0, 1) := by decide +kernel
theorem dX6_compare_96 : decode cX6_compare 96 = .ok (.getfield 29, 3) := by decide +kernel
theorem dX6_compare_99 : decode cX6_compare 99 = .ok (.bipush 17, 2) := by decide +kernel
theorem dX6_compare_101 : decode cX6_compare 101 = .ok (.dup2, 1) := by decide +kernel
theorem dX6_compare_102 : decode cX6_compare 102 = .ok (.iaload, 1) := by decide +kernel
theorem dX6_compare_103 : decode cX6_compare 103 = .ok (.iload_n 3, 1) := by decide +kernel
theorem dX6_compare_104 : decode cX6_compare 104 = .ok (.iadd, 1) := by decide +kernel
theorem dX6_compare_105 : decode cX6_compare 105 = .ok (.iastore, 1) := by decide +kernel
theorem dX6_compare_106 : decode cX6_compare 106 = .ok (.aload_n 0, 1) := by decide +kernel
theorem dX6_compare_107 : decode cX6_compare 107 = .ok (.getfield 29, 3) := by decide +kernel
theorem dX6_compare_110 : decode cX6_compare 110 = .ok (.bipush 18, 2) := by decide +kernel
theorem dX6_compare_112 : decode cX6_compare 112 = .ok (.aload_n 0, 1) := by decide +kernel
theorem dX6_compare_113 : decode cX6_compare 113 = .ok (.getfield 29, 3) := by decide +kernel
theorem dX6_compare_116 : decode cX6_compare 116 = .ok (.bipush 18, 2) := by decide +kernel
theorem dX6_compare_118 : decode cX6_compare 118 = .ok (.iaload, 1) := by decide +kernel
theorem dX6_compare_119 : decode cX6_compare 119 = .ok (.iload 4, 2) := by decide +kernel
theorem dX6_compare_121 : decode cX6_compare 121 = .ok (.invokestatic 58, 3) := by decide +kernel
theorem dX6_compare_124 : decode cX6_compare 124 = .ok (.iastore, 1) := by decide +kernel
theorem dX6_compare_125 : decode cX6_compare 125 = .ok (.iload_n 3, 1) := by decide +kernel
theorem dX6_compare_126 : decode cX6_compare 126 = .ok (.ireturn, 1) := by decide +kernel
theorem dX6_trim_0 : decode cX6_trim 0 = .ok (.aload_n 0, 1) := by decide +kernel
theorem dX6_trim_1 : decode cX6_trim 1 = .ok (.getfield 29, 3) := by decide +kernel
theorem dX6_trim_4 : decode cX6_trim 4 = .ok (.bipush 12, 2) := by decide +kernel
theorem dX6_trim_6 : decode cX6_trim 6 = .ok (.iaload, 1) := by decide +kernel
theorem dX6_trim_7 : decode cX6_trim 7 = .ok (.bipush 8, 2) := by decide +kernel
theorem dX6_trim_9 : decode cX6_trim 9 = .ok (.aload_n 0, 1) := by decide +kernel
theorem dX6_trim_10 : decode cX6_trim 10 = .ok (.getfield 29, 3) := by decide +kernel
theorem dX6_trim_13 : decode cX6_trim 13 = .ok (.bipush 27, 2) := by decide +kernel
theorem dX6_trim_15 : decode cX6_trim 15 = .ok (.iaload, 1) := by decide +kernel
theorem dX6_trim_16 : decode cX6_trim 16 = .ok (.imul, 1) := by decide +kernel
theorem dX6_trim_17 : decode cX6_trim 17 = .ok (.isub, 1) := by decide +kernel
theorem dX6_trim_18 : decode cX6_trim 18 = .ok (.istore_n 1, 1) := by decide +kernel
theorem dX6_trim_19 : decode cX6_trim 19 = .ok (.aload_n 0, 1) := by decide +kernel
theorem dX6_trim_20 : decode cX6_trim 20 = .ok (.getfield 29, 3) := by decide +kernel
theorem dX6_trim_23 : decode cX6_trim 23 = .ok (.bipush 11, 2) := by decide +kernel
theorem dX6_trim_25 : decode cX6_trim 25 = .ok (.aload_n 0, 1) := by decide +kernel
theorem dX6_trim_26 : decode cX6_trim 26 = .ok (.getfield 29, 3) := by decide +kernel
theorem dX6_trim_29 : decode cX6_trim 29 = .ok (.bipush 11, 2) := by decide +kernel
theorem dX6_trim_31 : decode cX6_trim 31 = .ok (.iaload, 1) := by decide +kernel
theorem dX6_trim_32 : decode cX6_trim 32 = .ok (.iload_n 1, 1) := by decide +kernel
theorem dX6_trim_33 : decode cX6_trim 33 = .ok (.iadd, 1) := by decide +kernel
theorem dX6_trim_34 : decode cX6_trim 34 = .ok (.sipush (-1600), 3) := by decide +kernel
theorem dX6_trim_37 : decode cX6_trim 37 = .ok (.sipush 1600, 3) := by decide +kernel
theorem dX6_trim_40 : decode cX6_trim 40 = .ok (.invokestatic 159, 3) := by decide +kernel
theorem dX6_trim_43 : decode cX6_trim 43 = .ok (.iastore, 1) := by decide +kernel
theorem dX6_trim_44 : decode cX6_trim 44 = .ok (.aload_n 0, 1) := by decide +kernel
theorem dX6_trim_45 : decode cX6_trim 45 = .ok (.getfield 29, 3) := by decide +kernel
theorem dX6_trim_48 : decode cX6_trim 48 = .ok (.bipush 10, 2) := by decide +kernel
theorem dX6_trim_50 : decode cX6_trim 50 = .ok (.iconst 4, 1) := by decide +kernel
theorem dX6_trim_51 : decode cX6_trim 51 = .ok (.iload_n 1, 1) := by decide +kernel
theorem dX6_trim_52 : decode cX6_trim 52 = .ok (.imul, 1) := by decide +kernel
theorem dX6_trim_53 : decode cX6_trim 53 = .ok (.aload_n 0, 1) := by decide +kernel
theorem dX6_trim_54 : decode cX6_trim 54 = .ok (.getfield 29, 3) := by decide +kernel
theorem dX6_trim_57 : decode cX6_trim 57 = .ok (.bipush 11, 2) := by decide +kernel
theorem dX6_trim_59 : decode cX6_trim 59 = .ok (.iaload, 1) := by decide +kernel
theorem dX6_trim_60 : decode cX6_trim 60 = .ok (.iadd, 1) := by decide +kernel
theorem dX6_trim_61 : decode cX6_trim 61 = .ok (.iconst 3, 1) := by decide +kernel
theorem dX6_trim_62 : decode cX6_trim 62 = .ok (.ishr, 1) := by decide +kernel
theorem dX6_trim_63 : decode cX6_trim 63 = .ok (.bipush (-100), 2) := by decide +kernel
theorem dX6_trim_65 : decode cX6_trim 65 = .ok (.bipush 100, 2) := by decide +kernel
theorem dX6_trim_67 : decode cX6_trim 67 = .ok (.invokestatic 159, 3) := by decide +kernel
theorem dX6_trim_70 : decode cX6_trim 70 = .ok (.iastore, 1) := by decide +kernel
theorem dX6_trim_71 : decode cX6_trim 71 = .ok (.aload_n 0, 1) := by decide +kernel
theorem dX6_trim_72 : decode cX6_trim 72 = .ok (.getfield 29, 3) := by decide +kernel
theorem dX6_trim_75 : decode cX6_trim 75 = .ok (.bipush 12, 2) := by decide +kernel
theorem dX6_trim_77 : decode cX6_trim 77 = .ok (.iconst 0, 1) := by decide +kernel
theorem dX6_trim_78 : decode cX6_trim 78 = .ok (.iastore, 1) := by decide +kernel
theorem dX6_trim_79 : decode cX6_trim 79 = .ok (.return_, 1) := by decide +kernel
theorem dX7_init_0 : decode cX7_init 0 = .ok (.aload_n 0, 1) := by decide +kernel
theorem dX7_init_1 : decode cX7_init 1 = .ok (.invokespecial 1, 3) := by decide +kernel
theorem dX7_init_4 : decode cX7_init 4 = .ok (.aload_n 0, 1) := by decide +kernel
theorem dX7_init_5 : decode cX7_init 5 = .ok (.iconst 0, 1) := by decide +kernel
theorem dX7_init_6 : decode cX7_init 6 = .ok (.putfield 7, 3) := by decide +kernel
theorem dX7_init_9 : decode cX7_init 9 = .ok (.aload_n 0, 1) := by decide +kernel
theorem dX7_init_10 : decode cX7_init 10 = .ok (.aload_n 1, 1) := by decide +kernel
theorem dX7_init_11 : decode cX7_init 11 = .ok (.putfield 13, 3) := by decide +kernel
theorem dX7_init_14 : decode cX7_init 14 = .ok (.aload_n 0, 1) := by decide +kernel
theorem dX7_init_15 : decode cX7_init 15 = .ok (.iload_n 2, 1) := by decide +kernel
theorem dX7_init_16 : decode cX7_init 16 = .ok (.putfield 17, 3) := by decide +kernel
theorem dX7_init_19 : decode cX7_init 19 = .ok (.aload_n 0, 1) := by decide +kernel
theorem dX7_init_20 : decode cX7_init 20 = .ok (.iconst 1, 1) := by decide +kernel
theorem dX7_init_21 : decode cX7_init 21 = .ok (.iload_n 3, 1) := by decide +kernel
theorem dX7_init_22 : decode cX7_init 22 = .ok (.invokestatic 20, 3) := by decide +kernel
theorem dX7_init_25 : decode cX7_init 25 = .ok (.anewarray 26, 3) := by decide +kernel
theorem dX7_init_28 : decode cX7_init 28 = .ok (.putfield 28, 3) := by decide +kernel
theorem dX7_init_31 : decode cX7_init 31 = .ok (.iconst 0, 1) := by decide +kernel
theorem dX7_init_32 : decode cX7_init 32 = .ok (.istore 4, 2) := by decide +kernel
theorem dX7_init_34 : decode cX7_init 34 = .ok (.iload 4, 2) := by decide +kernel
theorem dX7_init_36 : decode cX7_init 36 = .ok (.aload_n 0, 1) := by decide +kernel
theorem dX7_init_37 : decode cX7_init 37 = .ok (.getfield 28, 3) := by decide +kernel
theorem dX7_init_40 : decode cX7_init 40 = .ok (.arraylength, 1) := by decide +kernel
theorem dX7_init_41 : decode cX7_init 41 = .ok (.if_icmp .ge 23, 3) := by decide +kernel
theorem dX7_init_44 : decode cX7_init 44 = .ok (.aload_n 0, 1) := by decide +kernel
theorem dX7_init_45 : decode cX7_init 45 = .ok (.getfield 28, 3) := by decide +kernel
theorem dX7_init_48 : decode cX7_init 48 = .ok (.iload 4, 2) := by decide +kernel
theorem dX7_init_50 : decode cX7_init 50 = .ok (.new 26, 3) := by decide +kernel
theorem dX7_init_53 : decode cX7_init 53 = .ok (.dup, 1) := by decide +kernel
theorem dX7_init_54 : decode cX7_init 54 = .ok (.invokespecial 32, 3) := by decide +kernel
theorem dX7_init_57 : decode cX7_init 57 = .ok (.aastore, 1) := by decide +kernel
theorem dX7_init_58 : decode cX7_init 58 = .ok (.iinc 4 1, 3) := by decide +kernel
theorem dX7_init_61 : decode cX7_init 61 = .ok (.goto (-27), 3) := by decide +kernel
theorem dX7_init_64 : decode cX7_init 64 = .ok (.return_, 1) := by decide +kernel
theorem dX7_become_0 : decode cX7_become 0 = .ok (.aload_n 0, 1) := by decide +kernel
theorem dX7_become_1 : decode cX7_become 1 = .ok (.aload_n 1, 1) := by decide +kernel
theorem dX7_become_2 : decode cX7_become 2 = .ok (.getfield 7, 3) := by decide +kernel
theorem dX7_become_5 : decode cX7_become 5 = .ok (.putfield 7, 3) := by decide +kernel
theorem dX7_become_8 : decode cX7_become 8 = .ok (.iconst 0, 1) := by decide +kernel
theorem dX7_become_9 : decode cX7_become 9 = .ok (.istore_n 2, 1) := by decide +kernel
theorem dX7_become_10 : decode cX7_become 10 = .ok (.iload_n 2, 1) := by decide +kernel
theorem dX7_become_11 : decode cX7_become 11 = .ok (.aload_n 0, 1) := by decide +kernel
theorem dX7_become_12 : decode cX7_become 12 = .ok (.getfield 13, 3) := by decide +kernel
theorem dX7_become_15 : decode cX7_become 15 = .ok (.aload_n 0, 1) := by decide +kernel
theorem dX7_become_16 : decode cX7_become 16 = .ok (.getfield 17, 3) := by decide +kernel
theorem dX7_become_19 : decode cX7_become 19 = .ok (.iaload, 1) := by decide +kernel
theorem dX7_become_20 : decode cX7_become 20 = .ok (.if_icmp .ge 37, 3) := by decide +kernel
theorem dX7_become_23 : decode cX7_become 23 = .ok (.aload_n 0, 1) := by decide +kernel
theorem dX7_become_24 : decode cX7_become 24 = .ok (.iload_n 2, 1) := by decide +kernel
theorem dX7_become_25 : decode cX7_become 25 = .ok (.invokevirtual 33, 3) := by decide +kernel
theorem dX7_become_28 : decode cX7_become 28 = .ok (.astore_n 3, 1) := by decide +kernel
theorem dX7_become_29 : decode cX7_become 29 = .ok (.aload_n 1, 1) := by decide +kernel
theorem dX7_become_30 : decode cX7_become 30 = .ok (.iload_n 2, 1) := by decide +kernel
theorem dX7_become_31 : decode cX7_become 31 = .ok (.invokevirtual 33, 3) := by decide +kernel
theorem dX7_become_34 : decode cX7_become 34 = .ok (.astore 4, 2) := by decide +kernel
theorem dX7_become_36 : decode cX7_become 36 = .ok (.aload_n 3, 1) := by decide +kernel
theorem dX7_become_37 : decode cX7_become 37 = .ok (.ifnull 14, 3) := by decide +kernel
theorem dX7_become_40 : decode cX7_become 40 = .ok (.aload 4, 2) := by decide +kernel
theorem dX7_become_42 : decode cX7_become 42 = .ok (.ifnull 9, 3) := by decide +kernel
theorem dX7_become_45 : decode cX7_become 45 = .ok (.aload_n 3, 1) := by decide +kernel
theorem dX7_become_46 : decode cX7_become 46 = .ok (.aload 4, 2) := by decide +kernel
theorem dX7_become_48 : decode cX7_become 48 = .ok (.invokevirtual 37, 3) := by decide +kernel
theorem dX7_become_51 : decode cX7_become 51 = .ok (.iinc 2 1, 3) := by decide +kernel
theorem dX7_become_54 : decode cX7_become 54 = .ok (.goto (-44), 3) := by decide +kernel
theorem dX7_become_57 : decode cX7_become 57 = .ok (.return_, 1) := by decide +kernel
theorem dX7_at_0 : decode cX7_at 0 = .ok (.iload_n 1, 1) := by decide +kernel
theorem dX7_at_1 : decode cX7_at 1 = .ok (.ifCond .lt 16, 3) := by decide +kernel
theorem dX7_at_4 : decode cX7_at 4 = .ok (.iload_n 1, 1) := by decide +kernel
theorem dX7_at_5 : decode cX7_at 5 = .ok (.aload_n 0, 1) := by decide +kernel
theorem dX7_at_6 : decode cX7_at 6 = .ok (.getfield 13, 3) := by decide +kernel
theorem dX7_at_9 : decode cX7_at 9 = .ok (.aload_n 0, 1) := by decide +kernel
theorem dX7_at_10 : decode cX7_at 10 = .ok (.getfield 17, 3) := by decide +kernel
theorem dX7_at_13 : decode cX7_at 13 = .ok (.iaload, 1) := by decide +kernel
theorem dX7_at_14 : decode cX7_at 14 = .ok (.if_icmp .lt 5, 3) := by decide +kernel
theorem dX7_at_17 : decode cX7_at 17 = .ok (.aconst_null, 1) := by decide +kernel
theorem dX7_at_18 : decode cX7_at 18 = .ok (.areturn, 1) := by decide +kernel
theorem dX7_at_19 : decode cX7_at 19 = .ok (.aload_n 0, 1) := by decide +kernel
theorem dX7_at_20 : decode cX7_at 20 = .ok (.getfield 28, 3) := by decide +kernel
theorem dX7_at_23 : decode cX7_at 23 = .ok (.aload_n 0, 1) := by decide +kernel
theorem dX7_at_24 : decode cX7_at 24 = .ok (.getfield 7, 3) := by decide +kernel
theorem dX7_at_27 : decode cX7_at 27 = .ok (.iload_n 1, 1) := by decide +kernel
theorem dX7_at_28 : decode cX7_at 28 = .ok (.iadd, 1) := by decide +kernel
theorem dX7_at_29 : decode cX7_at 29 = .ok (.aload_n 0, 1) := by decide +kernel
theorem dX7_at_30 : decode cX7_at 30 = .ok (.getfield 28, 3) := by decide +kernel
theorem dX7_at_33 : decode cX7_at 33 = .ok (.arraylength, 1) := by decide +kernel
theorem dX7_at_34 : decode cX7_at 34 = .ok (.irem, 1) := by decide +kernel
theorem dX7_at_35 : decode cX7_at 35 = .ok (.aaload, 1) := by decide +kernel
theorem dX7_at_36 : decode cX7_at 36 = .ok (.areturn, 1) := by decide +kernel
theorem dX7_append_0 : decode cX7_append 0 = .ok (.aload_n 0, 1) := by decide +kernel
theorem dX7_append_1 : decode cX7_append 1 = .ok (.getfield 13, 3) := by decide +kernel
theorem dX7_append_4 : decode cX7_append 4 = .ok (.aload_n 0, 1) := by decide +kernel
theorem dX7_append_5 : decode cX7_append 5 = .ok (.getfield 17, 3) := by decide +kernel
theorem dX7_append_8 : decode cX7_append 8 = .ok (.iaload, 1) := by decide +kernel
theorem dX7_append_9 : decode cX7_append 9 = .ok (.aload_n 0, 1) := by decide +kernel
theorem dX7_append_10 : decode cX7_append 10 = .ok (.getfield 28, 3) := by decide +kernel
theorem dX7_append_13 : decode cX7_append 13 = .ok (.arraylength, 1) := by decide +kernel
theorem dX7_append_14 : decode cX7_append 14 = .ok (.if_icmp .lt 5, 3) := by decide +kernel
theorem dX7_append_17 : decode cX7_append 17 = .ok (.aconst_null, 1) := by decide +kernel
theorem dX7_append_18 : decode cX7_append 18 = .ok (.areturn, 1) := by decide +kernel
theorem dX7_append_19 : decode cX7_append 19 = .ok (.aload_n 0, 1) := by decide +kernel
theorem dX7_append_20 : decode cX7_append 20 = .ok (.getfield 13, 3) := by decide +kernel
theorem dX7_append_23 : decode cX7_append 23 = .ok (.aload_n 0, 1) := by decide +kernel
theorem dX7_append_24 : decode cX7_append 24 = .ok (.getfield 17, 3) := by decide +kernel
theorem dX7_append_27 : decode cX7_append 27 = .ok (.dup2, 1) := by decide +kernel
theorem dX7_append_28 : decode cX7_append 28 = .ok (.iaload, 1) := by decide +kernel
theorem dX7_append_29 : decode cX7_append 29 = .ok (.iconst 1, 1) := by decide +kernel
theorem dX7_append_30 : decode cX7_append 30 = .ok (.iadd, 1) := by decide +kernel
theorem dX7_append_31 : decode cX7_append 31 = .ok (.iastore, 1) := by decide +kernel
theorem dX7_append_32 : decode cX7_append 32 = .ok (.aload_n 0, 1) := by decide +kernel
theorem dX7_append_33 : decode cX7_append 33 = .ok (.aload_n 0, 1) := by decide +kernel
theorem dX7_append_34 : decode cX7_append 34 = .ok (.getfield 13, 3) := by decide +kernel
theorem dX7_append_37 : decode cX7_append 37 = .ok (.aload_n 0, 1) := by decide +kernel
theorem dX7_append_38 : decode cX7_append 38 = .ok (.getfield 17, 3) := by decide +kernel
theorem dX7_append_41 : decode cX7_append 41 = .ok (.iaload, 1) := by decide +kernel
theorem dX7_append_42 : decode cX7_append 42 = .ok (.iconst 1, 1) := by decide +kernel
theorem dX7_append_43 : decode cX7_append 43 = .ok (.isub, 1) := by decide +kernel
theorem dX7_append_44 : decode cX7_append 44 = .ok (.invokevirtual 33, 3) := by decide +kernel
theorem dX7_append_47 : decode cX7_append 47 = .ok (.areturn, 1) := by decide +kernel
theorem dX7_removeFirst_0 : decode cX7_removeFirst 0 = .ok (.aload_n 0, 1) := by decide +kernel
theorem dX7_removeFirst_1 : decode cX7_removeFirst 1 = .ok (.getfield 13, 3) := by decide +kernel
theorem dX7_removeFirst_4 : decode cX7_removeFirst 4 = .ok (.aload_n 0, 1) := by decide +kernel
theorem dX7_removeFirst_5 : decode cX7_removeFirst 5 = .ok (.getfield 17, 3) := by decide +kernel
theorem dX7_removeFirst_8 : decode cX7_removeFirst 8 = .ok (.iaload, 1) := by decide +kernel
theorem dX7_removeFirst_9 : decode cX7_removeFirst 9 = .ok (.ifCond .le 32, 3) := by decide +kernel
theorem dX7_removeFirst_12 : decode cX7_removeFirst 12 = .ok (.aload_n 0, 1) := by decide +kernel
theorem dX7_removeFirst_13 : decode cX7_removeFirst 13 = .ok (.getfield 13, 3) := by decide +kernel
theorem dX7_removeFirst_16 : decode cX7_removeFirst 16 = .ok (.aload_n 0, 1) := by decide +kernel
theorem dX7_removeFirst_17 : decode cX7_removeFirst 17 = .ok (.getfield 17, 3) := by decide +kernel
theorem dX7_removeFirst_20 : decode cX7_removeFirst 20 = .ok (.dup2, 1) := by decide +kernel
theorem dX7_removeFirst_21 : decode cX7_removeFirst 21 = .ok (.iaload, 1) := by decide +kernel
theorem dX7_removeFirst_22 : decode cX7_removeFirst 22 = .ok (.iconst 1, 1) := by decide +kernel
theorem dX7_removeFirst_23 : decode cX7_removeFirst 23 = .ok (.isub, 1) := by decide +kernel
theorem dX7_removeFirst_24 : decode cX7_removeFirst 24 = .ok (.iastore, 1) := by decide +kernel
theorem dX7_removeFirst_25 : decode cX7_removeFirst 25 = .ok (.aload_n 0, 1) := by decide +kernel
theorem dX7_removeFirst_26 : decode cX7_removeFirst 26 = .ok (.aload_n 0, 1) := by decide +kernel
theorem dX7_removeFirst_27 : decode cX7_removeFirst 27 = .ok (.getfield 7, 3) := by decide +kernel
theorem dX7_removeFirst_30 : decode cX7_removeFirst 30 = .ok (.iconst 1, 1) := by decide +kernel
theorem dX7_removeFirst_31 : decode cX7_removeFirst 31 = .ok (.iadd, 1) := by decide +kernel
theorem dX7_removeFirst_32 : decode cX7_removeFirst 32 = .ok (.aload_n 0, 1) := by decide +kernel
theorem dX7_removeFirst_33 : decode cX7_removeFirst 33 = .ok (.getfield 28, 3) := by decide +kernel
theorem dX7_removeFirst_36 : decode cX7_removeFirst 36 = .ok (.arraylength, 1) := by decide +kernel
theorem dX7_removeFirst_37 : decode cX7_removeFirst 37 = .ok (.irem, 1) := by decide +kernel
theorem dX7_removeFirst_38 : decode cX7_removeFirst 38 = .ok (.putfield 7, 3) := by decide +kernel
theorem dX7_removeFirst_41 : decode cX7_removeFirst 41 = .ok (.return_, 1) := by decide +kernel
theorem dX8_init_0 : decode cX8_init 0 = .ok (.aload_n 0, 1) := by decide +kernel
theorem dX8_init_1 : decode cX8_init 1 = .ok (.invokespecial 3, 3) := by decide +kernel
theorem dX8_init_4 : decode cX8_init 4 = .ok (.aload_n 0, 1) := by decide +kernel
theorem dX8_init_5 : decode cX8_init 5 = .ok (.aload_n 1, 1) := by decide +kernel
theorem dX8_init_6 : decode cX8_init 6 = .ok (.putfield 9, 3) := by decide +kernel
theorem dX8_init_9 : decode cX8_init 9 = .ok (.aload_n 0, 1) := by decide +kernel
theorem dX8_init_10 : decode cX8_init 10 = .ok (.aload_n 2, 1) := by decide +kernel
theorem dX8_init_11 : decode cX8_init 11 = .ok (.putfield 15, 3) := by decide +kernel
theorem dX8_init_14 : decode cX8_init 14 = .ok (.aload_n 0, 1) := by decide +kernel
theorem dX8_init_15 : decode cX8_init 15 = .ok (.aload_n 3, 1) := by decide +kernel
theorem dX8_init_16 : decode cX8_init 16 = .ok (.putfield 19, 3) := by decide +kernel
theorem dX8_init_19 : decode cX8_init 19 = .ok (.aload_n 0, 1) := by decide +kernel
theorem dX8_init_20 : decode cX8_init 20 = .ok (.new 23, 3) := by decide +kernel
theorem dX8_init_23 : decode cX8_init 23 = .ok (.dup, 1) := by decide +kernel
theorem dX8_init_24 : decode cX8_init 24 = .ok (.aload_n 1, 1) := by decide +kernel
theorem dX8_init_25 : decode cX8_init 25 = .ok (.iconst 5, 1) := by decide +kernel
theorem dX8_init_26 : decode cX8_init 26 = .ok (.bipush 6, 2) := by decide +kernel
theorem dX8_init_28 : decode cX8_init 28 = .ok (.invokespecial 25, 3) := by decide +kernel
theorem dX8_init_31 : decode cX8_init 31 = .ok (.putfield 28, 3) := by decide +kernel
theorem dX8_init_34 : decode cX8_init 34 = .ok (.return_, 1) := by decide +kernel
theorem dX8_become_0 : decode cX8_become 0 = .ok (.aload_n 0, 1) := by decide +kernel
theorem dX8_become_1 : decode cX8_become 1 = .ok (.getfield 28, 3) := by decide +kernel
theorem dX8_become_4 : decode cX8_become 4 = .ok (.aload_n 1, 1) := by decide +kernel
theorem dX8_become_5 : decode cX8_become 5 = .ok (.getfield 28, 3) := by decide +kernel
theorem dX8_become_8 : decode cX8_become 8 = .ok (.invokevirtual 31, 3) := by decide +kernel
theorem dX8_become_11 : decode cX8_become 11 = .ok (.return_, 1) := by decide +kernel
theorem dX8_enqueue_0 : decode cX8_enqueue 0 = .ok (.aload_n 0, 1) := by decide +kernel
theorem dX8_enqueue_1 : decode cX8_enqueue 1 = .ok (.getfield 28, 3) := by decide +kernel
theorem dX8_enqueue_4 : decode cX8_enqueue 4 = .ok (.invokevirtual 35, 3) := by decide +kernel
theorem dX8_enqueue_7 : decode cX8_enqueue 7 = .ok (.astore_n 3, 1) := by decide +kernel
theorem dX8_enqueue_8 : decode cX8_enqueue 8 = .ok (.aload_n 3, 1) := by decide +kernel
theorem dX8_enqueue_9 : decode cX8_enqueue 9 = .ok (.ifnull 25, 3) := by decide +kernel
theorem dX8_enqueue_12 : decode cX8_enqueue 12 = .ok (.aload_n 3, 1) := by decide +kernel
theorem dX8_enqueue_13 : decode cX8_enqueue 13 = .ok (.iload_n 1, 1) := by decide +kernel
theorem dX8_enqueue_14 : decode cX8_enqueue 14 = .ok (.aload_n 2, 1) := by decide +kernel
theorem dX8_enqueue_15 : decode cX8_enqueue 15 = .ok (.aload_n 0, 1) := by decide +kernel
theorem dX8_enqueue_16 : decode cX8_enqueue 16 = .ok (.getfield 9, 3) := by decide +kernel
theorem dX8_enqueue_19 : decode cX8_enqueue 19 = .ok (.bipush 28, 2) := by decide +kernel
theorem dX8_enqueue_21 : decode cX8_enqueue 21 = .ok (.iaload, 1) := by decide +kernel
theorem dX8_enqueue_22 : decode cX8_enqueue 22 = .ok (.invokevirtual 39, 3) := by decide +kernel
theorem dX8_enqueue_25 : decode cX8_enqueue 25 = .ok (.aload_n 0, 1) := by decide +kernel
theorem dX8_enqueue_26 : decode cX8_enqueue 26 = .ok (.getfield 15, 3) := by decide +kernel
theorem dX8_enqueue_29 : decode cX8_enqueue 29 = .ok (.iload_n 1, 1) := by decide +kernel
theorem dX8_enqueue_30 : decode cX8_enqueue 30 = .ok (.iconst 1, 1) := by decide +kernel
theorem dX8_enqueue_31 : decode cX8_enqueue 31 = .ok (.invokevirtual 45, 3) := by decide +kernel
theorem dX8_enqueue_34 : decode cX8_enqueue 34 = .ok (.return_, 1) := by decide +kernel
theorem dX8_passSlot_0 : decode cX8_passSlot 0 = .ok (.aload_n 0, 1) := by decide +kernel
theorem dX8_passSlot_1 : decode cX8_passSlot 1 = .ok (.iload_n 1, 1) := by decide +kernel
theorem dX8_passSlot_2 : decode cX8_passSlot 2 = .ok (.invokevirtual 51, 3) := by decide +kernel
theorem dX8_passSlot_5 : decode cX8_passSlot 5 = .ok (.aload_n 0, 1) := by decide +kernel
theorem dX8_passSlot_6 : decode cX8_passSlot 6 = .ok (.getfield 28, 3) := by decide +kernel
theorem dX8_passSlot_9 : decode cX8_passSlot 9 = .ok (.iconst 0, 1) := by decide +kernel
theorem dX8_passSlot_10 : decode cX8_passSlot 10 = .ok (.invokevirtual 55, 3) := by decide +kernel
theorem dX8_passSlot_13 : decode cX8_passSlot 13 = .ok (.astore_n 2, 1) := by decide +kernel
theorem dX8_passSlot_14 : decode cX8_passSlot 14 = .ok (.aload_n 2, 1) := by decide +kernel
theorem dX8_passSlot_15 : decode cX8_passSlot 15 = .ok (.ifnonnull 15, 3) := by decide +kernel
theorem dX8_passSlot_18 : decode cX8_passSlot 18 = .ok (.aload_n 0, 1) := by decide +kernel
theorem dX8_passSlot_19 : decode cX8_passSlot 19 = .ok (.getfield 9, 3) := by decide +kernel
theorem dX8_passSlot_22 : decode cX8_passSlot 22 = .ok (.bipush 35, 2) := by decide +kernel
theorem dX8_passSlot_24 : decode cX8_passSlot 24 = .ok (.dup2, 1) := by decide +kernel
theorem dX8_passSlot_25 : decode cX8_passSlot 25 = .ok (.iaload, 1) := by decide +kernel
theorem dX8_passSlot_26 : decode cX8_passSlot 26 = .ok (.iconst 1, 1) := by decide +kernel
theorem dX8_passSlot_27 : decode cX8_passSlot 27 = .ok (.iadd, 1) := by decide +kernel
theorem dX8_passSlot_28 : decode cX8_passSlot 28 = .ok (.iastore, 1) := by decide +kernel
theorem dX8_passSlot_29 : decode cX8_passSlot 29 = .ok (.return_, 1) := by decide +kernel
theorem dX8_passSlot_30 : decode cX8_passSlot 30 = .ok (.aload_n 2, 1) := by decide +kernel
theorem dX8_passSlot_31 : decode cX8_passSlot 31 = .ok (.dup, 1) := by decide +kernel
theorem dX8_passSlot_32 : decode cX8_passSlot 32 = .ok (.getfield 59, 3) := by decide +kernel
theorem dX8_passSlot_35 : decode cX8_passSlot 35 = .ok (.iconst 1, 1) := by decide +kernel
theorem dX8_passSlot_36 : decode cX8_passSlot 36 = .ok (.iadd, 1) := by decide +kernel
theorem dX8_passSlot_37 : decode cX8_passSlot 37 = .ok (.putfield 59, 3) := by decide +kernel
theorem dX8_passSlot_40 : decode cX8_passSlot 40 = .ok (.aload_n 0, 1) := by decide +kernel
theorem dX8_passSlot_41 : decode cX8_passSlot 41 = .ok (.getfield 9, 3) := by decide +kernel
theorem dX8_passSlot_44 : decode cX8_passSlot 44 = .ok (.iconst 2, 1) := by decide +kernel
theorem dX8_passSlot_45 : decode cX8_passSlot 45 = .ok (.dup2, 1) := by decide +kernel
theorem dX8_passSlot_46 : decode cX8_passSlot 46 = .ok (.iaload, 1) := by decide +kernel
theorem dX8_passSlot_47 : decode cX8_passSlot 47 = .ok (.iconst 1, 1) := by decide +kernel
theorem dX8_passSlot_48 : decode cX8_passSlot 48 = .ok (.iadd, 1) := by decide +kernel
theorem dX8_passSlot_49 : decode cX8_passSlot 49 = .ok (.iastore, 1) := by decide +kernel
theorem dX8_passSlot_50 : decode cX8_passSlot 50 = .ok (.aload_n 0, 1) := by decide +kernel
theorem dX8_passSlot_51 : decode cX8_passSlot 51 = .ok (.getfield 15, 3) := by decide +kernel
theorem dX8_passSlot_54 : decode cX8_passSlot 54 = .ok (.aload_n 2, 1) := by decide +kernel
theorem dX8_passSlot_55 : decode cX8_passSlot 55 = .ok (.getfield 63, 3) := by decide +kernel
theorem dX8_passSlot_58 : decode cX8_passSlot 58 = .ok (.invokevirtual 66, 3) := by decide +kernel
theorem dX8_passSlot_61 : decode cX8_passSlot 61 = .ok (.aload_n 0, 1) := by decide +kernel
theorem dX8_passSlot_62 : decode cX8_passSlot 62 = .ok (.invokevirtual 69, 3) := by decide +kernel
theorem dX8_passSlot_65 : decode cX8_passSlot 65 = .ok (.ifCond .eq 4, 3) := by decide +kernel
theorem dX8_passSlot_68 : decode cX8_passSlot 68 = .ok (.return_, 1) := by decide +kernel
theorem dX8_passSlot_69 : decode cX8_passSlot 69 = .ok (.aload_n 0, 1) := by decide +kernel
theorem dX8_passSlot_70 : decode cX8_passSlot 70 = .ok (.getfield 9, 3) := by decide +kernel
theorem dX8_passSlot_73 : decode cX8_passSlot 73 = .ok (.bipush 32, 2) := by decide +kernel
theorem dX8_passSlot_75 : decode cX8_passSlot 75 = .ok (.dup2, 1) := by decide +kernel
theorem dX8_passSlot_76 : decode cX8_passSlot 76 = .ok (.iaload, 1) := by decide +kernel
theorem dX8_passSlot_77 : decode cX8_passSlot 77 = .ok (.iconst 1, 1) := by decide +kernel
theorem dX8_passSlot_78 : decode cX8_passSlot 78 = .ok (.iadd, 1) := by decide +kernel
theorem dX8_passSlot_79 : decode cX8_passSlot 79 = .ok (.iastore, 1) := by decide +kernel
theorem dX8_passSlot_80 : decode cX8_passSlot 80 = .ok (.aload_n 0, 1) := by decide +kernel
theorem dX8_passSlot_81 : decode cX8_passSlot 81 = .ok (.aload_n 2, 1) := by decide +kernel
theorem dX8_passSlot_82 : decode cX8_passSlot 82 = .ok (.invokevirtual 73, 3) := by decide +kernel
theorem dX8_passSlot_85 : decode cX8_passSlot 85 = .ok (.aload_n 2, 1) := by decide +kernel
theorem dX8_passSlot_86 : decode cX8_passSlot 86 = .ok (.dup, 1) := by decide +kernel
theorem dX8_passSlot_87 : decode cX8_passSlot 87 = .ok (.getfield 77, 3) := by decide +kernel
theorem dX8_passSlot_90 : decode cX8_passSlot 90 = .ok (.iconst 1, 1) := by decide +kernel
theorem dX8_passSlot_91 : decode cX8_passSlot 91 = .ok (.iadd, 1) := by decide +kernel
theorem dX8_passSlot_92 : decode cX8_passSlot 92 = .ok (.putfield 77, 3) := by decide +kernel
theorem dX8_passSlot_95 : decode cX8_passSlot 95 = .ok (.aload_n 2, 1) := by decide +kernel
theorem dX8_passSlot_96 : decode cX8_passSlot 96 = .ok (.getfield 77, 3) := by decide +kernel
theorem dX8_passSlot_99 : decode cX8_passSlot 99 = .ok (.aload_n 2, 1) := by decide +kernel
theorem dX8_passSlot_100 : decode cX8_passSlot 100 = .ok (.invokevirtual 80, 3) := by decide +kernel
theorem dX8_passSlot_103 : decode cX8_passSlot 103 = .ok (.if_icmp .lt 9, 3) := by decide +kernel
theorem dX8_passSlot_106 : decode cX8_passSlot 106 = .ok (.aload_n 0, 1) := by decide +kernel
theorem dX8_passSlot_107 : decode cX8_passSlot 107 = .ok (.aload_n 2, 1) := by decide +kernel
theorem dX8_passSlot_108 : decode cX8_passSlot 108 = .ok (.iload_n 1, 1) := by decide +kernel
theorem dX8_passSlot_109 : decode cX8_passSlot 109 = .ok (.invokevirtual 84, 3) := by decide +kernel
theorem dX8_passSlot_112 : decode cX8_passSlot 112 = .ok (.return_, 1) := by decide +kernel
theorem dX8_giveUpLateOnes_0 : decode cX8_giveUpLateOnes 0 = .ok (.iconst 0, 1) := by decide +kernel
theorem dX8_giveUpLateOnes_1 : decode cX8_giveUpLateOnes 1 = .ok (.istore_n 2, 1) := by decide +kernel
theorem dX8_giveUpLateOnes_2 : decode cX8_giveUpLateOnes 2 = .ok (.iload_n 2, 1) := by decide +kernel
theorem dX8_giveUpLateOnes_3 : decode cX8_giveUpLateOnes 3 = .ok (.bipush 6, 2) := by decide +kernel
theorem dX8_giveUpLateOnes_5 : decode cX8_giveUpLateOnes 5 = .ok (.if_icmp .ge 54, 3) := by decide +kernel
theorem dX8_giveUpLateOnes_8 : decode cX8_giveUpLateOnes 8 = .ok (.aload_n 0, 1) := by decide +kernel
theorem dX8_giveUpLateOnes_9 : decode cX8_giveUpLateOnes 9 = .ok (.getfield 28, 3) := by decide +kernel
theorem dX8_giveUpLateOnes_12 : decode cX8_giveUpLateOnes 12 = .ok (.iconst 0, 1) := by decide +kernel
theorem dX8_giveUpLateOnes_13 : decode cX8_giveUpLateOnes 13 = .ok (.invokevirtual 55, 3) := by decide +kernel
theorem dX8_giveUpLateOnes_16 : decode cX8_giveUpLateOnes 16 = .ok (.astore_n 3, 1) := by decide +kernel
theorem dX8_giveUpLateOnes_17 : decode cX8_giveUpLateOnes 17 = .ok (.aload_n 3, 1) := by decide +kernel
theorem dX8_giveUpLateOnes_18 : decode cX8_giveUpLateOnes 18 = .ok (.ifnull 21, 3) := by decide +kernel
theorem dX8_giveUpLateOnes_21 : decode cX8_giveUpLateOnes 21 = .ok (.iconst 4, 1) := by decide +kernel
theorem dX8_giveUpLateOnes_22 : decode cX8_giveUpLateOnes 22 = .ok (.aload_n 3, 1) := by decide +kernel
theorem dX8_giveUpLateOnes_23 : decode cX8_giveUpLateOnes 23 = .ok (.getfield 63, 3) := by decide +kernel
theorem dX8_giveUpLateOnes_26 : decode cX8_giveUpLateOnes 26 = .ok (.imul, 1) := by decide +kernel
theorem dX8_giveUpLateOnes_27 : decode cX8_giveUpLateOnes 27 = .ok (.aload_n 0, 1) := by decide +kernel
theorem dX8_giveUpLateOnes_28 : decode cX8_giveUpLateOnes 28 = .ok (.getfield 9, 3) := by decide +kernel
theorem dX8_giveUpLateOnes_31 : decode cX8_giveUpLateOnes 31 = .ok (.bipush 24, 2) := by decide +kernel
theorem dX8_giveUpLateOnes_33 : decode cX8_giveUpLateOnes 33 = .ok (.iaload, 1) := by decide +kernel
theorem dX8_giveUpLateOnes_34 : decode cX8_giveUpLateOnes 34 = .ok (.iadd, 1) := by decide +kernel
theorem dX8_giveUpLateOnes_35 : decode cX8_giveUpLateOnes 35 = .ok (.iload_n 1, 1) := by decide +kernel
theorem dX8_giveUpLateOnes_36 : decode cX8_giveUpLateOnes 36 = .ok (.if_icmp .le 4, 3) := by decide +kernel
theorem dX8_giveUpLateOnes_39 : decode cX8_giveUpLateOnes 39 = .ok (.return_, 1) := by decide +kernel
theorem dX8_giveUpLateOnes_40 : decode cX8_giveUpLateOnes 40 = .ok (.aload_n 0, 1) := by decide +kernel
theorem dX8_giveUpLateOnes_41 : decode cX8_giveUpLateOnes 41 = .ok (.aload_n 3, 1) := by decide +kernel
theorem dX8_giveUpLateOnes_42 : decode cX8_giveUpLateOnes 42 = .ok (.invokevirtual 88, 3) := by decide +kernel
theorem dX8_giveUpLateOnes_45 : decode cX8_giveUpLateOnes 45 = .ok (.aload_n 0, 1) := by decide +kernel
theorem dX8_giveUpLateOnes_46 : decode cX8_giveUpLateOnes 46 = .ok (.getfield 9, 3) := by decide +kernel
theorem dX8_giveUpLateOnes_49 : decode cX8_giveUpLateOnes 49 = .ok (.bipush 38, 2) := by decide +kernel
theorem dX8_giveUpLateOnes_51 : decode cX8_giveUpLateOnes 51 = .ok (.iconst 1, 1) := by decide +kernel
theorem dX8_giveUpLateOnes_52 : decode cX8_giveUpLateOnes 52 = .ok (.iastore, 1) := by decide +kernel
theorem dX8_giveUpLateOnes_53 : decode cX8_giveUpLateOnes 53 = .ok (.iinc 2 1, 3) := by decide +kernel
theorem dX8_giveUpLateOnes_56 : decode cX8_giveUpLateOnes 56 = .ok (.goto (-54), 3) := by decide +kernel
theorem dX8_giveUpLateOnes_59 : decode cX8_giveUpLateOnes 59 = .ok (.return_, 1) := by decide +kernel
theorem dX8_giveUpFirst_0 : decode cX8_giveUpFirst 0 = .ok (.aload_n 0, 1) := by decide +kernel
theorem dX8_giveUpFirst_1 : decode cX8_giveUpFirst 1 = .ok (.getfield 9, 3) := by decide +kernel
theorem dX8_giveUpFirst_4 : decode cX8_giveUpFirst 4 = .ok (.iconst 4, 1) := by decide +kernel
theorem dX8_giveUpFirst_5 : decode cX8_giveUpFirst 5 = .ok (.dup2, 1) := by decide +kernel
theorem dX8_giveUpFirst_6 : decode cX8_giveUpFirst 6 = .ok (.iaload, 1) := by decide +kernel
theorem dX8_giveUpFirst_7 : decode cX8_giveUpFirst 7 = .ok (.iconst 1, 1) := by decide +kernel
theorem dX8_giveUpFirst_8 : decode cX8_giveUpFirst 8 = .ok (.iadd, 1) := by decide +kernel
theorem dX8_giveUpFirst_9 : decode cX8_giveUpFirst 9 = .ok (.iastore, 1) := by decide +kernel
