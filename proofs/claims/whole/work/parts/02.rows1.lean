theorem dX11_append_36 : decode cX11_append 36 = .ok (.bipush (-4), 2) := by decide +kernel
theorem dX11_append_38 : decode cX11_append 38 = .ok (.ireturn, 1) := by decide +kernel
theorem dX11_clearText_0 : decode cX11_clearText 0 = .ok (.aload_n 0, 1) := by decide +kernel
theorem dX11_clearText_1 : decode cX11_clearText 1 = .ok (.getfield 10, 3) := by decide +kernel
theorem dX11_clearText_4 : decode cX11_clearText 4 = .ok (.getfield 72, 3) := by decide +kernel
theorem dX11_clearText_7 : decode cX11_clearText 7 = .ok (.istore_n 1, 1) := by decide +kernel
theorem dX11_clearText_8 : decode cX11_clearText 8 = .ok (.aload_n 0, 1) := by decide +kernel
theorem dX11_clearText_9 : decode cX11_clearText 9 = .ok (.getfield 10, 3) := by decide +kernel
theorem dX11_clearText_12 : decode cX11_clearText 12 = .ok (.iconst 0, 1) := by decide +kernel
theorem dX11_clearText_13 : decode cX11_clearText 13 = .ok (.putfield 72, 3) := by decide +kernel
theorem dX11_clearText_16 : decode cX11_clearText 16 = .ok (.iload_n 1, 1) := by decide +kernel
theorem dX11_clearText_17 : decode cX11_clearText 17 = .ok (.ireturn, 1) := by decide +kernel
theorem dX11_errorPosition_0 : decode cX11_errorPosition 0 = .ok (.aload_n 0, 1) := by decide +kernel
theorem dX11_errorPosition_1 : decode cX11_errorPosition 1 = .ok (.getfield 10, 3) := by decide +kernel
theorem dX11_errorPosition_4 : decode cX11_errorPosition 4 = .ok (.invokevirtual 76, 3) := by decide +kernel
theorem dX11_errorPosition_7 : decode cX11_errorPosition 7 = .ok (.ireturn, 1) := by decide +kernel
theorem dX11_load_0 : decode cX11_load 0 = .ok (.aload_n 0, 1) := by decide +kernel
theorem dX11_load_1 : decode cX11_load 1 = .ok (.getfield 10, 3) := by decide +kernel
theorem dX11_load_4 : decode cX11_load 4 = .ok (.invokevirtual 76, 3) := by decide +kernel
theorem dX11_load_7 : decode cX11_load 7 = .ok (.bipush (-9), 2) := by decide +kernel
theorem dX11_load_9 : decode cX11_load 9 = .ok (.if_icmp .eq 6, 3) := by decide +kernel
theorem dX11_load_12 : decode cX11_load 12 = .ok (.bipush (-3), 2) := by decide +kernel
theorem dX11_load_14 : decode cX11_load 14 = .ok (.ireturn, 1) := by decide +kernel
theorem dX11_load_15 : decode cX11_load 15 = .ok (.aload_n 0, 1) := by decide +kernel
theorem dX11_load_16 : decode cX11_load 16 = .ok (.getfield 43, 3) := by decide +kernel
theorem dX11_load_19 : decode cX11_load 19 = .ok (.invokevirtual 80, 3) := by decide +kernel
theorem dX11_load_22 : decode cX11_load 22 = .ok (.aload_n 0, 1) := by decide +kernel
theorem dX11_load_23 : decode cX11_load 23 = .ok (.getfield 10, 3) := by decide +kernel
theorem dX11_load_26 : decode cX11_load 26 = .ok (.aload_n 0, 1) := by decide +kernel
theorem dX11_load_27 : decode cX11_load 27 = .ok (.getfield 43, 3) := by decide +kernel
theorem dX11_load_30 : decode cX11_load 30 = .ok (.aload_n 0, 1) := by decide +kernel
theorem dX11_load_31 : decode cX11_load 31 = .ok (.getfield 18, 3) := by decide +kernel
theorem dX11_load_34 : decode cX11_load 34 = .ok (.invokevirtual 83, 3) := by decide +kernel
theorem dX11_load_37 : decode cX11_load 37 = .ok (.aload_n 0, 1) := by decide +kernel
theorem dX11_load_38 : decode cX11_load 38 = .ok (.getfield 50, 3) := by decide +kernel
theorem dX11_load_41 : decode cX11_load 41 = .ok (.invokevirtual 87, 3) := by decide +kernel
theorem dX11_load_44 : decode cX11_load 44 = .ok (.iconst 0, 1) := by decide +kernel
theorem dX11_load_45 : decode cX11_load 45 = .ok (.istore_n 1, 1) := by decide +kernel
theorem dX11_load_46 : decode cX11_load 46 = .ok (.iload_n 1, 1) := by decide +kernel
theorem dX11_load_47 : decode cX11_load 47 = .ok (.iconst 2, 1) := by decide +kernel
theorem dX11_load_48 : decode cX11_load 48 = .ok (.if_icmp .ge 16, 3) := by decide +kernel
theorem dX11_load_51 : decode cX11_load 51 = .ok (.aload_n 0, 1) := by decide +kernel
theorem dX11_load_52 : decode cX11_load 52 = .ok (.getfield 28, 3) := by decide +kernel
theorem dX11_load_55 : decode cX11_load 55 = .ok (.iload_n 1, 1) := by decide +kernel
theorem dX11_load_56 : decode cX11_load 56 = .ok (.iconst 0, 1) := by decide +kernel
theorem dX11_load_57 : decode cX11_load 57 = .ok (.bastore, 1) := by decide +kernel
theorem dX11_load_58 : decode cX11_load 58 = .ok (.iinc 1 1, 3) := by decide +kernel
theorem dX11_load_61 : decode cX11_load 61 = .ok (.goto (-15), 3) := by decide +kernel
theorem dX11_load_64 : decode cX11_load 64 = .ok (.aload_n 0, 1) := by decide +kernel
theorem dX11_load_65 : decode cX11_load 65 = .ok (.getfield 43, 3) := by decide +kernel
theorem dX11_load_68 : decode cX11_load 68 = .ok (.getfield 90, 3) := by decide +kernel
theorem dX11_load_71 : decode cX11_load 71 = .ok (.ireturn, 1) := by decide +kernel
theorem dX11_value_0 : decode cX11_value 0 = .ok (.iload_n 1, 1) := by decide +kernel
theorem dX11_value_1 : decode cX11_value 1 = .ok (.invokestatic 93, 3) := by decide +kernel
theorem dX11_value_4 : decode cX11_value 4 = .ok (.ifCond .eq 18, 3) := by decide +kernel
theorem dX11_value_7 : decode cX11_value 7 = .ok (.aload_n 0, 1) := by decide +kernel
theorem dX11_value_8 : decode cX11_value 8 = .ok (.getfield 43, 3) := by decide +kernel
theorem dX11_value_11 : decode cX11_value 11 = .ok (.getfield 97, 3) := by decide +kernel
theorem dX11_value_14 : decode cX11_value 14 = .ok (.iload_n 1, 1) := by decide +kernel
theorem dX11_value_15 : decode cX11_value 15 = .ok (.iaload, 1) := by decide +kernel
theorem dX11_value_16 : decode cX11_value 16 = .ok (.bipush 100, 2) := by decide +kernel
theorem dX11_value_18 : decode cX11_value 18 = .ok (.iadd, 1) := by decide +kernel
theorem dX11_value_19 : decode cX11_value 19 = .ok (.goto 4, 3) := by decide +kernel
theorem dX11_value_22 : decode cX11_value 22 = .ok (.iconst (-1), 1) := by decide +kernel
theorem dX11_value_23 : decode cX11_value 23 = .ok (.ireturn, 1) := by decide +kernel
theorem dX11_version_0 : decode cX11_version 0 = .ok (.iload_n 1, 1) := by decide +kernel
theorem dX11_version_1 : decode cX11_version 1 = .ok (.invokestatic 93, 3) := by decide +kernel
theorem dX11_version_4 : decode cX11_version 4 = .ok (.ifCond .eq 15, 3) := by decide +kernel
theorem dX11_version_7 : decode cX11_version 7 = .ok (.aload_n 0, 1) := by decide +kernel
theorem dX11_version_8 : decode cX11_version 8 = .ok (.getfield 43, 3) := by decide +kernel
theorem dX11_version_11 : decode cX11_version 11 = .ok (.getfield 101, 3) := by decide +kernel
theorem dX11_version_14 : decode cX11_version 14 = .ok (.iload_n 1, 1) := by decide +kernel
theorem dX11_version_15 : decode cX11_version 15 = .ok (.iaload, 1) := by decide +kernel
theorem dX11_version_16 : decode cX11_version 16 = .ok (.goto 4, 3) := by decide +kernel
theorem dX11_version_19 : decode cX11_version 19 = .ok (.iconst (-1), 1) := by decide +kernel
theorem dX11_version_20 : decode cX11_version 20 = .ok (.ireturn, 1) := by decide +kernel
theorem dX11_threadCount_0 : decode cX11_threadCount 0 = .ok (.aload_n 0, 1) := by decide +kernel
theorem dX11_threadCount_1 : decode cX11_threadCount 1 = .ok (.getfield 43, 3) := by decide +kernel
theorem dX11_threadCount_4 : decode cX11_threadCount 4 = .ok (.getfield 90, 3) := by decide +kernel
theorem dX11_threadCount_7 : decode cX11_threadCount 7 = .ok (.ireturn, 1) := by decide +kernel
theorem dX11_state_0 : decode cX11_state 0 = .ok (.aload_n 0, 1) := by decide +kernel
theorem dX11_state_1 : decode cX11_state 1 = .ok (.getfield 43, 3) := by decide +kernel
theorem dX11_state_4 : decode cX11_state 4 = .ok (.iload_n 1, 1) := by decide +kernel
theorem dX11_state_5 : decode cX11_state 5 = .ok (.invokevirtual 104, 3) := by decide +kernel
theorem dX11_state_8 : decode cX11_state 8 = .ok (.ifCond .eq 18, 3) := by decide +kernel
theorem dX11_state_11 : decode cX11_state 11 = .ok (.aload_n 0, 1) := by decide +kernel
theorem dX11_state_12 : decode cX11_state 12 = .ok (.getfield 43, 3) := by decide +kernel
theorem dX11_state_15 : decode cX11_state 15 = .ok (.getfield 107, 3) := by decide +kernel
theorem dX11_state_18 : decode cX11_state 18 = .ok (.iload_n 1, 1) := by decide +kernel
theorem dX11_state_19 : decode cX11_state 19 = .ok (.aaload, 1) := by decide +kernel
theorem dX11_state_20 : decode cX11_state 20 = .ok (.getfield 111, 3) := by decide +kernel
theorem dX11_state_23 : decode cX11_state 23 = .ok (.goto 4, 3) := by decide +kernel
theorem dX11_state_26 : decode cX11_state 26 = .ok (.iconst (-1), 1) := by decide +kernel
theorem dX11_state_27 : decode cX11_state 27 = .ok (.ireturn, 1) := by decide +kernel
theorem dX11_position_0 : decode cX11_position 0 = .ok (.aload_n 0, 1) := by decide +kernel
theorem dX11_position_1 : decode cX11_position 1 = .ok (.getfield 43, 3) := by decide +kernel
theorem dX11_position_4 : decode cX11_position 4 = .ok (.iload_n 1, 1) := by decide +kernel
theorem dX11_position_5 : decode cX11_position 5 = .ok (.invokevirtual 104, 3) := by decide +kernel
theorem dX11_position_8 : decode cX11_position 8 = .ok (.ifCond .eq 18, 3) := by decide +kernel
theorem dX11_position_11 : decode cX11_position 11 = .ok (.aload_n 0, 1) := by decide +kernel
theorem dX11_position_12 : decode cX11_position 12 = .ok (.getfield 43, 3) := by decide +kernel
theorem dX11_position_15 : decode cX11_position 15 = .ok (.getfield 107, 3) := by decide +kernel
theorem dX11_position_18 : decode cX11_position 18 = .ok (.iload_n 1, 1) := by decide +kernel
theorem dX11_position_19 : decode cX11_position 19 = .ok (.aaload, 1) := by decide +kernel
theorem dX11_position_20 : decode cX11_position 20 = .ok (.getfield 116, 3) := by decide +kernel
theorem dX11_position_23 : decode cX11_position 23 = .ok (.goto 4, 3) := by decide +kernel
theorem dX11_position_26 : decode cX11_position 26 = .ok (.iconst (-1), 1) := by decide +kernel
theorem dX11_position_27 : decode cX11_position 27 = .ok (.ireturn, 1) := by decide +kernel
theorem dX11_accumulator_0 : decode cX11_accumulator 0 = .ok (.aload_n 0, 1) := by decide +kernel
theorem dX11_accumulator_1 : decode cX11_accumulator 1 = .ok (.getfield 43, 3) := by decide +kernel
theorem dX11_accumulator_4 : decode cX11_accumulator 4 = .ok (.iload_n 1, 1) := by decide +kernel
theorem dX11_accumulator_5 : decode cX11_accumulator 5 = .ok (.invokevirtual 104, 3) := by decide +kernel
theorem dX11_accumulator_8 : decode cX11_accumulator 8 = .ok (.ifCond .eq 21, 3) := by decide +kernel
theorem dX11_accumulator_11 : decode cX11_accumulator 11 = .ok (.aload_n 0, 1) := by decide +kernel
theorem dX11_accumulator_12 : decode cX11_accumulator 12 = .ok (.getfield 43, 3) := by decide +kernel
theorem dX11_accumulator_15 : decode cX11_accumulator 15 = .ok (.getfield 107, 3) := by decide +kernel
theorem dX11_accumulator_18 : decode cX11_accumulator 18 = .ok (.iload_n 1, 1) := by decide +kernel
theorem dX11_accumulator_19 : decode cX11_accumulator 19 = .ok (.aaload, 1) := by decide +kernel
theorem dX11_accumulator_20 : decode cX11_accumulator 20 = .ok (.getfield 119, 3) := by decide +kernel
theorem dX11_accumulator_23 : decode cX11_accumulator 23 = .ok (.bipush 100, 2) := by decide +kernel
theorem dX11_accumulator_25 : decode cX11_accumulator 25 = .ok (.iadd, 1) := by decide +kernel
theorem dX11_accumulator_26 : decode cX11_accumulator 26 = .ok (.goto 4, 3) := by decide +kernel
theorem dX11_accumulator_29 : decode cX11_accumulator 29 = .ok (.iconst (-1), 1) := by decide +kernel
theorem dX11_accumulator_30 : decode cX11_accumulator 30 = .ok (.ireturn, 1) := by decide +kernel
theorem dX11_seenValue_0 : decode cX11_seenValue 0 = .ok (.aload_n 0, 1) := by decide +kernel
theorem dX11_seenValue_1 : decode cX11_seenValue 1 = .ok (.getfield 43, 3) := by decide +kernel
theorem dX11_seenValue_4 : decode cX11_seenValue 4 = .ok (.iload_n 1, 1) := by decide +kernel
theorem dX11_seenValue_5 : decode cX11_seenValue 5 = .ok (.invokevirtual 104, 3) := by decide +kernel
theorem dX11_seenValue_8 : decode cX11_seenValue 8 = .ok (.ifCond .eq 10, 3) := by decide +kernel
theorem dX11_seenValue_11 : decode cX11_seenValue 11 = .ok (.iload_n 2, 1) := by decide +kernel
theorem dX11_seenValue_12 : decode cX11_seenValue 12 = .ok (.invokestatic 93, 3) := by decide +kernel
theorem dX11_seenValue_15 : decode cX11_seenValue 15 = .ok (.ifCond .ne 5, 3) := by decide +kernel
theorem dX11_seenValue_18 : decode cX11_seenValue 18 = .ok (.iconst (-1), 1) := by decide +kernel
theorem dX11_seenValue_19 : decode cX11_seenValue 19 = .ok (.ireturn, 1) := by decide +kernel
theorem dX11_seenValue_20 : decode cX11_seenValue 20 = .ok (.aload_n 0, 1) := by decide +kernel
theorem dX11_seenValue_21 : decode cX11_seenValue 21 = .ok (.getfield 43, 3) := by decide +kernel
theorem dX11_seenValue_24 : decode cX11_seenValue 24 = .ok (.aload_n 0, 1) := by decide +kernel
theorem dX11_seenValue_25 : decode cX11_seenValue 25 = .ok (.getfield 43, 3) := by decide +kernel
theorem dX11_seenValue_28 : decode cX11_seenValue 28 = .ok (.getfield 107, 3) := by decide +kernel
theorem dX11_seenValue_31 : decode cX11_seenValue 31 = .ok (.iload_n 1, 1) := by decide +kernel
theorem dX11_seenValue_32 : decode cX11_seenValue 32 = .ok (.aaload, 1) := by decide +kernel
theorem dX11_seenValue_33 : decode cX11_seenValue 33 = .ok (.iload_n 2, 1) := by decide +kernel
theorem dX11_seenValue_34 : decode cX11_seenValue 34 = .ok (.invokevirtual 122, 3) := by decide +kernel
theorem dX11_seenValue_37 : decode cX11_seenValue 37 = .ok (.bipush 100, 2) := by decide +kernel
theorem dX11_seenValue_39 : decode cX11_seenValue 39 = .ok (.iadd, 1) := by decide +kernel
theorem dX11_seenValue_40 : decode cX11_seenValue 40 = .ok (.ireturn, 1) := by decide +kernel
theorem dX11_readSet_0 : decode cX11_readSet 0 = .ok (.aload_n 0, 1) := by decide +kernel
theorem dX11_readSet_1 : decode cX11_readSet 1 = .ok (.getfield 43, 3) := by decide +kernel
theorem dX11_readSet_4 : decode cX11_readSet 4 = .ok (.iload_n 1, 1) := by decide +kernel
theorem dX11_readSet_5 : decode cX11_readSet 5 = .ok (.invokevirtual 104, 3) := by decide +kernel
theorem dX11_readSet_8 : decode cX11_readSet 8 = .ok (.ifCond .eq 21, 3) := by decide +kernel
theorem dX11_readSet_11 : decode cX11_readSet 11 = .ok (.aload_n 0, 1) := by decide +kernel
theorem dX11_readSet_12 : decode cX11_readSet 12 = .ok (.getfield 43, 3) := by decide +kernel
theorem dX11_readSet_15 : decode cX11_readSet 15 = .ok (.getfield 107, 3) := by decide +kernel
theorem dX11_readSet_18 : decode cX11_readSet 18 = .ok (.iload_n 1, 1) := by decide +kernel
theorem dX11_readSet_19 : decode cX11_readSet 19 = .ok (.aaload, 1) := by decide +kernel
theorem dX11_readSet_20 : decode cX11_readSet 20 = .ok (.getfield 126, 3) := by decide +kernel
theorem dX11_readSet_23 : decode cX11_readSet 23 = .ok (.getfield 130, 3) := by decide +kernel
theorem dX11_readSet_26 : decode cX11_readSet 26 = .ok (.goto 4, 3) := by decide +kernel
theorem dX11_readSet_29 : decode cX11_readSet 29 = .ok (.iconst (-1), 1) := by decide +kernel
theorem dX11_readSet_30 : decode cX11_readSet 30 = .ok (.ireturn, 1) := by decide +kernel
theorem dX11_writeSet_0 : decode cX11_writeSet 0 = .ok (.aload_n 0, 1) := by decide +kernel
theorem dX11_writeSet_1 : decode cX11_writeSet 1 = .ok (.getfield 43, 3) := by decide +kernel
theorem dX11_writeSet_4 : decode cX11_writeSet 4 = .ok (.iload_n 1, 1) := by decide +kernel
theorem dX11_writeSet_5 : decode cX11_writeSet 5 = .ok (.invokevirtual 104, 3) := by decide +kernel
theorem dX11_writeSet_8 : decode cX11_writeSet 8 = .ok (.ifCond .eq 21, 3) := by decide +kernel
theorem dX11_writeSet_11 : decode cX11_writeSet 11 = .ok (.aload_n 0, 1) := by decide +kernel
theorem dX11_writeSet_12 : decode cX11_writeSet 12 = .ok (.getfield 43, 3) := by decide +kernel
theorem dX11_writeSet_15 : decode cX11_writeSet 15 = .ok (.getfield 107, 3) := by decide +kernel
theorem dX11_writeSet_18 : decode cX11_writeSet 18 = .ok (.iload_n 1, 1) := by decide +kernel
theorem dX11_writeSet_19 : decode cX11_writeSet 19 = .ok (.aaload, 1) := by decide +kernel
theorem dX11_writeSet_20 : decode cX11_writeSet 20 = .ok (.getfield 135, 3) := by decide +kernel
theorem dX11_writeSet_23 : decode cX11_writeSet 23 = .ok (.getfield 130, 3) := by decide +kernel
theorem dX11_writeSet_26 : decode cX11_writeSet 26 = .ok (.goto 4, 3) := by decide +kernel
theorem dX11_writeSet_29 : decode cX11_writeSet 29 = .ok (.iconst (-1), 1) := by decide +kernel
theorem dX11_writeSet_30 : decode cX11_writeSet 30 = .ok (.ireturn, 1) := by decide +kernel
theorem dX11_openBlocks_0 : decode cX11_openBlocks 0 = .ok (.aload_n 0, 1) := by decide +kernel
theorem dX11_openBlocks_1 : decode cX11_openBlocks 1 = .ok (.getfield 43, 3) := by decide +kernel
theorem dX11_openBlocks_4 : decode cX11_openBlocks 4 = .ok (.iload_n 1, 1) := by decide +kernel
theorem dX11_openBlocks_5 : decode cX11_openBlocks 5 = .ok (.invokevirtual 104, 3) := by decide +kernel
theorem dX11_openBlocks_8 : decode cX11_openBlocks 8 = .ok (.ifCond .eq 18, 3) := by decide +kernel
theorem dX11_openBlocks_11 : decode cX11_openBlocks 11 = .ok (.aload_n 0, 1) := by decide +kernel
theorem dX11_openBlocks_12 : decode cX11_openBlocks 12 = .ok (.getfield 43, 3) := by decide +kernel
theorem dX11_openBlocks_15 : decode cX11_openBlocks 15 = .ok (.getfield 107, 3) := by decide +kernel
theorem dX11_openBlocks_18 : decode cX11_openBlocks 18 = .ok (.iload_n 1, 1) := by decide +kernel
theorem dX11_openBlocks_19 : decode cX11_openBlocks 19 = .ok (.aaload, 1) := by decide +kernel
theorem dX11_openBlocks_20 : decode cX11_openBlocks 20 = .ok (.getfield 138, 3) := by decide +kernel
theorem dX11_openBlocks_23 : decode cX11_openBlocks 23 = .ok (.goto 4, 3) := by decide +kernel
theorem dX11_openBlocks_26 : decode cX11_openBlocks 26 = .ok (.iconst (-1), 1) := by decide +kernel
theorem dX11_openBlocks_27 : decode cX11_openBlocks 27 = .ok (.ireturn, 1) := by decide +kernel
theorem dX11_runsLeft_0 : decode cX11_runsLeft 0 = .ok (.aload_n 0, 1) := by decide +kernel
theorem dX11_runsLeft_1 : decode cX11_runsLeft 1 = .ok (.getfield 43, 3) := by decide +kernel
theorem dX11_runsLeft_4 : decode cX11_runsLeft 4 = .ok (.iload_n 1, 1) := by decide +kernel
theorem dX11_runsLeft_5 : decode cX11_runsLeft 5 = .ok (.invokevirtual 104, 3) := by decide +kernel
theorem dX11_runsLeft_8 : decode cX11_runsLeft 8 = .ok (.ifCond .eq 18, 3) := by decide +kernel
theorem dX11_runsLeft_11 : decode cX11_runsLeft 11 = .ok (.aload_n 0, 1) := by decide +kernel
theorem dX11_runsLeft_12 : decode cX11_runsLeft 12 = .ok (.getfield 43, 3) := by decide +kernel
theorem dX11_runsLeft_15 : decode cX11_runsLeft 15 = .ok (.getfield 107, 3) := by decide +kernel
theorem dX11_runsLeft_18 : decode cX11_runsLeft 18 = .ok (.iload_n 1, 1) := by decide +kernel
theorem dX11_runsLeft_19 : decode cX11_runsLeft 19 = .ok (.aaload, 1) := by decide +kernel
theorem dX11_runsLeft_20 : decode cX11_runsLeft 20 = .ok (.getfield 141, 3) := by decide +kernel
theorem dX11_runsLeft_23 : decode cX11_runsLeft 23 = .ok (.goto 4, 3) := by decide +kernel
theorem dX11_runsLeft_26 : decode cX11_runsLeft 26 = .ok (.iconst (-1), 1) := by decide +kernel
theorem dX11_runsLeft_27 : decode cX11_runsLeft 27 = .ok (.ireturn, 1) := by decide +kernel
theorem dX11_restarts_0 : decode cX11_restarts 0 = .ok (.aload_n 0, 1) := by decide +kernel
theorem dX11_restarts_1 : decode cX11_restarts 1 = .ok (.getfield 43, 3) := by decide +kernel
theorem dX11_restarts_4 : decode cX11_restarts 4 = .ok (.iload_n 1, 1) := by decide +kernel
theorem dX11_restarts_5 : decode cX11_restarts 5 = .ok (.invokevirtual 104, 3) := by decide +kernel
theorem dX11_restarts_8 : decode cX11_restarts 8 = .ok (.ifCond .eq 18, 3) := by decide +kernel
theorem dX11_restarts_11 : decode cX11_restarts 11 = .ok (.aload_n 0, 1) := by decide +kernel
theorem dX11_restarts_12 : decode cX11_restarts 12 = .ok (.getfield 43, 3) := by decide +kernel
theorem dX11_restarts_15 : decode cX11_restarts 15 = .ok (.getfield 107, 3) := by decide +kernel
theorem dX11_restarts_18 : decode cX11_restarts 18 = .ok (.iload_n 1, 1) := by decide +kernel
theorem dX11_restarts_19 : decode cX11_restarts 19 = .ok (.aaload, 1) := by decide +kernel
theorem dX11_restarts_20 : decode cX11_restarts 20 = .ok (.getfield 144, 3) := by decide +kernel
theorem dX11_restarts_23 : decode cX11_restarts 23 = .ok (.goto 4, 3) := by decide +kernel
theorem dX11_restarts_26 : decode cX11_restarts 26 = .ok (.iconst (-1), 1) := by decide +kernel
theorem dX11_restarts_27 : decode cX11_restarts 27 = .ok (.ireturn, 1) := by decide +kernel
theorem dX11_step_0 : decode cX11_step 0 = .ok (.aload_n 0, 1) := by decide +kernel
theorem dX11_step_1 : decode cX11_step 1 = .ok (.getfield 43, 3) := by decide +kernel
theorem dX11_step_4 : decode cX11_step 4 = .ok (.iload_n 1, 1) := by decide +kernel
theorem dX11_step_5 : decode cX11_step 5 = .ok (.invokevirtual 104, 3) := by decide +kernel
theorem dX11_step_8 : decode cX11_step 8 = .ok (.ifCond .ne 5, 3) := by decide +kernel
theorem dX11_step_11 : decode cX11_step 11 = .ok (.iconst (-1), 1) := by decide +kernel
theorem dX11_step_12 : decode cX11_step 12 = .ok (.ireturn, 1) := by decide +kernel
theorem dX11_step_13 : decode cX11_step 13 = .ok (.aload_n 0, 1) := by decide +kernel
theorem dX11_step_14 : decode cX11_step 14 = .ok (.getfield 43, 3) := by decide +kernel
theorem dX11_step_17 : decode cX11_step 17 = .ok (.getfield 107, 3) := by decide +kernel
theorem dX11_step_20 : decode cX11_step 20 = .ok (.iload_n 1, 1) := by decide +kernel
theorem dX11_step_21 : decode cX11_step 21 = .ok (.aaload, 1) := by decide +kernel
theorem dX11_step_22 : decode cX11_step 22 = .ok (.getfield 111, 3) := by decide +kernel
theorem dX11_step_25 : decode cX11_step 25 = .ok (.ifCond .eq 6, 3) := by decide +kernel
theorem dX11_step_28 : decode cX11_step 28 = .ok (.bipush (-3), 2) := by decide +kernel
theorem dX11_step_30 : decode cX11_step 30 = .ok (.ireturn, 1) := by decide +kernel
theorem dX11_step_31 : decode cX11_step 31 = .ok (.aload_n 0, 1) := by decide +kernel
theorem dX11_step_32 : decode cX11_step 32 = .ok (.getfield 50, 3) := by decide +kernel
theorem dX11_step_35 : decode cX11_step 35 = .ok (.aload_n 0, 1) := by decide +kernel
theorem dX11_step_36 : decode cX11_step 36 = .ok (.getfield 43, 3) := by decide +kernel
theorem dX11_step_39 : decode cX11_step 39 = .ok (.invokevirtual 147, 3) := by decide +kernel
theorem dX11_step_42 : decode cX11_step 42 = .ok (.aload_n 0, 1) := by decide +kernel
theorem dX11_step_43 : decode cX11_step 43 = .ok (.getfield 43, 3) := by decide +kernel
theorem dX11_step_46 : decode cX11_step 46 = .ok (.aload_n 0, 1) := by decide +kernel
theorem dX11_step_47 : decode cX11_step 47 = .ok (.getfield 43, 3) := by decide +kernel
theorem dX11_step_50 : decode cX11_step 50 = .ok (.getfield 107, 3) := by decide +kernel
theorem dX11_step_53 : decode cX11_step 53 = .ok (.iload_n 1, 1) := by decide +kernel
theorem dX11_step_54 : decode cX11_step 54 = .ok (.aaload, 1) := by decide +kernel
theorem dX11_step_55 : decode cX11_step 55 = .ok (.invokevirtual 151, 3) := by decide +kernel
theorem dX11_step_58 : decode cX11_step 58 = .ok (.ireturn, 1) := by decide +kernel
theorem dX11_run_0 : decode cX11_run 0 = .ok (.aload_n 0, 1) := by decide +kernel
theorem dX11_run_1 : decode cX11_run 1 = .ok (.getfield 43, 3) := by decide +kernel
theorem dX11_run_4 : decode cX11_run 4 = .ok (.iload_n 1, 1) := by decide +kernel
theorem dX11_run_5 : decode cX11_run 5 = .ok (.invokevirtual 104, 3) := by decide +kernel
theorem dX11_run_8 : decode cX11_run 8 = .ok (.ifCond .ne 5, 3) := by decide +kernel
theorem dX11_run_11 : decode cX11_run 11 = .ok (.iconst (-1), 1) := by decide +kernel
theorem dX11_run_12 : decode cX11_run 12 = .ok (.ireturn, 1) := by decide +kernel
theorem dX11_run_13 : decode cX11_run 13 = .ok (.aload_n 0, 1) := by decide +kernel
theorem dX11_run_14 : decode cX11_run 14 = .ok (.getfield 43, 3) := by decide +kernel
theorem dX11_run_17 : decode cX11_run 17 = .ok (.getfield 107, 3) := by decide +kernel
theorem dX11_run_20 : decode cX11_run 20 = .ok (.iload_n 1, 1) := by decide +kernel
theorem dX11_run_21 : decode cX11_run 21 = .ok (.aaload, 1) := by decide +kernel
theorem dX11_run_22 : decode cX11_run 22 = .ok (.getfield 111, 3) := by decide +kernel
theorem dX11_run_25 : decode cX11_run 25 = .ok (.ifCond .eq 6, 3) := by decide +kernel
theorem dX11_run_28 : decode cX11_run 28 = .ok (.bipush (-3), 2) := by decide +kernel
theorem dX11_run_30 : decode cX11_run 30 = .ok (.ireturn, 1) := by decide +kernel
theorem dX11_run_31 : decode cX11_run 31 = .ok (.aload_n 0, 1) := by decide +kernel
theorem dX11_run_32 : decode cX11_run 32 = .ok (.getfield 50, 3) := by decide +kernel
theorem dX11_run_35 : decode cX11_run 35 = .ok (.aload_n 0, 1) := by decide +kernel
theorem dX11_run_36 : decode cX11_run 36 = .ok (.getfield 43, 3) := by decide +kernel
theorem dX11_run_39 : decode cX11_run 39 = .ok (.invokevirtual 147, 3) := by decide +kernel
theorem dX11_run_42 : decode cX11_run 42 = .ok (.iconst 0, 1) := by decide +kernel
theorem dX11_run_43 : decode cX11_run 43 = .ok (.istore_n 2, 1) := by decide +kernel
theorem dX11_run_44 : decode cX11_run 44 = .ok (.iconst 0, 1) := by decide +kernel
theorem dX11_run_45 : decode cX11_run 45 = .ok (.istore_n 3, 1) := by decide +kernel
theorem dX11_run_46 : decode cX11_run 46 = .ok (.iload_n 2, 1) := by decide +kernel
theorem dX11_run_47 : decode cX11_run 47 = .ok (.bipush 60, 2) := by decide +kernel
theorem dX11_run_49 : decode cX11_run 49 = .ok (.if_icmp .ge 35, 3) := by decide +kernel
theorem dX11_run_52 : decode cX11_run 52 = .ok (.iload_n 3, 1) := by decide +kernel
theorem dX11_run_53 : decode cX11_run 53 = .ok (.ifCond .eq 8, 3) := by decide +kernel
theorem dX11_run_56 : decode cX11_run 56 = .ok (.iload_n 3, 1) := by decide +kernel
theorem dX11_run_57 : decode cX11_run 57 = .ok (.iconst 2, 1) := by decide +kernel
theorem dX11_run_58 : decode cX11_run 58 = .ok (.if_icmp .ne 26, 3) := by decide +kernel
theorem dX11_run_61 : decode cX11_run 61 = .ok (.aload_n 0, 1) := by decide +kernel
theorem dX11_run_62 : decode cX11_run 62 = .ok (.getfield 43, 3) := by decide +kernel
theorem dX11_run_65 : decode cX11_run 65 = .ok (.aload_n 0, 1) := by decide +kernel
theorem dX11_run_66 : decode cX11_run 66 = .ok (.getfield 43, 3) := by decide +kernel
theorem dX11_run_69 : decode cX11_run 69 = .ok (.getfield 107, 3) := by decide +kernel
theorem dX11_run_72 : decode cX11_run 72 = .ok (.iload_n 1, 1) := by decide +kernel
theorem dX11_run_73 : decode cX11_run 73 = .ok (.aaload, 1) := by decide +kernel
theorem dX11_run_74 : decode cX11_run 74 = .ok (.invokevirtual 151, 3) := by decide +kernel
theorem dX11_run_77 : decode cX11_run 77 = .ok (.istore_n 3, 1) := by decide +kernel
theorem dX11_run_78 : decode cX11_run 78 = .ok (.iinc 2 1, 3) := by decide +kernel
theorem dX11_run_81 : decode cX11_run 81 = .ok (.goto (-35), 3) := by decide +kernel
theorem dX11_run_84 : decode cX11_run 84 = .ok (.iload_n 2, 1) := by decide +kernel
theorem dX11_run_85 : decode cX11_run 85 = .ok (.ireturn, 1) := by decide +kernel
theorem dX11_setCell_0 : decode cX11_setCell 0 = .ok (.iload_n 1, 1) := by decide +kernel
theorem dX11_setCell_1 : decode cX11_setCell 1 = .ok (.invokestatic 93, 3) := by decide +kernel
theorem dX11_setCell_4 : decode cX11_setCell 4 = .ok (.ifCond .ne 5, 3) := by decide +kernel
theorem dX11_setCell_7 : decode cX11_setCell 7 = .ok (.iconst (-1), 1) := by decide +kernel
theorem dX11_setCell_8 : decode cX11_setCell 8 = .ok (.ireturn, 1) := by decide +kernel
theorem dX11_setCell_9 : decode cX11_setCell 9 = .ok (.iload_n 2, 1) := by decide +kernel
theorem dX11_setCell_10 : decode cX11_setCell 10 = .ok (.invokestatic 155, 3) := by decide +kernel
theorem dX11_setCell_13 : decode cX11_setCell 13 = .ok (.ifCond .ne 6, 3) := by decide +kernel
theorem dX11_setCell_16 : decode cX11_setCell 16 = .ok (.bipush (-2), 2) := by decide +kernel
theorem dX11_setCell_18 : decode cX11_setCell 18 = .ok (.ireturn, 1) := by decide +kernel
theorem dX11_setCell_19 : decode cX11_setCell 19 = .ok (.aload_n 0, 1) := by decide +kernel
theorem dX11_setCell_20 : decode cX11_setCell 20 = .ok (.getfield 50, 3) := by decide +kernel
theorem dX11_setCell_23 : decode cX11_setCell 23 = .ok (.aload_n 0, 1) := by decide +kernel
theorem dX11_setCell_24 : decode cX11_setCell 24 = .ok (.getfield 43, 3) := by decide +kernel
theorem dX11_setCell_27 : decode cX11_setCell 27 = .ok (.invokevirtual 147, 3) := by decide +kernel
theorem dX11_setCell_30 : decode cX11_setCell 30 = .ok (.aload_n 0, 1) := by decide +kernel
theorem dX11_setCell_31 : decode cX11_setCell 31 = .ok (.getfield 43, 3) := by decide +kernel
theorem dX11_setCell_34 : decode cX11_setCell 34 = .ok (.iload_n 1, 1) := by decide +kernel
theorem dX11_setCell_35 : decode cX11_setCell 35 = .ok (.iload_n 2, 1) := by decide +kernel
theorem dX11_setCell_36 : decode cX11_setCell 36 = .ok (.invokevirtual 158, 3) := by decide +kernel
theorem dX11_setCell_39 : decode cX11_setCell 39 = .ok (.aload_n 0, 1) := by decide +kernel
theorem dX11_setCell_40 : decode cX11_setCell 40 = .ok (.getfield 43, 3) := by decide +kernel
theorem dX11_setCell_43 : decode cX11_setCell 43 = .ok (.getfield 101, 3) := by decide +kernel
theorem dX11_setCell_46 : decode cX11_setCell 46 = .ok (.iload_n 1, 1) := by decide +kernel
theorem dX11_setCell_47 : decode cX11_setCell 47 = .ok (.iaload, 1) := by decide +kernel
theorem dX11_setCell_48 : decode cX11_setCell 48 = .ok (.ireturn, 1) := by decide +kernel
theorem dX11_addInvariant_0 : decode cX11_addInvariant 0 = .ok (.iload_n 1, 1) := by decide +kernel
theorem dX11_addInvariant_1 : decode cX11_addInvariant 1 = .ok (.invokestatic 93, 3) := by decide +kernel
theorem dX11_addInvariant_4 : decode cX11_addInvariant 4 = .ok (.ifCond .eq 10, 3) := by decide +kernel
theorem dX11_addInvariant_7 : decode cX11_addInvariant 7 = .ok (.iload_n 2, 1) := by decide +kernel
theorem dX11_addInvariant_8 : decode cX11_addInvariant 8 = .ok (.invokestatic 93, 3) := by decide +kernel
theorem dX11_addInvariant_11 : decode cX11_addInvariant 11 = .ok (.ifCond .ne 5, 3) := by decide +kernel
theorem dX11_addInvariant_14 : decode cX11_addInvariant 14 = .ok (.iconst (-1), 1) := by decide +kernel
theorem dX11_addInvariant_15 : decode cX11_addInvariant 15 = .ok (.ireturn, 1) := by decide +kernel
theorem dX11_addInvariant_16 : decode cX11_addInvariant 16 = .ok (.iload_n 3, 1) := by decide +kernel
theorem dX11_addInvariant_17 : decode cX11_addInvariant 17 = .ok (.invokestatic 155, 3) := by decide +kernel
theorem dX11_addInvariant_20 : decode cX11_addInvariant 20 = .ok (.ifCond .ne 6, 3) := by decide +kernel
theorem dX11_addInvariant_23 : decode cX11_addInvariant 23 = .ok (.bipush (-2), 2) := by decide +kernel
theorem dX11_addInvariant_25 : decode cX11_addInvariant 25 = .ok (.ireturn, 1) := by decide +kernel
theorem dX11_addInvariant_26 : decode cX11_addInvariant 26 = .ok (.aload_n 0, 1) := by decide +kernel
theorem dX11_addInvariant_27 : decode cX11_addInvariant 27 = .ok (.getfield 43, 3) := by decide +kernel
theorem dX11_addInvariant_30 : decode cX11_addInvariant 30 = .ok (.getfield 162, 3) := by decide +kernel
theorem dX11_addInvariant_33 : decode cX11_addInvariant 33 = .ok (.iconst 4, 1) := by decide +kernel
theorem dX11_addInvariant_34 : decode cX11_addInvariant 34 = .ok (.if_icmp .lt 6, 3) := by decide +kernel
theorem dX11_addInvariant_37 : decode cX11_addInvariant 37 = .ok (.bipush (-4), 2) := by decide +kernel
theorem dX11_addInvariant_39 : decode cX11_addInvariant 39 = .ok (.ireturn, 1) := by decide +kernel
theorem dX11_addInvariant_40 : decode cX11_addInvariant 40 = .ok (.aload_n 0, 1) := by decide +kernel
theorem dX11_addInvariant_41 : decode cX11_addInvariant 41 = .ok (.getfield 50, 3) := by decide +kernel
theorem dX11_addInvariant_44 : decode cX11_addInvariant 44 = .ok (.aload_n 0, 1) := by decide +kernel
theorem dX11_addInvariant_45 : decode cX11_addInvariant 45 = .ok (.getfield 43, 3) := by decide +kernel
theorem dX11_addInvariant_48 : decode cX11_addInvariant 48 = .ok (.invokevirtual 147, 3) := by decide +kernel
theorem dX11_addInvariant_51 : decode cX11_addInvariant 51 = .ok (.aload_n 0, 1) := by decide +kernel
theorem dX11_addInvariant_52 : decode cX11_addInvariant 52 = .ok (.getfield 43, 3) := by decide +kernel
theorem dX11_addInvariant_55 : decode cX11_addInvariant 55 = .ok (.iload_n 1, 1) := by decide +kernel
theorem dX11_addInvariant_56 : decode cX11_addInvariant 56 = .ok (.iload_n 2, 1) := by decide +kernel
theorem dX11_addInvariant_57 : decode cX11_addInvariant 57 = .ok (.iload_n 3, 1) := by decide +kernel
theorem dX11_addInvariant_58 : decode cX11_addInvariant 58 = .ok (.invokevirtual 165, 3) := by decide +kernel
theorem dX11_addInvariant_61 : decode cX11_addInvariant 61 = .ok (.aload_n 0, 1) := by decide +kernel
theorem dX11_addInvariant_62 : decode cX11_addInvariant 62 = .ok (.getfield 43, 3) := by decide +kernel
theorem dX11_addInvariant_65 : decode cX11_addInvariant 65 = .ok (.getfield 162, 3) := by decide +kernel
theorem dX11_addInvariant_68 : decode cX11_addInvariant 68 = .ok (.ireturn, 1) := by decide +kernel
theorem dX11_undo_0 : decode cX11_undo 0 = .ok (.aload_n 0, 1) := by decide +kernel
theorem dX11_undo_1 : decode cX11_undo 1 = .ok (.getfield 50, 3) := by decide +kernel
theorem dX11_undo_4 : decode cX11_undo 4 = .ok (.aload_n 0, 1) := by decide +kernel
theorem dX11_undo_5 : decode cX11_undo 5 = .ok (.getfield 43, 3) := by decide +kernel
theorem dX11_undo_8 : decode cX11_undo 8 = .ok (.invokevirtual 169, 3) := by decide +kernel
theorem dX11_undo_11 : decode cX11_undo 11 = .ok (.ifCond .eq 13, 3) := by decide +kernel
theorem dX11_undo_14 : decode cX11_undo 14 = .ok (.aload_n 0, 1) := by decide +kernel
theorem dX11_undo_15 : decode cX11_undo 15 = .ok (.getfield 50, 3) := by decide +kernel
theorem dX11_undo_18 : decode cX11_undo 18 = .ok (.getfield 173, 3) := by decide +kernel
theorem dX11_undo_21 : decode cX11_undo 21 = .ok (.goto 5, 3) := by decide +kernel
theorem dX11_undo_24 : decode cX11_undo 24 = .ok (.bipush (-3), 2) := by decide +kernel
theorem dX11_undo_26 : decode cX11_undo 26 = .ok (.ireturn, 1) := by decide +kernel
theorem dX11_outcomeCount_0 : decode cX11_outcomeCount 0 = .ok (.aload_n 0, 1) := by decide +kernel
theorem dX11_outcomeCount_1 : decode cX11_outcomeCount 1 = .ok (.getfield 60, 3) := by decide +kernel
theorem dX11_outcomeCount_4 : decode cX11_outcomeCount 4 = .ok (.aload_n 0, 1) := by decide +kernel
theorem dX11_outcomeCount_5 : decode cX11_outcomeCount 5 = .ok (.getfield 43, 3) := by decide +kernel
theorem dX11_outcomeCount_8 : decode cX11_outcomeCount 8 = .ok (.invokevirtual 176, 3) := by decide +kernel
theorem dX11_outcomeCount_11 : decode cX11_outcomeCount 11 = .ok (.aload_n 0, 1) := by decide +kernel
theorem dX11_outcomeCount_12 : decode cX11_outcomeCount 12 = .ok (.getfield 60, 3) := by decide +kernel
theorem dX11_outcomeCount_15 : decode cX11_outcomeCount 15 = .ok (.getfield 179, 3) := by decide +kernel
theorem dX11_outcomeCount_18 : decode cX11_outcomeCount 18 = .ok (.getfield 183, 3) := by decide +kernel
theorem dX11_outcomeCount_21 : decode cX11_outcomeCount 21 = .ok (.ireturn, 1) := by decide +kernel
theorem dX11_possibleOutcomes_0 : decode cX11_possibleOutcomes 0 = .ok (.aload_n 0, 1) := by decide +kernel
theorem dX11_possibleOutcomes_1 : decode cX11_possibleOutcomes 1 = .ok (.getfield 60, 3) := by decide +kernel
theorem dX11_possibleOutcomes_4 : decode cX11_possibleOutcomes 4 = .ok (.aload_n 0, 1) := by decide +kernel
theorem dX11_possibleOutcomes_5 : decode cX11_possibleOutcomes 5 = .ok (.getfield 43, 3) := by decide +kernel
theorem dX11_possibleOutcomes_8 : decode cX11_possibleOutcomes 8 = .ok (.invokevirtual 176, 3) := by decide +kernel
theorem dX11_possibleOutcomes_11 : decode cX11_possibleOutcomes 11 = .ok (.iconst 0, 1) := by decide +kernel
theorem dX11_possibleOutcomes_12 : decode cX11_possibleOutcomes 12 = .ok (.istore_n 1, 1) := by decide +kernel
theorem dX11_possibleOutcomes_13 : decode cX11_possibleOutcomes 13 = .ok (.iconst 0, 1) := by decide +kernel
theorem dX11_possibleOutcomes_14 : decode cX11_possibleOutcomes 14 = .ok (.istore_n 2, 1) := by decide +kernel
theorem dX11_possibleOutcomes_15 : decode cX11_possibleOutcomes 15 = .ok (.iload_n 2, 1) := by decide +kernel
theorem dX11_possibleOutcomes_16 : decode cX11_possibleOutcomes 16 = .ok (.aload_n 0, 1) := by decide +kernel
theorem dX11_possibleOutcomes_17 : decode cX11_possibleOutcomes 17 = .ok (.getfield 60, 3) := by decide +kernel
theorem dX11_possibleOutcomes_20 : decode cX11_possibleOutcomes 20 = .ok (.getfield 179, 3) := by decide +kernel
theorem dX11_possibleOutcomes_23 : decode cX11_possibleOutcomes 23 = .ok (.getfield 183, 3) := by decide +kernel
theorem dX11_possibleOutcomes_26 : decode cX11_possibleOutcomes 26 = .ok (.if_icmp .ge 41, 3) := by decide +kernel
theorem dX11_possibleOutcomes_29 : decode cX11_possibleOutcomes 29 = .ok (.iload_n 2, 1) := by decide +kernel
theorem dX11_possibleOutcomes_30 : decode cX11_possibleOutcomes 30 = .ok (.sipush 1359, 3) := by decide +kernel
theorem dX11_possibleOutcomes_33 : decode cX11_possibleOutcomes 33 = .ok (.if_icmp .ge 34, 3) := by decide +kernel
theorem dX11_possibleOutcomes_36 : decode cX11_possibleOutcomes 36 = .ok (.aload_n 0, 1) := by decide +kernel
theorem dX11_possibleOutcomes_37 : decode cX11_possibleOutcomes 37 = .ok (.getfield 35, 3) := by decide +kernel
theorem dX11_possibleOutcomes_40 : decode cX11_possibleOutcomes 40 = .ok (.aload_n 0, 1) := by decide +kernel
theorem dX11_possibleOutcomes_41 : decode cX11_possibleOutcomes 41 = .ok (.getfield 60, 3) := by decide +kernel
theorem dX11_possibleOutcomes_44 : decode cX11_possibleOutcomes 44 = .ok (.getfield 179, 3) := by decide +kernel
theorem dX11_possibleOutcomes_47 : decode cX11_possibleOutcomes 47 = .ok (.getfield 188, 3) := by decide +kernel
theorem dX11_possibleOutcomes_50 : decode cX11_possibleOutcomes 50 = .ok (.iload_n 2, 1) := by decide +kernel
theorem dX11_possibleOutcomes_51 : decode cX11_possibleOutcomes 51 = .ok (.laload, 1) := by decide +kernel
theorem dX11_possibleOutcomes_52 : decode cX11_possibleOutcomes 52 = .ok (.invokevirtual 192, 3) := by decide +kernel
theorem dX11_possibleOutcomes_55 : decode cX11_possibleOutcomes 55 = .ok (.ifCond .eq 6, 3) := by decide +kernel
theorem dX11_possibleOutcomes_58 : decode cX11_possibleOutcomes 58 = .ok (.iinc 1 1, 3) := by decide +kernel
theorem dX11_possibleOutcomes_61 : decode cX11_possibleOutcomes 61 = .ok (.iinc 2 1, 3) := by decide +kernel
theorem dX11_possibleOutcomes_64 : decode cX11_possibleOutcomes 64 = .ok (.goto (-49), 3) := by decide +kernel
theorem dX11_possibleOutcomes_67 : decode cX11_possibleOutcomes 67 = .ok (.iload_n 1, 1) := by decide +kernel
theorem dX11_possibleOutcomes_68 : decode cX11_possibleOutcomes 68 = .ok (.ireturn, 1) := by decide +kernel
theorem dX11_canDeadlock_0 : decode cX11_canDeadlock 0 = .ok (.aload_n 0, 1) := by decide +kernel
theorem dX11_canDeadlock_1 : decode cX11_canDeadlock 1 = .ok (.getfield 60, 3) := by decide +kernel
theorem dX11_canDeadlock_4 : decode cX11_canDeadlock 4 = .ok (.aload_n 0, 1) := by decide +kernel
theorem dX11_canDeadlock_5 : decode cX11_canDeadlock 5 = .ok (.getfield 43, 3) := by decide +kernel
theorem dX11_canDeadlock_8 : decode cX11_canDeadlock 8 = .ok (.invokevirtual 176, 3) := by decide +kernel
theorem dX11_canDeadlock_11 : decode cX11_canDeadlock 11 = .ok (.iconst 0, 1) := by decide +kernel
theorem dX11_canDeadlock_12 : decode cX11_canDeadlock 12 = .ok (.istore_n 1, 1) := by decide +kernel
theorem dX11_canDeadlock_13 : decode cX11_canDeadlock 13 = .ok (.iload_n 1, 1) := by decide +kernel
theorem dX11_canDeadlock_14 : decode cX11_canDeadlock 14 = .ok (.aload_n 0, 1) := by decide +kernel
theorem dX11_canDeadlock_15 : decode cX11_canDeadlock 15 = .ok (.getfield 60, 3) := by decide +kernel
theorem dX11_canDeadlock_18 : decode cX11_canDeadlock 18 = .ok (.getfield 179, 3) := by decide +kernel
theorem dX11_canDeadlock_21 : decode cX11_canDeadlock 21 = .ok (.getfield 183, 3) := by decide +kernel
theorem dX11_canDeadlock_24 : decode cX11_canDeadlock 24 = .ok (.if_icmp .ge 39, 3) := by decide +kernel
theorem dX11_canDeadlock_27 : decode cX11_canDeadlock 27 = .ok (.iload_n 1, 1) := by decide +kernel
theorem dX11_canDeadlock_28 : decode cX11_canDeadlock 28 = .ok (.sipush 1359, 3) := by decide +kernel
theorem dX11_canDeadlock_31 : decode cX11_canDeadlock 31 = .ok (.if_icmp .ge 32, 3) := by decide +kernel
theorem dX11_canDeadlock_34 : decode cX11_canDeadlock 34 = .ok (.aload_n 0, 1) := by decide +kernel
theorem dX11_canDeadlock_35 : decode cX11_canDeadlock 35 = .ok (.getfield 60, 3) := by decide +kernel
theorem dX11_canDeadlock_38 : decode cX11_canDeadlock 38 = .ok (.getfield 179, 3) := by decide +kernel
theorem dX11_canDeadlock_41 : decode cX11_canDeadlock 41 = .ok (.getfield 188, 3) := by decide +kernel
theorem dX11_canDeadlock_44 : decode cX11_canDeadlock 44 = .ok (.iload_n 1, 1) := by decide +kernel
theorem dX11_canDeadlock_45 : decode cX11_canDeadlock 45 = .ok (.laload, 1) := by decide +kernel
theorem dX11_canDeadlock_46 : decode cX11_canDeadlock 46 = .ok (.ldc2_w 196, 3) := by decide +kernel
theorem dX11_canDeadlock_49 : decode cX11_canDeadlock 49 = .ok (.land, 1) := by decide +kernel
theorem dX11_canDeadlock_50 : decode cX11_canDeadlock 50 = .ok (.lconst 0, 1) := by decide +kernel
theorem dX11_canDeadlock_51 : decode cX11_canDeadlock 51 = .ok (.lcmp, 1) := by decide +kernel
theorem dX11_canDeadlock_52 : decode cX11_canDeadlock 52 = .ok (.ifCond .eq 5, 3) := by decide +kernel
theorem dX11_canDeadlock_55 : decode cX11_canDeadlock 55 = .ok (.iconst 1, 1) := by decide +kernel
theorem dX11_canDeadlock_56 : decode cX11_canDeadlock 56 = .ok (.ireturn, 1) := by decide +kernel
theorem dX11_canDeadlock_57 : decode cX11_canDeadlock 57 = .ok (.iinc 1 1, 3) := by decide +kernel
theorem dX11_canDeadlock_60 : decode cX11_canDeadlock 60 = .ok (.goto (-47), 3) := by decide +kernel
theorem dX11_canDeadlock_63 : decode cX11_canDeadlock 63 = .ok (.iconst 0, 1) := by decide +kernel
theorem dX11_canDeadlock_64 : decode cX11_canDeadlock 64 = .ok (.ireturn, 1) := by decide +kernel
theorem dX11_greatestOutcome_0 : decode cX11_greatestOutcome 0 = .ok (.iload_n 1, 1) := by decide +kernel
theorem dX11_greatestOutcome_1 : decode cX11_greatestOutcome 1 = .ok (.invokestatic 93, 3) := by decide +kernel
theorem dX11_greatestOutcome_4 : decode cX11_greatestOutcome 4 = .ok (.ifCond .ne 5, 3) := by decide +kernel
theorem dX11_greatestOutcome_7 : decode cX11_greatestOutcome 7 = .ok (.iconst (-1), 1) := by decide +kernel
theorem dX11_greatestOutcome_8 : decode cX11_greatestOutcome 8 = .ok (.ireturn, 1) := by decide +kernel
theorem dX11_greatestOutcome_9 : decode cX11_greatestOutcome 9 = .ok (.aload_n 0, 1) := by decide +kernel
theorem dX11_greatestOutcome_10 : decode cX11_greatestOutcome 10 = .ok (.getfield 60, 3) := by decide +kernel
theorem dX11_greatestOutcome_13 : decode cX11_greatestOutcome 13 = .ok (.aload_n 0, 1) := by decide +kernel
theorem dX11_greatestOutcome_14 : decode cX11_greatestOutcome 14 = .ok (.getfield 43, 3) := by decide +kernel
theorem dX11_greatestOutcome_17 : decode cX11_greatestOutcome 17 = .ok (.invokevirtual 176, 3) := by decide +kernel
theorem dX11_greatestOutcome_20 : decode cX11_greatestOutcome 20 = .ok (.bipush (-99), 2) := by decide +kernel
theorem dX11_greatestOutcome_22 : decode cX11_greatestOutcome 22 = .ok (.istore_n 2, 1) := by decide +kernel
theorem dX11_greatestOutcome_23 : decode cX11_greatestOutcome 23 = .ok (.iconst 0, 1) := by decide +kernel
theorem dX11_greatestOutcome_24 : decode cX11_greatestOutcome 24 = .ok (.istore_n 3, 1) := by decide +kernel
theorem dX11_greatestOutcome_25 : decode cX11_greatestOutcome 25 = .ok (.iload_n 3, 1) := by decide +kernel
theorem dX11_greatestOutcome_26 : decode cX11_greatestOutcome 26 = .ok (.aload_n 0, 1) := by decide +kernel
theorem dX11_greatestOutcome_27 : decode cX11_greatestOutcome 27 = .ok (.getfield 60, 3) := by decide +kernel
theorem dX11_greatestOutcome_30 : decode cX11_greatestOutcome 30 = .ok (.getfield 179, 3) := by decide +kernel
theorem dX11_greatestOutcome_33 : decode cX11_greatestOutcome 33 = .ok (.getfield 183, 3) := by decide +kernel
theorem dX11_greatestOutcome_36 : decode cX11_greatestOutcome 36 = .ok (.if_icmp .ge 37, 3) := by decide +kernel
theorem dX11_greatestOutcome_39 : decode cX11_greatestOutcome 39 = .ok (.iload_n 3, 1) := by decide +kernel
theorem dX11_greatestOutcome_40 : decode cX11_greatestOutcome 40 = .ok (.sipush 1359, 3) := by decide +kernel
theorem dX11_greatestOutcome_43 : decode cX11_greatestOutcome 43 = .ok (.if_icmp .ge 30, 3) := by decide +kernel
theorem dX11_greatestOutcome_46 : decode cX11_greatestOutcome 46 = .ok (.iload_n 2, 1) := by decide +kernel
theorem dX11_greatestOutcome_47 : decode cX11_greatestOutcome 47 = .ok (.aload_n 0, 1) := by decide +kernel
theorem dX11_greatestOutcome_48 : decode cX11_greatestOutcome 48 = .ok (.getfield 60, 3) := by decide +kernel
theorem dX11_greatestOutcome_51 : decode cX11_greatestOutcome 51 = .ok (.getfield 179, 3) := by decide +kernel
theorem dX11_greatestOutcome_54 : decode cX11_greatestOutcome 54 = .ok (.getfield 188, 3) := by decide +kernel
theorem dX11_greatestOutcome_57 : decode cX11_greatestOutcome 57 = .ok (.iload_n 3, 1) := by decide +kernel
theorem dX11_greatestOutcome_58 : decode cX11_greatestOutcome 58 = .ok (.laload, 1) := by decide +kernel
theorem dX11_greatestOutcome_59 : decode cX11_greatestOutcome 59 = .ok (.iload_n 1, 1) := by decide +kernel
theorem dX11_greatestOutcome_60 : decode cX11_greatestOutcome 60 = .ok (.invokestatic 198, 3) := by decide +kernel
theorem dX11_greatestOutcome_63 : decode cX11_greatestOutcome 63 = .ok (.invokestatic 202, 3) := by decide +kernel
theorem dX11_greatestOutcome_66 : decode cX11_greatestOutcome 66 = .ok (.istore_n 2, 1) := by decide +kernel
theorem dX11_greatestOutcome_67 : decode cX11_greatestOutcome 67 = .ok (.iinc 3 1, 3) := by decide +kernel
theorem dX11_greatestOutcome_70 : decode cX11_greatestOutcome 70 = .ok (.goto (-45), 3) := by decide +kernel
theorem dX11_greatestOutcome_73 : decode cX11_greatestOutcome 73 = .ok (.iload_n 2, 1) := by decide +kernel
theorem dX11_greatestOutcome_74 : decode cX11_greatestOutcome 74 = .ok (.bipush 100, 2) := by decide +kernel
theorem dX11_greatestOutcome_76 : decode cX11_greatestOutcome 76 = .ok (.iadd, 1) := by decide +kernel
theorem dX11_greatestOutcome_77 : decode cX11_greatestOutcome 77 = .ok (.ireturn, 1) := by decide +kernel
theorem dX11_runScript_0 : decode cX11_runScript 0 = .ok (.iload_n 1, 1) := by decide +kernel
theorem dX11_runScript_1 : decode cX11_runScript 1 = .ok (.iconst 1, 1) := by decide +kernel
theorem dX11_runScript_2 : decode cX11_runScript 2 = .ok (.if_icmp .lt 14, 3) := by decide +kernel
theorem dX11_runScript_5 : decode cX11_runScript 5 = .ok (.iload_n 1, 1) := by decide +kernel
theorem dX11_runScript_6 : decode cX11_runScript 6 = .ok (.iconst 4, 1) := by decide +kernel
theorem dX11_runScript_7 : decode cX11_runScript 7 = .ok (.if_icmp .gt 9, 3) := by decide +kernel
theorem dX11_runScript_10 : decode cX11_runScript 10 = .ok (.lload_n 2, 1) := by decide +kernel
theorem dX11_runScript_11 : decode cX11_runScript 11 = .ok (.lconst 0, 1) := by decide +kernel
theorem dX11_runScript_12 : decode cX11_runScript 12 = .ok (.lcmp, 1) := by decide +kernel
theorem dX11_runScript_13 : decode cX11_runScript 13 = .ok (.ifCond .ge 6, 3) := by decide +kernel
theorem dX11_runScript_16 : decode cX11_runScript 16 = .ok (.bipush (-2), 2) := by decide +kernel
theorem dX11_runScript_18 : decode cX11_runScript 18 = .ok (.ireturn, 1) := by decide +kernel
theorem dX11_runScript_19 : decode cX11_runScript 19 = .ok (.lconst 1, 1) := by decide +kernel
theorem dX11_runScript_20 : decode cX11_runScript 20 = .ok (.lstore 4, 2) := by decide +kernel
theorem dX11_runScript_22 : decode cX11_runScript 22 = .ok (.iconst 1, 1) := by decide +kernel
theorem dX11_runScript_23 : decode cX11_runScript 23 = .ok (.istore 6, 2) := by decide +kernel
theorem dX11_runScript_25 : decode cX11_runScript 25 = .ok (.iload 6, 2) := by decide +kernel
theorem dX11_runScript_27 : decode cX11_runScript 27 = .ok (.iload_n 1, 1) := by decide +kernel
theorem dX11_runScript_28 : decode cX11_runScript 28 = .ok (.if_icmp .ge 17, 3) := by decide +kernel
theorem dX11_runScript_31 : decode cX11_runScript 31 = .ok (.lload 4, 2) := by decide +kernel
theorem dX11_runScript_33 : decode cX11_runScript 33 = .ok (.ldc2_w 208, 3) := by decide +kernel
theorem dX11_runScript_36 : decode cX11_runScript 36 = .ok (.lmul, 1) := by decide +kernel
theorem dX11_runScript_37 : decode cX11_runScript 37 = .ok (.lstore 4, 2) := by decide +kernel
theorem dX11_runScript_39 : decode cX11_runScript 39 = .ok (.iinc 6 1, 3) := by decide +kernel
theorem dX11_runScript_42 : decode cX11_runScript 42 = .ok (.goto (-17), 3) := by decide +kernel
theorem dX11_runScript_45 : decode cX11_runScript 45 = .ok (.lload_n 2, 1) := by decide +kernel
theorem dX11_runScript_46 : decode cX11_runScript 46 = .ok (.ldc2_w 208, 3) := by decide +kernel
theorem dX11_runScript_49 : decode cX11_runScript 49 = .ok (.ldiv, 1) := by decide +kernel
theorem dX11_runScript_50 : decode cX11_runScript 50 = .ok (.lload 4, 2) := by decide +kernel
theorem dX11_runScript_52 : decode cX11_runScript 52 = .ok (.lcmp, 1) := by decide +kernel
theorem dX11_runScript_53 : decode cX11_runScript 53 = .ok (.ifCond .lt 6, 3) := by decide +kernel
theorem dX11_runScript_56 : decode cX11_runScript 56 = .ok (.bipush (-2), 2) := by decide +kernel
theorem dX11_runScript_58 : decode cX11_runScript 58 = .ok (.ireturn, 1) := by decide +kernel
theorem dX11_runScript_59 : decode cX11_runScript 59 = .ok (.aload_n 0, 1) := by decide +kernel
theorem dX11_runScript_60 : decode cX11_runScript 60 = .ok (.getfield 54, 3) := by decide +kernel
theorem dX11_runScript_63 : decode cX11_runScript 63 = .ok (.aload_n 0, 1) := by decide +kernel
theorem dX11_runScript_64 : decode cX11_runScript 64 = .ok (.getfield 43, 3) := by decide +kernel
theorem dX11_runScript_67 : decode cX11_runScript 67 = .ok (.invokevirtual 210, 3) := by decide +kernel
theorem dX11_runScript_70 : decode cX11_runScript 70 = .ok (.iconst 0, 1) := by decide +kernel
theorem dX11_runScript_71 : decode cX11_runScript 71 = .ok (.istore 6, 2) := by decide +kernel
theorem dX11_runScript_73 : decode cX11_runScript 73 = .ok (.iload 6, 2) := by decide +kernel
theorem dX11_runScript_75 : decode cX11_runScript 75 = .ok (.iload_n 1, 1) := by decide +kernel
theorem dX11_runScript_76 : decode cX11_runScript 76 = .ok (.if_icmp .ge 63, 3) := by decide +kernel
theorem dX11_runScript_79 : decode cX11_runScript 79 = .ok (.lload 4, 2) := by decide +kernel
theorem dX11_runScript_81 : decode cX11_runScript 81 = .ok (.lconst 0, 1) := by decide +kernel
theorem dX11_runScript_82 : decode cX11_runScript 82 = .ok (.lcmp, 1) := by decide +kernel
theorem dX11_runScript_83 : decode cX11_runScript 83 = .ok (.ifCond .le 56, 3) := by decide +kernel
theorem dX11_runScript_86 : decode cX11_runScript 86 = .ok (.lload_n 2, 1) := by decide +kernel
theorem dX11_runScript_87 : decode cX11_runScript 87 = .ok (.lload 4, 2) := by decide +kernel
theorem dX11_runScript_89 : decode cX11_runScript 89 = .ok (.ldiv, 1) := by decide +kernel
theorem dX11_runScript_90 : decode cX11_runScript 90 = .ok (.ldc2_w 208, 3) := by decide +kernel
theorem dX11_runScript_93 : decode cX11_runScript 93 = .ok (.lrem, 1) := by decide +kernel
theorem dX11_runScript_94 : decode cX11_runScript 94 = .ok (.l2i, 1) := by decide +kernel
theorem dX11_runScript_95 : decode cX11_runScript 95 = .ok (.istore 7, 2) := by decide +kernel
theorem dX11_runScript_97 : decode cX11_runScript 97 = .ok (.aload_n 0, 1) := by decide +kernel
theorem dX11_runScript_98 : decode cX11_runScript 98 = .ok (.iload 7, 2) := by decide +kernel
theorem dX11_runScript_100 : decode cX11_runScript 100 = .ok (.bipush 100, 2) := by decide +kernel
theorem dX11_runScript_102 : decode cX11_runScript 102 = .ok (.idiv, 1) := by decide +kernel
theorem dX11_runScript_103 : decode cX11_runScript 103 = .ok (.iload 7, 2) := by decide +kernel
theorem dX11_runScript_105 : decode cX11_runScript 105 = .ok (.bipush 10, 2) := by decide +kernel
theorem dX11_runScript_107 : decode cX11_runScript 107 = .ok (.idiv, 1) := by decide +kernel
theorem dX11_runScript_108 : decode cX11_runScript 108 = .ok (.bipush 10, 2) := by decide +kernel
theorem dX11_runScript_110 : decode cX11_runScript 110 = .ok (.irem, 1) := by decide +kernel
theorem dX11_runScript_111 : decode cX11_runScript 111 = .ok (.iload 7, 2) := by decide +kernel
theorem dX11_runScript_113 : decode cX11_runScript 113 = .ok (.bipush 10, 2) := by decide +kernel
theorem dX11_runScript_115 : decode cX11_runScript 115 = .ok (.irem, 1) := by decide +kernel
theorem dX11_runScript_116 : decode cX11_runScript 116 = .ok (.invokevirtual 213, 3) := by decide +kernel
theorem dX11_runScript_119 : decode cX11_runScript 119 = .ok (.ifCond .ne 6, 3) := by decide +kernel
theorem dX11_runScript_122 : decode cX11_runScript 122 = .ok (.iload 6, 2) := by decide +kernel
theorem dX11_runScript_124 : decode cX11_runScript 124 = .ok (.ireturn, 1) := by decide +kernel
theorem dX11_runScript_125 : decode cX11_runScript 125 = .ok (.lload 4, 2) := by decide +kernel
theorem dX11_runScript_127 : decode cX11_runScript 127 = .ok (.ldc2_w 208, 3) := by decide +kernel
theorem dX11_runScript_130 : decode cX11_runScript 130 = .ok (.ldiv, 1) := by decide +kernel
theorem dX11_runScript_131 : decode cX11_runScript 131 = .ok (.lstore 4, 2) := by decide +kernel
theorem dX11_runScript_133 : decode cX11_runScript 133 = .ok (.iinc 6 1, 3) := by decide +kernel
theorem dX11_runScript_136 : decode cX11_runScript 136 = .ok (.goto (-63), 3) := by decide +kernel
theorem dX11_runScript_139 : decode cX11_runScript 139 = .ok (.bipush (-9), 2) := by decide +kernel
theorem dX11_runScript_141 : decode cX11_runScript 141 = .ok (.ireturn, 1) := by decide +kernel
theorem dX11_observe_0 : decode cX11_observe 0 = .ok (.iload_n 1, 1) := by decide +kernel
theorem dX11_observe_1 : decode cX11_observe 1 = .ok (.invokestatic 93, 3) := by decide +kernel
theorem dX11_observe_4 : decode cX11_observe 4 = .ok (.ifCond .ne 5, 3) := by decide +kernel
theorem dX11_observe_7 : decode cX11_observe 7 = .ok (.iconst (-1), 1) := by decide +kernel
theorem dX11_observe_8 : decode cX11_observe 8 = .ok (.ireturn, 1) := by decide +kernel
theorem dX11_observe_9 : decode cX11_observe 9 = .ok (.iload_n 2, 1) := by decide +kernel
theorem dX11_observe_10 : decode cX11_observe 10 = .ok (.invokestatic 155, 3) := by decide +kernel
theorem dX11_observe_13 : decode cX11_observe 13 = .ok (.ifCond .ne 6, 3) := by decide +kernel
theorem dX11_observe_16 : decode cX11_observe 16 = .ok (.bipush (-2), 2) := by decide +kernel
theorem dX11_observe_18 : decode cX11_observe 18 = .ok (.ireturn, 1) := by decide +kernel
theorem dX11_observe_19 : decode cX11_observe 19 = .ok (.aload_n 0, 1) := by decide +kernel
theorem dX11_observe_20 : decode cX11_observe 20 = .ok (.getfield 35, 3) := by decide +kernel
theorem dX11_observe_23 : decode cX11_observe 23 = .ok (.iload_n 1, 1) := by decide +kernel
theorem dX11_observe_24 : decode cX11_observe 24 = .ok (.iload_n 2, 1) := by decide +kernel
theorem dX11_observe_25 : decode cX11_observe 25 = .ok (.invokevirtual 217, 3) := by decide +kernel
theorem dX11_observe_28 : decode cX11_observe 28 = .ok (.aload_n 0, 1) := by decide +kernel
theorem dX11_observe_29 : decode cX11_observe 29 = .ok (.getfield 35, 3) := by decide +kernel
theorem dX11_observe_32 : decode cX11_observe 32 = .ok (.getfield 219, 3) := by decide +kernel
theorem dX11_observe_35 : decode cX11_observe 35 = .ok (.ireturn, 1) := by decide +kernel
theorem dX11_save_0 : decode cX11_save 0 = .ok (.iload_n 1, 1) := by decide +kernel
theorem dX11_save_1 : decode cX11_save 1 = .ok (.ifCond .lt 8, 3) := by decide +kernel
theorem dX11_save_4 : decode cX11_save 4 = .ok (.iload_n 1, 1) := by decide +kernel
theorem dX11_save_5 : decode cX11_save 5 = .ok (.iconst 2, 1) := by decide +kernel
theorem dX11_save_6 : decode cX11_save 6 = .ok (.if_icmp .lt 5, 3) := by decide +kernel
theorem dX11_save_9 : decode cX11_save 9 = .ok (.iconst (-1), 1) := by decide +kernel
theorem dX11_save_10 : decode cX11_save 10 = .ok (.ireturn, 1) := by decide +kernel
theorem dX11_save_11 : decode cX11_save 11 = .ok (.aload_n 0, 1) := by decide +kernel
theorem dX11_save_12 : decode cX11_save 12 = .ok (.getfield 24, 3) := by decide +kernel
theorem dX11_save_15 : decode cX11_save 15 = .ok (.iload_n 1, 1) := by decide +kernel
theorem dX11_save_16 : decode cX11_save 16 = .ok (.aaload, 1) := by decide +kernel
theorem dX11_save_17 : decode cX11_save 17 = .ok (.aload_n 0, 1) := by decide +kernel
theorem dX11_save_18 : decode cX11_save 18 = .ok (.getfield 43, 3) := by decide +kernel
theorem dX11_save_21 : decode cX11_save 21 = .ok (.invokevirtual 210, 3) := by decide +kernel
theorem dX11_save_24 : decode cX11_save 24 = .ok (.aload_n 0, 1) := by decide +kernel
theorem dX11_save_25 : decode cX11_save 25 = .ok (.getfield 28, 3) := by decide +kernel
theorem dX11_save_28 : decode cX11_save 28 = .ok (.iload_n 1, 1) := by decide +kernel
theorem dX11_save_29 : decode cX11_save 29 = .ok (.iconst 1, 1) := by decide +kernel
theorem dX11_save_30 : decode cX11_save 30 = .ok (.bastore, 1) := by decide +kernel
theorem dX11_save_31 : decode cX11_save 31 = .ok (.aload_n 0, 1) := by decide +kernel
theorem dX11_save_32 : decode cX11_save 32 = .ok (.getfield 43, 3) := by decide +kernel
theorem dX11_save_35 : decode cX11_save 35 = .ok (.invokevirtual 220, 3) := by decide +kernel
theorem dX11_save_38 : decode cX11_save 38 = .ok (.ireturn, 1) := by decide +kernel
theorem dX11_restore_0 : decode cX11_restore 0 = .ok (.iload_n 1, 1) := by decide +kernel
theorem dX11_restore_1 : decode cX11_restore 1 = .ok (.ifCond .lt 8, 3) := by decide +kernel
theorem dX11_restore_4 : decode cX11_restore 4 = .ok (.iload_n 1, 1) := by decide +kernel
theorem dX11_restore_5 : decode cX11_restore 5 = .ok (.iconst 2, 1) := by decide +kernel
theorem dX11_restore_6 : decode cX11_restore 6 = .ok (.if_icmp .lt 5, 3) := by decide +kernel
theorem dX11_restore_9 : decode cX11_restore 9 = .ok (.iconst (-1), 1) := by decide +kernel
theorem dX11_restore_10 : decode cX11_restore 10 = .ok (.ireturn, 1) := by decide +kernel
theorem dX11_restore_11 : decode cX11_restore 11 = .ok (.aload_n 0, 1) := by decide +kernel
theorem dX11_restore_12 : decode cX11_restore 12 = .ok (.getfield 28, 3) := by decide +kernel
theorem dX11_restore_15 : decode cX11_restore 15 = .ok (.iload_n 1, 1) := by decide +kernel
theorem dX11_restore_16 : decode cX11_restore 16 = .ok (.baload, 1) := by decide +kernel
theorem dX11_restore_17 : decode cX11_restore 17 = .ok (.ifCond .ne 6, 3) := by decide +kernel
theorem dX11_restore_20 : decode cX11_restore 20 = .ok (.bipush (-3), 2) := by decide +kernel
theorem dX11_restore_22 : decode cX11_restore 22 = .ok (.ireturn, 1) := by decide +kernel
theorem dX11_restore_23 : decode cX11_restore 23 = .ok (.aload_n 0, 1) := by decide +kernel
theorem dX11_restore_24 : decode cX11_restore 24 = .ok (.getfield 43, 3) := by decide +kernel
theorem dX11_restore_27 : decode cX11_restore 27 = .ok (.aload_n 0, 1) := by decide +kernel
theorem dX11_restore_28 : decode cX11_restore 28 = .ok (.getfield 24, 3) := by decide +kernel
theorem dX11_restore_31 : decode cX11_restore 31 = .ok (.iload_n 1, 1) := by decide +kernel
theorem dX11_restore_32 : decode cX11_restore 32 = .ok (.aaload, 1) := by decide +kernel
theorem dX11_restore_33 : decode cX11_restore 33 = .ok (.invokevirtual 210, 3) := by decide +kernel
theorem dX11_restore_36 : decode cX11_restore 36 = .ok (.aload_n 0, 1) := by decide +kernel
theorem dX11_restore_37 : decode cX11_restore 37 = .ok (.getfield 50, 3) := by decide +kernel
theorem dX11_restore_40 : decode cX11_restore 40 = .ok (.invokevirtual 87, 3) := by decide +kernel
theorem dX11_restore_43 : decode cX11_restore 43 = .ok (.aload_n 0, 1) := by decide +kernel
theorem dX11_restore_44 : decode cX11_restore 44 = .ok (.getfield 43, 3) := by decide +kernel
theorem dX11_restore_47 : decode cX11_restore 47 = .ok (.invokevirtual 220, 3) := by decide +kernel
theorem dX11_restore_50 : decode cX11_restore 50 = .ok (.ireturn, 1) := by decide +kernel
theorem dX11_commandSucceeds_0 : decode cX11_commandSucceeds 0 = .ok (.iload_n 1, 1) := by decide +kernel
theorem dX11_commandSucceeds_1 : decode cX11_commandSucceeds 1 = .ok (.tableswitch 191 1 5 #[35, 73, 106, 132, 158], 35) := by decide +kernel
theorem dX11_commandSucceeds_36 : decode cX11_commandSucceeds 36 = .ok (.aload_n 0, 1) := by decide +kernel
theorem dX11_commandSucceeds_37 : decode cX11_commandSucceeds 37 = .ok (.getfield 54, 3) := by decide +kernel
theorem dX11_commandSucceeds_40 : decode cX11_commandSucceeds 40 = .ok (.iload_n 2, 1) := by decide +kernel
theorem dX11_commandSucceeds_41 : decode cX11_commandSucceeds 41 = .ok (.invokevirtual 104, 3) := by decide +kernel
theorem dX11_commandSucceeds_44 : decode cX11_commandSucceeds 44 = .ok (.ifCond .eq 28, 3) := by decide +kernel
theorem dX11_commandSucceeds_47 : decode cX11_commandSucceeds 47 = .ok (.iload_n 3, 1) := by decide +kernel
theorem dX11_commandSucceeds_48 : decode cX11_commandSucceeds 48 = .ok (.ifCond .le 24, 3) := by decide +kernel
theorem dX11_commandSucceeds_51 : decode cX11_commandSucceeds 51 = .ok (.aload_n 0, 1) := by decide +kernel
theorem dX11_commandSucceeds_52 : decode cX11_commandSucceeds 52 = .ok (.aload_n 0, 1) := by decide +kernel
theorem dX11_commandSucceeds_53 : decode cX11_commandSucceeds 53 = .ok (.getfield 54, 3) := by decide +kernel
theorem dX11_commandSucceeds_56 : decode cX11_commandSucceeds 56 = .ok (.getfield 107, 3) := by decide +kernel
theorem dX11_commandSucceeds_59 : decode cX11_commandSucceeds 59 = .ok (.iload_n 2, 1) := by decide +kernel
theorem dX11_commandSucceeds_60 : decode cX11_commandSucceeds 60 = .ok (.aaload, 1) := by decide +kernel
theorem dX11_commandSucceeds_61 : decode cX11_commandSucceeds 61 = .ok (.iload_n 3, 1) := by decide +kernel
theorem dX11_commandSucceeds_62 : decode cX11_commandSucceeds 62 = .ok (.invokevirtual 223, 3) := by decide +kernel
theorem dX11_commandSucceeds_65 : decode cX11_commandSucceeds 65 = .ok (.ifCond .eq 7, 3) := by decide +kernel
theorem dX11_commandSucceeds_68 : decode cX11_commandSucceeds 68 = .ok (.iconst 1, 1) := by decide +kernel
theorem dX11_commandSucceeds_69 : decode cX11_commandSucceeds 69 = .ok (.goto 4, 3) := by decide +kernel
theorem dX11_commandSucceeds_72 : decode cX11_commandSucceeds 72 = .ok (.iconst 0, 1) := by decide +kernel
theorem dX11_commandSucceeds_73 : decode cX11_commandSucceeds 73 = .ok (.ireturn, 1) := by decide +kernel
theorem dX11_commandSucceeds_74 : decode cX11_commandSucceeds 74 = .ok (.aload_n 0, 1) := by decide +kernel
theorem dX11_commandSucceeds_75 : decode cX11_commandSucceeds 75 = .ok (.getfield 54, 3) := by decide +kernel
theorem dX11_commandSucceeds_78 : decode cX11_commandSucceeds 78 = .ok (.iload_n 2, 1) := by decide +kernel
theorem dX11_commandSucceeds_79 : decode cX11_commandSucceeds 79 = .ok (.invokevirtual 104, 3) := by decide +kernel
theorem dX11_commandSucceeds_82 : decode cX11_commandSucceeds 82 = .ok (.ifCond .eq 23, 3) := by decide +kernel
theorem dX11_commandSucceeds_85 : decode cX11_commandSucceeds 85 = .ok (.aload_n 0, 1) := by decide +kernel
theorem dX11_commandSucceeds_86 : decode cX11_commandSucceeds 86 = .ok (.getfield 54, 3) := by decide +kernel
theorem dX11_commandSucceeds_89 : decode cX11_commandSucceeds 89 = .ok (.getfield 107, 3) := by decide +kernel
theorem dX11_commandSucceeds_92 : decode cX11_commandSucceeds 92 = .ok (.iload_n 2, 1) := by decide +kernel
theorem dX11_commandSucceeds_93 : decode cX11_commandSucceeds 93 = .ok (.aaload, 1) := by decide +kernel
theorem dX11_commandSucceeds_94 : decode cX11_commandSucceeds 94 = .ok (.getfield 111, 3) := by decide +kernel
theorem dX11_commandSucceeds_97 : decode cX11_commandSucceeds 97 = .ok (.iload_n 3, 1) := by decide +kernel
theorem dX11_commandSucceeds_98 : decode cX11_commandSucceeds 98 = .ok (.if_icmp .ne 7, 3) := by decide +kernel
theorem dX11_commandSucceeds_101 : decode cX11_commandSucceeds 101 = .ok (.iconst 1, 1) := by decide +kernel
theorem dX11_commandSucceeds_102 : decode cX11_commandSucceeds 102 = .ok (.goto 4, 3) := by decide +kernel
theorem dX11_commandSucceeds_105 : decode cX11_commandSucceeds 105 = .ok (.iconst 0, 1) := by decide +kernel
theorem dX11_commandSucceeds_106 : decode cX11_commandSucceeds 106 = .ok (.ireturn, 1) := by decide +kernel
theorem dX11_commandSucceeds_107 : decode cX11_commandSucceeds 107 = .ok (.iload_n 2, 1) := by decide +kernel
theorem dX11_commandSucceeds_108 : decode cX11_commandSucceeds 108 = .ok (.invokestatic 93, 3) := by decide +kernel
theorem dX11_commandSucceeds_111 : decode cX11_commandSucceeds 111 = .ok (.ifCond .eq 20, 3) := by decide +kernel
theorem dX11_commandSucceeds_114 : decode cX11_commandSucceeds 114 = .ok (.aload_n 0, 1) := by decide +kernel
theorem dX11_commandSucceeds_115 : decode cX11_commandSucceeds 115 = .ok (.getfield 54, 3) := by decide +kernel
theorem dX11_commandSucceeds_118 : decode cX11_commandSucceeds 118 = .ok (.getfield 97, 3) := by decide +kernel
theorem dX11_commandSucceeds_121 : decode cX11_commandSucceeds 121 = .ok (.iload_n 2, 1) := by decide +kernel
theorem dX11_commandSucceeds_122 : decode cX11_commandSucceeds 122 = .ok (.iaload, 1) := by decide +kernel
theorem dX11_commandSucceeds_123 : decode cX11_commandSucceeds 123 = .ok (.iload_n 3, 1) := by decide +kernel
theorem dX11_commandSucceeds_124 : decode cX11_commandSucceeds 124 = .ok (.if_icmp .ne 7, 3) := by decide +kernel
theorem dX11_commandSucceeds_127 : decode cX11_commandSucceeds 127 = .ok (.iconst 1, 1) := by decide +kernel
theorem dX11_commandSucceeds_128 : decode cX11_commandSucceeds 128 = .ok (.goto 4, 3) := by decide +kernel
theorem dX11_commandSucceeds_131 : decode cX11_commandSucceeds 131 = .ok (.iconst 0, 1) := by decide +kernel
theorem dX11_commandSucceeds_132 : decode cX11_commandSucceeds 132 = .ok (.ireturn, 1) := by decide +kernel
theorem dX11_commandSucceeds_133 : decode cX11_commandSucceeds 133 = .ok (.iload_n 2, 1) := by decide +kernel
theorem dX11_commandSucceeds_134 : decode cX11_commandSucceeds 134 = .ok (.invokestatic 93, 3) := by decide +kernel
theorem dX11_commandSucceeds_137 : decode cX11_commandSucceeds 137 = .ok (.ifCond .eq 20, 3) := by decide +kernel
theorem dX11_commandSucceeds_140 : decode cX11_commandSucceeds 140 = .ok (.aload_n 0, 1) := by decide +kernel
theorem dX11_commandSucceeds_141 : decode cX11_commandSucceeds 141 = .ok (.getfield 54, 3) := by decide +kernel
theorem dX11_commandSucceeds_144 : decode cX11_commandSucceeds 144 = .ok (.getfield 101, 3) := by decide +kernel
theorem dX11_commandSucceeds_147 : decode cX11_commandSucceeds 147 = .ok (.iload_n 2, 1) := by decide +kernel
theorem dX11_commandSucceeds_148 : decode cX11_commandSucceeds 148 = .ok (.iaload, 1) := by decide +kernel
theorem dX11_commandSucceeds_149 : decode cX11_commandSucceeds 149 = .ok (.iload_n 3, 1) := by decide +kernel
theorem dX11_commandSucceeds_150 : decode cX11_commandSucceeds 150 = .ok (.if_icmp .ne 7, 3) := by decide +kernel
theorem dX11_commandSucceeds_153 : decode cX11_commandSucceeds 153 = .ok (.iconst 1, 1) := by decide +kernel
theorem dX11_commandSucceeds_154 : decode cX11_commandSucceeds 154 = .ok (.goto 4, 3) := by decide +kernel
theorem dX11_commandSucceeds_157 : decode cX11_commandSucceeds 157 = .ok (.iconst 0, 1) := by decide +kernel
theorem dX11_commandSucceeds_158 : decode cX11_commandSucceeds 158 = .ok (.ireturn, 1) := by decide +kernel
theorem dX11_commandSucceeds_159 : decode cX11_commandSucceeds 159 = .ok (.aload_n 0, 1) := by decide +kernel
theorem dX11_commandSucceeds_160 : decode cX11_commandSucceeds 160 = .ok (.getfield 54, 3) := by decide +kernel
theorem dX11_commandSucceeds_163 : decode cX11_commandSucceeds 163 = .ok (.iload_n 2, 1) := by decide +kernel
theorem dX11_commandSucceeds_164 : decode cX11_commandSucceeds 164 = .ok (.invokevirtual 104, 3) := by decide +kernel
theorem dX11_commandSucceeds_167 : decode cX11_commandSucceeds 167 = .ok (.ifCond .eq 23, 3) := by decide +kernel
theorem dX11_commandSucceeds_170 : decode cX11_commandSucceeds 170 = .ok (.aload_n 0, 1) := by decide +kernel
theorem dX11_commandSucceeds_171 : decode cX11_commandSucceeds 171 = .ok (.getfield 54, 3) := by decide +kernel
theorem dX11_commandSucceeds_174 : decode cX11_commandSucceeds 174 = .ok (.getfield 107, 3) := by decide +kernel
theorem dX11_commandSucceeds_177 : decode cX11_commandSucceeds 177 = .ok (.iload_n 2, 1) := by decide +kernel
theorem dX11_commandSucceeds_178 : decode cX11_commandSucceeds 178 = .ok (.aaload, 1) := by decide +kernel
theorem dX11_commandSucceeds_179 : decode cX11_commandSucceeds 179 = .ok (.getfield 144, 3) := by decide +kernel
theorem dX11_commandSucceeds_182 : decode cX11_commandSucceeds 182 = .ok (.iload_n 3, 1) := by decide +kernel
theorem dX11_commandSucceeds_183 : decode cX11_commandSucceeds 183 = .ok (.if_icmp .ne 7, 3) := by decide +kernel
theorem dX11_commandSucceeds_186 : decode cX11_commandSucceeds 186 = .ok (.iconst 1, 1) := by decide +kernel
theorem dX11_commandSucceeds_187 : decode cX11_commandSucceeds 187 = .ok (.goto 4, 3) := by decide +kernel
theorem dX11_commandSucceeds_190 : decode cX11_commandSucceeds 190 = .ok (.iconst 0, 1) := by decide +kernel
theorem dX11_commandSucceeds_191 : decode cX11_commandSucceeds 191 = .ok (.ireturn, 1) := by decide +kernel
theorem dX11_commandSucceeds_192 : decode cX11_commandSucceeds 192 = .ok (.iconst 0, 1) := by decide +kernel
theorem dX11_commandSucceeds_193 : decode cX11_commandSucceeds 193 = .ok (.ireturn, 1) := by decide +kernel
theorem dX11_stepsThrough_0 : decode cX11_stepsThrough 0 = .ok (.iconst 0, 1) := by decide +kernel
theorem dX11_stepsThrough_1 : decode cX11_stepsThrough 1 = .ok (.istore_n 3, 1) := by decide +kernel
theorem dX11_stepsThrough_2 : decode cX11_stepsThrough 2 = .ok (.iload_n 3, 1) := by decide +kernel
theorem dX11_stepsThrough_3 : decode cX11_stepsThrough 3 = .ok (.iload_n 2, 1) := by decide +kernel
theorem dX11_stepsThrough_4 : decode cX11_stepsThrough 4 = .ok (.if_icmp .ge 27, 3) := by decide +kernel
theorem dX11_stepsThrough_7 : decode cX11_stepsThrough 7 = .ok (.aload_n 1, 1) := by decide +kernel
theorem dX11_stepsThrough_8 : decode cX11_stepsThrough 8 = .ok (.getfield 111, 3) := by decide +kernel
theorem dX11_stepsThrough_11 : decode cX11_stepsThrough 11 = .ok (.ifCond .eq 5, 3) := by decide +kernel
theorem dX11_stepsThrough_14 : decode cX11_stepsThrough 14 = .ok (.iconst 0, 1) := by decide +kernel
theorem dX11_stepsThrough_15 : decode cX11_stepsThrough 15 = .ok (.ireturn, 1) := by decide +kernel
theorem dX11_stepsThrough_16 : decode cX11_stepsThrough 16 = .ok (.aload_n 0, 1) := by decide +kernel
theorem dX11_stepsThrough_17 : decode cX11_stepsThrough 17 = .ok (.getfield 54, 3) := by decide +kernel
theorem dX11_stepsThrough_20 : decode cX11_stepsThrough 20 = .ok (.aload_n 1, 1) := by decide +kernel
theorem dX11_stepsThrough_21 : decode cX11_stepsThrough 21 = .ok (.invokevirtual 151, 3) := by decide +kernel
theorem dX11_stepsThrough_24 : decode cX11_stepsThrough 24 = .ok (.pop, 1) := by decide +kernel
theorem dX11_stepsThrough_25 : decode cX11_stepsThrough 25 = .ok (.iinc 3 1, 3) := by decide +kernel
theorem dX11_stepsThrough_28 : decode cX11_stepsThrough 28 = .ok (.goto (-26), 3) := by decide +kernel
theorem dX11_stepsThrough_31 : decode cX11_stepsThrough 31 = .ok (.iconst 1, 1) := by decide +kernel
theorem dX11_stepsThrough_32 : decode cX11_stepsThrough 32 = .ok (.ireturn, 1) := by decide +kernel
theorem dX11_isCell_0 : decode cX11_isCell 0 = .ok (.iload_n 0, 1) := by decide +kernel
theorem dX11_isCell_1 : decode cX11_isCell 1 = .ok (.ifCond .lt 13, 3) := by decide +kernel
theorem dX11_isCell_4 : decode cX11_isCell 4 = .ok (.iload_n 0, 1) := by decide +kernel
theorem dX11_isCell_5 : decode cX11_isCell 5 = .ok (.bipush 6, 2) := by decide +kernel
theorem dX11_isCell_7 : decode cX11_isCell 7 = .ok (.if_icmp .ge 7, 3) := by decide +kernel
theorem dX11_isCell_10 : decode cX11_isCell 10 = .ok (.iconst 1, 1) := by decide +kernel
theorem dX11_isCell_11 : decode cX11_isCell 11 = .ok (.goto 4, 3) := by decide +kernel
theorem dX11_isCell_14 : decode cX11_isCell 14 = .ok (.iconst 0, 1) := by decide +kernel
theorem dX11_isCell_15 : decode cX11_isCell 15 = .ok (.ireturn, 1) := by decide +kernel
theorem dX11_isValue_0 : decode cX11_isValue 0 = .ok (.iload_n 0, 1) := by decide +kernel
theorem dX11_isValue_1 : decode cX11_isValue 1 = .ok (.bipush (-99), 2) := by decide +kernel
theorem dX11_isValue_3 : decode cX11_isValue 3 = .ok (.if_icmp .lt 13, 3) := by decide +kernel
theorem dX11_isValue_6 : decode cX11_isValue 6 = .ok (.iload_n 0, 1) := by decide +kernel
theorem dX11_isValue_7 : decode cX11_isValue 7 = .ok (.bipush 99, 2) := by decide +kernel
theorem dX11_isValue_9 : decode cX11_isValue 9 = .ok (.if_icmp .gt 7, 3) := by decide +kernel
theorem dX11_isValue_12 : decode cX11_isValue 12 = .ok (.iconst 1, 1) := by decide +kernel
theorem dX11_isValue_13 : decode cX11_isValue 13 = .ok (.goto 4, 3) := by decide +kernel
theorem dX11_isValue_16 : decode cX11_isValue 16 = .ok (.iconst 0, 1) := by decide +kernel
theorem dX11_isValue_17 : decode cX11_isValue 17 = .ok (.ireturn, 1) := by decide +kernel
theorem dX11_clamp_0 : decode cX11_clamp 0 = .ok (.bipush (-99), 2) := by decide +kernel
theorem dX11_clamp_2 : decode cX11_clamp 2 = .ok (.bipush 99, 2) := by decide +kernel
theorem dX11_clamp_4 : decode cX11_clamp 4 = .ok (.iload_n 0, 1) := by decide +kernel
theorem dX11_clamp_5 : decode cX11_clamp 5 = .ok (.invokestatic 227, 3) := by decide +kernel
theorem dX11_clamp_8 : decode cX11_clamp 8 = .ok (.invokestatic 202, 3) := by decide +kernel
theorem dX11_clamp_11 : decode cX11_clamp 11 = .ok (.ireturn, 1) := by decide +kernel
theorem dX12_init_0 : decode cX12_init 0 = .ok (.aload_n 0, 1) := by decide +kernel
theorem dX12_init_1 : decode cX12_init 1 = .ok (.invokespecial 1, 3) := by decide +kernel
theorem dX12_init_4 : decode cX12_init 4 = .ok (.aload_n 0, 1) := by decide +kernel
theorem dX12_init_5 : decode cX12_init 5 = .ok (.bipush 60, 2) := by decide +kernel
theorem dX12_init_7 : decode cX12_init 7 = .ok (.newarray .int, 2) := by decide +kernel
theorem dX12_init_9 : decode cX12_init 9 = .ok (.putfield 7, 3) := by decide +kernel
theorem dX12_init_12 : decode cX12_init 12 = .ok (.aload_n 0, 1) := by decide +kernel
theorem dX12_init_13 : decode cX12_init 13 = .ok (.iconst 1, 1) := by decide +kernel
theorem dX12_init_14 : decode cX12_init 14 = .ok (.putfield 13, 3) := by decide +kernel
theorem dX12_init_17 : decode cX12_init 17 = .ok (.aload_n 0, 1) := by decide +kernel
theorem dX12_init_18 : decode cX12_init 18 = .ok (.iconst 3, 1) := by decide +kernel
theorem dX12_init_19 : decode cX12_init 19 = .ok (.newarray .int, 2) := by decide +kernel
theorem dX12_init_21 : decode cX12_init 21 = .ok (.putfield 17, 3) := by decide +kernel
theorem dX12_init_24 : decode cX12_init 24 = .ok (.aload_n 0, 1) := by decide +kernel
theorem dX12_init_25 : decode cX12_init 25 = .ok (.sipush 180, 3) := by decide +kernel
theorem dX12_init_28 : decode cX12_init 28 = .ok (.newarray .int, 2) := by decide +kernel
theorem dX12_init_30 : decode cX12_init 30 = .ok (.putfield 20, 3) := by decide +kernel
theorem dX12_init_33 : decode cX12_init 33 = .ok (.aload_n 0, 1) := by decide +kernel
theorem dX12_init_34 : decode cX12_init 34 = .ok (.sipush 180, 3) := by decide +kernel
theorem dX12_init_37 : decode cX12_init 37 = .ok (.newarray .int, 2) := by decide +kernel
theorem dX12_init_39 : decode cX12_init 39 = .ok (.putfield 23, 3) := by decide +kernel
theorem dX12_init_42 : decode cX12_init 42 = .ok (.aload_n 0, 1) := by decide +kernel
theorem dX12_init_43 : decode cX12_init 43 = .ok (.sipush 180, 3) := by decide +kernel
theorem dX12_init_46 : decode cX12_init 46 = .ok (.newarray .int, 2) := by decide +kernel
theorem dX12_init_48 : decode cX12_init 48 = .ok (.putfield 26, 3) := by decide +kernel
theorem dX12_init_51 : decode cX12_init 51 = .ok (.aload_n 0, 1) := by decide +kernel
theorem dX12_init_52 : decode cX12_init 52 = .ok (.sipush 180, 3) := by decide +kernel
theorem dX12_init_55 : decode cX12_init 55 = .ok (.newarray .int, 2) := by decide +kernel
theorem dX12_init_57 : decode cX12_init 57 = .ok (.putfield 29, 3) := by decide +kernel
theorem dX12_init_60 : decode cX12_init 60 = .ok (.aload_n 0, 1) := by decide +kernel
theorem dX12_init_61 : decode cX12_init 61 = .ok (.sipush 172, 3) := by decide +kernel
theorem dX12_init_64 : decode cX12_init 64 = .ok (.newarray .int, 2) := by decide +kernel
theorem dX12_init_66 : decode cX12_init 66 = .ok (.putfield 32, 3) := by decide +kernel
theorem dX12_init_69 : decode cX12_init 69 = .ok (.aload_n 0, 1) := by decide +kernel
theorem dX12_init_70 : decode cX12_init 70 = .ok (.sipush 172, 3) := by decide +kernel
theorem dX12_init_73 : decode cX12_init 73 = .ok (.newarray .int, 2) := by decide +kernel
theorem dX12_init_75 : decode cX12_init 75 = .ok (.putfield 35, 3) := by decide +kernel
theorem dX12_init_78 : decode cX12_init 78 = .ok (.aload_n 0, 1) := by decide +kernel
theorem dX12_init_79 : decode cX12_init 79 = .ok (.sipush 2408, 3) := by decide +kernel
theorem dX12_init_82 : decode cX12_init 82 = .ok (.newarray .int, 2) := by decide +kernel
theorem dX12_init_84 : decode cX12_init 84 = .ok (.putfield 38, 3) := by decide +kernel
theorem dX12_init_87 : decode cX12_init 87 = .ok (.aload_n 0, 1) := by decide +kernel
theorem dX12_init_88 : decode cX12_init 88 = .ok (.sipush 344, 3) := by decide +kernel
theorem dX12_init_91 : decode cX12_init 91 = .ok (.newarray .int, 2) := by decide +kernel
theorem dX12_init_93 : decode cX12_init 93 = .ok (.putfield 41, 3) := by decide +kernel
theorem dX12_init_96 : decode cX12_init 96 = .ok (.aload_n 0, 1) := by decide +kernel
theorem dX12_init_97 : decode cX12_init 97 = .ok (.iconst 2, 1) := by decide +kernel
theorem dX12_init_98 : decode cX12_init 98 = .ok (.newarray .boolean, 2) := by decide +kernel
theorem dX12_init_100 : decode cX12_init 100 = .ok (.putfield 44, 3) := by decide +kernel
theorem dX12_init_103 : decode cX12_init 103 = .ok (.aload_n 0, 1) := by decide +kernel
theorem dX12_init_104 : decode cX12_init 104 = .ok (.iconst 4, 1) := by decide +kernel
theorem dX12_init_105 : decode cX12_init 105 = .ok (.newarray .int, 2) := by decide +kernel
theorem dX12_init_107 : decode cX12_init 107 = .ok (.putfield 48, 3) := by decide +kernel
theorem dX12_init_110 : decode cX12_init 110 = .ok (.aload_n 0, 1) := by decide +kernel
theorem dX12_init_111 : decode cX12_init 111 = .ok (.iconst 4, 1) := by decide +kernel
theorem dX12_init_112 : decode cX12_init 112 = .ok (.newarray .int, 2) := by decide +kernel
theorem dX12_init_114 : decode cX12_init 114 = .ok (.putfield 51, 3) := by decide +kernel
theorem dX12_init_117 : decode cX12_init 117 = .ok (.aload_n 0, 1) := by decide +kernel
theorem dX12_init_118 : decode cX12_init 118 = .ok (.bipush 6, 2) := by decide +kernel
theorem dX12_init_120 : decode cX12_init 120 = .ok (.newarray .int, 2) := by decide +kernel
theorem dX12_init_122 : decode cX12_init 122 = .ok (.putfield 54, 3) := by decide +kernel
theorem dX12_init_125 : decode cX12_init 125 = .ok (.aload_n 0, 1) := by decide +kernel
theorem dX12_init_126 : decode cX12_init 126 = .ok (.iconst 3, 1) := by decide +kernel
theorem dX12_init_127 : decode cX12_init 127 = .ok (.newarray .int, 2) := by decide +kernel
theorem dX12_init_129 : decode cX12_init 129 = .ok (.putfield 57, 3) := by decide +kernel
theorem dX12_init_132 : decode cX12_init 132 = .ok (.aload_n 0, 1) := by decide +kernel
theorem dX12_init_133 : decode cX12_init 133 = .ok (.iconst 3, 1) := by decide +kernel
theorem dX12_init_134 : decode cX12_init 134 = .ok (.newarray .int, 2) := by decide +kernel
theorem dX12_init_136 : decode cX12_init 136 = .ok (.putfield 60, 3) := by decide +kernel
theorem dX12_init_139 : decode cX12_init 139 = .ok (.aload_n 0, 1) := by decide +kernel
theorem dX12_init_140 : decode cX12_init 140 = .ok (.sipush 180, 3) := by decide +kernel
theorem dX12_init_143 : decode cX12_init 143 = .ok (.newarray .int, 2) := by decide +kernel
theorem dX12_init_145 : decode cX12_init 145 = .ok (.putfield 63, 3) := by decide +kernel
theorem dX12_init_148 : decode cX12_init 148 = .ok (.aload_n 0, 1) := by decide +kernel
theorem dX12_init_149 : decode cX12_init 149 = .ok (.sipush 180, 3) := by decide +kernel
theorem dX12_init_152 : decode cX12_init 152 = .ok (.newarray .int, 2) := by decide +kernel
theorem dX12_init_154 : decode cX12_init 154 = .ok (.putfield 66, 3) := by decide +kernel
theorem dX12_init_157 : decode cX12_init 157 = .ok (.aload_n 0, 1) := by decide +kernel
theorem dX12_init_158 : decode cX12_init 158 = .ok (.sipush 180, 3) := by decide +kernel
theorem dX12_init_161 : decode cX12_init 161 = .ok (.newarray .int, 2) := by decide +kernel
theorem dX12_init_163 : decode cX12_init 163 = .ok (.putfield 69, 3) := by decide +kernel
theorem dX12_init_166 : decode cX12_init 166 = .ok (.aload_n 0, 1) := by decide +kernel
theorem dX12_init_167 : decode cX12_init 167 = .ok (.sipush 180, 3) := by decide +kernel
theorem dX12_init_170 : decode cX12_init 170 = .ok (.newarray .int, 2) := by decide +kernel
theorem dX12_init_172 : decode cX12_init 172 = .ok (.putfield 72, 3) := by decide +kernel
theorem dX12_init_175 : decode cX12_init 175 = .ok (.aload_n 0, 1) := by decide +kernel
theorem dX12_init_176 : decode cX12_init 176 = .ok (.iconst 3, 1) := by decide +kernel
theorem dX12_init_177 : decode cX12_init 177 = .ok (.newarray .int, 2) := by decide +kernel
theorem dX12_init_179 : decode cX12_init 179 = .ok (.putfield 75, 3) := by decide +kernel
theorem dX12_init_182 : decode cX12_init 182 = .ok (.aload_n 0, 1) := by decide +kernel
theorem dX12_init_183 : decode cX12_init 183 = .ok (.sipush 4096, 3) := by decide +kernel
theorem dX12_init_186 : decode cX12_init 186 = .ok (.newarray .long, 2) := by decide +kernel
theorem dX12_init_188 : decode cX12_init 188 = .ok (.putfield 78, 3) := by decide +kernel
theorem dX12_init_191 : decode cX12_init 191 = .ok (.aload_n 0, 1) := by decide +kernel
theorem dX12_init_192 : decode cX12_init 192 = .ok (.sipush 4096, 3) := by decide +kernel
theorem dX12_init_195 : decode cX12_init 195 = .ok (.newarray .long, 2) := by decide +kernel
theorem dX12_init_197 : decode cX12_init 197 = .ok (.putfield 82, 3) := by decide +kernel
theorem dX12_init_200 : decode cX12_init 200 = .ok (.aload_n 0, 1) := by decide +kernel
theorem dX12_init_201 : decode cX12_init 201 = .ok (.getfield 32, 3) := by decide +kernel
theorem dX12_init_204 : decode cX12_init 204 = .ok (.bipush 72, 2) := by decide +kernel
theorem dX12_init_206 : decode cX12_init 206 = .ok (.iconst 1, 1) := by decide +kernel
theorem dX12_init_207 : decode cX12_init 207 = .ok (.iastore, 1) := by decide +kernel
theorem dX12_init_208 : decode cX12_init 208 = .ok (.return_, 1) := by decide +kernel
theorem dX12_in_0 : decode cX12_in 0 = .ok (.lload_n 0, 1) := by decide +kernel
theorem dX12_in_1 : decode cX12_in 1 = .ok (.lload_n 2, 1) := by decide +kernel
theorem dX12_in_2 : decode cX12_in 2 = .ok (.lcmp, 1) := by decide +kernel
theorem dX12_in_3 : decode cX12_in 3 = .ok (.ifCond .lt 14, 3) := by decide +kernel
theorem dX12_in_6 : decode cX12_in 6 = .ok (.lload_n 0, 1) := by decide +kernel
theorem dX12_in_7 : decode cX12_in 7 = .ok (.lload 4, 2) := by decide +kernel
theorem dX12_in_9 : decode cX12_in 9 = .ok (.lcmp, 1) := by decide +kernel
theorem dX12_in_10 : decode cX12_in 10 = .ok (.ifCond .gt 7, 3) := by decide +kernel
theorem dX12_in_13 : decode cX12_in 13 = .ok (.iconst 1, 1) := by decide +kernel
theorem dX12_in_14 : decode cX12_in 14 = .ok (.goto 4, 3) := by decide +kernel
theorem dX12_in_17 : decode cX12_in 17 = .ok (.iconst 0, 1) := by decide +kernel
theorem dX12_in_18 : decode cX12_in 18 = .ok (.ireturn, 1) := by decide +kernel
theorem dX12_has_0 : decode cX12_has 0 = .ok (.iload_n 0, 1) := by decide +kernel
theorem dX12_has_1 : decode cX12_has 1 = .ok (.iload_n 1, 1) := by decide +kernel
theorem dX12_has_2 : decode cX12_has 2 = .ok (.ishr, 1) := by decide +kernel
theorem dX12_has_3 : decode cX12_has 3 = .ok (.iconst 1, 1) := by decide +kernel
theorem dX12_has_4 : decode cX12_has 4 = .ok (.iand, 1) := by decide +kernel
theorem dX12_has_5 : decode cX12_has 5 = .ok (.iconst 1, 1) := by decide +kernel
theorem dX12_has_6 : decode cX12_has 6 = .ok (.if_icmp .ne 7, 3) := by decide +kernel
theorem dX12_has_9 : decode cX12_has 9 = .ok (.iconst 1, 1) := by decide +kernel
theorem dX12_has_10 : decode cX12_has 10 = .ok (.goto 4, 3) := by decide +kernel
theorem dX12_has_13 : decode cX12_has 13 = .ok (.iconst 0, 1) := by decide +kernel
theorem dX12_has_14 : decode cX12_has 14 = .ok (.ireturn, 1) := by decide +kernel
theorem dX12_clamp_0 : decode cX12_clamp 0 = .ok (.iload_n 0, 1) := by decide +kernel
theorem dX12_clamp_1 : decode cX12_clamp 1 = .ok (.bipush 99, 2) := by decide +kernel
theorem dX12_clamp_3 : decode cX12_clamp 3 = .ok (.if_icmp .le 8, 3) := by decide +kernel
theorem dX12_clamp_6 : decode cX12_clamp 6 = .ok (.bipush 99, 2) := by decide +kernel
theorem dX12_clamp_8 : decode cX12_clamp 8 = .ok (.goto 15, 3) := by decide +kernel
theorem dX12_clamp_11 : decode cX12_clamp 11 = .ok (.iload_n 0, 1) := by decide +kernel
theorem dX12_clamp_12 : decode cX12_clamp 12 = .ok (.bipush (-99), 2) := by decide +kernel
theorem dX12_clamp_14 : decode cX12_clamp 14 = .ok (.if_icmp .ge 8, 3) := by decide +kernel
theorem dX12_clamp_17 : decode cX12_clamp 17 = .ok (.bipush (-99), 2) := by decide +kernel
theorem dX12_clamp_19 : decode cX12_clamp 19 = .ok (.goto 4, 3) := by decide +kernel
theorem dX12_clamp_22 : decode cX12_clamp 22 = .ok (.iload_n 0, 1) := by decide +kernel
theorem dX12_clamp_23 : decode cX12_clamp 23 = .ok (.ireturn, 1) := by decide +kernel
theorem dX12_assign_0 : decode cX12_assign 0 = .ok (.iconst 0, 1) := by decide +kernel
theorem dX12_assign_1 : decode cX12_assign 1 = .ok (.istore_n 2, 1) := by decide +kernel
theorem dX12_assign_2 : decode cX12_assign 2 = .ok (.iload_n 2, 1) := by decide +kernel
theorem dX12_assign_3 : decode cX12_assign 3 = .ok (.sipush 172, 3) := by decide +kernel
theorem dX12_assign_6 : decode cX12_assign 6 = .ok (.if_icmp .ge 15, 3) := by decide +kernel
theorem dX12_assign_9 : decode cX12_assign 9 = .ok (.aload_n 1, 1) := by decide +kernel
theorem dX12_assign_10 : decode cX12_assign 10 = .ok (.iload_n 2, 1) := by decide +kernel
theorem dX12_assign_11 : decode cX12_assign 11 = .ok (.aload_n 0, 1) := by decide +kernel
theorem dX12_assign_12 : decode cX12_assign 12 = .ok (.iload_n 2, 1) := by decide +kernel
theorem dX12_assign_13 : decode cX12_assign 13 = .ok (.iaload, 1) := by decide +kernel
theorem dX12_assign_14 : decode cX12_assign 14 = .ok (.iastore, 1) := by decide +kernel
theorem dX12_assign_15 : decode cX12_assign 15 = .ok (.iinc 2 1, 3) := by decide +kernel
theorem dX12_assign_18 : decode cX12_assign 18 = .ok (.goto (-16), 3) := by decide +kernel
theorem dX12_assign_21 : decode cX12_assign 21 = .ok (.return_, 1) := by decide +kernel
theorem dX12_at_0 : decode cX12_at 0 = .ok (.bipush 25, 2) := by decide +kernel
theorem dX12_at_2 : decode cX12_at 2 = .ok (.bipush 49, 2) := by decide +kernel
theorem dX12_at_4 : decode cX12_at 4 = .ok (.iload_n 0, 1) := by decide +kernel
theorem dX12_at_5 : decode cX12_at 5 = .ok (.imul, 1) := by decide +kernel
theorem dX12_at_6 : decode cX12_at 6 = .ok (.iadd, 1) := by decide +kernel
theorem dX12_at_7 : decode cX12_at 7 = .ok (.ireturn, 1) := by decide +kernel
theorem dX12_begin_0 : decode cX12_begin 0 = .ok (.iconst 1, 1) := by decide +kernel
theorem dX12_begin_1 : decode cX12_begin 1 = .ok (.istore_n 2, 1) := by decide +kernel
theorem dX12_begin_2 : decode cX12_begin 2 = .ok (.iload_n 2, 1) := by decide +kernel
theorem dX12_begin_3 : decode cX12_begin 3 = .ok (.bipush 47, 2) := by decide +kernel
theorem dX12_begin_5 : decode cX12_begin 5 = .ok (.if_icmp .ge 18, 3) := by decide +kernel
theorem dX12_begin_8 : decode cX12_begin 8 = .ok (.aload_n 0, 1) := by decide +kernel
theorem dX12_begin_9 : decode cX12_begin 9 = .ok (.iload_n 1, 1) := by decide +kernel
theorem dX12_begin_10 : decode cX12_begin 10 = .ok (.invokestatic 88, 3) := by decide +kernel
theorem dX12_begin_13 : decode cX12_begin 13 = .ok (.iload_n 2, 1) := by decide +kernel
theorem dX12_begin_14 : decode cX12_begin 14 = .ok (.iadd, 1) := by decide +kernel
theorem dX12_begin_15 : decode cX12_begin 15 = .ok (.iconst 0, 1) := by decide +kernel
theorem dX12_begin_16 : decode cX12_begin 16 = .ok (.iastore, 1) := by decide +kernel
theorem dX12_begin_17 : decode cX12_begin 17 = .ok (.iinc 2 1, 3) := by decide +kernel
theorem dX12_begin_20 : decode cX12_begin 20 = .ok (.goto (-18), 3) := by decide +kernel
theorem dX12_begin_23 : decode cX12_begin 23 = .ok (.return_, 1) := by decide +kernel
theorem dX12_stop_0 : decode cX12_stop 0 = .ok (.aload_n 0, 1) := by decide +kernel
theorem dX12_stop_1 : decode cX12_stop 1 = .ok (.iload_n 1, 1) := by decide +kernel
theorem dX12_stop_2 : decode cX12_stop 2 = .ok (.invokestatic 92, 3) := by decide +kernel
theorem dX12_stop_5 : decode cX12_stop 5 = .ok (.aload_n 0, 1) := by decide +kernel
theorem dX12_stop_6 : decode cX12_stop 6 = .ok (.iload_n 1, 1) := by decide +kernel
theorem dX12_stop_7 : decode cX12_stop 7 = .ok (.invokestatic 88, 3) := by decide +kernel
theorem dX12_stop_10 : decode cX12_stop 10 = .ok (.iconst 0, 1) := by decide +kernel
theorem dX12_stop_11 : decode cX12_stop 11 = .ok (.iadd, 1) := by decide +kernel
theorem dX12_stop_12 : decode cX12_stop 12 = .ok (.iload_n 2, 1) := by decide +kernel
theorem dX12_stop_13 : decode cX12_stop 13 = .ok (.iastore, 1) := by decide +kernel
theorem dX12_stop_14 : decode cX12_stop 14 = .ok (.return_, 1) := by decide +kernel
theorem dX12_restart_0 : decode cX12_restart 0 = .ok (.aload_n 0, 1) := by decide +kernel
theorem dX12_restart_1 : decode cX12_restart 1 = .ok (.iload_n 1, 1) := by decide +kernel
theorem dX12_restart_2 : decode cX12_restart 2 = .ok (.iconst 0, 1) := by decide +kernel
theorem dX12_restart_3 : decode cX12_restart 3 = .ok (.invokestatic 96, 3) := by decide +kernel
theorem dX12_restart_6 : decode cX12_restart 6 = .ok (.aload_n 0, 1) := by decide +kernel
theorem dX12_restart_7 : decode cX12_restart 7 = .ok (.iload_n 1, 1) := by decide +kernel
theorem dX12_restart_8 : decode cX12_restart 8 = .ok (.invokestatic 88, 3) := by decide +kernel
theorem dX12_restart_11 : decode cX12_restart 11 = .ok (.bipush 48, 2) := by decide +kernel
theorem dX12_restart_13 : decode cX12_restart 13 = .ok (.iadd, 1) := by decide +kernel
theorem dX12_restart_14 : decode cX12_restart 14 = .ok (.dup2, 1) := by decide +kernel
theorem dX12_restart_15 : decode cX12_restart 15 = .ok (.iaload, 1) := by decide +kernel
theorem dX12_restart_16 : decode cX12_restart 16 = .ok (.iconst 1, 1) := by decide +kernel
theorem dX12_restart_17 : decode cX12_restart 17 = .ok (.iadd, 1) := by decide +kernel
theorem dX12_restart_18 : decode cX12_restart 18 = .ok (.iastore, 1) := by decide +kernel
theorem dX12_restart_19 : decode cX12_restart 19 = .ok (.iconst 2, 1) := by decide +kernel
theorem dX12_restart_20 : decode cX12_restart 20 = .ok (.ireturn, 1) := by decide +kernel
theorem dX12_isValid_0 : decode cX12_isValid 0 = .ok (.iconst 1, 1) := by decide +kernel
theorem dX12_isValid_1 : decode cX12_isValid 1 = .ok (.istore_n 2, 1) := by decide +kernel
theorem dX12_isValid_2 : decode cX12_isValid 2 = .ok (.iconst 0, 1) := by decide +kernel
theorem dX12_isValid_3 : decode cX12_isValid 3 = .ok (.istore_n 3, 1) := by decide +kernel
theorem dX12_isValid_4 : decode cX12_isValid 4 = .ok (.iload_n 3, 1) := by decide +kernel
theorem dX12_isValid_5 : decode cX12_isValid 5 = .ok (.bipush 6, 2) := by decide +kernel
theorem dX12_isValid_7 : decode cX12_isValid 7 = .ok (.if_icmp .ge 49, 3) := by decide +kernel
theorem dX12_isValid_10 : decode cX12_isValid 10 = .ok (.aload_n 0, 1) := by decide +kernel
theorem dX12_isValid_11 : decode cX12_isValid 11 = .ok (.iload_n 1, 1) := by decide +kernel
theorem dX12_isValid_12 : decode cX12_isValid 12 = .ok (.invokestatic 88, 3) := by decide +kernel
theorem dX12_isValid_15 : decode cX12_isValid 15 = .ok (.iconst 3, 1) := by decide +kernel
theorem dX12_isValid_16 : decode cX12_isValid 16 = .ok (.iadd, 1) := by decide +kernel
theorem dX12_isValid_17 : decode cX12_isValid 17 = .ok (.iload_n 3, 1) := by decide +kernel
theorem dX12_isValid_18 : decode cX12_isValid 18 = .ok (.iadd, 1) := by decide +kernel
theorem dX12_isValid_19 : decode cX12_isValid 19 = .ok (.iaload, 1) := by decide +kernel
theorem dX12_isValid_20 : decode cX12_isValid 20 = .ok (.istore 4, 2) := by decide +kernel
theorem dX12_isValid_22 : decode cX12_isValid 22 = .ok (.iload_n 2, 1) := by decide +kernel
theorem dX12_isValid_23 : decode cX12_isValid 23 = .ok (.ifCond .eq 25, 3) := by decide +kernel
theorem dX12_isValid_26 : decode cX12_isValid 26 = .ok (.iload 4, 2) := by decide +kernel
theorem dX12_isValid_28 : decode cX12_isValid 28 = .ok (.ifCond .eq 16, 3) := by decide +kernel
theorem dX12_isValid_31 : decode cX12_isValid 31 = .ok (.iload 4, 2) := by decide +kernel
theorem dX12_isValid_33 : decode cX12_isValid 33 = .ok (.aload_n 0, 1) := by decide +kernel
theorem dX12_isValid_34 : decode cX12_isValid 34 = .ok (.bipush 6, 2) := by decide +kernel
theorem dX12_isValid_36 : decode cX12_isValid 36 = .ok (.iload_n 3, 1) := by decide +kernel
theorem dX12_isValid_37 : decode cX12_isValid 37 = .ok (.iadd, 1) := by decide +kernel
theorem dX12_isValid_38 : decode cX12_isValid 38 = .ok (.iaload, 1) := by decide +kernel
theorem dX12_isValid_39 : decode cX12_isValid 39 = .ok (.iconst 1, 1) := by decide +kernel
theorem dX12_isValid_40 : decode cX12_isValid 40 = .ok (.iadd, 1) := by decide +kernel
theorem dX12_isValid_41 : decode cX12_isValid 41 = .ok (.if_icmp .ne 7, 3) := by decide +kernel
theorem dX12_isValid_44 : decode cX12_isValid 44 = .ok (.iconst 1, 1) := by decide +kernel
theorem dX12_isValid_45 : decode cX12_isValid 45 = .ok (.goto 4, 3) := by decide +kernel
theorem dX12_isValid_48 : decode cX12_isValid 48 = .ok (.iconst 0, 1) := by decide +kernel
theorem dX12_isValid_49 : decode cX12_isValid 49 = .ok (.istore_n 2, 1) := by decide +kernel
theorem dX12_isValid_50 : decode cX12_isValid 50 = .ok (.iinc 3 1, 3) := by decide +kernel
theorem dX12_isValid_53 : decode cX12_isValid 53 = .ok (.goto (-49), 3) := by decide +kernel
theorem dX12_isValid_56 : decode cX12_isValid 56 = .ok (.iload_n 2, 1) := by decide +kernel
theorem dX12_isValid_57 : decode cX12_isValid 57 = .ok (.ireturn, 1) := by decide +kernel
theorem dX12_sees_0 : decode cX12_sees 0 = .ok (.aload_n 0, 1) := by decide +kernel
theorem dX12_sees_1 : decode cX12_sees 1 = .ok (.iload_n 1, 1) := by decide +kernel
theorem dX12_sees_2 : decode cX12_sees 2 = .ok (.invokestatic 88, 3) := by decide +kernel
theorem dX12_sees_5 : decode cX12_sees 5 = .ok (.bipush 9, 2) := by decide +kernel
theorem dX12_sees_7 : decode cX12_sees 7 = .ok (.iadd, 1) := by decide +kernel
theorem dX12_sees_8 : decode cX12_sees 8 = .ok (.iaload, 1) := by decide +kernel
theorem dX12_sees_9 : decode cX12_sees 9 = .ok (.iload_n 2, 1) := by decide +kernel
theorem dX12_sees_10 : decode cX12_sees 10 = .ok (.invokestatic 100, 3) := by decide +kernel
theorem dX12_sees_13 : decode cX12_sees 13 = .ok (.ifCond .eq 17, 3) := by decide +kernel
theorem dX12_sees_16 : decode cX12_sees 16 = .ok (.aload_n 0, 1) := by decide +kernel
theorem dX12_sees_17 : decode cX12_sees 17 = .ok (.iload_n 1, 1) := by decide +kernel
theorem dX12_sees_18 : decode cX12_sees 18 = .ok (.invokestatic 88, 3) := by decide +kernel
theorem dX12_sees_21 : decode cX12_sees 21 = .ok (.bipush 10, 2) := by decide +kernel
theorem dX12_sees_23 : decode cX12_sees 23 = .ok (.iadd, 1) := by decide +kernel
theorem dX12_sees_24 : decode cX12_sees 24 = .ok (.iload_n 2, 1) := by decide +kernel
theorem dX12_sees_25 : decode cX12_sees 25 = .ok (.iadd, 1) := by decide +kernel
theorem dX12_sees_26 : decode cX12_sees 26 = .ok (.iaload, 1) := by decide +kernel
theorem dX12_sees_27 : decode cX12_sees 27 = .ok (.goto 6, 3) := by decide +kernel
theorem dX12_sees_30 : decode cX12_sees 30 = .ok (.aload_n 0, 1) := by decide +kernel
theorem dX12_sees_31 : decode cX12_sees 31 = .ok (.iload_n 2, 1) := by decide +kernel
theorem dX12_sees_32 : decode cX12_sees 32 = .ok (.iaload, 1) := by decide +kernel
theorem dX12_sees_33 : decode cX12_sees 33 = .ok (.ireturn, 1) := by decide +kernel
theorem dX12_grow_0 : decode cX12_grow 0 = .ok (.aload_n 1, 1) := by decide +kernel
theorem dX12_grow_1 : decode cX12_grow 1 = .ok (.bipush 6, 2) := by decide +kernel
theorem dX12_grow_3 : decode cX12_grow 3 = .ok (.iload_n 2, 1) := by decide +kernel
theorem dX12_grow_4 : decode cX12_grow 4 = .ok (.iadd, 1) := by decide +kernel
theorem dX12_grow_5 : decode cX12_grow 5 = .ok (.dup2, 1) := by decide +kernel
theorem dX12_grow_6 : decode cX12_grow 6 = .ok (.iaload, 1) := by decide +kernel
theorem dX12_grow_7 : decode cX12_grow 7 = .ok (.iconst 1, 1) := by decide +kernel
theorem dX12_grow_8 : decode cX12_grow 8 = .ok (.iadd, 1) := by decide +kernel
theorem dX12_grow_9 : decode cX12_grow 9 = .ok (.iastore, 1) := by decide +kernel
theorem dX12_grow_10 : decode cX12_grow 10 = .ok (.iconst 0, 1) := by decide +kernel
theorem dX12_grow_11 : decode cX12_grow 11 = .ok (.istore_n 3, 1) := by decide +kernel
theorem dX12_grow_12 : decode cX12_grow 12 = .ok (.iload_n 3, 1) := by decide +kernel
theorem dX12_grow_13 : decode cX12_grow 13 = .ok (.aload_n 0, 1) := by decide +kernel
theorem dX12_grow_14 : decode cX12_grow 14 = .ok (.getfield 13, 3) := by decide +kernel
theorem dX12_grow_17 : decode cX12_grow 17 = .ok (.if_icmp .ge 40, 3) := by decide +kernel
theorem dX12_grow_20 : decode cX12_grow 20 = .ok (.aload_n 1, 1) := by decide +kernel
theorem dX12_grow_21 : decode cX12_grow 21 = .ok (.iload_n 3, 1) := by decide +kernel
theorem dX12_grow_22 : decode cX12_grow 22 = .ok (.invokestatic 88, 3) := by decide +kernel
theorem dX12_grow_25 : decode cX12_grow 25 = .ok (.iconst 0, 1) := by decide +kernel
theorem dX12_grow_26 : decode cX12_grow 26 = .ok (.iadd, 1) := by decide +kernel
theorem dX12_grow_27 : decode cX12_grow 27 = .ok (.iaload, 1) := by decide +kernel
theorem dX12_grow_28 : decode cX12_grow 28 = .ok (.iconst 1, 1) := by decide +kernel
theorem dX12_grow_29 : decode cX12_grow 29 = .ok (.if_icmp .ne 22, 3) := by decide +kernel
theorem dX12_grow_32 : decode cX12_grow 32 = .ok (.aload_n 1, 1) := by decide +kernel
theorem dX12_grow_33 : decode cX12_grow 33 = .ok (.iload_n 3, 1) := by decide +kernel
theorem dX12_grow_34 : decode cX12_grow 34 = .ok (.invokestatic 88, 3) := by decide +kernel
theorem dX12_grow_37 : decode cX12_grow 37 = .ok (.iconst 3, 1) := by decide +kernel
theorem dX12_grow_38 : decode cX12_grow 38 = .ok (.iadd, 1) := by decide +kernel
theorem dX12_grow_39 : decode cX12_grow 39 = .ok (.iload_n 2, 1) := by decide +kernel
theorem dX12_grow_40 : decode cX12_grow 40 = .ok (.iadd, 1) := by decide +kernel
theorem dX12_grow_41 : decode cX12_grow 41 = .ok (.iaload, 1) := by decide +kernel
theorem dX12_grow_42 : decode cX12_grow 42 = .ok (.ifCond .le 9, 3) := by decide +kernel
theorem dX12_grow_45 : decode cX12_grow 45 = .ok (.aload_n 1, 1) := by decide +kernel
theorem dX12_grow_46 : decode cX12_grow 46 = .ok (.iload_n 3, 1) := by decide +kernel
theorem dX12_grow_47 : decode cX12_grow 47 = .ok (.invokestatic 104, 3) := by decide +kernel
theorem dX12_grow_50 : decode cX12_grow 50 = .ok (.pop, 1) := by decide +kernel
theorem dX12_grow_51 : decode cX12_grow 51 = .ok (.iinc 3 1, 3) := by decide +kernel
theorem dX12_grow_54 : decode cX12_grow 54 = .ok (.goto (-42), 3) := by decide +kernel
theorem dX12_grow_57 : decode cX12_grow 57 = .ok (.return_, 1) := by decide +kernel
theorem dX12_commit_0 : decode cX12_commit 0 = .ok (.aload_n 1, 1) := by decide +kernel
theorem dX12_commit_1 : decode cX12_commit 1 = .ok (.iload_n 2, 1) := by decide +kernel
theorem dX12_commit_2 : decode cX12_commit 2 = .ok (.invokestatic 108, 3) := by decide +kernel
theorem dX12_commit_5 : decode cX12_commit 5 = .ok (.ifCond .ne 9, 3) := by decide +kernel
theorem dX12_commit_8 : decode cX12_commit 8 = .ok (.aload_n 1, 1) := by decide +kernel
theorem dX12_commit_9 : decode cX12_commit 9 = .ok (.iload_n 2, 1) := by decide +kernel
theorem dX12_commit_10 : decode cX12_commit 10 = .ok (.invokestatic 104, 3) := by decide +kernel
theorem dX12_commit_13 : decode cX12_commit 13 = .ok (.ireturn, 1) := by decide +kernel
theorem dX12_commit_14 : decode cX12_commit 14 = .ok (.iconst 0, 1) := by decide +kernel
theorem dX12_commit_15 : decode cX12_commit 15 = .ok (.istore_n 3, 1) := by decide +kernel
theorem dX12_commit_16 : decode cX12_commit 16 = .ok (.iload_n 3, 1) := by decide +kernel
theorem dX12_commit_17 : decode cX12_commit 17 = .ok (.aload_n 1, 1) := by decide +kernel
theorem dX12_commit_18 : decode cX12_commit 18 = .ok (.bipush 12, 2) := by decide +kernel
theorem dX12_commit_20 : decode cX12_commit 20 = .ok (.iaload, 1) := by decide +kernel
theorem dX12_commit_21 : decode cX12_commit 21 = .ok (.if_icmp .ge 55, 3) := by decide +kernel
theorem dX12_commit_24 : decode cX12_commit 24 = .ok (.bipush 13, 2) := by decide +kernel
theorem dX12_commit_26 : decode cX12_commit 26 = .ok (.iconst 3, 1) := by decide +kernel
theorem dX12_commit_27 : decode cX12_commit 27 = .ok (.iload_n 3, 1) := by decide +kernel
theorem dX12_commit_28 : decode cX12_commit 28 = .ok (.imul, 1) := by decide +kernel
theorem dX12_commit_29 : decode cX12_commit 29 = .ok (.iadd, 1) := by decide +kernel
theorem dX12_commit_30 : decode cX12_commit 30 = .ok (.istore 4, 2) := by decide +kernel
theorem dX12_commit_32 : decode cX12_commit 32 = .ok (.aload_n 1, 1) := by decide +kernel
theorem dX12_commit_33 : decode cX12_commit 33 = .ok (.iload_n 2, 1) := by decide +kernel
theorem dX12_commit_34 : decode cX12_commit 34 = .ok (.aload_n 1, 1) := by decide +kernel
theorem dX12_commit_35 : decode cX12_commit 35 = .ok (.iload 4, 2) := by decide +kernel
theorem dX12_commit_37 : decode cX12_commit 37 = .ok (.iaload, 1) := by decide +kernel
theorem dX12_commit_38 : decode cX12_commit 38 = .ok (.invokestatic 112, 3) := by decide +kernel
theorem dX12_commit_41 : decode cX12_commit 41 = .ok (.aload_n 1, 1) := by decide +kernel
theorem dX12_commit_42 : decode cX12_commit 42 = .ok (.iload_n 2, 1) := by decide +kernel
theorem dX12_commit_43 : decode cX12_commit 43 = .ok (.aload_n 1, 1) := by decide +kernel
theorem dX12_commit_44 : decode cX12_commit 44 = .ok (.iload 4, 2) := by decide +kernel
theorem dX12_commit_46 : decode cX12_commit 46 = .ok (.iconst 1, 1) := by decide +kernel
theorem dX12_commit_47 : decode cX12_commit 47 = .ok (.iadd, 1) := by decide +kernel
theorem dX12_commit_48 : decode cX12_commit 48 = .ok (.iaload, 1) := by decide +kernel
theorem dX12_commit_49 : decode cX12_commit 49 = .ok (.invokestatic 112, 3) := by decide +kernel
theorem dX12_commit_52 : decode cX12_commit 52 = .ok (.iadd, 1) := by decide +kernel
theorem dX12_commit_53 : decode cX12_commit 53 = .ok (.aload_n 1, 1) := by decide +kernel
theorem dX12_commit_54 : decode cX12_commit 54 = .ok (.iload 4, 2) := by decide +kernel
theorem dX12_commit_56 : decode cX12_commit 56 = .ok (.iconst 2, 1) := by decide +kernel
theorem dX12_commit_57 : decode cX12_commit 57 = .ok (.iadd, 1) := by decide +kernel
theorem dX12_commit_58 : decode cX12_commit 58 = .ok (.iaload, 1) := by decide +kernel
theorem dX12_commit_59 : decode cX12_commit 59 = .ok (.if_icmp .ge 11, 3) := by decide +kernel
theorem dX12_commit_62 : decode cX12_commit 62 = .ok (.aload_n 1, 1) := by decide +kernel
theorem dX12_commit_63 : decode cX12_commit 63 = .ok (.iload_n 2, 1) := by decide +kernel
theorem dX12_commit_64 : decode cX12_commit 64 = .ok (.iconst 3, 1) := by decide +kernel
theorem dX12_commit_65 : decode cX12_commit 65 = .ok (.invokestatic 96, 3) := by decide +kernel
theorem dX12_commit_68 : decode cX12_commit 68 = .ok (.iconst 4, 1) := by decide +kernel
theorem dX12_commit_69 : decode cX12_commit 69 = .ok (.ireturn, 1) := by decide +kernel
theorem dX12_commit_70 : decode cX12_commit 70 = .ok (.iinc 3 1, 3) := by decide +kernel
theorem dX12_commit_73 : decode cX12_commit 73 = .ok (.goto (-57), 3) := by decide +kernel
theorem dX12_commit_76 : decode cX12_commit 76 = .ok (.aload_n 0, 1) := by decide +kernel
theorem dX12_commit_77 : decode cX12_commit 77 = .ok (.aload_n 1, 1) := by decide +kernel
theorem dX12_commit_78 : decode cX12_commit 78 = .ok (.iload_n 2, 1) := by decide +kernel
theorem dX12_commit_79 : decode cX12_commit 79 = .ok (.invokestatic 88, 3) := by decide +kernel
theorem dX12_commit_82 : decode cX12_commit 82 = .ok (.bipush 9, 2) := by decide +kernel
theorem dX12_commit_84 : decode cX12_commit 84 = .ok (.iadd, 1) := by decide +kernel
theorem dX12_commit_85 : decode cX12_commit 85 = .ok (.iaload, 1) := by decide +kernel
theorem dX12_commit_86 : decode cX12_commit 86 = .ok (.putfield 116, 3) := by decide +kernel
theorem dX12_commit_89 : decode cX12_commit 89 = .ok (.iconst 0, 1) := by decide +kernel
theorem dX12_commit_90 : decode cX12_commit 90 = .ok (.istore_n 3, 1) := by decide +kernel
theorem dX12_commit_91 : decode cX12_commit 91 = .ok (.iload_n 3, 1) := by decide +kernel
theorem dX12_commit_92 : decode cX12_commit 92 = .ok (.bipush 6, 2) := by decide +kernel
theorem dX12_commit_94 : decode cX12_commit 94 = .ok (.if_icmp .ge 18, 3) := by decide +kernel
theorem dX12_commit_97 : decode cX12_commit 97 = .ok (.aload_n 1, 1) := by decide +kernel
theorem dX12_commit_98 : decode cX12_commit 98 = .ok (.iload_n 3, 1) := by decide +kernel
theorem dX12_commit_99 : decode cX12_commit 99 = .ok (.aload_n 1, 1) := by decide +kernel
theorem dX12_commit_100 : decode cX12_commit 100 = .ok (.iload_n 2, 1) := by decide +kernel
theorem dX12_commit_101 : decode cX12_commit 101 = .ok (.iload_n 3, 1) := by decide +kernel
theorem dX12_commit_102 : decode cX12_commit 102 = .ok (.invokestatic 112, 3) := by decide +kernel
theorem dX12_commit_105 : decode cX12_commit 105 = .ok (.iastore, 1) := by decide +kernel
theorem dX12_commit_106 : decode cX12_commit 106 = .ok (.iinc 3 1, 3) := by decide +kernel
theorem dX12_commit_109 : decode cX12_commit 109 = .ok (.goto (-18), 3) := by decide +kernel
theorem dX12_commit_112 : decode cX12_commit 112 = .ok (.aload_n 1, 1) := by decide +kernel
theorem dX12_commit_113 : decode cX12_commit 113 = .ok (.iload_n 2, 1) := by decide +kernel
theorem dX12_commit_114 : decode cX12_commit 114 = .ok (.invokestatic 88, 3) := by decide +kernel
theorem dX12_commit_117 : decode cX12_commit 117 = .ok (.bipush 47, 2) := by decide +kernel
theorem dX12_commit_119 : decode cX12_commit 119 = .ok (.iadd, 1) := by decide +kernel
theorem dX12_commit_120 : decode cX12_commit 120 = .ok (.iaload, 1) := by decide +kernel
theorem dX12_commit_121 : decode cX12_commit 121 = .ok (.iconst 1, 1) := by decide +kernel
theorem dX12_commit_122 : decode cX12_commit 122 = .ok (.isub, 1) := by decide +kernel
theorem dX12_commit_123 : decode cX12_commit 123 = .ok (.istore_n 3, 1) := by decide +kernel
theorem dX12_commit_124 : decode cX12_commit 124 = .ok (.aload_n 1, 1) := by decide +kernel
theorem dX12_commit_125 : decode cX12_commit 125 = .ok (.iload_n 2, 1) := by decide +kernel
theorem dX12_commit_126 : decode cX12_commit 126 = .ok (.iload_n 3, 1) := by decide +kernel
theorem dX12_commit_127 : decode cX12_commit 127 = .ok (.ifCond .ne 7, 3) := by decide +kernel
theorem dX12_commit_130 : decode cX12_commit 130 = .ok (.iconst 2, 1) := by decide +kernel
theorem dX12_commit_131 : decode cX12_commit 131 = .ok (.goto 4, 3) := by decide +kernel
theorem dX12_commit_134 : decode cX12_commit 134 = .ok (.iconst 0, 1) := by decide +kernel
theorem dX12_commit_135 : decode cX12_commit 135 = .ok (.invokestatic 96, 3) := by decide +kernel
theorem dX12_commit_138 : decode cX12_commit 138 = .ok (.aload_n 1, 1) := by decide +kernel
theorem dX12_commit_139 : decode cX12_commit 139 = .ok (.iload_n 2, 1) := by decide +kernel
theorem dX12_commit_140 : decode cX12_commit 140 = .ok (.invokestatic 88, 3) := by decide +kernel
theorem dX12_commit_143 : decode cX12_commit 143 = .ok (.bipush 47, 2) := by decide +kernel
theorem dX12_commit_145 : decode cX12_commit 145 = .ok (.iadd, 1) := by decide +kernel
theorem dX12_commit_146 : decode cX12_commit 146 = .ok (.iload_n 3, 1) := by decide +kernel
theorem dX12_commit_147 : decode cX12_commit 147 = .ok (.iastore, 1) := by decide +kernel
theorem dX12_commit_148 : decode cX12_commit 148 = .ok (.iconst 0, 1) := by decide +kernel
theorem dX12_commit_149 : decode cX12_commit 149 = .ok (.istore 4, 2) := by decide +kernel
theorem dX12_commit_151 : decode cX12_commit 151 = .ok (.iload 4, 2) := by decide +kernel
theorem dX12_commit_153 : decode cX12_commit 153 = .ok (.bipush 6, 2) := by decide +kernel
theorem dX12_commit_155 : decode cX12_commit 155 = .ok (.if_icmp .ge 28, 3) := by decide +kernel
theorem dX12_commit_158 : decode cX12_commit 158 = .ok (.aload_n 0, 1) := by decide +kernel
theorem dX12_commit_159 : decode cX12_commit 159 = .ok (.getfield 116, 3) := by decide +kernel
theorem dX12_commit_162 : decode cX12_commit 162 = .ok (.iload 4, 2) := by decide +kernel
theorem dX12_commit_164 : decode cX12_commit 164 = .ok (.invokestatic 100, 3) := by decide +kernel
theorem dX12_commit_167 : decode cX12_commit 167 = .ok (.ifCond .eq 10, 3) := by decide +kernel
theorem dX12_commit_170 : decode cX12_commit 170 = .ok (.aload_n 0, 1) := by decide +kernel
theorem dX12_commit_171 : decode cX12_commit 171 = .ok (.aload_n 1, 1) := by decide +kernel
theorem dX12_commit_172 : decode cX12_commit 172 = .ok (.iload 4, 2) := by decide +kernel
theorem dX12_commit_174 : decode cX12_commit 174 = .ok (.invokevirtual 119, 3) := by decide +kernel
theorem dX12_commit_177 : decode cX12_commit 177 = .ok (.iinc 4 1, 3) := by decide +kernel
theorem dX12_commit_180 : decode cX12_commit 180 = .ok (.goto (-29), 3) := by decide +kernel
theorem dX12_commit_183 : decode cX12_commit 183 = .ok (.iconst 1, 1) := by decide +kernel
theorem dX12_commit_184 : decode cX12_commit 184 = .ok (.ireturn, 1) := by decide +kernel
theorem dX12_openBlock_0 : decode cX12_openBlock 0 = .ok (.iload_n 1, 1) := by decide +kernel
theorem dX12_openBlock_1 : decode cX12_openBlock 1 = .ok (.invokestatic 88, 3) := by decide +kernel
theorem dX12_openBlock_4 : decode cX12_openBlock 4 = .ok (.bipush 17, 2) := by decide +kernel
theorem dX12_openBlock_6 : decode cX12_openBlock 6 = .ok (.iadd, 1) := by decide +kernel
theorem dX12_openBlock_7 : decode cX12_openBlock 7 = .ok (.bipush 10, 2) := by decide +kernel
theorem dX12_openBlock_9 : decode cX12_openBlock 9 = .ok (.aload_n 0, 1) := by decide +kernel
theorem dX12_openBlock_10 : decode cX12_openBlock 10 = .ok (.iload_n 1, 1) := by decide +kernel
theorem dX12_openBlock_11 : decode cX12_openBlock 11 = .ok (.invokestatic 88, 3) := by decide +kernel
theorem dX12_openBlock_14 : decode cX12_openBlock 14 = .ok (.bipush 16, 2) := by decide +kernel
theorem dX12_openBlock_16 : decode cX12_openBlock 16 = .ok (.iadd, 1) := by decide +kernel
theorem dX12_openBlock_17 : decode cX12_openBlock 17 = .ok (.iaload, 1) := by decide +kernel
theorem dX12_openBlock_18 : decode cX12_openBlock 18 = .ok (.imul, 1) := by decide +kernel
theorem dX12_openBlock_19 : decode cX12_openBlock 19 = .ok (.iadd, 1) := by decide +kernel
theorem dX12_openBlock_20 : decode cX12_openBlock 20 = .ok (.istore_n 3, 1) := by decide +kernel
theorem dX12_openBlock_21 : decode cX12_openBlock 21 = .ok (.aload_n 0, 1) := by decide +kernel
theorem dX12_openBlock_22 : decode cX12_openBlock 22 = .ok (.iload_n 3, 1) := by decide +kernel
theorem dX12_openBlock_23 : decode cX12_openBlock 23 = .ok (.iload_n 2, 1) := by decide +kernel
theorem dX12_openBlock_24 : decode cX12_openBlock 24 = .ok (.iastore, 1) := by decide +kernel
theorem dX12_openBlock_25 : decode cX12_openBlock 25 = .ok (.aload_n 0, 1) := by decide +kernel
theorem dX12_openBlock_26 : decode cX12_openBlock 26 = .ok (.iload_n 3, 1) := by decide +kernel
theorem dX12_openBlock_27 : decode cX12_openBlock 27 = .ok (.iconst 1, 1) := by decide +kernel
theorem dX12_openBlock_28 : decode cX12_openBlock 28 = .ok (.iadd, 1) := by decide +kernel
theorem dX12_openBlock_29 : decode cX12_openBlock 29 = .ok (.iconst 0, 1) := by decide +kernel
theorem dX12_openBlock_30 : decode cX12_openBlock 30 = .ok (.iastore, 1) := by decide +kernel
theorem dX12_openBlock_31 : decode cX12_openBlock 31 = .ok (.aload_n 0, 1) := by decide +kernel
theorem dX12_openBlock_32 : decode cX12_openBlock 32 = .ok (.iload_n 3, 1) := by decide +kernel
theorem dX12_openBlock_33 : decode cX12_openBlock 33 = .ok (.iconst 2, 1) := by decide +kernel
theorem dX12_openBlock_34 : decode cX12_openBlock 34 = .ok (.iadd, 1) := by decide +kernel
theorem dX12_openBlock_35 : decode cX12_openBlock 35 = .ok (.aload_n 0, 1) := by decide +kernel
theorem dX12_openBlock_36 : decode cX12_openBlock 36 = .ok (.iload_n 1, 1) := by decide +kernel
theorem dX12_openBlock_37 : decode cX12_openBlock 37 = .ok (.invokestatic 88, 3) := by decide +kernel
theorem dX12_openBlock_40 : decode cX12_openBlock 40 = .ok (.iconst 2, 1) := by decide +kernel
theorem dX12_openBlock_41 : decode cX12_openBlock 41 = .ok (.iadd, 1) := by decide +kernel
theorem dX12_openBlock_42 : decode cX12_openBlock 42 = .ok (.iaload, 1) := by decide +kernel
theorem dX12_openBlock_43 : decode cX12_openBlock 43 = .ok (.iastore, 1) := by decide +kernel
theorem dX12_openBlock_44 : decode cX12_openBlock 44 = .ok (.iconst 0, 1) := by decide +kernel
theorem dX12_openBlock_45 : decode cX12_openBlock 45 = .ok (.istore 4, 2) := by decide +kernel
theorem dX12_openBlock_47 : decode cX12_openBlock 47 = .ok (.iload 4, 2) := by decide +kernel
theorem dX12_openBlock_49 : decode cX12_openBlock 49 = .ok (.bipush 7, 2) := by decide +kernel
theorem dX12_openBlock_51 : decode cX12_openBlock 51 = .ok (.if_icmp .ge 29, 3) := by decide +kernel
theorem dX12_openBlock_54 : decode cX12_openBlock 54 = .ok (.aload_n 0, 1) := by decide +kernel
theorem dX12_openBlock_55 : decode cX12_openBlock 55 = .ok (.iload_n 3, 1) := by decide +kernel
theorem dX12_openBlock_56 : decode cX12_openBlock 56 = .ok (.iconst 3, 1) := by decide +kernel
theorem dX12_openBlock_57 : decode cX12_openBlock 57 = .ok (.iadd, 1) := by decide +kernel
theorem dX12_openBlock_58 : decode cX12_openBlock 58 = .ok (.iload 4, 2) := by decide +kernel
theorem dX12_openBlock_60 : decode cX12_openBlock 60 = .ok (.iadd, 1) := by decide +kernel
theorem dX12_openBlock_61 : decode cX12_openBlock 61 = .ok (.aload_n 0, 1) := by decide +kernel
theorem dX12_openBlock_62 : decode cX12_openBlock 62 = .ok (.iload_n 1, 1) := by decide +kernel
theorem dX12_openBlock_63 : decode cX12_openBlock 63 = .ok (.invokestatic 88, 3) := by decide +kernel
theorem dX12_openBlock_66 : decode cX12_openBlock 66 = .ok (.bipush 9, 2) := by decide +kernel
theorem dX12_openBlock_68 : decode cX12_openBlock 68 = .ok (.iadd, 1) := by decide +kernel
theorem dX12_openBlock_69 : decode cX12_openBlock 69 = .ok (.iload 4, 2) := by decide +kernel
theorem dX12_openBlock_71 : decode cX12_openBlock 71 = .ok (.iadd, 1) := by decide +kernel
theorem dX12_openBlock_72 : decode cX12_openBlock 72 = .ok (.iaload, 1) := by decide +kernel
theorem dX12_openBlock_73 : decode cX12_openBlock 73 = .ok (.iastore, 1) := by decide +kernel
theorem dX12_openBlock_74 : decode cX12_openBlock 74 = .ok (.iinc 4 1, 3) := by decide +kernel
theorem dX12_openBlock_77 : decode cX12_openBlock 77 = .ok (.goto (-30), 3) := by decide +kernel
theorem dX12_openBlock_80 : decode cX12_openBlock 80 = .ok (.aload_n 0, 1) := by decide +kernel
theorem dX12_openBlock_81 : decode cX12_openBlock 81 = .ok (.iload_n 1, 1) := by decide +kernel
theorem dX12_openBlock_82 : decode cX12_openBlock 82 = .ok (.invokestatic 88, 3) := by decide +kernel
theorem dX12_openBlock_85 : decode cX12_openBlock 85 = .ok (.bipush 16, 2) := by decide +kernel
theorem dX12_openBlock_87 : decode cX12_openBlock 87 = .ok (.iadd, 1) := by decide +kernel
theorem dX12_openBlock_88 : decode cX12_openBlock 88 = .ok (.dup2, 1) := by decide +kernel
theorem dX12_openBlock_89 : decode cX12_openBlock 89 = .ok (.iaload, 1) := by decide +kernel
theorem dX12_openBlock_90 : decode cX12_openBlock 90 = .ok (.iconst 1, 1) := by decide +kernel
theorem dX12_openBlock_91 : decode cX12_openBlock 91 = .ok (.iadd, 1) := by decide +kernel
theorem dX12_openBlock_92 : decode cX12_openBlock 92 = .ok (.iastore, 1) := by decide +kernel
theorem dX12_openBlock_93 : decode cX12_openBlock 93 = .ok (.return_, 1) := by decide +kernel
theorem dX12_bringBack_0 : decode cX12_bringBack 0 = .ok (.aload_n 0, 1) := by decide +kernel
theorem dX12_bringBack_1 : decode cX12_bringBack 1 = .ok (.iload_n 1, 1) := by decide +kernel
theorem dX12_bringBack_2 : decode cX12_bringBack 2 = .ok (.invokestatic 88, 3) := by decide +kernel
theorem dX12_bringBack_5 : decode cX12_bringBack 5 = .ok (.iconst 2, 1) := by decide +kernel
theorem dX12_bringBack_6 : decode cX12_bringBack 6 = .ok (.iadd, 1) := by decide +kernel
theorem dX12_bringBack_7 : decode cX12_bringBack 7 = .ok (.aload_n 0, 1) := by decide +kernel
theorem dX12_bringBack_8 : decode cX12_bringBack 8 = .ok (.iload_n 2, 1) := by decide +kernel
theorem dX12_bringBack_9 : decode cX12_bringBack 9 = .ok (.iconst 2, 1) := by decide +kernel
theorem dX12_bringBack_10 : decode cX12_bringBack 10 = .ok (.iadd, 1) := by decide +kernel
theorem dX12_bringBack_11 : decode cX12_bringBack 11 = .ok (.iaload, 1) := by decide +kernel
theorem dX12_bringBack_12 : decode cX12_bringBack 12 = .ok (.iastore, 1) := by decide +kernel
theorem dX12_bringBack_13 : decode cX12_bringBack 13 = .ok (.iconst 0, 1) := by decide +kernel
theorem dX12_bringBack_14 : decode cX12_bringBack 14 = .ok (.istore_n 3, 1) := by decide +kernel
theorem dX12_bringBack_15 : decode cX12_bringBack 15 = .ok (.iload_n 3, 1) := by decide +kernel
theorem dX12_bringBack_16 : decode cX12_bringBack 16 = .ok (.bipush 7, 2) := by decide +kernel
theorem dX12_bringBack_18 : decode cX12_bringBack 18 = .ok (.if_icmp .ge 27, 3) := by decide +kernel
theorem dX12_bringBack_21 : decode cX12_bringBack 21 = .ok (.aload_n 0, 1) := by decide +kernel
theorem dX12_bringBack_22 : decode cX12_bringBack 22 = .ok (.iload_n 1, 1) := by decide +kernel
theorem dX12_bringBack_23 : decode cX12_bringBack 23 = .ok (.invokestatic 88, 3) := by decide +kernel
theorem dX12_bringBack_26 : decode cX12_bringBack 26 = .ok (.bipush 9, 2) := by decide +kernel
theorem dX12_bringBack_28 : decode cX12_bringBack 28 = .ok (.iadd, 1) := by decide +kernel
theorem dX12_bringBack_29 : decode cX12_bringBack 29 = .ok (.iload_n 3, 1) := by decide +kernel
theorem dX12_bringBack_30 : decode cX12_bringBack 30 = .ok (.iadd, 1) := by decide +kernel
theorem dX12_bringBack_31 : decode cX12_bringBack 31 = .ok (.aload_n 0, 1) := by decide +kernel
theorem dX12_bringBack_32 : decode cX12_bringBack 32 = .ok (.iload_n 2, 1) := by decide +kernel
theorem dX12_bringBack_33 : decode cX12_bringBack 33 = .ok (.iconst 3, 1) := by decide +kernel
theorem dX12_bringBack_34 : decode cX12_bringBack 34 = .ok (.iadd, 1) := by decide +kernel
theorem dX12_bringBack_35 : decode cX12_bringBack 35 = .ok (.iload_n 3, 1) := by decide +kernel
theorem dX12_bringBack_36 : decode cX12_bringBack 36 = .ok (.iadd, 1) := by decide +kernel
theorem dX12_bringBack_37 : decode cX12_bringBack 37 = .ok (.iaload, 1) := by decide +kernel
theorem dX12_bringBack_38 : decode cX12_bringBack 38 = .ok (.iastore, 1) := by decide +kernel
theorem dX12_bringBack_39 : decode cX12_bringBack 39 = .ok (.iinc 3 1, 3) := by decide +kernel
theorem dX12_bringBack_42 : decode cX12_bringBack 42 = .ok (.goto (-27), 3) := by decide +kernel
theorem dX12_bringBack_45 : decode cX12_bringBack 45 = .ok (.return_, 1) := by decide +kernel
theorem dX12_retry_0 : decode cX12_retry 0 = .ok (.aload_n 1, 1) := by decide +kernel
theorem dX12_retry_1 : decode cX12_retry 1 = .ok (.iload_n 2, 1) := by decide +kernel
theorem dX12_retry_2 : decode cX12_retry 2 = .ok (.invokestatic 88, 3) := by decide +kernel
theorem dX12_retry_5 : decode cX12_retry 5 = .ok (.bipush 16, 2) := by decide +kernel
theorem dX12_retry_7 : decode cX12_retry 7 = .ok (.iadd, 1) := by decide +kernel
theorem dX12_retry_8 : decode cX12_retry 8 = .ok (.iaload, 1) := by decide +kernel
theorem dX12_retry_9 : decode cX12_retry 9 = .ok (.iconst 1, 1) := by decide +kernel
theorem dX12_retry_10 : decode cX12_retry 10 = .ok (.isub, 1) := by decide +kernel
theorem dX12_retry_11 : decode cX12_retry 11 = .ok (.istore_n 3, 1) := by decide +kernel
theorem dX12_retry_12 : decode cX12_retry 12 = .ok (.iload_n 3, 1) := by decide +kernel
theorem dX12_retry_13 : decode cX12_retry 13 = .ok (.ifCond .lt 103, 3) := by decide +kernel
theorem dX12_retry_16 : decode cX12_retry 16 = .ok (.iload_n 2, 1) := by decide +kernel
theorem dX12_retry_17 : decode cX12_retry 17 = .ok (.invokestatic 88, 3) := by decide +kernel
theorem dX12_retry_20 : decode cX12_retry 20 = .ok (.bipush 17, 2) := by decide +kernel
theorem dX12_retry_22 : decode cX12_retry 22 = .ok (.iadd, 1) := by decide +kernel
theorem dX12_retry_23 : decode cX12_retry 23 = .ok (.bipush 10, 2) := by decide +kernel
theorem dX12_retry_25 : decode cX12_retry 25 = .ok (.iload_n 3, 1) := by decide +kernel
theorem dX12_retry_26 : decode cX12_retry 26 = .ok (.imul, 1) := by decide +kernel
theorem dX12_retry_27 : decode cX12_retry 27 = .ok (.iadd, 1) := by decide +kernel
theorem dX12_retry_28 : decode cX12_retry 28 = .ok (.istore 4, 2) := by decide +kernel
theorem dX12_retry_30 : decode cX12_retry 30 = .ok (.aload_n 0, 1) := by decide +kernel
theorem dX12_retry_31 : decode cX12_retry 31 = .ok (.getfield 20, 3) := by decide +kernel
theorem dX12_retry_34 : decode cX12_retry 34 = .ok (.bipush 60, 2) := by decide +kernel
theorem dX12_retry_36 : decode cX12_retry 36 = .ok (.iload_n 2, 1) := by decide +kernel
theorem dX12_retry_37 : decode cX12_retry 37 = .ok (.imul, 1) := by decide +kernel
theorem dX12_retry_38 : decode cX12_retry 38 = .ok (.aload_n 1, 1) := by decide +kernel
theorem dX12_retry_39 : decode cX12_retry 39 = .ok (.iload 4, 2) := by decide +kernel
theorem dX12_retry_41 : decode cX12_retry 41 = .ok (.iaload, 1) := by decide +kernel
theorem dX12_retry_42 : decode cX12_retry 42 = .ok (.iadd, 1) := by decide +kernel
theorem dX12_retry_43 : decode cX12_retry 43 = .ok (.iaload, 1) := by decide +kernel
theorem dX12_retry_44 : decode cX12_retry 44 = .ok (.bipush 40, 2) := by decide +kernel
theorem dX12_retry_46 : decode cX12_retry 46 = .ok (.if_icmp .ne 64, 3) := by decide +kernel
theorem dX12_retry_49 : decode cX12_retry 49 = .ok (.aload_n 1, 1) := by decide +kernel
theorem dX12_retry_50 : decode cX12_retry 50 = .ok (.iload 4, 2) := by decide +kernel
theorem dX12_retry_52 : decode cX12_retry 52 = .ok (.iconst 1, 1) := by decide +kernel
theorem dX12_retry_53 : decode cX12_retry 53 = .ok (.iadd, 1) := by decide +kernel
theorem dX12_retry_54 : decode cX12_retry 54 = .ok (.iaload, 1) := by decide +kernel
theorem dX12_retry_55 : decode cX12_retry 55 = .ok (.ifCond .ne 55, 3) := by decide +kernel
theorem dX12_retry_58 : decode cX12_retry 58 = .ok (.aload_n 1, 1) := by decide +kernel
theorem dX12_retry_59 : decode cX12_retry 59 = .ok (.iload_n 2, 1) := by decide +kernel
theorem dX12_retry_60 : decode cX12_retry 60 = .ok (.iload 4, 2) := by decide +kernel
theorem dX12_retry_62 : decode cX12_retry 62 = .ok (.invokestatic 122, 3) := by decide +kernel
theorem dX12_retry_65 : decode cX12_retry 65 = .ok (.aload_n 1, 1) := by decide +kernel
theorem dX12_retry_66 : decode cX12_retry 66 = .ok (.iload 4, 2) := by decide +kernel
theorem dX12_retry_68 : decode cX12_retry 68 = .ok (.iconst 1, 1) := by decide +kernel
theorem dX12_retry_69 : decode cX12_retry 69 = .ok (.iadd, 1) := by decide +kernel
theorem dX12_retry_70 : decode cX12_retry 70 = .ok (.iconst 1, 1) := by decide +kernel
theorem dX12_retry_71 : decode cX12_retry 71 = .ok (.iastore, 1) := by decide +kernel
theorem dX12_retry_72 : decode cX12_retry 72 = .ok (.aload_n 1, 1) := by decide +kernel
theorem dX12_retry_73 : decode cX12_retry 73 = .ok (.iload_n 2, 1) := by decide +kernel
theorem dX12_retry_74 : decode cX12_retry 74 = .ok (.invokestatic 88, 3) := by decide +kernel
theorem dX12_retry_77 : decode cX12_retry 77 = .ok (.bipush 16, 2) := by decide +kernel
theorem dX12_retry_79 : decode cX12_retry 79 = .ok (.iadd, 1) := by decide +kernel
theorem dX12_retry_80 : decode cX12_retry 80 = .ok (.iload_n 3, 1) := by decide +kernel
theorem dX12_retry_81 : decode cX12_retry 81 = .ok (.iconst 1, 1) := by decide +kernel
theorem dX12_retry_82 : decode cX12_retry 82 = .ok (.iadd, 1) := by decide +kernel
theorem dX12_retry_83 : decode cX12_retry 83 = .ok (.iastore, 1) := by decide +kernel
theorem dX12_retry_84 : decode cX12_retry 84 = .ok (.aload_n 1, 1) := by decide +kernel
theorem dX12_retry_85 : decode cX12_retry 85 = .ok (.iload_n 2, 1) := by decide +kernel
theorem dX12_retry_86 : decode cX12_retry 86 = .ok (.invokestatic 88, 3) := by decide +kernel
theorem dX12_retry_89 : decode cX12_retry 89 = .ok (.iconst 1, 1) := by decide +kernel
theorem dX12_retry_90 : decode cX12_retry 90 = .ok (.iadd, 1) := by decide +kernel
theorem dX12_retry_91 : decode cX12_retry 91 = .ok (.aload_n 0, 1) := by decide +kernel
theorem dX12_retry_92 : decode cX12_retry 92 = .ok (.getfield 26, 3) := by decide +kernel
theorem dX12_retry_95 : decode cX12_retry 95 = .ok (.bipush 60, 2) := by decide +kernel
theorem dX12_retry_97 : decode cX12_retry 97 = .ok (.iload_n 2, 1) := by decide +kernel
theorem dX12_retry_98 : decode cX12_retry 98 = .ok (.imul, 1) := by decide +kernel
theorem dX12_retry_99 : decode cX12_retry 99 = .ok (.aload_n 1, 1) := by decide +kernel
theorem dX12_retry_100 : decode cX12_retry 100 = .ok (.iload 4, 2) := by decide +kernel
theorem dX12_retry_102 : decode cX12_retry 102 = .ok (.iaload, 1) := by decide +kernel
theorem dX12_retry_103 : decode cX12_retry 103 = .ok (.iadd, 1) := by decide +kernel
theorem dX12_retry_104 : decode cX12_retry 104 = .ok (.iaload, 1) := by decide +kernel
theorem dX12_retry_105 : decode cX12_retry 105 = .ok (.iconst 1, 1) := by decide +kernel
theorem dX12_retry_106 : decode cX12_retry 106 = .ok (.iadd, 1) := by decide +kernel
theorem dX12_retry_107 : decode cX12_retry 107 = .ok (.iastore, 1) := by decide +kernel
theorem dX12_retry_108 : decode cX12_retry 108 = .ok (.iconst 0, 1) := by decide +kernel
theorem dX12_retry_109 : decode cX12_retry 109 = .ok (.ireturn, 1) := by decide +kernel
theorem dX12_retry_110 : decode cX12_retry 110 = .ok (.iinc 3 (-1), 3) := by decide +kernel
theorem dX12_retry_113 : decode cX12_retry 113 = .ok (.goto (-101), 3) := by decide +kernel
theorem dX12_retry_116 : decode cX12_retry 116 = .ok (.aload_n 1, 1) := by decide +kernel
theorem dX12_retry_117 : decode cX12_retry 117 = .ok (.iload_n 2, 1) := by decide +kernel
theorem dX12_retry_118 : decode cX12_retry 118 = .ok (.invokestatic 108, 3) := by decide +kernel
theorem dX12_retry_121 : decode cX12_retry 121 = .ok (.ifCond .ne 9, 3) := by decide +kernel
theorem dX12_retry_124 : decode cX12_retry 124 = .ok (.aload_n 1, 1) := by decide +kernel
theorem dX12_retry_125 : decode cX12_retry 125 = .ok (.iload_n 2, 1) := by decide +kernel
theorem dX12_retry_126 : decode cX12_retry 126 = .ok (.invokestatic 104, 3) := by decide +kernel
theorem dX12_retry_129 : decode cX12_retry 129 = .ok (.ireturn, 1) := by decide +kernel
theorem dX12_retry_130 : decode cX12_retry 130 = .ok (.aload_n 1, 1) := by decide +kernel
theorem dX12_retry_131 : decode cX12_retry 131 = .ok (.iload_n 2, 1) := by decide +kernel
theorem dX12_retry_132 : decode cX12_retry 132 = .ok (.invokestatic 88, 3) := by decide +kernel
theorem dX12_retry_135 : decode cX12_retry 135 = .ok (.iconst 0, 1) := by decide +kernel
theorem dX12_retry_136 : decode cX12_retry 136 = .ok (.iadd, 1) := by decide +kernel
theorem dX12_retry_137 : decode cX12_retry 137 = .ok (.iconst 1, 1) := by decide +kernel
theorem dX12_retry_138 : decode cX12_retry 138 = .ok (.iastore, 1) := by decide +kernel
theorem dX12_retry_139 : decode cX12_retry 139 = .ok (.iconst 3, 1) := by decide +kernel
theorem dX12_retry_140 : decode cX12_retry 140 = .ok (.ireturn, 1) := by decide +kernel
theorem dX12_abandon_0 : decode cX12_abandon 0 = .ok (.aload_n 1, 1) := by decide +kernel
theorem dX12_abandon_1 : decode cX12_abandon 1 = .ok (.iload_n 2, 1) := by decide +kernel
theorem dX12_abandon_2 : decode cX12_abandon 2 = .ok (.invokestatic 88, 3) := by decide +kernel
theorem dX12_abandon_5 : decode cX12_abandon 5 = .ok (.bipush 16, 2) := by decide +kernel
theorem dX12_abandon_7 : decode cX12_abandon 7 = .ok (.iadd, 1) := by decide +kernel
theorem dX12_abandon_8 : decode cX12_abandon 8 = .ok (.iaload, 1) := by decide +kernel
theorem dX12_abandon_9 : decode cX12_abandon 9 = .ok (.iconst 1, 1) := by decide +kernel
theorem dX12_abandon_10 : decode cX12_abandon 10 = .ok (.isub, 1) := by decide +kernel
theorem dX12_abandon_11 : decode cX12_abandon 11 = .ok (.istore_n 3, 1) := by decide +kernel
theorem dX12_abandon_12 : decode cX12_abandon 12 = .ok (.iload_n 3, 1) := by decide +kernel
theorem dX12_abandon_13 : decode cX12_abandon 13 = .ok (.ifCond .lt 85, 3) := by decide +kernel
theorem dX12_abandon_16 : decode cX12_abandon 16 = .ok (.iload_n 2, 1) := by decide +kernel
theorem dX12_abandon_17 : decode cX12_abandon 17 = .ok (.invokestatic 88, 3) := by decide +kernel
theorem dX12_abandon_20 : decode cX12_abandon 20 = .ok (.bipush 17, 2) := by decide +kernel
theorem dX12_abandon_22 : decode cX12_abandon 22 = .ok (.iadd, 1) := by decide +kernel
theorem dX12_abandon_23 : decode cX12_abandon 23 = .ok (.bipush 10, 2) := by decide +kernel
theorem dX12_abandon_25 : decode cX12_abandon 25 = .ok (.iload_n 3, 1) := by decide +kernel
theorem dX12_abandon_26 : decode cX12_abandon 26 = .ok (.imul, 1) := by decide +kernel
theorem dX12_abandon_27 : decode cX12_abandon 27 = .ok (.iadd, 1) := by decide +kernel
theorem dX12_abandon_28 : decode cX12_abandon 28 = .ok (.istore 4, 2) := by decide +kernel
theorem dX12_abandon_30 : decode cX12_abandon 30 = .ok (.aload_n 0, 1) := by decide +kernel
theorem dX12_abandon_31 : decode cX12_abandon 31 = .ok (.getfield 20, 3) := by decide +kernel
theorem dX12_abandon_34 : decode cX12_abandon 34 = .ok (.bipush 60, 2) := by decide +kernel
theorem dX12_abandon_36 : decode cX12_abandon 36 = .ok (.iload_n 2, 1) := by decide +kernel
theorem dX12_abandon_37 : decode cX12_abandon 37 = .ok (.imul, 1) := by decide +kernel
theorem dX12_abandon_38 : decode cX12_abandon 38 = .ok (.aload_n 1, 1) := by decide +kernel
theorem dX12_abandon_39 : decode cX12_abandon 39 = .ok (.iload 4, 2) := by decide +kernel
theorem dX12_abandon_41 : decode cX12_abandon 41 = .ok (.iaload, 1) := by decide +kernel
theorem dX12_abandon_42 : decode cX12_abandon 42 = .ok (.iadd, 1) := by decide +kernel
theorem dX12_abandon_43 : decode cX12_abandon 43 = .ok (.iaload, 1) := by decide +kernel
theorem dX12_abandon_44 : decode cX12_abandon 44 = .ok (.bipush 123, 2) := by decide +kernel
theorem dX12_abandon_46 : decode cX12_abandon 46 = .ok (.if_icmp .ne 46, 3) := by decide +kernel
theorem dX12_abandon_49 : decode cX12_abandon 49 = .ok (.aload_n 1, 1) := by decide +kernel
theorem dX12_abandon_50 : decode cX12_abandon 50 = .ok (.iload_n 2, 1) := by decide +kernel
theorem dX12_abandon_51 : decode cX12_abandon 51 = .ok (.iload 4, 2) := by decide +kernel
theorem dX12_abandon_53 : decode cX12_abandon 53 = .ok (.invokestatic 122, 3) := by decide +kernel
theorem dX12_abandon_56 : decode cX12_abandon 56 = .ok (.aload_n 1, 1) := by decide +kernel
theorem dX12_abandon_57 : decode cX12_abandon 57 = .ok (.iload_n 2, 1) := by decide +kernel
theorem dX12_abandon_58 : decode cX12_abandon 58 = .ok (.invokestatic 88, 3) := by decide +kernel
theorem dX12_abandon_61 : decode cX12_abandon 61 = .ok (.bipush 16, 2) := by decide +kernel
theorem dX12_abandon_63 : decode cX12_abandon 63 = .ok (.iadd, 1) := by decide +kernel
theorem dX12_abandon_64 : decode cX12_abandon 64 = .ok (.iload_n 3, 1) := by decide +kernel
theorem dX12_abandon_65 : decode cX12_abandon 65 = .ok (.iastore, 1) := by decide +kernel
theorem dX12_abandon_66 : decode cX12_abandon 66 = .ok (.aload_n 1, 1) := by decide +kernel
theorem dX12_abandon_67 : decode cX12_abandon 67 = .ok (.iload_n 2, 1) := by decide +kernel
theorem dX12_abandon_68 : decode cX12_abandon 68 = .ok (.invokestatic 88, 3) := by decide +kernel
theorem dX12_abandon_71 : decode cX12_abandon 71 = .ok (.iconst 1, 1) := by decide +kernel
theorem dX12_abandon_72 : decode cX12_abandon 72 = .ok (.iadd, 1) := by decide +kernel
theorem dX12_abandon_73 : decode cX12_abandon 73 = .ok (.aload_n 0, 1) := by decide +kernel
theorem dX12_abandon_74 : decode cX12_abandon 74 = .ok (.getfield 29, 3) := by decide +kernel
theorem dX12_abandon_77 : decode cX12_abandon 77 = .ok (.bipush 60, 2) := by decide +kernel
theorem dX12_abandon_79 : decode cX12_abandon 79 = .ok (.iload_n 2, 1) := by decide +kernel
theorem dX12_abandon_80 : decode cX12_abandon 80 = .ok (.imul, 1) := by decide +kernel
theorem dX12_abandon_81 : decode cX12_abandon 81 = .ok (.aload_n 1, 1) := by decide +kernel
theorem dX12_abandon_82 : decode cX12_abandon 82 = .ok (.iload 4, 2) := by decide +kernel
theorem dX12_abandon_84 : decode cX12_abandon 84 = .ok (.iaload, 1) := by decide +kernel
theorem dX12_abandon_85 : decode cX12_abandon 85 = .ok (.iadd, 1) := by decide +kernel
theorem dX12_abandon_86 : decode cX12_abandon 86 = .ok (.iaload, 1) := by decide +kernel
theorem dX12_abandon_87 : decode cX12_abandon 87 = .ok (.iconst 1, 1) := by decide +kernel
theorem dX12_abandon_88 : decode cX12_abandon 88 = .ok (.iadd, 1) := by decide +kernel
theorem dX12_abandon_89 : decode cX12_abandon 89 = .ok (.iastore, 1) := by decide +kernel
theorem dX12_abandon_90 : decode cX12_abandon 90 = .ok (.iconst 0, 1) := by decide +kernel
theorem dX12_abandon_91 : decode cX12_abandon 91 = .ok (.ireturn, 1) := by decide +kernel
theorem dX12_abandon_92 : decode cX12_abandon 92 = .ok (.iinc 3 (-1), 3) := by decide +kernel
theorem dX12_abandon_95 : decode cX12_abandon 95 = .ok (.goto (-83), 3) := by decide +kernel
theorem dX12_abandon_98 : decode cX12_abandon 98 = .ok (.aload_n 1, 1) := by decide +kernel
theorem dX12_abandon_99 : decode cX12_abandon 99 = .ok (.iload_n 2, 1) := by decide +kernel
theorem dX12_abandon_100 : decode cX12_abandon 100 = .ok (.iconst 3, 1) := by decide +kernel
theorem dX12_abandon_101 : decode cX12_abandon 101 = .ok (.invokestatic 96, 3) := by decide +kernel
theorem dX12_abandon_104 : decode cX12_abandon 104 = .ok (.iconst 4, 1) := by decide +kernel
theorem dX12_abandon_105 : decode cX12_abandon 105 = .ok (.ireturn, 1) := by decide +kernel
theorem dX12_readCell_0 : decode cX12_readCell 0 = .ok (.aload_n 0, 1) := by decide +kernel
theorem dX12_readCell_1 : decode cX12_readCell 1 = .ok (.iload_n 1, 1) := by decide +kernel
theorem dX12_readCell_2 : decode cX12_readCell 2 = .ok (.invokestatic 88, 3) := by decide +kernel
theorem dX12_readCell_5 : decode cX12_readCell 5 = .ok (.iconst 2, 1) := by decide +kernel
theorem dX12_readCell_6 : decode cX12_readCell 6 = .ok (.iadd, 1) := by decide +kernel
theorem dX12_readCell_7 : decode cX12_readCell 7 = .ok (.aload_n 0, 1) := by decide +kernel
theorem dX12_readCell_8 : decode cX12_readCell 8 = .ok (.iload_n 1, 1) := by decide +kernel
theorem dX12_readCell_9 : decode cX12_readCell 9 = .ok (.iload_n 2, 1) := by decide +kernel
theorem dX12_readCell_10 : decode cX12_readCell 10 = .ok (.invokestatic 112, 3) := by decide +kernel
theorem dX12_readCell_13 : decode cX12_readCell 13 = .ok (.iastore, 1) := by decide +kernel
theorem dX12_readCell_14 : decode cX12_readCell 14 = .ok (.aload_n 0, 1) := by decide +kernel
theorem dX12_readCell_15 : decode cX12_readCell 15 = .ok (.iload_n 1, 1) := by decide +kernel
theorem dX12_readCell_16 : decode cX12_readCell 16 = .ok (.invokestatic 88, 3) := by decide +kernel
theorem dX12_readCell_19 : decode cX12_readCell 19 = .ok (.bipush 9, 2) := by decide +kernel
theorem dX12_readCell_21 : decode cX12_readCell 21 = .ok (.iadd, 1) := by decide +kernel
theorem dX12_readCell_22 : decode cX12_readCell 22 = .ok (.iaload, 1) := by decide +kernel
theorem dX12_readCell_23 : decode cX12_readCell 23 = .ok (.iload_n 2, 1) := by decide +kernel
theorem dX12_readCell_24 : decode cX12_readCell 24 = .ok (.invokestatic 100, 3) := by decide +kernel
theorem dX12_readCell_27 : decode cX12_readCell 27 = .ok (.ifCond .ne 34, 3) := by decide +kernel
theorem dX12_readCell_30 : decode cX12_readCell 30 = .ok (.aload_n 0, 1) := by decide +kernel
theorem dX12_readCell_31 : decode cX12_readCell 31 = .ok (.iload_n 1, 1) := by decide +kernel
theorem dX12_readCell_32 : decode cX12_readCell 32 = .ok (.invokestatic 88, 3) := by decide +kernel
theorem dX12_readCell_35 : decode cX12_readCell 35 = .ok (.iconst 3, 1) := by decide +kernel
theorem dX12_readCell_36 : decode cX12_readCell 36 = .ok (.iadd, 1) := by decide +kernel
theorem dX12_readCell_37 : decode cX12_readCell 37 = .ok (.iload_n 2, 1) := by decide +kernel
theorem dX12_readCell_38 : decode cX12_readCell 38 = .ok (.iadd, 1) := by decide +kernel
theorem dX12_readCell_39 : decode cX12_readCell 39 = .ok (.iaload, 1) := by decide +kernel
theorem dX12_readCell_40 : decode cX12_readCell 40 = .ok (.ifCond .ne 21, 3) := by decide +kernel
theorem dX12_readCell_43 : decode cX12_readCell 43 = .ok (.aload_n 0, 1) := by decide +kernel
theorem dX12_readCell_44 : decode cX12_readCell 44 = .ok (.iload_n 1, 1) := by decide +kernel
theorem dX12_readCell_45 : decode cX12_readCell 45 = .ok (.invokestatic 88, 3) := by decide +kernel
theorem dX12_readCell_48 : decode cX12_readCell 48 = .ok (.iconst 3, 1) := by decide +kernel
theorem dX12_readCell_49 : decode cX12_readCell 49 = .ok (.iadd, 1) := by decide +kernel
theorem dX12_readCell_50 : decode cX12_readCell 50 = .ok (.iload_n 2, 1) := by decide +kernel
theorem dX12_readCell_51 : decode cX12_readCell 51 = .ok (.iadd, 1) := by decide +kernel
theorem dX12_readCell_52 : decode cX12_readCell 52 = .ok (.aload_n 0, 1) := by decide +kernel
theorem dX12_readCell_53 : decode cX12_readCell 53 = .ok (.bipush 6, 2) := by decide +kernel
theorem dX12_readCell_55 : decode cX12_readCell 55 = .ok (.iload_n 2, 1) := by decide +kernel
theorem dX12_readCell_56 : decode cX12_readCell 56 = .ok (.iadd, 1) := by decide +kernel
theorem dX12_readCell_57 : decode cX12_readCell 57 = .ok (.iaload, 1) := by decide +kernel
theorem dX12_readCell_58 : decode cX12_readCell 58 = .ok (.iconst 1, 1) := by decide +kernel
theorem dX12_readCell_59 : decode cX12_readCell 59 = .ok (.iadd, 1) := by decide +kernel
theorem dX12_readCell_60 : decode cX12_readCell 60 = .ok (.iastore, 1) := by decide +kernel
theorem dX12_readCell_61 : decode cX12_readCell 61 = .ok (.return_, 1) := by decide +kernel
theorem dX12_token_0 : decode cX12_token 0 = .ok (.bipush 60, 2) := by decide +kernel
theorem dX12_token_2 : decode cX12_token 2 = .ok (.iload_n 2, 1) := by decide +kernel
theorem dX12_token_3 : decode cX12_token 3 = .ok (.imul, 1) := by decide +kernel
theorem dX12_token_4 : decode cX12_token 4 = .ok (.aload_n 1, 1) := by decide +kernel
theorem dX12_token_5 : decode cX12_token 5 = .ok (.iload_n 2, 1) := by decide +kernel
theorem dX12_token_6 : decode cX12_token 6 = .ok (.invokestatic 88, 3) := by decide +kernel
theorem dX12_token_9 : decode cX12_token 9 = .ok (.iconst 1, 1) := by decide +kernel
theorem dX12_token_10 : decode cX12_token 10 = .ok (.iadd, 1) := by decide +kernel
theorem dX12_token_11 : decode cX12_token 11 = .ok (.iaload, 1) := by decide +kernel
theorem dX12_token_12 : decode cX12_token 12 = .ok (.iadd, 1) := by decide +kernel
theorem dX12_token_13 : decode cX12_token 13 = .ok (.istore_n 3, 1) := by decide +kernel
theorem dX12_token_14 : decode cX12_token 14 = .ok (.aload_n 0, 1) := by decide +kernel
theorem dX12_token_15 : decode cX12_token 15 = .ok (.getfield 23, 3) := by decide +kernel
theorem dX12_token_18 : decode cX12_token 18 = .ok (.iload_n 3, 1) := by decide +kernel
theorem dX12_token_19 : decode cX12_token 19 = .ok (.iaload, 1) := by decide +kernel
theorem dX12_token_20 : decode cX12_token 20 = .ok (.istore 4, 2) := by decide +kernel
theorem dX12_token_22 : decode cX12_token 22 = .ok (.aload_n 0, 1) := by decide +kernel
theorem dX12_token_23 : decode cX12_token 23 = .ok (.getfield 20, 3) := by decide +kernel
theorem dX12_token_26 : decode cX12_token 26 = .ok (.iload_n 3, 1) := by decide +kernel
theorem dX12_token_27 : decode cX12_token 27 = .ok (.iaload, 1) := by decide +kernel
theorem dX12_token_28 : decode cX12_token 28 = .ok (.bipush 33, 2) := by decide +kernel
theorem dX12_token_30 : decode cX12_token 30 = .ok (.if_icmp .eq 27, 3) := by decide +kernel
theorem dX12_token_33 : decode cX12_token 33 = .ok (.aload_n 0, 1) := by decide +kernel
theorem dX12_token_34 : decode cX12_token 34 = .ok (.getfield 20, 3) := by decide +kernel
theorem dX12_token_37 : decode cX12_token 37 = .ok (.iload_n 3, 1) := by decide +kernel
theorem dX12_token_38 : decode cX12_token 38 = .ok (.iaload, 1) := by decide +kernel
theorem dX12_token_39 : decode cX12_token 39 = .ok (.bipush 63, 2) := by decide +kernel
theorem dX12_token_41 : decode cX12_token 41 = .ok (.if_icmp .ne 20, 3) := by decide +kernel
theorem dX12_token_44 : decode cX12_token 44 = .ok (.aload_n 1, 1) := by decide +kernel
theorem dX12_token_45 : decode cX12_token 45 = .ok (.iload_n 2, 1) := by decide +kernel
theorem dX12_token_46 : decode cX12_token 46 = .ok (.invokestatic 88, 3) := by decide +kernel
theorem dX12_token_49 : decode cX12_token 49 = .ok (.iconst 2, 1) := by decide +kernel
theorem dX12_token_50 : decode cX12_token 50 = .ok (.iadd, 1) := by decide +kernel
theorem dX12_token_51 : decode cX12_token 51 = .ok (.iaload, 1) := by decide +kernel
theorem dX12_token_52 : decode cX12_token 52 = .ok (.iload 4, 2) := by decide +kernel
theorem dX12_token_54 : decode cX12_token 54 = .ok (.if_icmp .ge 7, 3) := by decide +kernel
theorem dX12_token_57 : decode cX12_token 57 = .ok (.iconst 1, 1) := by decide +kernel
theorem dX12_token_58 : decode cX12_token 58 = .ok (.goto 4, 3) := by decide +kernel
theorem dX12_token_61 : decode cX12_token 61 = .ok (.iconst 0, 1) := by decide +kernel
theorem dX12_token_62 : decode cX12_token 62 = .ok (.istore 5, 2) := by decide +kernel
theorem dX12_token_64 : decode cX12_token 64 = .ok (.iload 5, 2) := by decide +kernel
theorem dX12_token_66 : decode cX12_token 66 = .ok (.ifCond .eq 10, 3) := by decide +kernel
theorem dX12_token_69 : decode cX12_token 69 = .ok (.aload_n 0, 1) := by decide +kernel
theorem dX12_token_70 : decode cX12_token 70 = .ok (.aload_n 1, 1) := by decide +kernel
theorem dX12_token_71 : decode cX12_token 71 = .ok (.iload_n 2, 1) := by decide +kernel
theorem dX12_token_72 : decode cX12_token 72 = .ok (.invokevirtual 125, 3) := by decide +kernel
theorem dX12_token_75 : decode cX12_token 75 = .ok (.ireturn, 1) := by decide +kernel
theorem dX12_token_76 : decode cX12_token 76 = .ok (.aload_n 0, 1) := by decide +kernel
theorem dX12_token_77 : decode cX12_token 77 = .ok (.getfield 20, 3) := by decide +kernel
theorem dX12_token_80 : decode cX12_token 80 = .ok (.iload_n 3, 1) := by decide +kernel
theorem dX12_token_81 : decode cX12_token 81 = .ok (.iaload, 1) := by decide +kernel
theorem dX12_token_82 : decode cX12_token 82 = .ok (.bipush 120, 2) := by decide +kernel
theorem dX12_token_84 : decode cX12_token 84 = .ok (.if_icmp .ne 10, 3) := by decide +kernel
theorem dX12_token_87 : decode cX12_token 87 = .ok (.aload_n 0, 1) := by decide +kernel
theorem dX12_token_88 : decode cX12_token 88 = .ok (.aload_n 1, 1) := by decide +kernel
theorem dX12_token_89 : decode cX12_token 89 = .ok (.iload_n 2, 1) := by decide +kernel
theorem dX12_token_90 : decode cX12_token 90 = .ok (.invokevirtual 128, 3) := by decide +kernel
theorem dX12_token_93 : decode cX12_token 93 = .ok (.ireturn, 1) := by decide +kernel
theorem dX12_token_94 : decode cX12_token 94 = .ok (.aload_n 1, 1) := by decide +kernel
theorem dX12_token_95 : decode cX12_token 95 = .ok (.iload_n 2, 1) := by decide +kernel
theorem dX12_token_96 : decode cX12_token 96 = .ok (.invokestatic 88, 3) := by decide +kernel
theorem dX12_token_99 : decode cX12_token 99 = .ok (.iconst 1, 1) := by decide +kernel
theorem dX12_token_100 : decode cX12_token 100 = .ok (.iadd, 1) := by decide +kernel
theorem dX12_token_101 : decode cX12_token 101 = .ok (.dup2, 1) := by decide +kernel
theorem dX12_token_102 : decode cX12_token 102 = .ok (.iaload, 1) := by decide +kernel
theorem dX12_token_103 : decode cX12_token 103 = .ok (.iconst 1, 1) := by decide +kernel
theorem dX12_token_104 : decode cX12_token 104 = .ok (.iadd, 1) := by decide +kernel
theorem dX12_token_105 : decode cX12_token 105 = .ok (.iastore, 1) := by decide +kernel
theorem dX12_token_106 : decode cX12_token 106 = .ok (.aload_n 0, 1) := by decide +kernel
theorem dX12_token_107 : decode cX12_token 107 = .ok (.getfield 20, 3) := by decide +kernel
theorem dX12_token_110 : decode cX12_token 110 = .ok (.iload_n 3, 1) := by decide +kernel
theorem dX12_token_111 : decode cX12_token 111 = .ok (.iaload, 1) := by decide +kernel
theorem dX12_token_112 : decode cX12_token 112 = .ok (.lookupswitch 245 #[(40, 183), (41, 197), (43, 133), (45, 158), (114, 84), (119, 94), (123, 183), (124, 213), (125, 197)], 84) := by decide +kernel
theorem dX12_token_196 : decode cX12_token 196 = .ok (.aload_n 1, 1) := by decide +kernel
theorem dX12_token_197 : decode cX12_token 197 = .ok (.iload_n 2, 1) := by decide +kernel
theorem dX12_token_198 : decode cX12_token 198 = .ok (.iload 4, 2) := by decide +kernel
theorem dX12_token_200 : decode cX12_token 200 = .ok (.invokestatic 131, 3) := by decide +kernel
theorem dX12_token_203 : decode cX12_token 203 = .ok (.goto 154, 3) := by decide +kernel
theorem dX12_token_206 : decode cX12_token 206 = .ok (.aload_n 1, 1) := by decide +kernel
theorem dX12_token_207 : decode cX12_token 207 = .ok (.iload_n 2, 1) := by decide +kernel
theorem dX12_token_208 : decode cX12_token 208 = .ok (.invokestatic 88, 3) := by decide +kernel
theorem dX12_token_211 : decode cX12_token 211 = .ok (.bipush 9, 2) := by decide +kernel
theorem dX12_token_213 : decode cX12_token 213 = .ok (.iadd, 1) := by decide +kernel
theorem dX12_token_214 : decode cX12_token 214 = .ok (.dup2, 1) := by decide +kernel
theorem dX12_token_215 : decode cX12_token 215 = .ok (.iaload, 1) := by decide +kernel
theorem dX12_token_216 : decode cX12_token 216 = .ok (.iconst 1, 1) := by decide +kernel
theorem dX12_token_217 : decode cX12_token 217 = .ok (.iload 4, 2) := by decide +kernel
theorem dX12_token_219 : decode cX12_token 219 = .ok (.ishl, 1) := by decide +kernel
theorem dX12_token_220 : decode cX12_token 220 = .ok (.ior, 1) := by decide +kernel
theorem dX12_token_221 : decode cX12_token 221 = .ok (.iastore, 1) := by decide +kernel
theorem dX12_token_222 : decode cX12_token 222 = .ok (.aload_n 1, 1) := by decide +kernel
theorem dX12_token_223 : decode cX12_token 223 = .ok (.iload_n 2, 1) := by decide +kernel
theorem dX12_token_224 : decode cX12_token 224 = .ok (.invokestatic 88, 3) := by decide +kernel
theorem dX12_token_227 : decode cX12_token 227 = .ok (.bipush 10, 2) := by decide +kernel
theorem dX12_token_229 : decode cX12_token 229 = .ok (.iadd, 1) := by decide +kernel
theorem dX12_token_230 : decode cX12_token 230 = .ok (.iload 4, 2) := by decide +kernel
theorem dX12_token_232 : decode cX12_token 232 = .ok (.iadd, 1) := by decide +kernel
theorem dX12_token_233 : decode cX12_token 233 = .ok (.aload_n 1, 1) := by decide +kernel
theorem dX12_token_234 : decode cX12_token 234 = .ok (.iload_n 2, 1) := by decide +kernel
theorem dX12_token_235 : decode cX12_token 235 = .ok (.invokestatic 88, 3) := by decide +kernel
theorem dX12_token_238 : decode cX12_token 238 = .ok (.iconst 2, 1) := by decide +kernel
theorem dX12_token_239 : decode cX12_token 239 = .ok (.iadd, 1) := by decide +kernel
theorem dX12_token_240 : decode cX12_token 240 = .ok (.iaload, 1) := by decide +kernel
theorem dX12_token_241 : decode cX12_token 241 = .ok (.iastore, 1) := by decide +kernel
theorem dX12_token_242 : decode cX12_token 242 = .ok (.goto 115, 3) := by decide +kernel
theorem dX12_token_245 : decode cX12_token 245 = .ok (.aload_n 1, 1) := by decide +kernel
theorem dX12_token_246 : decode cX12_token 246 = .ok (.iload_n 2, 1) := by decide +kernel
theorem dX12_token_247 : decode cX12_token 247 = .ok (.invokestatic 88, 3) := by decide +kernel
theorem dX12_token_250 : decode cX12_token 250 = .ok (.iconst 2, 1) := by decide +kernel
theorem dX12_token_251 : decode cX12_token 251 = .ok (.iadd, 1) := by decide +kernel
theorem dX12_token_252 : decode cX12_token 252 = .ok (.aload_n 1, 1) := by decide +kernel
theorem dX12_token_253 : decode cX12_token 253 = .ok (.iload_n 2, 1) := by decide +kernel
theorem dX12_token_254 : decode cX12_token 254 = .ok (.invokestatic 88, 3) := by decide +kernel
theorem dX12_token_257 : decode cX12_token 257 = .ok (.iconst 2, 1) := by decide +kernel
theorem dX12_token_258 : decode cX12_token 258 = .ok (.iadd, 1) := by decide +kernel
theorem dX12_token_259 : decode cX12_token 259 = .ok (.iaload, 1) := by decide +kernel
theorem dX12_token_260 : decode cX12_token 260 = .ok (.iload 4, 2) := by decide +kernel
theorem dX12_token_262 : decode cX12_token 262 = .ok (.iadd, 1) := by decide +kernel
theorem dX12_token_263 : decode cX12_token 263 = .ok (.invokestatic 134, 3) := by decide +kernel
theorem dX12_token_266 : decode cX12_token 266 = .ok (.iastore, 1) := by decide +kernel
theorem dX12_token_267 : decode cX12_token 267 = .ok (.goto 90, 3) := by decide +kernel
theorem dX12_token_270 : decode cX12_token 270 = .ok (.aload_n 1, 1) := by decide +kernel
theorem dX12_token_271 : decode cX12_token 271 = .ok (.iload_n 2, 1) := by decide +kernel
theorem dX12_token_272 : decode cX12_token 272 = .ok (.invokestatic 88, 3) := by decide +kernel
theorem dX12_token_275 : decode cX12_token 275 = .ok (.iconst 2, 1) := by decide +kernel
theorem dX12_token_276 : decode cX12_token 276 = .ok (.iadd, 1) := by decide +kernel
theorem dX12_token_277 : decode cX12_token 277 = .ok (.aload_n 1, 1) := by decide +kernel
theorem dX12_token_278 : decode cX12_token 278 = .ok (.iload_n 2, 1) := by decide +kernel
theorem dX12_token_279 : decode cX12_token 279 = .ok (.invokestatic 88, 3) := by decide +kernel
theorem dX12_token_282 : decode cX12_token 282 = .ok (.iconst 2, 1) := by decide +kernel
theorem dX12_token_283 : decode cX12_token 283 = .ok (.iadd, 1) := by decide +kernel
theorem dX12_token_284 : decode cX12_token 284 = .ok (.iaload, 1) := by decide +kernel
theorem dX12_token_285 : decode cX12_token 285 = .ok (.iload 4, 2) := by decide +kernel
theorem dX12_token_287 : decode cX12_token 287 = .ok (.isub, 1) := by decide +kernel
theorem dX12_token_288 : decode cX12_token 288 = .ok (.invokestatic 134, 3) := by decide +kernel
theorem dX12_token_291 : decode cX12_token 291 = .ok (.iastore, 1) := by decide +kernel
theorem dX12_token_292 : decode cX12_token 292 = .ok (.goto 65, 3) := by decide +kernel
theorem dX12_token_295 : decode cX12_token 295 = .ok (.aload_n 1, 1) := by decide +kernel
theorem dX12_token_296 : decode cX12_token 296 = .ok (.iload_n 2, 1) := by decide +kernel
theorem dX12_token_297 : decode cX12_token 297 = .ok (.iload_n 3, 1) := by decide +kernel
theorem dX12_token_298 : decode cX12_token 298 = .ok (.bipush 60, 2) := by decide +kernel
theorem dX12_token_300 : decode cX12_token 300 = .ok (.iload_n 2, 1) := by decide +kernel
theorem dX12_token_301 : decode cX12_token 301 = .ok (.imul, 1) := by decide +kernel
theorem dX12_token_302 : decode cX12_token 302 = .ok (.isub, 1) := by decide +kernel
theorem dX12_token_303 : decode cX12_token 303 = .ok (.invokestatic 137, 3) := by decide +kernel
theorem dX12_token_306 : decode cX12_token 306 = .ok (.goto 51, 3) := by decide +kernel
theorem dX12_token_309 : decode cX12_token 309 = .ok (.aload_n 1, 1) := by decide +kernel
theorem dX12_token_310 : decode cX12_token 310 = .ok (.iload_n 2, 1) := by decide +kernel
theorem dX12_token_311 : decode cX12_token 311 = .ok (.invokestatic 88, 3) := by decide +kernel
theorem dX12_token_314 : decode cX12_token 314 = .ok (.bipush 16, 2) := by decide +kernel
theorem dX12_token_316 : decode cX12_token 316 = .ok (.iadd, 1) := by decide +kernel
theorem dX12_token_317 : decode cX12_token 317 = .ok (.dup2, 1) := by decide +kernel
theorem dX12_token_318 : decode cX12_token 318 = .ok (.iaload, 1) := by decide +kernel
theorem dX12_token_319 : decode cX12_token 319 = .ok (.iconst 1, 1) := by decide +kernel
theorem dX12_token_320 : decode cX12_token 320 = .ok (.isub, 1) := by decide +kernel
theorem dX12_token_321 : decode cX12_token 321 = .ok (.iastore, 1) := by decide +kernel
theorem dX12_token_322 : decode cX12_token 322 = .ok (.goto 35, 3) := by decide +kernel
theorem dX12_token_325 : decode cX12_token 325 = .ok (.aload_n 1, 1) := by decide +kernel
theorem dX12_token_326 : decode cX12_token 326 = .ok (.iload_n 2, 1) := by decide +kernel
theorem dX12_token_327 : decode cX12_token 327 = .ok (.invokestatic 88, 3) := by decide +kernel
theorem dX12_token_330 : decode cX12_token 330 = .ok (.bipush 16, 2) := by decide +kernel
theorem dX12_token_332 : decode cX12_token 332 = .ok (.iadd, 1) := by decide +kernel
theorem dX12_token_333 : decode cX12_token 333 = .ok (.dup2, 1) := by decide +kernel
theorem dX12_token_334 : decode cX12_token 334 = .ok (.iaload, 1) := by decide +kernel
theorem dX12_token_335 : decode cX12_token 335 = .ok (.iconst 1, 1) := by decide +kernel
theorem dX12_token_336 : decode cX12_token 336 = .ok (.isub, 1) := by decide +kernel
theorem dX12_token_337 : decode cX12_token 337 = .ok (.iastore, 1) := by decide +kernel
theorem dX12_token_338 : decode cX12_token 338 = .ok (.aload_n 1, 1) := by decide +kernel
theorem dX12_token_339 : decode cX12_token 339 = .ok (.iload_n 2, 1) := by decide +kernel
theorem dX12_token_340 : decode cX12_token 340 = .ok (.invokestatic 88, 3) := by decide +kernel
theorem dX12_token_343 : decode cX12_token 343 = .ok (.iconst 1, 1) := by decide +kernel
theorem dX12_token_344 : decode cX12_token 344 = .ok (.iadd, 1) := by decide +kernel
theorem dX12_token_345 : decode cX12_token 345 = .ok (.aload_n 0, 1) := by decide +kernel
theorem dX12_token_346 : decode cX12_token 346 = .ok (.getfield 29, 3) := by decide +kernel
theorem dX12_token_349 : decode cX12_token 349 = .ok (.iload_n 3, 1) := by decide +kernel
theorem dX12_token_350 : decode cX12_token 350 = .ok (.iaload, 1) := by decide +kernel
theorem dX12_token_351 : decode cX12_token 351 = .ok (.iconst 1, 1) := by decide +kernel
theorem dX12_token_352 : decode cX12_token 352 = .ok (.iadd, 1) := by decide +kernel
theorem dX12_token_353 : decode cX12_token 353 = .ok (.iastore, 1) := by decide +kernel
theorem dX12_token_354 : decode cX12_token 354 = .ok (.goto 3, 3) := by decide +kernel
theorem dX12_token_357 : decode cX12_token 357 = .ok (.iconst 0, 1) := by decide +kernel
theorem dX12_token_358 : decode cX12_token 358 = .ok (.ireturn, 1) := by decide +kernel
theorem dX12_stepOn_0 : decode cX12_stepOn 0 = .ok (.aload_n 0, 1) := by decide +kernel
theorem dX12_stepOn_1 : decode cX12_stepOn 1 = .ok (.getfield 17, 3) := by decide +kernel
theorem dX12_stepOn_4 : decode cX12_stepOn 4 = .ok (.iload_n 2, 1) := by decide +kernel
theorem dX12_stepOn_5 : decode cX12_stepOn 5 = .ok (.iaload, 1) := by decide +kernel
theorem dX12_stepOn_6 : decode cX12_stepOn 6 = .ok (.ifCond .ne 7, 3) := by decide +kernel
theorem dX12_stepOn_9 : decode cX12_stepOn 9 = .ok (.iconst 0, 1) := by decide +kernel
theorem dX12_stepOn_10 : decode cX12_stepOn 10 = .ok (.goto 9, 3) := by decide +kernel
theorem dX12_stepOn_13 : decode cX12_stepOn 13 = .ok (.aload_n 0, 1) := by decide +kernel
theorem dX12_stepOn_14 : decode cX12_stepOn 14 = .ok (.aload_n 1, 1) := by decide +kernel
theorem dX12_stepOn_15 : decode cX12_stepOn 15 = .ok (.iload_n 2, 1) := by decide +kernel
theorem dX12_stepOn_16 : decode cX12_stepOn 16 = .ok (.invokevirtual 140, 3) := by decide +kernel
theorem dX12_stepOn_19 : decode cX12_stepOn 19 = .ok (.istore_n 3, 1) := by decide +kernel
theorem dX12_stepOn_20 : decode cX12_stepOn 20 = .ok (.iload_n 3, 1) := by decide +kernel
theorem dX12_stepOn_21 : decode cX12_stepOn 21 = .ok (.ifCond .ne 29, 3) := by decide +kernel
theorem dX12_stepOn_24 : decode cX12_stepOn 24 = .ok (.aload_n 1, 1) := by decide +kernel
theorem dX12_stepOn_25 : decode cX12_stepOn 25 = .ok (.iload_n 2, 1) := by decide +kernel
theorem dX12_stepOn_26 : decode cX12_stepOn 26 = .ok (.invokestatic 88, 3) := by decide +kernel
theorem dX12_stepOn_29 : decode cX12_stepOn 29 = .ok (.iconst 1, 1) := by decide +kernel
theorem dX12_stepOn_30 : decode cX12_stepOn 30 = .ok (.iadd, 1) := by decide +kernel
theorem dX12_stepOn_31 : decode cX12_stepOn 31 = .ok (.iaload, 1) := by decide +kernel
theorem dX12_stepOn_32 : decode cX12_stepOn 32 = .ok (.aload_n 0, 1) := by decide +kernel
theorem dX12_stepOn_33 : decode cX12_stepOn 33 = .ok (.getfield 17, 3) := by decide +kernel
theorem dX12_stepOn_36 : decode cX12_stepOn 36 = .ok (.iload_n 2, 1) := by decide +kernel
theorem dX12_stepOn_37 : decode cX12_stepOn 37 = .ok (.iaload, 1) := by decide +kernel
theorem dX12_stepOn_38 : decode cX12_stepOn 38 = .ok (.if_icmp .ne 12, 3) := by decide +kernel
theorem dX12_stepOn_41 : decode cX12_stepOn 41 = .ok (.aload_n 0, 1) := by decide +kernel
theorem dX12_stepOn_42 : decode cX12_stepOn 42 = .ok (.aload_n 1, 1) := by decide +kernel
theorem dX12_stepOn_43 : decode cX12_stepOn 43 = .ok (.iload_n 2, 1) := by decide +kernel
theorem dX12_stepOn_44 : decode cX12_stepOn 44 = .ok (.invokevirtual 143, 3) := by decide +kernel
theorem dX12_stepOn_47 : decode cX12_stepOn 47 = .ok (.goto 4, 3) := by decide +kernel
theorem dX12_stepOn_50 : decode cX12_stepOn 50 = .ok (.iload_n 3, 1) := by decide +kernel
theorem dX12_stepOn_51 : decode cX12_stepOn 51 = .ok (.ireturn, 1) := by decide +kernel
theorem dX12_append_0 : decode cX12_append 0 = .ok (.aload_n 0, 1) := by decide +kernel
theorem dX12_append_1 : decode cX12_append 1 = .ok (.iconst 0, 1) := by decide +kernel
theorem dX12_append_2 : decode cX12_append 2 = .ok (.putfield 85, 3) := by decide +kernel
theorem dX12_append_5 : decode cX12_append 5 = .ok (.iload_n 1, 1) := by decide +kernel
theorem dX12_append_6 : decode cX12_append 6 = .ok (.i2l, 1) := by decide +kernel
theorem dX12_append_7 : decode cX12_append 7 = .ok (.lconst 0, 1) := by decide +kernel
theorem dX12_append_8 : decode cX12_append 8 = .ok (.ldc2_w 146, 3) := by decide +kernel
theorem dX12_append_11 : decode cX12_append 11 = .ok (.invokestatic 148, 3) := by decide +kernel
theorem dX12_append_14 : decode cX12_append 14 = .ok (.ifCond .ne 6, 3) := by decide +kernel
theorem dX12_append_17 : decode cX12_append 17 = .ok (.bipush (-2), 2) := by decide +kernel
theorem dX12_append_19 : decode cX12_append 19 = .ok (.ireturn, 1) := by decide +kernel
theorem dX12_append_20 : decode cX12_append 20 = .ok (.aload_n 0, 1) := by decide +kernel
theorem dX12_append_21 : decode cX12_append 21 = .ok (.getfield 152, 3) := by decide +kernel
theorem dX12_append_24 : decode cX12_append 24 = .ok (.bipush 60, 2) := by decide +kernel
theorem dX12_append_26 : decode cX12_append 26 = .ok (.if_icmp .ne 6, 3) := by decide +kernel
theorem dX12_append_29 : decode cX12_append 29 = .ok (.bipush (-4), 2) := by decide +kernel
theorem dX12_append_31 : decode cX12_append 31 = .ok (.ireturn, 1) := by decide +kernel
theorem dX12_append_32 : decode cX12_append 32 = .ok (.aload_n 0, 1) := by decide +kernel
theorem dX12_append_33 : decode cX12_append 33 = .ok (.getfield 7, 3) := by decide +kernel
theorem dX12_append_36 : decode cX12_append 36 = .ok (.aload_n 0, 1) := by decide +kernel
theorem dX12_append_37 : decode cX12_append 37 = .ok (.getfield 152, 3) := by decide +kernel
theorem dX12_append_40 : decode cX12_append 40 = .ok (.iload_n 1, 1) := by decide +kernel
theorem dX12_append_41 : decode cX12_append 41 = .ok (.iastore, 1) := by decide +kernel
theorem dX12_append_42 : decode cX12_append 42 = .ok (.aload_n 0, 1) := by decide +kernel
theorem dX12_append_43 : decode cX12_append 43 = .ok (.dup, 1) := by decide +kernel
theorem dX12_append_44 : decode cX12_append 44 = .ok (.getfield 152, 3) := by decide +kernel
theorem dX12_append_47 : decode cX12_append 47 = .ok (.iconst 1, 1) := by decide +kernel
theorem dX12_append_48 : decode cX12_append 48 = .ok (.iadd, 1) := by decide +kernel
theorem dX12_append_49 : decode cX12_append 49 = .ok (.putfield 152, 3) := by decide +kernel
theorem dX12_append_52 : decode cX12_append 52 = .ok (.aload_n 0, 1) := by decide +kernel
theorem dX12_append_53 : decode cX12_append 53 = .ok (.getfield 152, 3) := by decide +kernel
theorem dX12_append_56 : decode cX12_append 56 = .ok (.ireturn, 1) := by decide +kernel
theorem dX12_clearText_0 : decode cX12_clearText 0 = .ok (.aload_n 0, 1) := by decide +kernel
theorem dX12_clearText_1 : decode cX12_clearText 1 = .ok (.iconst 0, 1) := by decide +kernel
theorem dX12_clearText_2 : decode cX12_clearText 2 = .ok (.putfield 85, 3) := by decide +kernel
theorem dX12_clearText_5 : decode cX12_clearText 5 = .ok (.aload_n 0, 1) := by decide +kernel
theorem dX12_clearText_6 : decode cX12_clearText 6 = .ok (.getfield 152, 3) := by decide +kernel
theorem dX12_clearText_9 : decode cX12_clearText 9 = .ok (.istore_n 1, 1) := by decide +kernel
theorem dX12_clearText_10 : decode cX12_clearText 10 = .ok (.aload_n 0, 1) := by decide +kernel
theorem dX12_clearText_11 : decode cX12_clearText 11 = .ok (.iconst 0, 1) := by decide +kernel
theorem dX12_clearText_12 : decode cX12_clearText 12 = .ok (.putfield 152, 3) := by decide +kernel
theorem dX12_clearText_15 : decode cX12_clearText 15 = .ok (.iload_n 1, 1) := by decide +kernel
theorem dX12_clearText_16 : decode cX12_clearText 16 = .ok (.ireturn, 1) := by decide +kernel
theorem dX12_number_0 : decode cX12_number 0 = .ok (.aload_n 0, 1) := by decide +kernel
theorem dX12_number_1 : decode cX12_number 1 = .ok (.getfield 155, 3) := by decide +kernel
theorem dX12_number_4 : decode cX12_number 4 = .ok (.aload_n 0, 1) := by decide +kernel
theorem dX12_number_5 : decode cX12_number 5 = .ok (.getfield 152, 3) := by decide +kernel
theorem dX12_number_8 : decode cX12_number 8 = .ok (.if_icmp .ge 18, 3) := by decide +kernel
theorem dX12_number_11 : decode cX12_number 11 = .ok (.aload_n 0, 1) := by decide +kernel
theorem dX12_number_12 : decode cX12_number 12 = .ok (.getfield 7, 3) := by decide +kernel
theorem dX12_number_15 : decode cX12_number 15 = .ok (.aload_n 0, 1) := by decide +kernel
theorem dX12_number_16 : decode cX12_number 16 = .ok (.getfield 155, 3) := by decide +kernel
theorem dX12_number_19 : decode cX12_number 19 = .ok (.iaload, 1) := by decide +kernel
theorem dX12_number_20 : decode cX12_number 20 = .ok (.bipush 48, 2) := by decide +kernel
theorem dX12_number_22 : decode cX12_number 22 = .ok (.isub, 1) := by decide +kernel
theorem dX12_number_23 : decode cX12_number 23 = .ok (.goto 5, 3) := by decide +kernel
theorem dX12_number_26 : decode cX12_number 26 = .ok (.bipush (-9), 2) := by decide +kernel
theorem dX12_number_28 : decode cX12_number 28 = .ok (.istore_n 3, 1) := by decide +kernel
theorem dX12_number_29 : decode cX12_number 29 = .ok (.iload_n 3, 1) := by decide +kernel
theorem dX12_number_30 : decode cX12_number 30 = .ok (.i2l, 1) := by decide +kernel
theorem dX12_number_31 : decode cX12_number 31 = .ok (.iload_n 1, 1) := by decide +kernel
theorem dX12_number_32 : decode cX12_number 32 = .ok (.i2l, 1) := by decide +kernel
theorem dX12_number_33 : decode cX12_number 33 = .ok (.iload_n 2, 1) := by decide +kernel
theorem dX12_number_34 : decode cX12_number 34 = .ok (.i2l, 1) := by decide +kernel
theorem dX12_number_35 : decode cX12_number 35 = .ok (.invokestatic 148, 3) := by decide +kernel
theorem dX12_number_38 : decode cX12_number 38 = .ok (.ifCond .ne 6, 3) := by decide +kernel
theorem dX12_number_41 : decode cX12_number 41 = .ok (.bipush (-9), 2) := by decide +kernel
theorem dX12_number_43 : decode cX12_number 43 = .ok (.ireturn, 1) := by decide +kernel
theorem dX12_number_44 : decode cX12_number 44 = .ok (.aload_n 0, 1) := by decide +kernel
theorem dX12_number_45 : decode cX12_number 45 = .ok (.dup, 1) := by decide +kernel
theorem dX12_number_46 : decode cX12_number 46 = .ok (.getfield 155, 3) := by decide +kernel
theorem dX12_number_49 : decode cX12_number 49 = .ok (.iconst 1, 1) := by decide +kernel
theorem dX12_number_50 : decode cX12_number 50 = .ok (.iadd, 1) := by decide +kernel
theorem dX12_number_51 : decode cX12_number 51 = .ok (.putfield 155, 3) := by decide +kernel
theorem dX12_number_54 : decode cX12_number 54 = .ok (.iload_n 3, 1) := by decide +kernel
theorem dX12_number_55 : decode cX12_number 55 = .ok (.ireturn, 1) := by decide +kernel
theorem dX12_put_0 : decode cX12_put 0 = .ok (.bipush 60, 2) := by decide +kernel
theorem dX12_put_2 : decode cX12_put 2 = .ok (.aload_n 0, 1) := by decide +kernel
theorem dX12_put_3 : decode cX12_put 3 = .ok (.getfield 158, 3) := by decide +kernel
theorem dX12_put_6 : decode cX12_put 6 = .ok (.imul, 1) := by decide +kernel
theorem dX12_put_7 : decode cX12_put 7 = .ok (.aload_n 0, 1) := by decide +kernel
theorem dX12_put_8 : decode cX12_put 8 = .ok (.getfield 60, 3) := by decide +kernel
theorem dX12_put_11 : decode cX12_put 11 = .ok (.aload_n 0, 1) := by decide +kernel
theorem dX12_put_12 : decode cX12_put 12 = .ok (.getfield 158, 3) := by decide +kernel
theorem dX12_put_15 : decode cX12_put 15 = .ok (.iaload, 1) := by decide +kernel
theorem dX12_put_16 : decode cX12_put 16 = .ok (.iadd, 1) := by decide +kernel
theorem dX12_put_17 : decode cX12_put 17 = .ok (.istore_n 3, 1) := by decide +kernel
theorem dX12_put_18 : decode cX12_put 18 = .ok (.aload_n 0, 1) := by decide +kernel
theorem dX12_put_19 : decode cX12_put 19 = .ok (.getfield 63, 3) := by decide +kernel
theorem dX12_put_22 : decode cX12_put 22 = .ok (.iload_n 3, 1) := by decide +kernel
theorem dX12_put_23 : decode cX12_put 23 = .ok (.iload_n 1, 1) := by decide +kernel
theorem dX12_put_24 : decode cX12_put 24 = .ok (.iastore, 1) := by decide +kernel
theorem dX12_put_25 : decode cX12_put 25 = .ok (.aload_n 0, 1) := by decide +kernel
theorem dX12_put_26 : decode cX12_put 26 = .ok (.getfield 66, 3) := by decide +kernel
theorem dX12_put_29 : decode cX12_put 29 = .ok (.iload_n 3, 1) := by decide +kernel
theorem dX12_put_30 : decode cX12_put 30 = .ok (.iload_n 2, 1) := by decide +kernel
theorem dX12_put_31 : decode cX12_put 31 = .ok (.iastore, 1) := by decide +kernel
theorem dX12_put_32 : decode cX12_put 32 = .ok (.aload_n 0, 1) := by decide +kernel
theorem dX12_put_33 : decode cX12_put 33 = .ok (.getfield 69, 3) := by decide +kernel
theorem dX12_put_36 : decode cX12_put 36 = .ok (.iload_n 3, 1) := by decide +kernel
theorem dX12_put_37 : decode cX12_put 37 = .ok (.bipush (-9), 2) := by decide +kernel
theorem dX12_put_39 : decode cX12_put 39 = .ok (.iastore, 1) := by decide +kernel
theorem dX12_put_40 : decode cX12_put 40 = .ok (.aload_n 0, 1) := by decide +kernel
theorem dX12_put_41 : decode cX12_put 41 = .ok (.getfield 72, 3) := by decide +kernel
theorem dX12_put_44 : decode cX12_put 44 = .ok (.iload_n 3, 1) := by decide +kernel
theorem dX12_put_45 : decode cX12_put 45 = .ok (.bipush (-9), 2) := by decide +kernel
theorem dX12_put_47 : decode cX12_put 47 = .ok (.iastore, 1) := by decide +kernel
theorem dX12_put_48 : decode cX12_put 48 = .ok (.aload_n 0, 1) := by decide +kernel
theorem dX12_put_49 : decode cX12_put 49 = .ok (.getfield 60, 3) := by decide +kernel
theorem dX12_put_52 : decode cX12_put 52 = .ok (.aload_n 0, 1) := by decide +kernel
theorem dX12_put_53 : decode cX12_put 53 = .ok (.getfield 158, 3) := by decide +kernel
theorem dX12_put_56 : decode cX12_put 56 = .ok (.dup2, 1) := by decide +kernel
theorem dX12_put_57 : decode cX12_put 57 = .ok (.iaload, 1) := by decide +kernel
theorem dX12_put_58 : decode cX12_put 58 = .ok (.iconst 1, 1) := by decide +kernel
theorem dX12_put_59 : decode cX12_put 59 = .ok (.iadd, 1) := by decide +kernel
theorem dX12_put_60 : decode cX12_put 60 = .ok (.iastore, 1) := by decide +kernel
theorem dX12_put_61 : decode cX12_put 61 = .ok (.return_, 1) := by decide +kernel
theorem dX12_isInner_0 : decode cX12_isInner 0 = .ok (.aload_n 0, 1) := by decide +kernel
theorem dX12_isInner_1 : decode cX12_isInner 1 = .ok (.getfield 161, 3) := by decide +kernel
theorem dX12_isInner_4 : decode cX12_isInner 4 = .ok (.ifCond .ne 5, 3) := by decide +kernel
theorem dX12_isInner_7 : decode cX12_isInner 7 = .ok (.iconst 0, 1) := by decide +kernel
theorem dX12_isInner_8 : decode cX12_isInner 8 = .ok (.ireturn, 1) := by decide +kernel
theorem dX12_isInner_9 : decode cX12_isInner 9 = .ok (.bipush 60, 2) := by decide +kernel
theorem dX12_isInner_11 : decode cX12_isInner 11 = .ok (.aload_n 0, 1) := by decide +kernel
theorem dX12_isInner_12 : decode cX12_isInner 12 = .ok (.getfield 158, 3) := by decide +kernel
theorem dX12_isInner_15 : decode cX12_isInner 15 = .ok (.imul, 1) := by decide +kernel
theorem dX12_isInner_16 : decode cX12_isInner 16 = .ok (.aload_n 0, 1) := by decide +kernel
theorem dX12_isInner_17 : decode cX12_isInner 17 = .ok (.getfield 75, 3) := by decide +kernel
theorem dX12_isInner_20 : decode cX12_isInner 20 = .ok (.aload_n 0, 1) := by decide +kernel
theorem dX12_isInner_21 : decode cX12_isInner 21 = .ok (.getfield 161, 3) := by decide +kernel
theorem dX12_isInner_24 : decode cX12_isInner 24 = .ok (.iconst 1, 1) := by decide +kernel
theorem dX12_isInner_25 : decode cX12_isInner 25 = .ok (.isub, 1) := by decide +kernel
theorem dX12_isInner_26 : decode cX12_isInner 26 = .ok (.iaload, 1) := by decide +kernel
theorem dX12_isInner_27 : decode cX12_isInner 27 = .ok (.iadd, 1) := by decide +kernel
theorem dX12_isInner_28 : decode cX12_isInner 28 = .ok (.istore_n 2, 1) := by decide +kernel
theorem dX12_isInner_29 : decode cX12_isInner 29 = .ok (.iload_n 1, 1) := by decide +kernel
theorem dX12_isInner_30 : decode cX12_isInner 30 = .ok (.bipush 125, 2) := by decide +kernel
theorem dX12_isInner_32 : decode cX12_isInner 32 = .ok (.if_icmp .ne 22, 3) := by decide +kernel
theorem dX12_isInner_35 : decode cX12_isInner 35 = .ok (.aload_n 0, 1) := by decide +kernel
theorem dX12_isInner_36 : decode cX12_isInner 36 = .ok (.getfield 63, 3) := by decide +kernel
theorem dX12_isInner_39 : decode cX12_isInner 39 = .ok (.iload_n 2, 1) := by decide +kernel
theorem dX12_isInner_40 : decode cX12_isInner 40 = .ok (.iaload, 1) := by decide +kernel
theorem dX12_isInner_41 : decode cX12_isInner 41 = .ok (.bipush 123, 2) := by decide +kernel
theorem dX12_isInner_43 : decode cX12_isInner 43 = .ok (.if_icmp .ne 7, 3) := by decide +kernel
theorem dX12_isInner_46 : decode cX12_isInner 46 = .ok (.iconst 1, 1) := by decide +kernel
theorem dX12_isInner_47 : decode cX12_isInner 47 = .ok (.goto 53, 3) := by decide +kernel
theorem dX12_isInner_50 : decode cX12_isInner 50 = .ok (.iconst 0, 1) := by decide +kernel
theorem dX12_isInner_51 : decode cX12_isInner 51 = .ok (.goto 49, 3) := by decide +kernel
theorem dX12_isInner_54 : decode cX12_isInner 54 = .ok (.aload_n 0, 1) := by decide +kernel
theorem dX12_isInner_55 : decode cX12_isInner 55 = .ok (.getfield 63, 3) := by decide +kernel
theorem dX12_isInner_58 : decode cX12_isInner 58 = .ok (.iload_n 2, 1) := by decide +kernel
theorem dX12_isInner_59 : decode cX12_isInner 59 = .ok (.iaload, 1) := by decide +kernel
theorem dX12_isInner_60 : decode cX12_isInner 60 = .ok (.bipush 40, 2) := by decide +kernel
theorem dX12_isInner_62 : decode cX12_isInner 62 = .ok (.if_icmp .ne 37, 3) := by decide +kernel
theorem dX12_isInner_65 : decode cX12_isInner 65 = .ok (.aload_n 0, 1) := by decide +kernel
theorem dX12_isInner_66 : decode cX12_isInner 66 = .ok (.getfield 69, 3) := by decide +kernel
theorem dX12_isInner_69 : decode cX12_isInner 69 = .ok (.iload_n 2, 1) := by decide +kernel
theorem dX12_isInner_70 : decode cX12_isInner 70 = .ok (.iaload, 1) := by decide +kernel
theorem dX12_isInner_71 : decode cX12_isInner 71 = .ok (.bipush (-9), 2) := by decide +kernel
theorem dX12_isInner_73 : decode cX12_isInner 73 = .ok (.if_icmp .ne 7, 3) := by decide +kernel
theorem dX12_isInner_76 : decode cX12_isInner 76 = .ok (.iconst 1, 1) := by decide +kernel
theorem dX12_isInner_77 : decode cX12_isInner 77 = .ok (.goto 4, 3) := by decide +kernel
theorem dX12_isInner_80 : decode cX12_isInner 80 = .ok (.iconst 0, 1) := by decide +kernel
theorem dX12_isInner_81 : decode cX12_isInner 81 = .ok (.iload_n 1, 1) := by decide +kernel
theorem dX12_isInner_82 : decode cX12_isInner 82 = .ok (.bipush 124, 2) := by decide +kernel
theorem dX12_isInner_84 : decode cX12_isInner 84 = .ok (.if_icmp .ne 7, 3) := by decide +kernel
theorem dX12_isInner_87 : decode cX12_isInner 87 = .ok (.iconst 1, 1) := by decide +kernel
theorem dX12_isInner_88 : decode cX12_isInner 88 = .ok (.goto 4, 3) := by decide +kernel
theorem dX12_isInner_91 : decode cX12_isInner 91 = .ok (.iconst 0, 1) := by decide +kernel
theorem dX12_isInner_92 : decode cX12_isInner 92 = .ok (.if_icmp .ne 7, 3) := by decide +kernel
theorem dX12_isInner_95 : decode cX12_isInner 95 = .ok (.iconst 1, 1) := by decide +kernel
theorem dX12_isInner_96 : decode cX12_isInner 96 = .ok (.goto 4, 3) := by decide +kernel
theorem dX12_isInner_99 : decode cX12_isInner 99 = .ok (.iconst 0, 1) := by decide +kernel
theorem dX12_isInner_100 : decode cX12_isInner 100 = .ok (.ireturn, 1) := by decide +kernel
theorem dX12_parseToken_0 : decode cX12_parseToken 0 = .ok (.aload_n 0, 1) := by decide +kernel
theorem dX12_parseToken_1 : decode cX12_parseToken 1 = .ok (.getfield 7, 3) := by decide +kernel
theorem dX12_parseToken_4 : decode cX12_parseToken 4 = .ok (.aload_n 0, 1) := by decide +kernel
theorem dX12_parseToken_5 : decode cX12_parseToken 5 = .ok (.getfield 155, 3) := by decide +kernel
theorem dX12_parseToken_8 : decode cX12_parseToken 8 = .ok (.iaload, 1) := by decide +kernel
theorem dX12_parseToken_9 : decode cX12_parseToken 9 = .ok (.istore_n 1, 1) := by decide +kernel
theorem dX12_parseToken_10 : decode cX12_parseToken 10 = .ok (.aload_n 0, 1) := by decide +kernel
theorem dX12_parseToken_11 : decode cX12_parseToken 11 = .ok (.getfield 60, 3) := by decide +kernel
theorem dX12_parseToken_14 : decode cX12_parseToken 14 = .ok (.aload_n 0, 1) := by decide +kernel
theorem dX12_parseToken_15 : decode cX12_parseToken 15 = .ok (.getfield 158, 3) := by decide +kernel
theorem dX12_parseToken_18 : decode cX12_parseToken 18 = .ok (.iaload, 1) := by decide +kernel
theorem dX12_parseToken_19 : decode cX12_parseToken 19 = .ok (.istore_n 2, 1) := by decide +kernel
theorem dX12_parseToken_20 : decode cX12_parseToken 20 = .ok (.bipush 60, 2) := by decide +kernel
theorem dX12_parseToken_22 : decode cX12_parseToken 22 = .ok (.aload_n 0, 1) := by decide +kernel
theorem dX12_parseToken_23 : decode cX12_parseToken 23 = .ok (.getfield 158, 3) := by decide +kernel
theorem dX12_parseToken_26 : decode cX12_parseToken 26 = .ok (.imul, 1) := by decide +kernel
theorem dX12_parseToken_27 : decode cX12_parseToken 27 = .ok (.istore_n 3, 1) := by decide +kernel
theorem dX12_parseToken_28 : decode cX12_parseToken 28 = .ok (.iload_n 1, 1) := by decide +kernel
theorem dX12_parseToken_29 : decode cX12_parseToken 29 = .ok (.bipush 40, 2) := by decide +kernel
theorem dX12_parseToken_31 : decode cX12_parseToken 31 = .ok (.if_icmp .eq 9, 3) := by decide +kernel
theorem dX12_parseToken_34 : decode cX12_parseToken 34 = .ok (.iload_n 1, 1) := by decide +kernel
theorem dX12_parseToken_35 : decode cX12_parseToken 35 = .ok (.bipush 123, 2) := by decide +kernel
theorem dX12_parseToken_37 : decode cX12_parseToken 37 = .ok (.if_icmp .ne 7, 3) := by decide +kernel
theorem dX12_parseToken_40 : decode cX12_parseToken 40 = .ok (.iconst 1, 1) := by decide +kernel
theorem dX12_parseToken_41 : decode cX12_parseToken 41 = .ok (.goto 4, 3) := by decide +kernel
theorem dX12_parseToken_44 : decode cX12_parseToken 44 = .ok (.iconst 0, 1) := by decide +kernel
theorem dX12_parseToken_45 : decode cX12_parseToken 45 = .ok (.istore 4, 2) := by decide +kernel
theorem dX12_parseToken_47 : decode cX12_parseToken 47 = .ok (.iload_n 1, 1) := by decide +kernel
theorem dX12_parseToken_48 : decode cX12_parseToken 48 = .ok (.bipush 124, 2) := by decide +kernel
theorem dX12_parseToken_50 : decode cX12_parseToken 50 = .ok (.if_icmp .eq 15, 3) := by decide +kernel
theorem dX12_parseToken_53 : decode cX12_parseToken 53 = .ok (.iload_n 1, 1) := by decide +kernel
theorem dX12_parseToken_54 : decode cX12_parseToken 54 = .ok (.bipush 41, 2) := by decide +kernel
theorem dX12_parseToken_56 : decode cX12_parseToken 56 = .ok (.if_icmp .eq 9, 3) := by decide +kernel
theorem dX12_parseToken_59 : decode cX12_parseToken 59 = .ok (.iload_n 1, 1) := by decide +kernel
theorem dX12_parseToken_60 : decode cX12_parseToken 60 = .ok (.bipush 125, 2) := by decide +kernel
theorem dX12_parseToken_62 : decode cX12_parseToken 62 = .ok (.if_icmp .ne 7, 3) := by decide +kernel
theorem dX12_parseToken_65 : decode cX12_parseToken 65 = .ok (.iconst 1, 1) := by decide +kernel
theorem dX12_parseToken_66 : decode cX12_parseToken 66 = .ok (.goto 4, 3) := by decide +kernel
theorem dX12_parseToken_69 : decode cX12_parseToken 69 = .ok (.iconst 0, 1) := by decide +kernel
theorem dX12_parseToken_70 : decode cX12_parseToken 70 = .ok (.istore 5, 2) := by decide +kernel
theorem dX12_parseToken_72 : decode cX12_parseToken 72 = .ok (.iload_n 1, 1) := by decide +kernel
theorem dX12_parseToken_73 : decode cX12_parseToken 73 = .ok (.bipush 33, 2) := by decide +kernel
theorem dX12_parseToken_75 : decode cX12_parseToken 75 = .ok (.if_icmp .eq 9, 3) := by decide +kernel
theorem dX12_parseToken_78 : decode cX12_parseToken 78 = .ok (.iload_n 1, 1) := by decide +kernel
theorem dX12_parseToken_79 : decode cX12_parseToken 79 = .ok (.bipush 120, 2) := by decide +kernel
theorem dX12_parseToken_81 : decode cX12_parseToken 81 = .ok (.if_icmp .ne 21, 3) := by decide +kernel
theorem dX12_parseToken_84 : decode cX12_parseToken 84 = .ok (.aload_n 0, 1) := by decide +kernel
theorem dX12_parseToken_85 : decode cX12_parseToken 85 = .ok (.dup, 1) := by decide +kernel
theorem dX12_parseToken_86 : decode cX12_parseToken 86 = .ok (.getfield 155, 3) := by decide +kernel
theorem dX12_parseToken_89 : decode cX12_parseToken 89 = .ok (.iconst 1, 1) := by decide +kernel
theorem dX12_parseToken_90 : decode cX12_parseToken 90 = .ok (.iadd, 1) := by decide +kernel
theorem dX12_parseToken_91 : decode cX12_parseToken 91 = .ok (.putfield 155, 3) := by decide +kernel
theorem dX12_parseToken_94 : decode cX12_parseToken 94 = .ok (.aload_n 0, 1) := by decide +kernel
theorem dX12_parseToken_95 : decode cX12_parseToken 95 = .ok (.iload_n 1, 1) := by decide +kernel
theorem dX12_parseToken_96 : decode cX12_parseToken 96 = .ok (.iconst 0, 1) := by decide +kernel
theorem dX12_parseToken_97 : decode cX12_parseToken 97 = .ok (.invokevirtual 164, 3) := by decide +kernel
theorem dX12_parseToken_100 : decode cX12_parseToken 100 = .ok (.iconst 1, 1) := by decide +kernel
theorem dX12_parseToken_101 : decode cX12_parseToken 101 = .ok (.ireturn, 1) := by decide +kernel
theorem dX12_parseToken_102 : decode cX12_parseToken 102 = .ok (.iload 4, 2) := by decide +kernel
theorem dX12_parseToken_104 : decode cX12_parseToken 104 = .ok (.ifCond .eq 49, 3) := by decide +kernel
theorem dX12_parseToken_107 : decode cX12_parseToken 107 = .ok (.aload_n 0, 1) := by decide +kernel
theorem dX12_parseToken_108 : decode cX12_parseToken 108 = .ok (.getfield 161, 3) := by decide +kernel
theorem dX12_parseToken_111 : decode cX12_parseToken 111 = .ok (.iconst 3, 1) := by decide +kernel
theorem dX12_parseToken_112 : decode cX12_parseToken 112 = .ok (.if_icmp .ge 41, 3) := by decide +kernel
theorem dX12_parseToken_115 : decode cX12_parseToken 115 = .ok (.aload_n 0, 1) := by decide +kernel
theorem dX12_parseToken_116 : decode cX12_parseToken 116 = .ok (.dup, 1) := by decide +kernel
theorem dX12_parseToken_117 : decode cX12_parseToken 117 = .ok (.getfield 155, 3) := by decide +kernel
theorem dX12_parseToken_120 : decode cX12_parseToken 120 = .ok (.iconst 1, 1) := by decide +kernel
theorem dX12_parseToken_121 : decode cX12_parseToken 121 = .ok (.iadd, 1) := by decide +kernel
theorem dX12_parseToken_122 : decode cX12_parseToken 122 = .ok (.putfield 155, 3) := by decide +kernel
theorem dX12_parseToken_125 : decode cX12_parseToken 125 = .ok (.aload_n 0, 1) := by decide +kernel
theorem dX12_parseToken_126 : decode cX12_parseToken 126 = .ok (.iload_n 1, 1) := by decide +kernel
theorem dX12_parseToken_127 : decode cX12_parseToken 127 = .ok (.iconst 0, 1) := by decide +kernel
theorem dX12_parseToken_128 : decode cX12_parseToken 128 = .ok (.invokevirtual 164, 3) := by decide +kernel
theorem dX12_parseToken_131 : decode cX12_parseToken 131 = .ok (.aload_n 0, 1) := by decide +kernel
theorem dX12_parseToken_132 : decode cX12_parseToken 132 = .ok (.getfield 75, 3) := by decide +kernel
theorem dX12_parseToken_135 : decode cX12_parseToken 135 = .ok (.aload_n 0, 1) := by decide +kernel
theorem dX12_parseToken_136 : decode cX12_parseToken 136 = .ok (.getfield 161, 3) := by decide +kernel
theorem dX12_parseToken_139 : decode cX12_parseToken 139 = .ok (.iload_n 2, 1) := by decide +kernel
theorem dX12_parseToken_140 : decode cX12_parseToken 140 = .ok (.iastore, 1) := by decide +kernel
theorem dX12_parseToken_141 : decode cX12_parseToken 141 = .ok (.aload_n 0, 1) := by decide +kernel
theorem dX12_parseToken_142 : decode cX12_parseToken 142 = .ok (.dup, 1) := by decide +kernel
theorem dX12_parseToken_143 : decode cX12_parseToken 143 = .ok (.getfield 161, 3) := by decide +kernel
theorem dX12_parseToken_146 : decode cX12_parseToken 146 = .ok (.iconst 1, 1) := by decide +kernel
theorem dX12_parseToken_147 : decode cX12_parseToken 147 = .ok (.iadd, 1) := by decide +kernel
theorem dX12_parseToken_148 : decode cX12_parseToken 148 = .ok (.putfield 161, 3) := by decide +kernel
theorem dX12_parseToken_151 : decode cX12_parseToken 151 = .ok (.iconst 1, 1) := by decide +kernel
theorem dX12_parseToken_152 : decode cX12_parseToken 152 = .ok (.ireturn, 1) := by decide +kernel
theorem dX12_parseToken_153 : decode cX12_parseToken 153 = .ok (.iload 5, 2) := by decide +kernel
theorem dX12_parseToken_155 : decode cX12_parseToken 155 = .ok (.ifCond .eq 100, 3) := by decide +kernel
theorem dX12_parseToken_158 : decode cX12_parseToken 158 = .ok (.aload_n 0, 1) := by decide +kernel
theorem dX12_parseToken_159 : decode cX12_parseToken 159 = .ok (.iload_n 1, 1) := by decide +kernel
theorem dX12_parseToken_160 : decode cX12_parseToken 160 = .ok (.invokevirtual 168, 3) := by decide +kernel
theorem dX12_parseToken_163 : decode cX12_parseToken 163 = .ok (.ifCond .eq 92, 3) := by decide +kernel
theorem dX12_parseToken_166 : decode cX12_parseToken 166 = .ok (.aload_n 0, 1) := by decide +kernel
theorem dX12_parseToken_167 : decode cX12_parseToken 167 = .ok (.dup, 1) := by decide +kernel
theorem dX12_parseToken_168 : decode cX12_parseToken 168 = .ok (.getfield 155, 3) := by decide +kernel
theorem dX12_parseToken_171 : decode cX12_parseToken 171 = .ok (.iconst 1, 1) := by decide +kernel
theorem dX12_parseToken_172 : decode cX12_parseToken 172 = .ok (.iadd, 1) := by decide +kernel
theorem dX12_parseToken_173 : decode cX12_parseToken 173 = .ok (.putfield 155, 3) := by decide +kernel
theorem dX12_parseToken_176 : decode cX12_parseToken 176 = .ok (.aload_n 0, 1) := by decide +kernel
theorem dX12_parseToken_177 : decode cX12_parseToken 177 = .ok (.iload_n 1, 1) := by decide +kernel
theorem dX12_parseToken_178 : decode cX12_parseToken 178 = .ok (.iconst 0, 1) := by decide +kernel
theorem dX12_parseToken_179 : decode cX12_parseToken 179 = .ok (.invokevirtual 164, 3) := by decide +kernel
theorem dX12_parseToken_182 : decode cX12_parseToken 182 = .ok (.iload_n 3, 1) := by decide +kernel
theorem dX12_parseToken_183 : decode cX12_parseToken 183 = .ok (.aload_n 0, 1) := by decide +kernel
theorem dX12_parseToken_184 : decode cX12_parseToken 184 = .ok (.getfield 75, 3) := by decide +kernel
theorem dX12_parseToken_187 : decode cX12_parseToken 187 = .ok (.aload_n 0, 1) := by decide +kernel
theorem dX12_parseToken_188 : decode cX12_parseToken 188 = .ok (.getfield 161, 3) := by decide +kernel
theorem dX12_parseToken_191 : decode cX12_parseToken 191 = .ok (.iconst 1, 1) := by decide +kernel
theorem dX12_parseToken_192 : decode cX12_parseToken 192 = .ok (.isub, 1) := by decide +kernel
theorem dX12_parseToken_193 : decode cX12_parseToken 193 = .ok (.iaload, 1) := by decide +kernel
theorem dX12_parseToken_194 : decode cX12_parseToken 194 = .ok (.iadd, 1) := by decide +kernel
theorem dX12_parseToken_195 : decode cX12_parseToken 195 = .ok (.istore 6, 2) := by decide +kernel
theorem dX12_parseToken_197 : decode cX12_parseToken 197 = .ok (.iload_n 1, 1) := by decide +kernel
theorem dX12_parseToken_198 : decode cX12_parseToken 198 = .ok (.bipush 124, 2) := by decide +kernel
theorem dX12_parseToken_200 : decode cX12_parseToken 200 = .ok (.if_icmp .ne 14, 3) := by decide +kernel
theorem dX12_parseToken_203 : decode cX12_parseToken 203 = .ok (.aload_n 0, 1) := by decide +kernel
theorem dX12_parseToken_204 : decode cX12_parseToken 204 = .ok (.getfield 69, 3) := by decide +kernel
theorem dX12_parseToken_207 : decode cX12_parseToken 207 = .ok (.iload 6, 2) := by decide +kernel
theorem dX12_parseToken_209 : decode cX12_parseToken 209 = .ok (.iload_n 2, 1) := by decide +kernel
theorem dX12_parseToken_210 : decode cX12_parseToken 210 = .ok (.iastore, 1) := by decide +kernel
theorem dX12_parseToken_211 : decode cX12_parseToken 211 = .ok (.goto 42, 3) := by decide +kernel
theorem dX12_parseToken_214 : decode cX12_parseToken 214 = .ok (.aload_n 0, 1) := by decide +kernel
theorem dX12_parseToken_215 : decode cX12_parseToken 215 = .ok (.dup, 1) := by decide +kernel
theorem dX12_parseToken_216 : decode cX12_parseToken 216 = .ok (.getfield 161, 3) := by decide +kernel
theorem dX12_parseToken_219 : decode cX12_parseToken 219 = .ok (.iconst 1, 1) := by decide +kernel
theorem dX12_parseToken_220 : decode cX12_parseToken 220 = .ok (.isub, 1) := by decide +kernel
theorem dX12_parseToken_221 : decode cX12_parseToken 221 = .ok (.putfield 161, 3) := by decide +kernel
theorem dX12_parseToken_224 : decode cX12_parseToken 224 = .ok (.aload_n 0, 1) := by decide +kernel
theorem dX12_parseToken_225 : decode cX12_parseToken 225 = .ok (.getfield 72, 3) := by decide +kernel
theorem dX12_parseToken_228 : decode cX12_parseToken 228 = .ok (.iload 6, 2) := by decide +kernel
theorem dX12_parseToken_230 : decode cX12_parseToken 230 = .ok (.iload_n 2, 1) := by decide +kernel
theorem dX12_parseToken_231 : decode cX12_parseToken 231 = .ok (.iastore, 1) := by decide +kernel
theorem dX12_parseToken_232 : decode cX12_parseToken 232 = .ok (.iload_n 1, 1) := by decide +kernel
theorem dX12_parseToken_233 : decode cX12_parseToken 233 = .ok (.bipush 41, 2) := by decide +kernel
theorem dX12_parseToken_235 : decode cX12_parseToken 235 = .ok (.if_icmp .ne 18, 3) := by decide +kernel
theorem dX12_parseToken_238 : decode cX12_parseToken 238 = .ok (.aload_n 0, 1) := by decide +kernel
theorem dX12_parseToken_239 : decode cX12_parseToken 239 = .ok (.getfield 72, 3) := by decide +kernel
theorem dX12_parseToken_242 : decode cX12_parseToken 242 = .ok (.iload_n 3, 1) := by decide +kernel
theorem dX12_parseToken_243 : decode cX12_parseToken 243 = .ok (.aload_n 0, 1) := by decide +kernel
theorem dX12_parseToken_244 : decode cX12_parseToken 244 = .ok (.getfield 69, 3) := by decide +kernel
theorem dX12_parseToken_247 : decode cX12_parseToken 247 = .ok (.iload 6, 2) := by decide +kernel
theorem dX12_parseToken_249 : decode cX12_parseToken 249 = .ok (.iaload, 1) := by decide +kernel
theorem dX12_parseToken_250 : decode cX12_parseToken 250 = .ok (.iadd, 1) := by decide +kernel
theorem dX12_parseToken_251 : decode cX12_parseToken 251 = .ok (.iload_n 2, 1) := by decide +kernel
theorem dX12_parseToken_252 : decode cX12_parseToken 252 = .ok (.iastore, 1) := by decide +kernel
theorem dX12_parseToken_253 : decode cX12_parseToken 253 = .ok (.iconst 1, 1) := by decide +kernel
theorem dX12_parseToken_254 : decode cX12_parseToken 254 = .ok (.ireturn, 1) := by decide +kernel
theorem dX12_parseToken_255 : decode cX12_parseToken 255 = .ok (.iload_n 1, 1) := by decide +kernel
theorem dX12_parseToken_256 : decode cX12_parseToken 256 = .ok (.bipush 114, 2) := by decide +kernel
theorem dX12_parseToken_258 : decode cX12_parseToken 258 = .ok (.if_icmp .eq 9, 3) := by decide +kernel
theorem dX12_parseToken_261 : decode cX12_parseToken 261 = .ok (.iload_n 1, 1) := by decide +kernel
theorem dX12_parseToken_262 : decode cX12_parseToken 262 = .ok (.bipush 119, 2) := by decide +kernel
theorem dX12_parseToken_264 : decode cX12_parseToken 264 = .ok (.if_icmp .ne 7, 3) := by decide +kernel
theorem dX12_parseToken_267 : decode cX12_parseToken 267 = .ok (.iconst 1, 1) := by decide +kernel
theorem dX12_parseToken_268 : decode cX12_parseToken 268 = .ok (.goto 4, 3) := by decide +kernel
theorem dX12_parseToken_271 : decode cX12_parseToken 271 = .ok (.iconst 0, 1) := by decide +kernel
theorem dX12_parseToken_272 : decode cX12_parseToken 272 = .ok (.istore 6, 2) := by decide +kernel
theorem dX12_parseToken_274 : decode cX12_parseToken 274 = .ok (.iload 6, 2) := by decide +kernel
theorem dX12_parseToken_276 : decode cX12_parseToken 276 = .ok (.ifCond .ne 23, 3) := by decide +kernel
theorem dX12_parseToken_279 : decode cX12_parseToken 279 = .ok (.iload_n 1, 1) := by decide +kernel
theorem dX12_parseToken_280 : decode cX12_parseToken 280 = .ok (.bipush 43, 2) := by decide +kernel
theorem dX12_parseToken_282 : decode cX12_parseToken 282 = .ok (.if_icmp .eq 17, 3) := by decide +kernel
theorem dX12_parseToken_285 : decode cX12_parseToken 285 = .ok (.iload_n 1, 1) := by decide +kernel
theorem dX12_parseToken_286 : decode cX12_parseToken 286 = .ok (.bipush 45, 2) := by decide +kernel
theorem dX12_parseToken_288 : decode cX12_parseToken 288 = .ok (.if_icmp .eq 11, 3) := by decide +kernel
theorem dX12_parseToken_291 : decode cX12_parseToken 291 = .ok (.iload_n 1, 1) := by decide +kernel
theorem dX12_parseToken_292 : decode cX12_parseToken 292 = .ok (.bipush 63, 2) := by decide +kernel
theorem dX12_parseToken_294 : decode cX12_parseToken 294 = .ok (.if_icmp .eq 5, 3) := by decide +kernel
theorem dX12_parseToken_297 : decode cX12_parseToken 297 = .ok (.iconst 0, 1) := by decide +kernel
theorem dX12_parseToken_298 : decode cX12_parseToken 298 = .ok (.ireturn, 1) := by decide +kernel
theorem dX12_parseToken_299 : decode cX12_parseToken 299 = .ok (.aload_n 0, 1) := by decide +kernel
theorem dX12_parseToken_300 : decode cX12_parseToken 300 = .ok (.dup, 1) := by decide +kernel
theorem dX12_parseToken_301 : decode cX12_parseToken 301 = .ok (.getfield 155, 3) := by decide +kernel
theorem dX12_parseToken_304 : decode cX12_parseToken 304 = .ok (.iconst 1, 1) := by decide +kernel
theorem dX12_parseToken_305 : decode cX12_parseToken 305 = .ok (.iadd, 1) := by decide +kernel
theorem dX12_parseToken_306 : decode cX12_parseToken 306 = .ok (.putfield 155, 3) := by decide +kernel
theorem dX12_parseToken_309 : decode cX12_parseToken 309 = .ok (.aload_n 0, 1) := by decide +kernel
theorem dX12_parseToken_310 : decode cX12_parseToken 310 = .ok (.iconst 0, 1) := by decide +kernel
theorem dX12_parseToken_311 : decode cX12_parseToken 311 = .ok (.iload 6, 2) := by decide +kernel
theorem dX12_parseToken_313 : decode cX12_parseToken 313 = .ok (.ifCond .eq 7, 3) := by decide +kernel
theorem dX12_parseToken_316 : decode cX12_parseToken 316 = .ok (.iconst 5, 1) := by decide +kernel
theorem dX12_parseToken_317 : decode cX12_parseToken 317 = .ok (.goto 5, 3) := by decide +kernel
theorem dX12_parseToken_320 : decode cX12_parseToken 320 = .ok (.bipush 9, 2) := by decide +kernel
theorem dX12_parseToken_322 : decode cX12_parseToken 322 = .ok (.invokevirtual 172, 3) := by decide +kernel
theorem dX12_parseToken_325 : decode cX12_parseToken 325 = .ok (.istore 7, 2) := by decide +kernel
theorem dX12_parseToken_327 : decode cX12_parseToken 327 = .ok (.iload 7, 2) := by decide +kernel
theorem dX12_parseToken_329 : decode cX12_parseToken 329 = .ok (.bipush (-9), 2) := by decide +kernel
theorem dX12_parseToken_331 : decode cX12_parseToken 331 = .ok (.if_icmp .eq 10, 3) := by decide +kernel
theorem dX12_parseToken_334 : decode cX12_parseToken 334 = .ok (.aload_n 0, 1) := by decide +kernel
theorem dX12_parseToken_335 : decode cX12_parseToken 335 = .ok (.iload_n 1, 1) := by decide +kernel
theorem dX12_parseToken_336 : decode cX12_parseToken 336 = .ok (.iload 7, 2) := by decide +kernel
theorem dX12_parseToken_338 : decode cX12_parseToken 338 = .ok (.invokevirtual 164, 3) := by decide +kernel
theorem dX12_parseToken_341 : decode cX12_parseToken 341 = .ok (.iload 7, 2) := by decide +kernel
theorem dX12_parseToken_343 : decode cX12_parseToken 343 = .ok (.bipush (-9), 2) := by decide +kernel
theorem dX12_parseToken_345 : decode cX12_parseToken 345 = .ok (.if_icmp .eq 7, 3) := by decide +kernel
theorem dX12_parseToken_348 : decode cX12_parseToken 348 = .ok (.iconst 1, 1) := by decide +kernel
theorem dX12_parseToken_349 : decode cX12_parseToken 349 = .ok (.goto 4, 3) := by decide +kernel
theorem dX12_parseToken_352 : decode cX12_parseToken 352 = .ok (.iconst 0, 1) := by decide +kernel
theorem dX12_parseToken_353 : decode cX12_parseToken 353 = .ok (.ireturn, 1) := by decide +kernel
theorem dX12_parseThread_0 : decode cX12_parseThread 0 = .ok (.aload_n 0, 1) := by decide +kernel
theorem dX12_parseThread_1 : decode cX12_parseThread 1 = .ok (.getfield 158, 3) := by decide +kernel
theorem dX12_parseThread_4 : decode cX12_parseThread 4 = .ok (.iconst 3, 1) := by decide +kernel
theorem dX12_parseThread_5 : decode cX12_parseThread 5 = .ok (.if_icmp .eq 17, 3) := by decide +kernel
theorem dX12_parseThread_8 : decode cX12_parseThread 8 = .ok (.aload_n 0, 1) := by decide +kernel
theorem dX12_parseThread_9 : decode cX12_parseThread 9 = .ok (.getfield 7, 3) := by decide +kernel
theorem dX12_parseThread_12 : decode cX12_parseThread 12 = .ok (.aload_n 0, 1) := by decide +kernel
theorem dX12_parseThread_13 : decode cX12_parseThread 13 = .ok (.getfield 155, 3) := by decide +kernel
theorem dX12_parseThread_16 : decode cX12_parseThread 16 = .ok (.iaload, 1) := by decide +kernel
theorem dX12_parseThread_17 : decode cX12_parseThread 17 = .ok (.bipush 116, 2) := by decide +kernel
theorem dX12_parseThread_19 : decode cX12_parseThread 19 = .ok (.if_icmp .eq 5, 3) := by decide +kernel
theorem dX12_parseThread_22 : decode cX12_parseThread 22 = .ok (.iconst 0, 1) := by decide +kernel
theorem dX12_parseThread_23 : decode cX12_parseThread 23 = .ok (.ireturn, 1) := by decide +kernel
theorem dX12_parseThread_24 : decode cX12_parseThread 24 = .ok (.aload_n 0, 1) := by decide +kernel
theorem dX12_parseThread_25 : decode cX12_parseThread 25 = .ok (.dup, 1) := by decide +kernel
theorem dX12_parseThread_26 : decode cX12_parseThread 26 = .ok (.getfield 155, 3) := by decide +kernel
theorem dX12_parseThread_29 : decode cX12_parseThread 29 = .ok (.iconst 1, 1) := by decide +kernel
theorem dX12_parseThread_30 : decode cX12_parseThread 30 = .ok (.iadd, 1) := by decide +kernel
theorem dX12_parseThread_31 : decode cX12_parseThread 31 = .ok (.putfield 155, 3) := by decide +kernel
theorem dX12_parseThread_34 : decode cX12_parseThread 34 = .ok (.aload_n 0, 1) := by decide +kernel
theorem dX12_parseThread_35 : decode cX12_parseThread 35 = .ok (.getfield 60, 3) := by decide +kernel
theorem dX12_parseThread_38 : decode cX12_parseThread 38 = .ok (.aload_n 0, 1) := by decide +kernel
theorem dX12_parseThread_39 : decode cX12_parseThread 39 = .ok (.getfield 158, 3) := by decide +kernel
theorem dX12_parseThread_42 : decode cX12_parseThread 42 = .ok (.iconst 0, 1) := by decide +kernel
theorem dX12_parseThread_43 : decode cX12_parseThread 43 = .ok (.iastore, 1) := by decide +kernel
theorem dX12_parseThread_44 : decode cX12_parseThread 44 = .ok (.aload_n 0, 1) := by decide +kernel
theorem dX12_parseThread_45 : decode cX12_parseThread 45 = .ok (.getfield 57, 3) := by decide +kernel
theorem dX12_parseThread_48 : decode cX12_parseThread 48 = .ok (.aload_n 0, 1) := by decide +kernel
theorem dX12_parseThread_49 : decode cX12_parseThread 49 = .ok (.getfield 158, 3) := by decide +kernel
theorem dX12_parseThread_52 : decode cX12_parseThread 52 = .ok (.aload_n 0, 1) := by decide +kernel
theorem dX12_parseThread_53 : decode cX12_parseThread 53 = .ok (.iconst 1, 1) := by decide +kernel
theorem dX12_parseThread_54 : decode cX12_parseThread 54 = .ok (.iconst 2, 1) := by decide +kernel
theorem dX12_parseThread_55 : decode cX12_parseThread 55 = .ok (.invokevirtual 172, 3) := by decide +kernel
theorem dX12_parseThread_58 : decode cX12_parseThread 58 = .ok (.iastore, 1) := by decide +kernel
theorem dX12_parseThread_59 : decode cX12_parseThread 59 = .ok (.aload_n 0, 1) := by decide +kernel
theorem dX12_parseThread_60 : decode cX12_parseThread 60 = .ok (.getfield 57, 3) := by decide +kernel
theorem dX12_parseThread_63 : decode cX12_parseThread 63 = .ok (.aload_n 0, 1) := by decide +kernel
theorem dX12_parseThread_64 : decode cX12_parseThread 64 = .ok (.getfield 158, 3) := by decide +kernel
theorem dX12_parseThread_67 : decode cX12_parseThread 67 = .ok (.iaload, 1) := by decide +kernel
theorem dX12_parseThread_68 : decode cX12_parseThread 68 = .ok (.bipush (-9), 2) := by decide +kernel
theorem dX12_parseThread_70 : decode cX12_parseThread 70 = .ok (.if_icmp .ne 5, 3) := by decide +kernel
theorem dX12_parseThread_73 : decode cX12_parseThread 73 = .ok (.iconst 0, 1) := by decide +kernel
theorem dX12_parseThread_74 : decode cX12_parseThread 74 = .ok (.ireturn, 1) := by decide +kernel
theorem dX12_parseThread_75 : decode cX12_parseThread 75 = .ok (.aload_n 0, 1) := by decide +kernel
theorem dX12_parseThread_76 : decode cX12_parseThread 76 = .ok (.iconst 0, 1) := by decide +kernel
theorem dX12_parseThread_77 : decode cX12_parseThread 77 = .ok (.putfield 161, 3) := by decide +kernel
theorem dX12_parseThread_80 : decode cX12_parseThread 80 = .ok (.aload_n 0, 1) := by decide +kernel
theorem dX12_parseThread_81 : decode cX12_parseThread 81 = .ok (.getfield 155, 3) := by decide +kernel
theorem dX12_parseThread_84 : decode cX12_parseThread 84 = .ok (.aload_n 0, 1) := by decide +kernel
theorem dX12_parseThread_85 : decode cX12_parseThread 85 = .ok (.getfield 152, 3) := by decide +kernel
theorem dX12_parseThread_88 : decode cX12_parseThread 88 = .ok (.if_icmp .ge 33, 3) := by decide +kernel
theorem dX12_parseThread_91 : decode cX12_parseThread 91 = .ok (.aload_n 0, 1) := by decide +kernel
theorem dX12_parseThread_92 : decode cX12_parseThread 92 = .ok (.getfield 7, 3) := by decide +kernel
theorem dX12_parseThread_95 : decode cX12_parseThread 95 = .ok (.aload_n 0, 1) := by decide +kernel
theorem dX12_parseThread_96 : decode cX12_parseThread 96 = .ok (.getfield 155, 3) := by decide +kernel
theorem dX12_parseThread_99 : decode cX12_parseThread 99 = .ok (.iaload, 1) := by decide +kernel
theorem dX12_parseThread_100 : decode cX12_parseThread 100 = .ok (.bipush 46, 2) := by decide +kernel
theorem dX12_parseThread_102 : decode cX12_parseThread 102 = .ok (.if_icmp .ne 10, 3) := by decide +kernel
theorem dX12_parseThread_105 : decode cX12_parseThread 105 = .ok (.aload_n 0, 1) := by decide +kernel
theorem dX12_parseThread_106 : decode cX12_parseThread 106 = .ok (.getfield 161, 3) := by decide +kernel
theorem dX12_parseThread_109 : decode cX12_parseThread 109 = .ok (.ifCond .le 12, 3) := by decide +kernel
theorem dX12_parseThread_112 : decode cX12_parseThread 112 = .ok (.aload_n 0, 1) := by decide +kernel
theorem dX12_parseThread_113 : decode cX12_parseThread 113 = .ok (.invokevirtual 176, 3) := by decide +kernel
theorem dX12_parseThread_116 : decode cX12_parseThread 116 = .ok (.ifCond .ne (-36), 3) := by decide +kernel
theorem dX12_parseThread_119 : decode cX12_parseThread 119 = .ok (.iconst 0, 1) := by decide +kernel
theorem dX12_parseThread_120 : decode cX12_parseThread 120 = .ok (.ireturn, 1) := by decide +kernel
theorem dX12_parseThread_121 : decode cX12_parseThread 121 = .ok (.aload_n 0, 1) := by decide +kernel
theorem dX12_parseThread_122 : decode cX12_parseThread 122 = .ok (.getfield 155, 3) := by decide +kernel
theorem dX12_parseThread_125 : decode cX12_parseThread 125 = .ok (.aload_n 0, 1) := by decide +kernel
theorem dX12_parseThread_126 : decode cX12_parseThread 126 = .ok (.getfield 152, 3) := by decide +kernel
theorem dX12_parseThread_129 : decode cX12_parseThread 129 = .ok (.if_icmp .ne 5, 3) := by decide +kernel
theorem dX12_parseThread_132 : decode cX12_parseThread 132 = .ok (.iconst 0, 1) := by decide +kernel
theorem dX12_parseThread_133 : decode cX12_parseThread 133 = .ok (.ireturn, 1) := by decide +kernel
theorem dX12_parseThread_134 : decode cX12_parseThread 134 = .ok (.aload_n 0, 1) := by decide +kernel
theorem dX12_parseThread_135 : decode cX12_parseThread 135 = .ok (.dup, 1) := by decide +kernel
theorem dX12_parseThread_136 : decode cX12_parseThread 136 = .ok (.getfield 155, 3) := by decide +kernel
theorem dX12_parseThread_139 : decode cX12_parseThread 139 = .ok (.iconst 1, 1) := by decide +kernel
theorem dX12_parseThread_140 : decode cX12_parseThread 140 = .ok (.iadd, 1) := by decide +kernel
theorem dX12_parseThread_141 : decode cX12_parseThread 141 = .ok (.putfield 155, 3) := by decide +kernel
theorem dX12_parseThread_144 : decode cX12_parseThread 144 = .ok (.aload_n 0, 1) := by decide +kernel
theorem dX12_parseThread_145 : decode cX12_parseThread 145 = .ok (.dup, 1) := by decide +kernel
theorem dX12_parseThread_146 : decode cX12_parseThread 146 = .ok (.getfield 158, 3) := by decide +kernel
theorem dX12_parseThread_149 : decode cX12_parseThread 149 = .ok (.iconst 1, 1) := by decide +kernel
theorem dX12_parseThread_150 : decode cX12_parseThread 150 = .ok (.iadd, 1) := by decide +kernel
theorem dX12_parseThread_151 : decode cX12_parseThread 151 = .ok (.putfield 158, 3) := by decide +kernel
theorem dX12_parseThread_154 : decode cX12_parseThread 154 = .ok (.iconst 1, 1) := by decide +kernel
theorem dX12_parseThread_155 : decode cX12_parseThread 155 = .ok (.ireturn, 1) := by decide +kernel
theorem dX12_errorPosition_0 : decode cX12_errorPosition 0 = .ok (.aload_n 0, 1) := by decide +kernel
theorem dX12_errorPosition_1 : decode cX12_errorPosition 1 = .ok (.iconst 0, 1) := by decide +kernel
theorem dX12_errorPosition_2 : decode cX12_errorPosition 2 = .ok (.putfield 85, 3) := by decide +kernel
theorem dX12_errorPosition_5 : decode cX12_errorPosition 5 = .ok (.aload_n 0, 1) := by decide +kernel
theorem dX12_errorPosition_6 : decode cX12_errorPosition 6 = .ok (.iconst 0, 1) := by decide +kernel
theorem dX12_errorPosition_7 : decode cX12_errorPosition 7 = .ok (.putfield 155, 3) := by decide +kernel
theorem dX12_errorPosition_10 : decode cX12_errorPosition 10 = .ok (.aload_n 0, 1) := by decide +kernel
theorem dX12_errorPosition_11 : decode cX12_errorPosition 11 = .ok (.iconst 0, 1) := by decide +kernel
theorem dX12_errorPosition_12 : decode cX12_errorPosition 12 = .ok (.putfield 158, 3) := by decide +kernel
theorem dX12_errorPosition_15 : decode cX12_errorPosition 15 = .ok (.aload_n 0, 1) := by decide +kernel
theorem dX12_errorPosition_16 : decode cX12_errorPosition 16 = .ok (.getfield 152, 3) := by decide +kernel
theorem dX12_errorPosition_19 : decode cX12_errorPosition 19 = .ok (.ifCond .eq 14, 3) := by decide +kernel
theorem dX12_errorPosition_22 : decode cX12_errorPosition 22 = .ok (.aload_n 0, 1) := by decide +kernel
theorem dX12_errorPosition_23 : decode cX12_errorPosition 23 = .ok (.getfield 7, 3) := by decide +kernel
theorem dX12_errorPosition_26 : decode cX12_errorPosition 26 = .ok (.iconst 0, 1) := by decide +kernel
theorem dX12_errorPosition_27 : decode cX12_errorPosition 27 = .ok (.iaload, 1) := by decide +kernel
theorem dX12_errorPosition_28 : decode cX12_errorPosition 28 = .ok (.bipush 77, 2) := by decide +kernel
theorem dX12_errorPosition_30 : decode cX12_errorPosition 30 = .ok (.if_icmp .eq 5, 3) := by decide +kernel
theorem dX12_errorPosition_33 : decode cX12_errorPosition 33 = .ok (.iconst 0, 1) := by decide +kernel
theorem dX12_errorPosition_34 : decode cX12_errorPosition 34 = .ok (.ireturn, 1) := by decide +kernel
theorem dX12_errorPosition_35 : decode cX12_errorPosition 35 = .ok (.aload_n 0, 1) := by decide +kernel
theorem dX12_errorPosition_36 : decode cX12_errorPosition 36 = .ok (.iconst 1, 1) := by decide +kernel
theorem dX12_errorPosition_37 : decode cX12_errorPosition 37 = .ok (.putfield 155, 3) := by decide +kernel
theorem dX12_errorPosition_40 : decode cX12_errorPosition 40 = .ok (.iconst 0, 1) := by decide +kernel
theorem dX12_errorPosition_41 : decode cX12_errorPosition 41 = .ok (.istore_n 1, 1) := by decide +kernel
theorem dX12_errorPosition_42 : decode cX12_errorPosition 42 = .ok (.iload_n 1, 1) := by decide +kernel
theorem dX12_errorPosition_43 : decode cX12_errorPosition 43 = .ok (.bipush 6, 2) := by decide +kernel
theorem dX12_errorPosition_45 : decode cX12_errorPosition 45 = .ok (.if_icmp .ge 38, 3) := by decide +kernel
theorem dX12_errorPosition_48 : decode cX12_errorPosition 48 = .ok (.aload_n 0, 1) := by decide +kernel
theorem dX12_errorPosition_49 : decode cX12_errorPosition 49 = .ok (.getfield 54, 3) := by decide +kernel
theorem dX12_errorPosition_52 : decode cX12_errorPosition 52 = .ok (.iload_n 1, 1) := by decide +kernel
theorem dX12_errorPosition_53 : decode cX12_errorPosition 53 = .ok (.aload_n 0, 1) := by decide +kernel
theorem dX12_errorPosition_54 : decode cX12_errorPosition 54 = .ok (.iconst 0, 1) := by decide +kernel
theorem dX12_errorPosition_55 : decode cX12_errorPosition 55 = .ok (.bipush 9, 2) := by decide +kernel
theorem dX12_errorPosition_57 : decode cX12_errorPosition 57 = .ok (.invokevirtual 172, 3) := by decide +kernel
theorem dX12_errorPosition_60 : decode cX12_errorPosition 60 = .ok (.iastore, 1) := by decide +kernel
theorem dX12_errorPosition_61 : decode cX12_errorPosition 61 = .ok (.aload_n 0, 1) := by decide +kernel
theorem dX12_errorPosition_62 : decode cX12_errorPosition 62 = .ok (.getfield 54, 3) := by decide +kernel
