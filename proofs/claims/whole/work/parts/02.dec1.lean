theorem dX6_forgetRules_39 : decode cX6_forgetRules 39 = .ok (.goto (-37), 3) := by decide +kernel
theorem dX6_forgetRules_42 : decode cX6_forgetRules 42 = .ok (.return_, 1) := by decide +kernel
theorem dX6_mode_0 : decode cX6_mode 0 = .ok (.iload_n 1, 1) := by decide +kernel
theorem dX6_mode_1 : decode cX6_mode 1 = .ok (.iconst 0, 1) := by decide +kernel
theorem dX6_mode_2 : decode cX6_mode 2 = .ok (.iconst 1, 1) := by decide +kernel
theorem dX6_mode_3 : decode cX6_mode 3 = .ok (.invokestatic 47, 3) := by decide +kernel
theorem dX6_mode_6 : decode cX6_mode 6 = .ok (.ifCond .eq 20, 3) := by decide +kernel
theorem dX6_mode_9 : decode cX6_mode 9 = .ok (.iload_n 2, 1) := by decide +kernel
theorem dX6_mode_10 : decode cX6_mode 10 = .ok (.iconst 0, 1) := by decide +kernel
theorem dX6_mode_11 : decode cX6_mode 11 = .ok (.iload_n 1, 1) := by decide +kernel
theorem dX6_mode_12 : decode cX6_mode 12 = .ok (.ifCond .ne 7, 3) := by decide +kernel
theorem dX6_mode_15 : decode cX6_mode 15 = .ok (.iconst 2, 1) := by decide +kernel
theorem dX6_mode_16 : decode cX6_mode 16 = .ok (.goto 4, 3) := by decide +kernel
theorem dX6_mode_19 : decode cX6_mode 19 = .ok (.iconst 1, 1) := by decide +kernel
theorem dX6_mode_20 : decode cX6_mode 20 = .ok (.invokestatic 47, 3) := by decide +kernel
theorem dX6_mode_23 : decode cX6_mode 23 = .ok (.ifCond .ne 10, 3) := by decide +kernel
theorem dX6_mode_26 : decode cX6_mode 26 = .ok (.aload_n 0, 1) := by decide +kernel
theorem dX6_mode_27 : decode cX6_mode 27 = .ok (.bipush (-52), 2) := by decide +kernel
theorem dX6_mode_29 : decode cX6_mode 29 = .ok (.invokevirtual 51, 3) := by decide +kernel
theorem dX6_mode_32 : decode cX6_mode 32 = .ok (.ireturn, 1) := by decide +kernel
theorem dX6_mode_33 : decode cX6_mode 33 = .ok (.aload_n 0, 1) := by decide +kernel
theorem dX6_mode_34 : decode cX6_mode 34 = .ok (.getfield 10, 3) := by decide +kernel
theorem dX6_mode_37 : decode cX6_mode 37 = .ok (.invokevirtual 165, 3) := by decide +kernel
theorem dX6_mode_40 : decode cX6_mode 40 = .ok (.iload_n 1, 1) := by decide +kernel
theorem dX6_mode_41 : decode cX6_mode 41 = .ok (.ifCond .ne 22, 3) := by decide +kernel
theorem dX6_mode_44 : decode cX6_mode 44 = .ok (.aload_n 0, 1) := by decide +kernel
theorem dX6_mode_45 : decode cX6_mode 45 = .ok (.getfield 10, 3) := by decide +kernel
theorem dX6_mode_48 : decode cX6_mode 48 = .ok (.getfield 175, 3) := by decide +kernel
theorem dX6_mode_51 : decode cX6_mode 51 = .ok (.istore_n 3, 1) := by decide +kernel
theorem dX6_mode_52 : decode cX6_mode 52 = .ok (.aload_n 0, 1) := by decide +kernel
theorem dX6_mode_53 : decode cX6_mode 53 = .ok (.getfield 10, 3) := by decide +kernel
theorem dX6_mode_56 : decode cX6_mode 56 = .ok (.iload_n 2, 1) := by decide +kernel
theorem dX6_mode_57 : decode cX6_mode 57 = .ok (.putfield 175, 3) := by decide +kernel
theorem dX6_mode_60 : decode cX6_mode 60 = .ok (.goto 19, 3) := by decide +kernel
theorem dX6_mode_63 : decode cX6_mode 63 = .ok (.aload_n 0, 1) := by decide +kernel
theorem dX6_mode_64 : decode cX6_mode 64 = .ok (.getfield 10, 3) := by decide +kernel
theorem dX6_mode_67 : decode cX6_mode 67 = .ok (.getfield 178, 3) := by decide +kernel
theorem dX6_mode_70 : decode cX6_mode 70 = .ok (.istore_n 3, 1) := by decide +kernel
theorem dX6_mode_71 : decode cX6_mode 71 = .ok (.aload_n 0, 1) := by decide +kernel
theorem dX6_mode_72 : decode cX6_mode 72 = .ok (.getfield 10, 3) := by decide +kernel
theorem dX6_mode_75 : decode cX6_mode 75 = .ok (.iload_n 2, 1) := by decide +kernel
theorem dX6_mode_76 : decode cX6_mode 76 = .ok (.putfield 178, 3) := by decide +kernel
theorem dX6_mode_79 : decode cX6_mode 79 = .ok (.iload_n 3, 1) := by decide +kernel
theorem dX6_mode_80 : decode cX6_mode 80 = .ok (.ireturn, 1) := by decide +kernel
theorem dX6_tell_0 : decode cX6_tell 0 = .ok (.iload_n 1, 1) := by decide +kernel
theorem dX6_tell_1 : decode cX6_tell 1 = .ok (.iconst 0, 1) := by decide +kernel
theorem dX6_tell_2 : decode cX6_tell 2 = .ok (.iconst 1, 1) := by decide +kernel
theorem dX6_tell_3 : decode cX6_tell 3 = .ok (.invokestatic 47, 3) := by decide +kernel
theorem dX6_tell_6 : decode cX6_tell 6 = .ok (.ifCond .eq 23, 3) := by decide +kernel
theorem dX6_tell_9 : decode cX6_tell 9 = .ok (.iload_n 2, 1) := by decide +kernel
theorem dX6_tell_10 : decode cX6_tell 10 = .ok (.iconst 0, 1) := by decide +kernel
theorem dX6_tell_11 : decode cX6_tell 11 = .ok (.iload_n 1, 1) := by decide +kernel
theorem dX6_tell_12 : decode cX6_tell 12 = .ok (.ifCond .ne 8, 3) := by decide +kernel
theorem dX6_tell_15 : decode cX6_tell 15 = .ok (.bipush 8, 2) := by decide +kernel
theorem dX6_tell_17 : decode cX6_tell 17 = .ok (.goto 6, 3) := by decide +kernel
theorem dX6_tell_20 : decode cX6_tell 20 = .ok (.sipush 999, 3) := by decide +kernel
theorem dX6_tell_23 : decode cX6_tell 23 = .ok (.invokestatic 47, 3) := by decide +kernel
theorem dX6_tell_26 : decode cX6_tell 26 = .ok (.ifCond .ne 10, 3) := by decide +kernel
theorem dX6_tell_29 : decode cX6_tell 29 = .ok (.aload_n 0, 1) := by decide +kernel
theorem dX6_tell_30 : decode cX6_tell 30 = .ok (.bipush (-52), 2) := by decide +kernel
theorem dX6_tell_32 : decode cX6_tell 32 = .ok (.invokevirtual 51, 3) := by decide +kernel
theorem dX6_tell_35 : decode cX6_tell 35 = .ok (.ireturn, 1) := by decide +kernel
theorem dX6_tell_36 : decode cX6_tell 36 = .ok (.iload_n 1, 1) := by decide +kernel
theorem dX6_tell_37 : decode cX6_tell 37 = .ok (.ifCond .ne 22, 3) := by decide +kernel
theorem dX6_tell_40 : decode cX6_tell 40 = .ok (.aload_n 0, 1) := by decide +kernel
theorem dX6_tell_41 : decode cX6_tell 41 = .ok (.getfield 10, 3) := by decide +kernel
theorem dX6_tell_44 : decode cX6_tell 44 = .ok (.getfield 162, 3) := by decide +kernel
theorem dX6_tell_47 : decode cX6_tell 47 = .ok (.istore_n 3, 1) := by decide +kernel
theorem dX6_tell_48 : decode cX6_tell 48 = .ok (.aload_n 0, 1) := by decide +kernel
theorem dX6_tell_49 : decode cX6_tell 49 = .ok (.getfield 10, 3) := by decide +kernel
theorem dX6_tell_52 : decode cX6_tell 52 = .ok (.iload_n 2, 1) := by decide +kernel
theorem dX6_tell_53 : decode cX6_tell 53 = .ok (.putfield 162, 3) := by decide +kernel
theorem dX6_tell_56 : decode cX6_tell 56 = .ok (.goto 19, 3) := by decide +kernel
theorem dX6_tell_59 : decode cX6_tell 59 = .ok (.aload_n 0, 1) := by decide +kernel
theorem dX6_tell_60 : decode cX6_tell 60 = .ok (.getfield 10, 3) := by decide +kernel
theorem dX6_tell_63 : decode cX6_tell 63 = .ok (.getfield 181, 3) := by decide +kernel
theorem dX6_tell_66 : decode cX6_tell 66 = .ok (.istore_n 3, 1) := by decide +kernel
theorem dX6_tell_67 : decode cX6_tell 67 = .ok (.aload_n 0, 1) := by decide +kernel
theorem dX6_tell_68 : decode cX6_tell 68 = .ok (.getfield 10, 3) := by decide +kernel
theorem dX6_tell_71 : decode cX6_tell 71 = .ok (.iload_n 2, 1) := by decide +kernel
theorem dX6_tell_72 : decode cX6_tell 72 = .ok (.putfield 181, 3) := by decide +kernel
theorem dX6_tell_75 : decode cX6_tell 75 = .ok (.iload_n 3, 1) := by decide +kernel
theorem dX6_tell_76 : decode cX6_tell 76 = .ok (.ireturn, 1) := by decide +kernel
theorem dX6_read_0 : decode cX6_read 0 = .ok (.iload_n 1, 1) := by decide +kernel
theorem dX6_read_1 : decode cX6_read 1 = .ok (.invokestatic 184, 3) := by decide +kernel
theorem dX6_read_4 : decode cX6_read 4 = .ok (.ifCond .ne 10, 3) := by decide +kernel
theorem dX6_read_7 : decode cX6_read 7 = .ok (.aload_n 0, 1) := by decide +kernel
theorem dX6_read_8 : decode cX6_read 8 = .ok (.bipush (-52), 2) := by decide +kernel
theorem dX6_read_10 : decode cX6_read 10 = .ok (.invokevirtual 51, 3) := by decide +kernel
theorem dX6_read_13 : decode cX6_read 13 = .ok (.ireturn, 1) := by decide +kernel
theorem dX6_read_14 : decode cX6_read 14 = .ok (.aload_n 0, 1) := by decide +kernel
theorem dX6_read_15 : decode cX6_read 15 = .ok (.getfield 10, 3) := by decide +kernel
theorem dX6_read_18 : decode cX6_read 18 = .ok (.iload_n 1, 1) := by decide +kernel
theorem dX6_read_19 : decode cX6_read 19 = .ok (.iconst 0, 1) := by decide +kernel
theorem dX6_read_20 : decode cX6_read 20 = .ok (.iconst 0, 1) := by decide +kernel
theorem dX6_read_21 : decode cX6_read 21 = .ok (.invokevirtual 152, 3) := by decide +kernel
theorem dX6_read_24 : decode cX6_read 24 = .ok (.pop, 1) := by decide +kernel
theorem dX6_read_25 : decode cX6_read 25 = .ok (.aload_n 0, 1) := by decide +kernel
theorem dX6_read_26 : decode cX6_read 26 = .ok (.getfield 10, 3) := by decide +kernel
theorem dX6_read_29 : decode cX6_read 29 = .ok (.getfield 187, 3) := by decide +kernel
theorem dX6_read_32 : decode cX6_read 32 = .ok (.ireturn, 1) := by decide +kernel
theorem dX6_write_0 : decode cX6_write 0 = .ok (.iload_n 1, 1) := by decide +kernel
theorem dX6_write_1 : decode cX6_write 1 = .ok (.invokestatic 184, 3) := by decide +kernel
theorem dX6_write_4 : decode cX6_write 4 = .ok (.ifCond .ne 10, 3) := by decide +kernel
theorem dX6_write_7 : decode cX6_write 7 = .ok (.aload_n 0, 1) := by decide +kernel
theorem dX6_write_8 : decode cX6_write 8 = .ok (.bipush (-52), 2) := by decide +kernel
theorem dX6_write_10 : decode cX6_write 10 = .ok (.invokevirtual 51, 3) := by decide +kernel
theorem dX6_write_13 : decode cX6_write 13 = .ok (.ireturn, 1) := by decide +kernel
theorem dX6_write_14 : decode cX6_write 14 = .ok (.aload_n 0, 1) := by decide +kernel
theorem dX6_write_15 : decode cX6_write 15 = .ok (.getfield 10, 3) := by decide +kernel
theorem dX6_write_18 : decode cX6_write 18 = .ok (.iload_n 1, 1) := by decide +kernel
theorem dX6_write_19 : decode cX6_write 19 = .ok (.iconst 1, 1) := by decide +kernel
theorem dX6_write_20 : decode cX6_write 20 = .ok (.iload_n 2, 1) := by decide +kernel
theorem dX6_write_21 : decode cX6_write 21 = .ok (.invokevirtual 152, 3) := by decide +kernel
theorem dX6_write_24 : decode cX6_write 24 = .ok (.ireturn, 1) := by decide +kernel
theorem dX6_sweep_0 : decode cX6_sweep 0 = .ok (.iload_n 1, 1) := by decide +kernel
theorem dX6_sweep_1 : decode cX6_sweep 1 = .ok (.iconst 1, 1) := by decide +kernel
theorem dX6_sweep_2 : decode cX6_sweep 2 = .ok (.aload_n 0, 1) := by decide +kernel
theorem dX6_sweep_3 : decode cX6_sweep 3 = .ok (.getfield 10, 3) := by decide +kernel
theorem dX6_sweep_6 : decode cX6_sweep 6 = .ok (.getfield 103, 3) := by decide +kernel
theorem dX6_sweep_9 : decode cX6_sweep 9 = .ok (.invokestatic 47, 3) := by decide +kernel
theorem dX6_sweep_12 : decode cX6_sweep 12 = .ok (.ifCond .ne 10, 3) := by decide +kernel
theorem dX6_sweep_15 : decode cX6_sweep 15 = .ok (.aload_n 0, 1) := by decide +kernel
theorem dX6_sweep_16 : decode cX6_sweep 16 = .ok (.bipush (-52), 2) := by decide +kernel
theorem dX6_sweep_18 : decode cX6_sweep 18 = .ok (.invokevirtual 51, 3) := by decide +kernel
theorem dX6_sweep_21 : decode cX6_sweep 21 = .ok (.ireturn, 1) := by decide +kernel
theorem dX6_sweep_22 : decode cX6_sweep 22 = .ok (.aload_n 0, 1) := by decide +kernel
theorem dX6_sweep_23 : decode cX6_sweep 23 = .ok (.getfield 10, 3) := by decide +kernel
theorem dX6_sweep_26 : decode cX6_sweep 26 = .ok (.iload_n 1, 1) := by decide +kernel
theorem dX6_sweep_27 : decode cX6_sweep 27 = .ok (.invokevirtual 159, 3) := by decide +kernel
theorem dX6_sweep_30 : decode cX6_sweep 30 = .ok (.ireturn, 1) := by decide +kernel
theorem dX6_clear_0 : decode cX6_clear 0 = .ok (.aload_n 0, 1) := by decide +kernel
theorem dX6_clear_1 : decode cX6_clear 1 = .ok (.getfield 10, 3) := by decide +kernel
theorem dX6_clear_4 : decode cX6_clear 4 = .ok (.iconst 0, 1) := by decide +kernel
theorem dX6_clear_5 : decode cX6_clear 5 = .ok (.invokevirtual 190, 3) := by decide +kernel
theorem dX6_clear_8 : decode cX6_clear 8 = .ok (.invokestatic 193, 3) := by decide +kernel
theorem dX6_clear_11 : decode cX6_clear 11 = .ok (.istore_n 1, 1) := by decide +kernel
theorem dX6_clear_12 : decode cX6_clear 12 = .ok (.aload_n 0, 1) := by decide +kernel
theorem dX6_clear_13 : decode cX6_clear 13 = .ok (.getfield 10, 3) := by decide +kernel
theorem dX6_clear_16 : decode cX6_clear 16 = .ok (.invokevirtual 165, 3) := by decide +kernel
theorem dX6_clear_19 : decode cX6_clear 19 = .ok (.iload_n 1, 1) := by decide +kernel
theorem dX6_clear_20 : decode cX6_clear 20 = .ok (.ireturn, 1) := by decide +kernel
theorem dX6_levelOf_0 : decode cX6_levelOf 0 = .ok (.aload_n 0, 1) := by decide +kernel
theorem dX6_levelOf_1 : decode cX6_levelOf 1 = .ok (.getfield 10, 3) := by decide +kernel
theorem dX6_levelOf_4 : decode cX6_levelOf 4 = .ok (.iload_n 1, 1) := by decide +kernel
theorem dX6_levelOf_5 : decode cX6_levelOf 5 = .ok (.invokevirtual 113, 3) := by decide +kernel
theorem dX6_levelOf_8 : decode cX6_levelOf 8 = .ok (.astore_n 3, 1) := by decide +kernel
theorem dX6_levelOf_9 : decode cX6_levelOf 9 = .ok (.aload_n 3, 1) := by decide +kernel
theorem dX6_levelOf_10 : decode cX6_levelOf 10 = .ok (.ifnull 13, 3) := by decide +kernel
theorem dX6_levelOf_13 : decode cX6_levelOf 13 = .ok (.iload_n 2, 1) := by decide +kernel
theorem dX6_levelOf_14 : decode cX6_levelOf 14 = .ok (.iconst 0, 1) := by decide +kernel
theorem dX6_levelOf_15 : decode cX6_levelOf 15 = .ok (.bipush 9, 2) := by decide +kernel
theorem dX6_levelOf_17 : decode cX6_levelOf 17 = .ok (.invokestatic 47, 3) := by decide +kernel
theorem dX6_levelOf_20 : decode cX6_levelOf 20 = .ok (.ifCond .ne 10, 3) := by decide +kernel
theorem dX6_levelOf_23 : decode cX6_levelOf 23 = .ok (.aload_n 0, 1) := by decide +kernel
theorem dX6_levelOf_24 : decode cX6_levelOf 24 = .ok (.bipush (-52), 2) := by decide +kernel
theorem dX6_levelOf_26 : decode cX6_levelOf 26 = .ok (.invokevirtual 51, 3) := by decide +kernel
theorem dX6_levelOf_29 : decode cX6_levelOf 29 = .ok (.ireturn, 1) := by decide +kernel
theorem dX6_levelOf_30 : decode cX6_levelOf 30 = .ok (.aload_n 3, 1) := by decide +kernel
theorem dX6_levelOf_31 : decode cX6_levelOf 31 = .ok (.iload_n 2, 1) := by decide +kernel
theorem dX6_levelOf_32 : decode cX6_levelOf 32 = .ok (.invokevirtual 199, 3) := by decide +kernel
theorem dX6_levelOf_35 : decode cX6_levelOf 35 = .ok (.ireturn, 1) := by decide +kernel
theorem dX6_slot_0 : decode cX6_slot 0 = .ok (.aload_n 0, 1) := by decide +kernel
theorem dX6_slot_1 : decode cX6_slot 1 = .ok (.getfield 10, 3) := by decide +kernel
theorem dX6_slot_4 : decode cX6_slot 4 = .ok (.iload_n 1, 1) := by decide +kernel
theorem dX6_slot_5 : decode cX6_slot 5 = .ok (.invokevirtual 113, 3) := by decide +kernel
theorem dX6_slot_8 : decode cX6_slot 8 = .ok (.astore 4, 2) := by decide +kernel
theorem dX6_slot_10 : decode cX6_slot 10 = .ok (.aload 4, 2) := by decide +kernel
theorem dX6_slot_12 : decode cX6_slot 12 = .ok (.ifnull 27, 3) := by decide +kernel
theorem dX6_slot_15 : decode cX6_slot 15 = .ok (.iload_n 2, 1) := by decide +kernel
theorem dX6_slot_16 : decode cX6_slot 16 = .ok (.iconst 0, 1) := by decide +kernel
theorem dX6_slot_17 : decode cX6_slot 17 = .ok (.aload 4, 2) := by decide +kernel
theorem dX6_slot_19 : decode cX6_slot 19 = .ok (.getfield 202, 3) := by decide +kernel
theorem dX6_slot_22 : decode cX6_slot 22 = .ok (.iconst 1, 1) := by decide +kernel
theorem dX6_slot_23 : decode cX6_slot 23 = .ok (.isub, 1) := by decide +kernel
theorem dX6_slot_24 : decode cX6_slot 24 = .ok (.invokestatic 47, 3) := by decide +kernel
theorem dX6_slot_27 : decode cX6_slot 27 = .ok (.ifCond .eq 12, 3) := by decide +kernel
theorem dX6_slot_30 : decode cX6_slot 30 = .ok (.iload_n 3, 1) := by decide +kernel
theorem dX6_slot_31 : decode cX6_slot 31 = .ok (.iconst 0, 1) := by decide +kernel
theorem dX6_slot_32 : decode cX6_slot 32 = .ok (.iconst 5, 1) := by decide +kernel
theorem dX6_slot_33 : decode cX6_slot 33 = .ok (.invokestatic 47, 3) := by decide +kernel
theorem dX6_slot_36 : decode cX6_slot 36 = .ok (.ifCond .ne 10, 3) := by decide +kernel
theorem dX6_slot_39 : decode cX6_slot 39 = .ok (.aload_n 0, 1) := by decide +kernel
theorem dX6_slot_40 : decode cX6_slot 40 = .ok (.bipush (-52), 2) := by decide +kernel
theorem dX6_slot_42 : decode cX6_slot 42 = .ok (.invokevirtual 51, 3) := by decide +kernel
theorem dX6_slot_45 : decode cX6_slot 45 = .ok (.ireturn, 1) := by decide +kernel
theorem dX6_slot_46 : decode cX6_slot 46 = .ok (.aload 4, 2) := by decide +kernel
theorem dX6_slot_48 : decode cX6_slot 48 = .ok (.iload_n 2, 1) := by decide +kernel
theorem dX6_slot_49 : decode cX6_slot 49 = .ok (.iload_n 3, 1) := by decide +kernel
theorem dX6_slot_50 : decode cX6_slot 50 = .ok (.invokevirtual 203, 3) := by decide +kernel
theorem dX6_slot_53 : decode cX6_slot 53 = .ok (.ireturn, 1) := by decide +kernel
theorem dX6_value_0 : decode cX6_value 0 = .ok (.iload_n 1, 1) := by decide +kernel
theorem dX6_value_1 : decode cX6_value 1 = .ok (.iconst 0, 1) := by decide +kernel
theorem dX6_value_2 : decode cX6_value 2 = .ok (.aload_n 0, 1) := by decide +kernel
theorem dX6_value_3 : decode cX6_value 3 = .ok (.getfield 10, 3) := by decide +kernel
theorem dX6_value_6 : decode cX6_value 6 = .ok (.getfield 103, 3) := by decide +kernel
theorem dX6_value_9 : decode cX6_value 9 = .ok (.invokestatic 47, 3) := by decide +kernel
theorem dX6_value_12 : decode cX6_value 12 = .ok (.ifCond .eq 10, 3) := by decide +kernel
theorem dX6_value_15 : decode cX6_value 15 = .ok (.iload_n 2, 1) := by decide +kernel
theorem dX6_value_16 : decode cX6_value 16 = .ok (.invokestatic 184, 3) := by decide +kernel
theorem dX6_value_19 : decode cX6_value 19 = .ok (.ifCond .ne 10, 3) := by decide +kernel
theorem dX6_value_22 : decode cX6_value 22 = .ok (.aload_n 0, 1) := by decide +kernel
theorem dX6_value_23 : decode cX6_value 23 = .ok (.bipush (-52), 2) := by decide +kernel
theorem dX6_value_25 : decode cX6_value 25 = .ok (.invokevirtual 51, 3) := by decide +kernel
theorem dX6_value_28 : decode cX6_value 28 = .ok (.ireturn, 1) := by decide +kernel
theorem dX6_value_29 : decode cX6_value 29 = .ok (.iload_n 1, 1) := by decide +kernel
theorem dX6_value_30 : decode cX6_value 30 = .ok (.ifCond .ne 12, 3) := by decide +kernel
theorem dX6_value_33 : decode cX6_value 33 = .ok (.aload_n 0, 1) := by decide +kernel
theorem dX6_value_34 : decode cX6_value 34 = .ok (.getfield 10, 3) := by decide +kernel
theorem dX6_value_37 : decode cX6_value 37 = .ok (.iload_n 2, 1) := by decide +kernel
theorem dX6_value_38 : decode cX6_value 38 = .ok (.invokevirtual 207, 3) := by decide +kernel
theorem dX6_value_41 : decode cX6_value 41 = .ok (.ireturn, 1) := by decide +kernel
theorem dX6_value_42 : decode cX6_value 42 = .ok (.aload_n 0, 1) := by decide +kernel
theorem dX6_value_43 : decode cX6_value 43 = .ok (.getfield 10, 3) := by decide +kernel
theorem dX6_value_46 : decode cX6_value 46 = .ok (.iload_n 1, 1) := by decide +kernel
theorem dX6_value_47 : decode cX6_value 47 = .ok (.invokevirtual 113, 3) := by decide +kernel
theorem dX6_value_50 : decode cX6_value 50 = .ok (.astore_n 3, 1) := by decide +kernel
theorem dX6_value_51 : decode cX6_value 51 = .ok (.aload_n 3, 1) := by decide +kernel
theorem dX6_value_52 : decode cX6_value 52 = .ok (.ifnull 12, 3) := by decide +kernel
theorem dX6_value_55 : decode cX6_value 55 = .ok (.aload_n 3, 1) := by decide +kernel
theorem dX6_value_56 : decode cX6_value 56 = .ok (.iload_n 2, 1) := by decide +kernel
theorem dX6_value_57 : decode cX6_value 57 = .ok (.invokevirtual 210, 3) := by decide +kernel
theorem dX6_value_60 : decode cX6_value 60 = .ok (.iconst (-1), 1) := by decide +kernel
theorem dX6_value_61 : decode cX6_value 61 = .ok (.if_icmp .ne 10, 3) := by decide +kernel
theorem dX6_value_64 : decode cX6_value 64 = .ok (.aload_n 0, 1) := by decide +kernel
theorem dX6_value_65 : decode cX6_value 65 = .ok (.bipush (-55), 2) := by decide +kernel
theorem dX6_value_67 : decode cX6_value 67 = .ok (.invokevirtual 51, 3) := by decide +kernel
theorem dX6_value_70 : decode cX6_value 70 = .ok (.ireturn, 1) := by decide +kernel
theorem dX6_value_71 : decode cX6_value 71 = .ok (.aload_n 3, 1) := by decide +kernel
theorem dX6_value_72 : decode cX6_value 72 = .ok (.aload_n 3, 1) := by decide +kernel
theorem dX6_value_73 : decode cX6_value 73 = .ok (.iload_n 2, 1) := by decide +kernel
theorem dX6_value_74 : decode cX6_value 74 = .ok (.invokevirtual 210, 3) := by decide +kernel
theorem dX6_value_77 : decode cX6_value 77 = .ok (.invokevirtual 213, 3) := by decide +kernel
theorem dX6_value_80 : decode cX6_value 80 = .ok (.ireturn, 1) := by decide +kernel
theorem dX6_where_0 : decode cX6_where 0 = .ok (.iload_n 1, 1) := by decide +kernel
theorem dX6_where_1 : decode cX6_where 1 = .ok (.invokestatic 184, 3) := by decide +kernel
theorem dX6_where_4 : decode cX6_where 4 = .ok (.ifCond .ne 10, 3) := by decide +kernel
theorem dX6_where_7 : decode cX6_where 7 = .ok (.aload_n 0, 1) := by decide +kernel
theorem dX6_where_8 : decode cX6_where 8 = .ok (.bipush (-52), 2) := by decide +kernel
theorem dX6_where_10 : decode cX6_where 10 = .ok (.invokevirtual 51, 3) := by decide +kernel
theorem dX6_where_13 : decode cX6_where 13 = .ok (.ireturn, 1) := by decide +kernel
theorem dX6_where_14 : decode cX6_where 14 = .ok (.aload_n 0, 1) := by decide +kernel
theorem dX6_where_15 : decode cX6_where 15 = .ok (.getfield 10, 3) := by decide +kernel
theorem dX6_where_18 : decode cX6_where 18 = .ok (.iload_n 1, 1) := by decide +kernel
theorem dX6_where_19 : decode cX6_where 19 = .ok (.invokevirtual 216, 3) := by decide +kernel
theorem dX6_where_22 : decode cX6_where 22 = .ok (.ireturn, 1) := by decide +kernel
theorem dX6_pages_0 : decode cX6_pages 0 = .ok (.iload_n 1, 1) := by decide +kernel
theorem dX6_pages_1 : decode cX6_pages 1 = .ok (.iconst 0, 1) := by decide +kernel
theorem dX6_pages_2 : decode cX6_pages 2 = .ok (.aload_n 0, 1) := by decide +kernel
theorem dX6_pages_3 : decode cX6_pages 3 = .ok (.getfield 10, 3) := by decide +kernel
theorem dX6_pages_6 : decode cX6_pages 6 = .ok (.getfield 103, 3) := by decide +kernel
theorem dX6_pages_9 : decode cX6_pages 9 = .ok (.invokestatic 47, 3) := by decide +kernel
theorem dX6_pages_12 : decode cX6_pages 12 = .ok (.ifCond .ne 15, 3) := by decide +kernel
theorem dX6_pages_15 : decode cX6_pages 15 = .ok (.aload_n 0, 1) := by decide +kernel
theorem dX6_pages_16 : decode cX6_pages 16 = .ok (.bipush (-52), 2) := by decide +kernel
theorem dX6_pages_18 : decode cX6_pages 18 = .ok (.invokevirtual 51, 3) := by decide +kernel
theorem dX6_pages_21 : decode cX6_pages 21 = .ok (.i2l, 1) := by decide +kernel
theorem dX6_pages_22 : decode cX6_pages 22 = .ok (.ldc2_w 219, 3) := by decide +kernel
theorem dX6_pages_25 : decode cX6_pages 25 = .ok (.lsub, 1) := by decide +kernel
theorem dX6_pages_26 : decode cX6_pages 26 = .ok (.lreturn, 1) := by decide +kernel
theorem dX6_pages_27 : decode cX6_pages 27 = .ok (.aload_n 0, 1) := by decide +kernel
theorem dX6_pages_28 : decode cX6_pages 28 = .ok (.getfield 10, 3) := by decide +kernel
theorem dX6_pages_31 : decode cX6_pages 31 = .ok (.iload_n 1, 1) := by decide +kernel
theorem dX6_pages_32 : decode cX6_pages 32 = .ok (.invokevirtual 190, 3) := by decide +kernel
theorem dX6_pages_35 : decode cX6_pages 35 = .ok (.lreturn, 1) := by decide +kernel
theorem dX6_differ_0 : decode cX6_differ 0 = .ok (.iload_n 1, 1) := by decide +kernel
theorem dX6_differ_1 : decode cX6_differ 1 = .ok (.iconst 0, 1) := by decide +kernel
theorem dX6_differ_2 : decode cX6_differ 2 = .ok (.iconst 2, 1) := by decide +kernel
theorem dX6_differ_3 : decode cX6_differ 3 = .ok (.invokestatic 47, 3) := by decide +kernel
theorem dX6_differ_6 : decode cX6_differ 6 = .ok (.ifCond .ne 15, 3) := by decide +kernel
theorem dX6_differ_9 : decode cX6_differ 9 = .ok (.aload_n 0, 1) := by decide +kernel
theorem dX6_differ_10 : decode cX6_differ 10 = .ok (.bipush (-52), 2) := by decide +kernel
theorem dX6_differ_12 : decode cX6_differ 12 = .ok (.invokevirtual 51, 3) := by decide +kernel
theorem dX6_differ_15 : decode cX6_differ 15 = .ok (.i2l, 1) := by decide +kernel
theorem dX6_differ_16 : decode cX6_differ 16 = .ok (.ldc2_w 219, 3) := by decide +kernel
theorem dX6_differ_19 : decode cX6_differ 19 = .ok (.lsub, 1) := by decide +kernel
theorem dX6_differ_20 : decode cX6_differ 20 = .ok (.lreturn, 1) := by decide +kernel
theorem dX6_differ_21 : decode cX6_differ 21 = .ok (.lconst 0, 1) := by decide +kernel
theorem dX6_differ_22 : decode cX6_differ 22 = .ok (.lstore_n 2, 1) := by decide +kernel
theorem dX6_differ_23 : decode cX6_differ 23 = .ok (.iconst 0, 1) := by decide +kernel
theorem dX6_differ_24 : decode cX6_differ 24 = .ok (.istore 4, 2) := by decide +kernel
theorem dX6_differ_26 : decode cX6_differ 26 = .ok (.iload 4, 2) := by decide +kernel
theorem dX6_differ_28 : decode cX6_differ 28 = .ok (.bipush 64, 2) := by decide +kernel
theorem dX6_differ_30 : decode cX6_differ 30 = .ok (.if_icmp .ge 29, 3) := by decide +kernel
theorem dX6_differ_33 : decode cX6_differ 33 = .ok (.aload_n 0, 1) := by decide +kernel
theorem dX6_differ_34 : decode cX6_differ 34 = .ok (.getfield 10, 3) := by decide +kernel
theorem dX6_differ_37 : decode cX6_differ 37 = .ok (.iload 4, 2) := by decide +kernel
theorem dX6_differ_39 : decode cX6_differ 39 = .ok (.iload_n 1, 1) := by decide +kernel
theorem dX6_differ_40 : decode cX6_differ 40 = .ok (.invokevirtual 221, 3) := by decide +kernel
theorem dX6_differ_43 : decode cX6_differ 43 = .ok (.ifCond .eq 10, 3) := by decide +kernel
theorem dX6_differ_46 : decode cX6_differ 46 = .ok (.lload_n 2, 1) := by decide +kernel
theorem dX6_differ_47 : decode cX6_differ 47 = .ok (.lconst 1, 1) := by decide +kernel
theorem dX6_differ_48 : decode cX6_differ 48 = .ok (.iload 4, 2) := by decide +kernel
theorem dX6_differ_50 : decode cX6_differ 50 = .ok (.lshl, 1) := by decide +kernel
theorem dX6_differ_51 : decode cX6_differ 51 = .ok (.lor, 1) := by decide +kernel
theorem dX6_differ_52 : decode cX6_differ 52 = .ok (.lstore_n 2, 1) := by decide +kernel
theorem dX6_differ_53 : decode cX6_differ 53 = .ok (.iinc 4 1, 3) := by decide +kernel
theorem dX6_differ_56 : decode cX6_differ 56 = .ok (.goto (-30), 3) := by decide +kernel
theorem dX6_differ_59 : decode cX6_differ 59 = .ok (.lload_n 2, 1) := by decide +kernel
theorem dX6_differ_60 : decode cX6_differ 60 = .ok (.lreturn, 1) := by decide +kernel
theorem dX6_kept_0 : decode cX6_kept 0 = .ok (.aload_n 0, 1) := by decide +kernel
theorem dX6_kept_1 : decode cX6_kept 1 = .ok (.getfield 10, 3) := by decide +kernel
theorem dX6_kept_4 : decode cX6_kept 4 = .ok (.invokevirtual 224, 3) := by decide +kernel
theorem dX6_kept_7 : decode cX6_kept 7 = .ok (.ifCond .eq 7, 3) := by decide +kernel
theorem dX6_kept_10 : decode cX6_kept 10 = .ok (.iconst 1, 1) := by decide +kernel
theorem dX6_kept_11 : decode cX6_kept 11 = .ok (.goto 4, 3) := by decide +kernel
theorem dX6_kept_14 : decode cX6_kept 14 = .ok (.iconst 0, 1) := by decide +kernel
theorem dX6_kept_15 : decode cX6_kept 15 = .ok (.ireturn, 1) := by decide +kernel
theorem dX6_would_0 : decode cX6_would 0 = .ok (.iload_n 1, 1) := by decide +kernel
theorem dX6_would_1 : decode cX6_would 1 = .ok (.invokestatic 184, 3) := by decide +kernel
theorem dX6_would_4 : decode cX6_would 4 = .ok (.ifCond .eq 12, 3) := by decide +kernel
theorem dX6_would_7 : decode cX6_would 7 = .ok (.iload_n 2, 1) := by decide +kernel
theorem dX6_would_8 : decode cX6_would 8 = .ok (.iconst 0, 1) := by decide +kernel
theorem dX6_would_9 : decode cX6_would 9 = .ok (.iconst 3, 1) := by decide +kernel
theorem dX6_would_10 : decode cX6_would 10 = .ok (.invokestatic 47, 3) := by decide +kernel
theorem dX6_would_13 : decode cX6_would 13 = .ok (.ifCond .ne 10, 3) := by decide +kernel
theorem dX6_would_16 : decode cX6_would 16 = .ok (.aload_n 0, 1) := by decide +kernel
theorem dX6_would_17 : decode cX6_would 17 = .ok (.bipush (-52), 2) := by decide +kernel
theorem dX6_would_19 : decode cX6_would 19 = .ok (.invokevirtual 51, 3) := by decide +kernel
theorem dX6_would_22 : decode cX6_would 22 = .ok (.ireturn, 1) := by decide +kernel
theorem dX6_would_23 : decode cX6_would 23 = .ok (.aload_n 0, 1) := by decide +kernel
theorem dX6_would_24 : decode cX6_would 24 = .ok (.getfield 16, 3) := by decide +kernel
theorem dX6_would_27 : decode cX6_would 27 = .ok (.aload_n 0, 1) := by decide +kernel
theorem dX6_would_28 : decode cX6_would 28 = .ok (.getfield 10, 3) := by decide +kernel
theorem dX6_would_31 : decode cX6_would 31 = .ok (.invokevirtual 227, 3) := by decide +kernel
theorem dX6_would_34 : decode cX6_would 34 = .ok (.aload_n 0, 1) := by decide +kernel
theorem dX6_would_35 : decode cX6_would 35 = .ok (.getfield 16, 3) := by decide +kernel
theorem dX6_would_38 : decode cX6_would 38 = .ok (.iload_n 1, 1) := by decide +kernel
theorem dX6_would_39 : decode cX6_would 39 = .ok (.iconst 0, 1) := by decide +kernel
theorem dX6_would_40 : decode cX6_would 40 = .ok (.iconst 0, 1) := by decide +kernel
theorem dX6_would_41 : decode cX6_would 41 = .ok (.invokevirtual 152, 3) := by decide +kernel
theorem dX6_would_44 : decode cX6_would 44 = .ok (.istore_n 3, 1) := by decide +kernel
theorem dX6_would_45 : decode cX6_would 45 = .ok (.iload_n 2, 1) := by decide +kernel
theorem dX6_would_46 : decode cX6_would 46 = .ok (.ifCond .ne 5, 3) := by decide +kernel
theorem dX6_would_49 : decode cX6_would 49 = .ok (.iload_n 3, 1) := by decide +kernel
theorem dX6_would_50 : decode cX6_would 50 = .ok (.ireturn, 1) := by decide +kernel
theorem dX6_would_51 : decode cX6_would 51 = .ok (.iload_n 2, 1) := by decide +kernel
theorem dX6_would_52 : decode cX6_would 52 = .ok (.iconst 1, 1) := by decide +kernel
theorem dX6_would_53 : decode cX6_would 53 = .ok (.if_icmp .ne 19, 3) := by decide +kernel
theorem dX6_would_56 : decode cX6_would 56 = .ok (.aload_n 0, 1) := by decide +kernel
theorem dX6_would_57 : decode cX6_would 57 = .ok (.getfield 16, 3) := by decide +kernel
theorem dX6_would_60 : decode cX6_would 60 = .ok (.invokevirtual 231, 3) := by decide +kernel
theorem dX6_would_63 : decode cX6_would 63 = .ok (.aload_n 0, 1) := by decide +kernel
theorem dX6_would_64 : decode cX6_would 64 = .ok (.getfield 10, 3) := by decide +kernel
theorem dX6_would_67 : decode cX6_would 67 = .ok (.invokevirtual 231, 3) := by decide +kernel
theorem dX6_would_70 : decode cX6_would 70 = .ok (.isub, 1) := by decide +kernel
theorem dX6_would_71 : decode cX6_would 71 = .ok (.ireturn, 1) := by decide +kernel
theorem dX6_would_72 : decode cX6_would 72 = .ok (.iload_n 2, 1) := by decide +kernel
theorem dX6_would_73 : decode cX6_would 73 = .ok (.iconst 2, 1) := by decide +kernel
theorem dX6_would_74 : decode cX6_would 74 = .ok (.if_icmp .ne 19, 3) := by decide +kernel
theorem dX6_would_77 : decode cX6_would 77 = .ok (.aload_n 0, 1) := by decide +kernel
theorem dX6_would_78 : decode cX6_would 78 = .ok (.getfield 16, 3) := by decide +kernel
theorem dX6_would_81 : decode cX6_would 81 = .ok (.getfield 235, 3) := by decide +kernel
theorem dX6_would_84 : decode cX6_would 84 = .ok (.aload_n 0, 1) := by decide +kernel
theorem dX6_would_85 : decode cX6_would 85 = .ok (.getfield 10, 3) := by decide +kernel
theorem dX6_would_88 : decode cX6_would 88 = .ok (.getfield 235, 3) := by decide +kernel
theorem dX6_would_91 : decode cX6_would 91 = .ok (.isub, 1) := by decide +kernel
theorem dX6_would_92 : decode cX6_would 92 = .ok (.ireturn, 1) := by decide +kernel
theorem dX6_would_93 : decode cX6_would 93 = .ok (.aload_n 0, 1) := by decide +kernel
theorem dX6_would_94 : decode cX6_would 94 = .ok (.getfield 10, 3) := by decide +kernel
theorem dX6_would_97 : decode cX6_would 97 = .ok (.iconst 0, 1) := by decide +kernel
theorem dX6_would_98 : decode cX6_would 98 = .ok (.invokevirtual 190, 3) := by decide +kernel
theorem dX6_would_101 : decode cX6_would 101 = .ok (.aload_n 0, 1) := by decide +kernel
theorem dX6_would_102 : decode cX6_would 102 = .ok (.getfield 16, 3) := by decide +kernel
theorem dX6_would_105 : decode cX6_would 105 = .ok (.iconst 0, 1) := by decide +kernel
theorem dX6_would_106 : decode cX6_would 106 = .ok (.invokevirtual 190, 3) := by decide +kernel
theorem dX6_would_109 : decode cX6_would 109 = .ok (.ldc2_w 238, 3) := by decide +kernel
theorem dX6_would_112 : decode cX6_would 112 = .ok (.lxor, 1) := by decide +kernel
theorem dX6_would_113 : decode cX6_would 113 = .ok (.land, 1) := by decide +kernel
theorem dX6_would_114 : decode cX6_would 114 = .ok (.invokestatic 193, 3) := by decide +kernel
theorem dX6_would_117 : decode cX6_would 117 = .ok (.ireturn, 1) := by decide +kernel
theorem dX6_plan_0 : decode cX6_plan 0 = .ok (.aload_n 0, 1) := by decide +kernel
theorem dX6_plan_1 : decode cX6_plan 1 = .ok (.iload_n 1, 1) := by decide +kernel
theorem dX6_plan_2 : decode cX6_plan 2 = .ok (.iload_n 2, 1) := by decide +kernel
theorem dX6_plan_3 : decode cX6_plan 3 = .ok (.iload_n 3, 1) := by decide +kernel
theorem dX6_plan_4 : decode cX6_plan 4 = .ok (.iconst 0, 1) := by decide +kernel
theorem dX6_plan_5 : decode cX6_plan 5 = .ok (.iconst 2, 1) := by decide +kernel
theorem dX6_plan_6 : decode cX6_plan 6 = .ok (.invokestatic 47, 3) := by decide +kernel
theorem dX6_plan_9 : decode cX6_plan 9 = .ok (.invokevirtual 240, 3) := by decide +kernel
theorem dX6_plan_12 : decode cX6_plan 12 = .ok (.istore 4, 2) := by decide +kernel
theorem dX6_plan_14 : decode cX6_plan 14 = .ok (.iload 4, 2) := by decide +kernel
theorem dX6_plan_16 : decode cX6_plan 16 = .ok (.ifCond .eq 6, 3) := by decide +kernel
theorem dX6_plan_19 : decode cX6_plan 19 = .ok (.iload 4, 2) := by decide +kernel
theorem dX6_plan_21 : decode cX6_plan 21 = .ok (.ireturn, 1) := by decide +kernel
theorem dX6_plan_22 : decode cX6_plan 22 = .ok (.aload_n 0, 1) := by decide +kernel
theorem dX6_plan_23 : decode cX6_plan 23 = .ok (.getfield 16, 3) := by decide +kernel
theorem dX6_plan_26 : decode cX6_plan 26 = .ok (.aload_n 0, 1) := by decide +kernel
theorem dX6_plan_27 : decode cX6_plan 27 = .ok (.getfield 10, 3) := by decide +kernel
theorem dX6_plan_30 : decode cX6_plan 30 = .ok (.invokevirtual 227, 3) := by decide +kernel
theorem dX6_plan_33 : decode cX6_plan 33 = .ok (.iconst 0, 1) := by decide +kernel
theorem dX6_plan_34 : decode cX6_plan 34 = .ok (.istore 5, 2) := by decide +kernel
theorem dX6_plan_36 : decode cX6_plan 36 = .ok (.iconst 0, 1) := by decide +kernel
theorem dX6_plan_37 : decode cX6_plan 37 = .ok (.istore 6, 2) := by decide +kernel
theorem dX6_plan_39 : decode cX6_plan 39 = .ok (.iconst 0, 1) := by decide +kernel
theorem dX6_plan_40 : decode cX6_plan 40 = .ok (.istore 7, 2) := by decide +kernel
theorem dX6_plan_42 : decode cX6_plan 42 = .ok (.iconst 0, 1) := by decide +kernel
theorem dX6_plan_43 : decode cX6_plan 43 = .ok (.istore 8, 2) := by decide +kernel
theorem dX6_plan_45 : decode cX6_plan 45 = .ok (.iload 8, 2) := by decide +kernel
theorem dX6_plan_47 : decode cX6_plan 47 = .ok (.iload_n 2, 1) := by decide +kernel
theorem dX6_plan_48 : decode cX6_plan 48 = .ok (.if_icmp .ge 70, 3) := by decide +kernel
theorem dX6_plan_51 : decode cX6_plan 51 = .ok (.iload 5, 2) := by decide +kernel
theorem dX6_plan_53 : decode cX6_plan 53 = .ok (.aload_n 0, 1) := by decide +kernel
theorem dX6_plan_54 : decode cX6_plan 54 = .ok (.getfield 16, 3) := by decide +kernel
theorem dX6_plan_57 : decode cX6_plan 57 = .ok (.aload_n 0, 1) := by decide +kernel
theorem dX6_plan_58 : decode cX6_plan 58 = .ok (.iload 8, 2) := by decide +kernel
theorem dX6_plan_60 : decode cX6_plan 60 = .ok (.invokevirtual 244, 3) := by decide +kernel
theorem dX6_plan_63 : decode cX6_plan 63 = .ok (.iconst 0, 1) := by decide +kernel
theorem dX6_plan_64 : decode cX6_plan 64 = .ok (.iconst 0, 1) := by decide +kernel
theorem dX6_plan_65 : decode cX6_plan 65 = .ok (.invokevirtual 152, 3) := by decide +kernel
theorem dX6_plan_68 : decode cX6_plan 68 = .ok (.iadd, 1) := by decide +kernel
theorem dX6_plan_69 : decode cX6_plan 69 = .ok (.istore 5, 2) := by decide +kernel
theorem dX6_plan_71 : decode cX6_plan 71 = .ok (.iload 6, 2) := by decide +kernel
theorem dX6_plan_73 : decode cX6_plan 73 = .ok (.aload_n 0, 1) := by decide +kernel
theorem dX6_plan_74 : decode cX6_plan 74 = .ok (.getfield 16, 3) := by decide +kernel
theorem dX6_plan_77 : decode cX6_plan 77 = .ok (.getfield 247, 3) := by decide +kernel
theorem dX6_plan_80 : decode cX6_plan 80 = .ok (.iconst 1, 1) := by decide +kernel
theorem dX6_plan_81 : decode cX6_plan 81 = .ok (.if_icmp .ne 7, 3) := by decide +kernel
theorem dX6_plan_84 : decode cX6_plan 84 = .ok (.iconst 1, 1) := by decide +kernel
theorem dX6_plan_85 : decode cX6_plan 85 = .ok (.goto 4, 3) := by decide +kernel
theorem dX6_plan_88 : decode cX6_plan 88 = .ok (.iconst 0, 1) := by decide +kernel
theorem dX6_plan_89 : decode cX6_plan 89 = .ok (.iadd, 1) := by decide +kernel
theorem dX6_plan_90 : decode cX6_plan 90 = .ok (.istore 6, 2) := by decide +kernel
theorem dX6_plan_92 : decode cX6_plan 92 = .ok (.iload 7, 2) := by decide +kernel
theorem dX6_plan_94 : decode cX6_plan 94 = .ok (.aload_n 0, 1) := by decide +kernel
theorem dX6_plan_95 : decode cX6_plan 95 = .ok (.getfield 16, 3) := by decide +kernel
theorem dX6_plan_98 : decode cX6_plan 98 = .ok (.getfield 247, 3) := by decide +kernel
theorem dX6_plan_101 : decode cX6_plan 101 = .ok (.ifCond .ne 7, 3) := by decide +kernel
theorem dX6_plan_104 : decode cX6_plan 104 = .ok (.iconst 1, 1) := by decide +kernel
theorem dX6_plan_105 : decode cX6_plan 105 = .ok (.goto 4, 3) := by decide +kernel
theorem dX6_plan_108 : decode cX6_plan 108 = .ok (.iconst 0, 1) := by decide +kernel
theorem dX6_plan_109 : decode cX6_plan 109 = .ok (.iadd, 1) := by decide +kernel
theorem dX6_plan_110 : decode cX6_plan 110 = .ok (.istore 7, 2) := by decide +kernel
theorem dX6_plan_112 : decode cX6_plan 112 = .ok (.iinc 8 1, 3) := by decide +kernel
theorem dX6_plan_115 : decode cX6_plan 115 = .ok (.goto (-70), 3) := by decide +kernel
theorem dX6_plan_118 : decode cX6_plan 118 = .ok (.iload_n 3, 1) := by decide +kernel
theorem dX6_plan_119 : decode cX6_plan 119 = .ok (.ifCond .ne 6, 3) := by decide +kernel
theorem dX6_plan_122 : decode cX6_plan 122 = .ok (.iload 5, 2) := by decide +kernel
theorem dX6_plan_124 : decode cX6_plan 124 = .ok (.ireturn, 1) := by decide +kernel
theorem dX6_plan_125 : decode cX6_plan 125 = .ok (.iload_n 3, 1) := by decide +kernel
theorem dX6_plan_126 : decode cX6_plan 126 = .ok (.iconst 1, 1) := by decide +kernel
theorem dX6_plan_127 : decode cX6_plan 127 = .ok (.if_icmp .ne 8, 3) := by decide +kernel
theorem dX6_plan_130 : decode cX6_plan 130 = .ok (.iload 6, 2) := by decide +kernel
theorem dX6_plan_132 : decode cX6_plan 132 = .ok (.goto 5, 3) := by decide +kernel
theorem dX6_plan_135 : decode cX6_plan 135 = .ok (.iload 7, 2) := by decide +kernel
theorem dX6_plan_137 : decode cX6_plan 137 = .ok (.ireturn, 1) := by decide +kernel
theorem dX6_rule_0 : decode cX6_rule 0 = .ok (.aload_n 0, 1) := by decide +kernel
theorem dX6_rule_1 : decode cX6_rule 1 = .ok (.iload_n 2, 1) := by decide +kernel
theorem dX6_rule_2 : decode cX6_rule 2 = .ok (.iload_n 3, 1) := by decide +kernel
theorem dX6_rule_3 : decode cX6_rule 3 = .ok (.iload_n 1, 1) := by decide +kernel
theorem dX6_rule_4 : decode cX6_rule 4 = .ok (.iconst 1, 1) := by decide +kernel
theorem dX6_rule_5 : decode cX6_rule 5 = .ok (.aload_n 0, 1) := by decide +kernel
theorem dX6_rule_6 : decode cX6_rule 6 = .ok (.getfield 10, 3) := by decide +kernel
theorem dX6_rule_9 : decode cX6_rule 9 = .ok (.getfield 103, 3) := by decide +kernel
theorem dX6_rule_12 : decode cX6_rule 12 = .ok (.invokestatic 47, 3) := by decide +kernel
theorem dX6_rule_15 : decode cX6_rule 15 = .ok (.invokevirtual 240, 3) := by decide +kernel
theorem dX6_rule_18 : decode cX6_rule 18 = .ok (.istore 4, 2) := by decide +kernel
theorem dX6_rule_20 : decode cX6_rule 20 = .ok (.iload 4, 2) := by decide +kernel
theorem dX6_rule_22 : decode cX6_rule 22 = .ok (.ifCond .eq 6, 3) := by decide +kernel
theorem dX6_rule_25 : decode cX6_rule 25 = .ok (.iload 4, 2) := by decide +kernel
theorem dX6_rule_27 : decode cX6_rule 27 = .ok (.ireturn, 1) := by decide +kernel
theorem dX6_rule_28 : decode cX6_rule 28 = .ok (.iconst (-1), 1) := by decide +kernel
theorem dX6_rule_29 : decode cX6_rule 29 = .ok (.istore 5, 2) := by decide +kernel
theorem dX6_rule_31 : decode cX6_rule 31 = .ok (.iconst 0, 1) := by decide +kernel
theorem dX6_rule_32 : decode cX6_rule 32 = .ok (.istore 6, 2) := by decide +kernel
theorem dX6_rule_34 : decode cX6_rule 34 = .ok (.iconst 3, 1) := by decide +kernel
theorem dX6_rule_35 : decode cX6_rule 35 = .ok (.istore 7, 2) := by decide +kernel
theorem dX6_rule_37 : decode cX6_rule 37 = .ok (.iload 7, 2) := by decide +kernel
theorem dX6_rule_39 : decode cX6_rule 39 = .ok (.bipush 8, 2) := by decide +kernel
theorem dX6_rule_41 : decode cX6_rule 41 = .ok (.if_icmp .gt 63, 3) := by decide +kernel
theorem dX6_rule_44 : decode cX6_rule 44 = .ok (.aload_n 0, 1) := by decide +kernel
theorem dX6_rule_45 : decode cX6_rule 45 = .ok (.invokevirtual 250, 3) := by decide +kernel
theorem dX6_rule_48 : decode cX6_rule 48 = .ok (.aload_n 0, 1) := by decide +kernel
theorem dX6_rule_49 : decode cX6_rule 49 = .ok (.getfield 16, 3) := by decide +kernel
theorem dX6_rule_52 : decode cX6_rule 52 = .ok (.iload_n 1, 1) := by decide +kernel
theorem dX6_rule_53 : decode cX6_rule 53 = .ok (.invokevirtual 113, 3) := by decide +kernel
theorem dX6_rule_56 : decode cX6_rule 56 = .ok (.astore 8, 2) := by decide +kernel
theorem dX6_rule_58 : decode cX6_rule 58 = .ok (.aload 8, 2) := by decide +kernel
theorem dX6_rule_60 : decode cX6_rule 60 = .ok (.ifnull 10, 3) := by decide +kernel
theorem dX6_rule_63 : decode cX6_rule 63 = .ok (.aload 8, 2) := by decide +kernel
theorem dX6_rule_65 : decode cX6_rule 65 = .ok (.iload 7, 2) := by decide +kernel
theorem dX6_rule_67 : decode cX6_rule 67 = .ok (.putfield 117, 3) := by decide +kernel
theorem dX6_rule_70 : decode cX6_rule 70 = .ok (.aload_n 0, 1) := by decide +kernel
theorem dX6_rule_71 : decode cX6_rule 71 = .ok (.iload_n 3, 1) := by decide +kernel
theorem dX6_rule_72 : decode cX6_rule 72 = .ok (.invokevirtual 253, 3) := by decide +kernel
theorem dX6_rule_75 : decode cX6_rule 75 = .ok (.istore 9, 2) := by decide +kernel
theorem dX6_rule_77 : decode cX6_rule 77 = .ok (.iload 5, 2) := by decide +kernel
theorem dX6_rule_79 : decode cX6_rule 79 = .ok (.iconst (-1), 1) := by decide +kernel
theorem dX6_rule_80 : decode cX6_rule 80 = .ok (.if_icmp .eq 10, 3) := by decide +kernel
theorem dX6_rule_83 : decode cX6_rule 83 = .ok (.iload 9, 2) := by decide +kernel
theorem dX6_rule_85 : decode cX6_rule 85 = .ok (.iload 6, 2) := by decide +kernel
theorem dX6_rule_87 : decode cX6_rule 87 = .ok (.if_icmp .ge 11, 3) := by decide +kernel
theorem dX6_rule_90 : decode cX6_rule 90 = .ok (.iload 7, 2) := by decide +kernel
theorem dX6_rule_92 : decode cX6_rule 92 = .ok (.istore 5, 2) := by decide +kernel
theorem dX6_rule_94 : decode cX6_rule 94 = .ok (.iload 9, 2) := by decide +kernel
theorem dX6_rule_96 : decode cX6_rule 96 = .ok (.istore 6, 2) := by decide +kernel
theorem dX6_rule_98 : decode cX6_rule 98 = .ok (.iinc 7 1, 3) := by decide +kernel
theorem dX6_rule_101 : decode cX6_rule 101 = .ok (.goto (-64), 3) := by decide +kernel
theorem dX6_rule_104 : decode cX6_rule 104 = .ok (.iload 5, 2) := by decide +kernel
theorem dX6_rule_106 : decode cX6_rule 106 = .ok (.ireturn, 1) := by decide +kernel
theorem dX6_size_0 : decode cX6_size 0 = .ok (.aload_n 0, 1) := by decide +kernel
theorem dX6_size_1 : decode cX6_size 1 = .ok (.iload_n 2, 1) := by decide +kernel
theorem dX6_size_2 : decode cX6_size 2 = .ok (.iload_n 3, 1) := by decide +kernel
theorem dX6_size_3 : decode cX6_size 3 = .ok (.iload_n 1, 1) := by decide +kernel
theorem dX6_size_4 : decode cX6_size 4 = .ok (.iconst 1, 1) := by decide +kernel
theorem dX6_size_5 : decode cX6_size 5 = .ok (.aload_n 0, 1) := by decide +kernel
theorem dX6_size_6 : decode cX6_size 6 = .ok (.getfield 10, 3) := by decide +kernel
theorem dX6_size_9 : decode cX6_size 9 = .ok (.getfield 103, 3) := by decide +kernel
theorem dX6_size_12 : decode cX6_size 12 = .ok (.invokestatic 47, 3) := by decide +kernel
theorem dX6_size_15 : decode cX6_size 15 = .ok (.ifCond .eq 12, 3) := by decide +kernel
theorem dX6_size_18 : decode cX6_size 18 = .ok (.iload 4, 2) := by decide +kernel
theorem dX6_size_20 : decode cX6_size 20 = .ok (.ifCond .lt 7, 3) := by decide +kernel
theorem dX6_size_23 : decode cX6_size 23 = .ok (.iconst 1, 1) := by decide +kernel
theorem dX6_size_24 : decode cX6_size 24 = .ok (.goto 4, 3) := by decide +kernel
theorem dX6_size_27 : decode cX6_size 27 = .ok (.iconst 0, 1) := by decide +kernel
theorem dX6_size_28 : decode cX6_size 28 = .ok (.invokevirtual 240, 3) := by decide +kernel
theorem dX6_size_31 : decode cX6_size 31 = .ok (.istore 5, 2) := by decide +kernel
theorem dX6_size_33 : decode cX6_size 33 = .ok (.iload 5, 2) := by decide +kernel
theorem dX6_size_35 : decode cX6_size 35 = .ok (.ifCond .eq 6, 3) := by decide +kernel
theorem dX6_size_38 : decode cX6_size 38 = .ok (.iload 5, 2) := by decide +kernel
theorem dX6_size_40 : decode cX6_size 40 = .ok (.ireturn, 1) := by decide +kernel
theorem dX6_size_41 : decode cX6_size 41 = .ok (.iconst 1, 1) := by decide +kernel
theorem dX6_size_42 : decode cX6_size 42 = .ok (.istore 6, 2) := by decide +kernel
theorem dX6_size_44 : decode cX6_size 44 = .ok (.iload 6, 2) := by decide +kernel
theorem dX6_size_46 : decode cX6_size 46 = .ok (.bipush 16, 2) := by decide +kernel
theorem dX6_size_48 : decode cX6_size 48 = .ok (.if_icmp .gt 48, 3) := by decide +kernel
theorem dX6_size_51 : decode cX6_size 51 = .ok (.aload_n 0, 1) := by decide +kernel
theorem dX6_size_52 : decode cX6_size 52 = .ok (.invokevirtual 250, 3) := by decide +kernel
theorem dX6_size_55 : decode cX6_size 55 = .ok (.aload_n 0, 1) := by decide +kernel
theorem dX6_size_56 : decode cX6_size 56 = .ok (.getfield 16, 3) := by decide +kernel
theorem dX6_size_59 : decode cX6_size 59 = .ok (.iload_n 1, 1) := by decide +kernel
theorem dX6_size_60 : decode cX6_size 60 = .ok (.invokevirtual 113, 3) := by decide +kernel
theorem dX6_size_63 : decode cX6_size 63 = .ok (.astore 7, 2) := by decide +kernel
theorem dX6_size_65 : decode cX6_size 65 = .ok (.aload 7, 2) := by decide +kernel
theorem dX6_size_67 : decode cX6_size 67 = .ok (.ifnull 10, 3) := by decide +kernel
theorem dX6_size_70 : decode cX6_size 70 = .ok (.aload 7, 2) := by decide +kernel
theorem dX6_size_72 : decode cX6_size 72 = .ok (.iload 6, 2) := by decide +kernel
theorem dX6_size_74 : decode cX6_size 74 = .ok (.putfield 202, 3) := by decide +kernel
theorem dX6_size_77 : decode cX6_size 77 = .ok (.aload_n 0, 1) := by decide +kernel
theorem dX6_size_78 : decode cX6_size 78 = .ok (.iload_n 3, 1) := by decide +kernel
theorem dX6_size_79 : decode cX6_size 79 = .ok (.invokevirtual 253, 3) := by decide +kernel
theorem dX6_size_82 : decode cX6_size 82 = .ok (.iload 4, 2) := by decide +kernel
theorem dX6_size_84 : decode cX6_size 84 = .ok (.if_icmp .gt 6, 3) := by decide +kernel
theorem dX6_size_87 : decode cX6_size 87 = .ok (.iload 6, 2) := by decide +kernel
theorem dX6_size_89 : decode cX6_size 89 = .ok (.ireturn, 1) := by decide +kernel
theorem dX6_size_90 : decode cX6_size 90 = .ok (.iinc 6 1, 3) := by decide +kernel
theorem dX6_size_93 : decode cX6_size 93 = .ok (.goto (-49), 3) := by decide +kernel
theorem dX6_size_96 : decode cX6_size 96 = .ok (.iconst (-1), 1) := by decide +kernel
theorem dX6_size_97 : decode cX6_size 97 = .ok (.ireturn, 1) := by decide +kernel
theorem dX6_modes_0 : decode cX6_modes 0 = .ok (.aload_n 0, 1) := by decide +kernel
theorem dX6_modes_1 : decode cX6_modes 1 = .ok (.iload_n 1, 1) := by decide +kernel
theorem dX6_modes_2 : decode cX6_modes 2 = .ok (.iload_n 2, 1) := by decide +kernel
theorem dX6_modes_3 : decode cX6_modes 3 = .ok (.iconst 1, 1) := by decide +kernel
theorem dX6_modes_4 : decode cX6_modes 4 = .ok (.invokevirtual 240, 3) := by decide +kernel
theorem dX6_modes_7 : decode cX6_modes 7 = .ok (.istore_n 3, 1) := by decide +kernel
theorem dX6_modes_8 : decode cX6_modes 8 = .ok (.iload_n 3, 1) := by decide +kernel
theorem dX6_modes_9 : decode cX6_modes 9 = .ok (.ifCond .eq 5, 3) := by decide +kernel
theorem dX6_modes_12 : decode cX6_modes 12 = .ok (.iload_n 3, 1) := by decide +kernel
theorem dX6_modes_13 : decode cX6_modes 13 = .ok (.ireturn, 1) := by decide +kernel
theorem dX6_modes_14 : decode cX6_modes 14 = .ok (.iconst 0, 1) := by decide +kernel
theorem dX6_modes_15 : decode cX6_modes 15 = .ok (.istore 4, 2) := by decide +kernel
theorem dX6_modes_17 : decode cX6_modes 17 = .ok (.iconst 0, 1) := by decide +kernel
theorem dX6_modes_18 : decode cX6_modes 18 = .ok (.istore 5, 2) := by decide +kernel
theorem dX6_modes_20 : decode cX6_modes 20 = .ok (.iconst 0, 1) := by decide +kernel
theorem dX6_modes_21 : decode cX6_modes 21 = .ok (.istore 6, 2) := by decide +kernel
theorem dX6_modes_23 : decode cX6_modes 23 = .ok (.iload 6, 2) := by decide +kernel
theorem dX6_modes_25 : decode cX6_modes 25 = .ok (.iconst 2, 1) := by decide +kernel
theorem dX6_modes_26 : decode cX6_modes 26 = .ok (.if_icmp .gt 64, 3) := by decide +kernel
theorem dX6_modes_29 : decode cX6_modes 29 = .ok (.aload_n 0, 1) := by decide +kernel
theorem dX6_modes_30 : decode cX6_modes 30 = .ok (.invokevirtual 250, 3) := by decide +kernel
theorem dX6_modes_33 : decode cX6_modes 33 = .ok (.aload_n 0, 1) := by decide +kernel
theorem dX6_modes_34 : decode cX6_modes 34 = .ok (.getfield 16, 3) := by decide +kernel
theorem dX6_modes_37 : decode cX6_modes 37 = .ok (.iload 6, 2) := by decide +kernel
theorem dX6_modes_39 : decode cX6_modes 39 = .ok (.putfield 175, 3) := by decide +kernel
theorem dX6_modes_42 : decode cX6_modes 42 = .ok (.aload_n 0, 1) := by decide +kernel
theorem dX6_modes_43 : decode cX6_modes 43 = .ok (.iload_n 2, 1) := by decide +kernel
theorem dX6_modes_44 : decode cX6_modes 44 = .ok (.invokevirtual 253, 3) := by decide +kernel
theorem dX6_modes_47 : decode cX6_modes 47 = .ok (.istore 7, 2) := by decide +kernel
theorem dX6_modes_49 : decode cX6_modes 49 = .ok (.iload 4, 2) := by decide +kernel
theorem dX6_modes_51 : decode cX6_modes 51 = .ok (.ifCond .eq 10, 3) := by decide +kernel
theorem dX6_modes_54 : decode cX6_modes 54 = .ok (.iload 7, 2) := by decide +kernel
theorem dX6_modes_56 : decode cX6_modes 56 = .ok (.iload 5, 2) := by decide +kernel
theorem dX6_modes_58 : decode cX6_modes 58 = .ok (.if_icmp .ge 10, 3) := by decide +kernel
theorem dX6_modes_61 : decode cX6_modes 61 = .ok (.iconst 0, 1) := by decide +kernel
theorem dX6_modes_62 : decode cX6_modes 62 = .ok (.istore 4, 2) := by decide +kernel
theorem dX6_modes_64 : decode cX6_modes 64 = .ok (.iload 7, 2) := by decide +kernel
theorem dX6_modes_66 : decode cX6_modes 66 = .ok (.istore 5, 2) := by decide +kernel
theorem dX6_modes_68 : decode cX6_modes 68 = .ok (.iload 7, 2) := by decide +kernel
theorem dX6_modes_70 : decode cX6_modes 70 = .ok (.iload 5, 2) := by decide +kernel
theorem dX6_modes_72 : decode cX6_modes 72 = .ok (.if_icmp .ne 12, 3) := by decide +kernel
theorem dX6_modes_75 : decode cX6_modes 75 = .ok (.iload 4, 2) := by decide +kernel
theorem dX6_modes_77 : decode cX6_modes 77 = .ok (.iconst 1, 1) := by decide +kernel
theorem dX6_modes_78 : decode cX6_modes 78 = .ok (.iload 6, 2) := by decide +kernel
theorem dX6_modes_80 : decode cX6_modes 80 = .ok (.ishl, 1) := by decide +kernel
theorem dX6_modes_81 : decode cX6_modes 81 = .ok (.ior, 1) := by decide +kernel
theorem dX6_modes_82 : decode cX6_modes 82 = .ok (.istore 4, 2) := by decide +kernel
theorem dX6_modes_84 : decode cX6_modes 84 = .ok (.iinc 6 1, 3) := by decide +kernel
theorem dX6_modes_87 : decode cX6_modes 87 = .ok (.goto (-64), 3) := by decide +kernel
theorem dX6_modes_90 : decode cX6_modes 90 = .ok (.iload 4, 2) := by decide +kernel
theorem dX6_modes_92 : decode cX6_modes 92 = .ok (.ireturn, 1) := by decide +kernel
theorem dX6_foresight_0 : decode cX6_foresight 0 = .ok (.aload_n 0, 1) := by decide +kernel
theorem dX6_foresight_1 : decode cX6_foresight 1 = .ok (.iload_n 1, 1) := by decide +kernel
theorem dX6_foresight_2 : decode cX6_foresight 2 = .ok (.iload_n 2, 1) := by decide +kernel
theorem dX6_foresight_3 : decode cX6_foresight 3 = .ok (.iload_n 3, 1) := by decide +kernel
theorem dX6_foresight_4 : decode cX6_foresight 4 = .ok (.iconst 1, 1) := by decide +kernel
theorem dX6_foresight_5 : decode cX6_foresight 5 = .ok (.bipush 16, 2) := by decide +kernel
theorem dX6_foresight_7 : decode cX6_foresight 7 = .ok (.invokestatic 47, 3) := by decide +kernel
theorem dX6_foresight_10 : decode cX6_foresight 10 = .ok (.invokevirtual 240, 3) := by decide +kernel
theorem dX6_foresight_13 : decode cX6_foresight 13 = .ok (.istore 4, 2) := by decide +kernel
theorem dX6_foresight_15 : decode cX6_foresight 15 = .ok (.iload 4, 2) := by decide +kernel
theorem dX6_foresight_17 : decode cX6_foresight 17 = .ok (.ifCond .eq 6, 3) := by decide +kernel
theorem dX6_foresight_20 : decode cX6_foresight 20 = .ok (.iload 4, 2) := by decide +kernel
theorem dX6_foresight_22 : decode cX6_foresight 22 = .ok (.ireturn, 1) := by decide +kernel
theorem dX6_foresight_23 : decode cX6_foresight 23 = .ok (.aload_n 0, 1) := by decide +kernel
theorem dX6_foresight_24 : decode cX6_foresight 24 = .ok (.iload_n 2, 1) := by decide +kernel
theorem dX6_foresight_25 : decode cX6_foresight 25 = .ok (.iload_n 3, 1) := by decide +kernel
theorem dX6_foresight_26 : decode cX6_foresight 26 = .ok (.invokevirtual 256, 3) := by decide +kernel
theorem dX6_foresight_29 : decode cX6_foresight 29 = .ok (.ireturn, 1) := by decide +kernel
theorem dX6_reuse_0 : decode cX6_reuse 0 = .ok (.aload_n 0, 1) := by decide +kernel
theorem dX6_reuse_1 : decode cX6_reuse 1 = .ok (.iload_n 1, 1) := by decide +kernel
theorem dX6_reuse_2 : decode cX6_reuse 2 = .ok (.iload_n 2, 1) := by decide +kernel
theorem dX6_reuse_3 : decode cX6_reuse 3 = .ok (.iconst 1, 1) := by decide +kernel
theorem dX6_reuse_4 : decode cX6_reuse 4 = .ok (.invokevirtual 240, 3) := by decide +kernel
theorem dX6_reuse_7 : decode cX6_reuse 7 = .ok (.istore 4, 2) := by decide +kernel
theorem dX6_reuse_9 : decode cX6_reuse 9 = .ok (.iload 4, 2) := by decide +kernel
theorem dX6_reuse_11 : decode cX6_reuse 11 = .ok (.ifCond .eq 6, 3) := by decide +kernel
theorem dX6_reuse_14 : decode cX6_reuse 14 = .ok (.iload 4, 2) := by decide +kernel
theorem dX6_reuse_16 : decode cX6_reuse 16 = .ok (.ireturn, 1) := by decide +kernel
theorem dX6_reuse_17 : decode cX6_reuse 17 = .ok (.iload_n 3, 1) := by decide +kernel
theorem dX6_reuse_18 : decode cX6_reuse 18 = .ok (.iconst 0, 1) := by decide +kernel
theorem dX6_reuse_19 : decode cX6_reuse 19 = .ok (.iload_n 2, 1) := by decide +kernel
theorem dX6_reuse_20 : decode cX6_reuse 20 = .ok (.iconst 1, 1) := by decide +kernel
theorem dX6_reuse_21 : decode cX6_reuse 21 = .ok (.isub, 1) := by decide +kernel
theorem dX6_reuse_22 : decode cX6_reuse 22 = .ok (.invokestatic 47, 3) := by decide +kernel
theorem dX6_reuse_25 : decode cX6_reuse 25 = .ok (.ifCond .ne 10, 3) := by decide +kernel
theorem dX6_reuse_28 : decode cX6_reuse 28 = .ok (.aload_n 0, 1) := by decide +kernel
theorem dX6_reuse_29 : decode cX6_reuse 29 = .ok (.bipush (-52), 2) := by decide +kernel
theorem dX6_reuse_31 : decode cX6_reuse 31 = .ok (.invokevirtual 51, 3) := by decide +kernel
theorem dX6_reuse_34 : decode cX6_reuse 34 = .ok (.ireturn, 1) := by decide +kernel
theorem dX6_reuse_35 : decode cX6_reuse 35 = .ok (.aload_n 0, 1) := by decide +kernel
theorem dX6_reuse_36 : decode cX6_reuse 36 = .ok (.iload_n 3, 1) := by decide +kernel
theorem dX6_reuse_37 : decode cX6_reuse 37 = .ok (.invokevirtual 259, 3) := by decide +kernel
theorem dX6_reuse_40 : decode cX6_reuse 40 = .ok (.ireturn, 1) := by decide +kernel
theorem dX6_rowOf_0 : decode cX6_rowOf 0 = .ok (.aload_n 0, 1) := by decide +kernel
theorem dX6_rowOf_1 : decode cX6_rowOf 1 = .ok (.iload_n 1, 1) := by decide +kernel
theorem dX6_rowOf_2 : decode cX6_rowOf 2 = .ok (.iload_n 2, 1) := by decide +kernel
theorem dX6_rowOf_3 : decode cX6_rowOf 3 = .ok (.iload_n 3, 1) := by decide +kernel
theorem dX6_rowOf_4 : decode cX6_rowOf 4 = .ok (.iconst 0, 1) := by decide +kernel
theorem dX6_rowOf_5 : decode cX6_rowOf 5 = .ok (.iconst 2, 1) := by decide +kernel
theorem dX6_rowOf_6 : decode cX6_rowOf 6 = .ok (.invokestatic 47, 3) := by decide +kernel
theorem dX6_rowOf_9 : decode cX6_rowOf 9 = .ok (.invokevirtual 240, 3) := by decide +kernel
theorem dX6_rowOf_12 : decode cX6_rowOf 12 = .ok (.istore 4, 2) := by decide +kernel
theorem dX6_rowOf_14 : decode cX6_rowOf 14 = .ok (.iload 4, 2) := by decide +kernel
theorem dX6_rowOf_16 : decode cX6_rowOf 16 = .ok (.ifCond .eq 6, 3) := by decide +kernel
theorem dX6_rowOf_19 : decode cX6_rowOf 19 = .ok (.iload 4, 2) := by decide +kernel
theorem dX6_rowOf_21 : decode cX6_rowOf 21 = .ok (.ireturn, 1) := by decide +kernel
theorem dX6_rowOf_22 : decode cX6_rowOf 22 = .ok (.iload_n 3, 1) := by decide +kernel
theorem dX6_rowOf_23 : decode cX6_rowOf 23 = .ok (.ifCond .ne 13, 3) := by decide +kernel
theorem dX6_rowOf_26 : decode cX6_rowOf 26 = .ok (.aload_n 0, 1) := by decide +kernel
theorem dX6_rowOf_27 : decode cX6_rowOf 27 = .ok (.iconst 0, 1) := by decide +kernel
theorem dX6_rowOf_28 : decode cX6_rowOf 28 = .ok (.iload_n 2, 1) := by decide +kernel
theorem dX6_rowOf_29 : decode cX6_rowOf 29 = .ok (.invokevirtual 262, 3) := by decide +kernel
theorem dX6_rowOf_32 : decode cX6_rowOf 32 = .ok (.invokestatic 193, 3) := by decide +kernel
theorem dX6_rowOf_35 : decode cX6_rowOf 35 = .ok (.ireturn, 1) := by decide +kernel
theorem dX6_rowOf_36 : decode cX6_rowOf 36 = .ok (.iload_n 3, 1) := by decide +kernel
theorem dX6_rowOf_37 : decode cX6_rowOf 37 = .ok (.iconst 1, 1) := by decide +kernel
theorem dX6_rowOf_38 : decode cX6_rowOf 38 = .ok (.if_icmp .ne 11, 3) := by decide +kernel
theorem dX6_rowOf_41 : decode cX6_rowOf 41 = .ok (.aload_n 0, 1) := by decide +kernel
theorem dX6_rowOf_42 : decode cX6_rowOf 42 = .ok (.iload_n 2, 1) := by decide +kernel
theorem dX6_rowOf_43 : decode cX6_rowOf 43 = .ok (.invokevirtual 266, 3) := by decide +kernel
theorem dX6_rowOf_46 : decode cX6_rowOf 46 = .ok (.goto 8, 3) := by decide +kernel
theorem dX6_rowOf_49 : decode cX6_rowOf 49 = .ok (.aload_n 0, 1) := by decide +kernel
theorem dX6_rowOf_50 : decode cX6_rowOf 50 = .ok (.iload_n 2, 1) := by decide +kernel
theorem dX6_rowOf_51 : decode cX6_rowOf 51 = .ok (.invokevirtual 269, 3) := by decide +kernel
theorem dX6_rowOf_54 : decode cX6_rowOf 54 = .ok (.ireturn, 1) := by decide +kernel
theorem dX6_judge_0 : decode cX6_judge 0 = .ok (.iload_n 2, 1) := by decide +kernel
theorem dX6_judge_1 : decode cX6_judge 1 = .ok (.iconst 0, 1) := by decide +kernel
theorem dX6_judge_2 : decode cX6_judge 2 = .ok (.bipush 20, 2) := by decide +kernel
theorem dX6_judge_4 : decode cX6_judge 4 = .ok (.invokestatic 47, 3) := by decide +kernel
theorem dX6_judge_7 : decode cX6_judge 7 = .ok (.ifCond .ne 10, 3) := by decide +kernel
theorem dX6_judge_10 : decode cX6_judge 10 = .ok (.aload_n 0, 1) := by decide +kernel
theorem dX6_judge_11 : decode cX6_judge 11 = .ok (.bipush (-52), 2) := by decide +kernel
theorem dX6_judge_13 : decode cX6_judge 13 = .ok (.invokevirtual 51, 3) := by decide +kernel
theorem dX6_judge_16 : decode cX6_judge 16 = .ok (.ireturn, 1) := by decide +kernel
theorem dX6_judge_17 : decode cX6_judge 17 = .ok (.aload_n 0, 1) := by decide +kernel
theorem dX6_judge_18 : decode cX6_judge 18 = .ok (.iload_n 1, 1) := by decide +kernel
theorem dX6_judge_19 : decode cX6_judge 19 = .ok (.iload_n 2, 1) := by decide +kernel
theorem dX6_judge_20 : decode cX6_judge 20 = .ok (.iconst 2, 1) := by decide +kernel
theorem dX6_judge_21 : decode cX6_judge 21 = .ok (.invokevirtual 272, 3) := by decide +kernel
theorem dX6_judge_24 : decode cX6_judge 24 = .ok (.istore_n 3, 1) := by decide +kernel
theorem dX6_judge_25 : decode cX6_judge 25 = .ok (.iload_n 3, 1) := by decide +kernel
theorem dX6_judge_26 : decode cX6_judge 26 = .ok (.ifCond .eq 9, 3) := by decide +kernel
theorem dX6_judge_29 : decode cX6_judge 29 = .ok (.aload_n 0, 1) := by decide +kernel
theorem dX6_judge_30 : decode cX6_judge 30 = .ok (.iload_n 3, 1) := by decide +kernel
theorem dX6_judge_31 : decode cX6_judge 31 = .ok (.invokevirtual 51, 3) := by decide +kernel
theorem dX6_judge_34 : decode cX6_judge 34 = .ok (.ireturn, 1) := by decide +kernel
theorem dX6_judge_35 : decode cX6_judge 35 = .ok (.aload_n 0, 1) := by decide +kernel
theorem dX6_judge_36 : decode cX6_judge 36 = .ok (.getfield 16, 3) := by decide +kernel
theorem dX6_judge_39 : decode cX6_judge 39 = .ok (.aload_n 0, 1) := by decide +kernel
theorem dX6_judge_40 : decode cX6_judge 40 = .ok (.getfield 10, 3) := by decide +kernel
theorem dX6_judge_43 : decode cX6_judge 43 = .ok (.invokevirtual 227, 3) := by decide +kernel
theorem dX6_judge_46 : decode cX6_judge 46 = .ok (.iconst 0, 1) := by decide +kernel
theorem dX6_judge_47 : decode cX6_judge 47 = .ok (.istore 4, 2) := by decide +kernel
theorem dX6_judge_49 : decode cX6_judge 49 = .ok (.iload 4, 2) := by decide +kernel
theorem dX6_judge_51 : decode cX6_judge 51 = .ok (.iload_n 2, 1) := by decide +kernel
theorem dX6_judge_52 : decode cX6_judge 52 = .ok (.if_icmp .ge 51, 3) := by decide +kernel
theorem dX6_judge_55 : decode cX6_judge 55 = .ok (.aload_n 0, 1) := by decide +kernel
theorem dX6_judge_56 : decode cX6_judge 56 = .ok (.getfield 16, 3) := by decide +kernel
theorem dX6_judge_59 : decode cX6_judge 59 = .ok (.aload_n 0, 1) := by decide +kernel
theorem dX6_judge_60 : decode cX6_judge 60 = .ok (.iload 4, 2) := by decide +kernel
theorem dX6_judge_62 : decode cX6_judge 62 = .ok (.invokevirtual 244, 3) := by decide +kernel
theorem dX6_judge_65 : decode cX6_judge 65 = .ok (.iconst 0, 1) := by decide +kernel
theorem dX6_judge_66 : decode cX6_judge 66 = .ok (.iconst 0, 1) := by decide +kernel
theorem dX6_judge_67 : decode cX6_judge 67 = .ok (.invokevirtual 152, 3) := by decide +kernel
theorem dX6_judge_70 : decode cX6_judge 70 = .ok (.pop, 1) := by decide +kernel
theorem dX6_judge_71 : decode cX6_judge 71 = .ok (.aload_n 0, 1) := by decide +kernel
theorem dX6_judge_72 : decode cX6_judge 72 = .ok (.iload_n 1, 1) := by decide +kernel
theorem dX6_judge_73 : decode cX6_judge 73 = .ok (.iconst 2, 1) := by decide +kernel
theorem dX6_judge_74 : decode cX6_judge 74 = .ok (.iload 4, 2) := by decide +kernel
theorem dX6_judge_76 : decode cX6_judge 76 = .ok (.imul, 1) := by decide +kernel
theorem dX6_judge_77 : decode cX6_judge 77 = .ok (.iconst 1, 1) := by decide +kernel
theorem dX6_judge_78 : decode cX6_judge 78 = .ok (.iadd, 1) := by decide +kernel
theorem dX6_judge_79 : decode cX6_judge 79 = .ok (.invokevirtual 276, 3) := by decide +kernel
theorem dX6_judge_82 : decode cX6_judge 82 = .ok (.aload_n 0, 1) := by decide +kernel
theorem dX6_judge_83 : decode cX6_judge 83 = .ok (.getfield 16, 3) := by decide +kernel
theorem dX6_judge_86 : decode cX6_judge 86 = .ok (.getfield 247, 3) := by decide +kernel
theorem dX6_judge_89 : decode cX6_judge 89 = .ok (.i2l, 1) := by decide +kernel
theorem dX6_judge_90 : decode cX6_judge 90 = .ok (.lcmp, 1) := by decide +kernel
theorem dX6_judge_91 : decode cX6_judge 91 = .ok (.ifCond .eq 6, 3) := by decide +kernel
theorem dX6_judge_94 : decode cX6_judge 94 = .ok (.iload 4, 2) := by decide +kernel
theorem dX6_judge_96 : decode cX6_judge 96 = .ok (.ireturn, 1) := by decide +kernel
theorem dX6_judge_97 : decode cX6_judge 97 = .ok (.iinc 4 1, 3) := by decide +kernel
theorem dX6_judge_100 : decode cX6_judge 100 = .ok (.goto (-51), 3) := by decide +kernel
theorem dX6_judge_103 : decode cX6_judge 103 = .ok (.iconst (-1), 1) := by decide +kernel
theorem dX6_judge_104 : decode cX6_judge 104 = .ok (.ireturn, 1) := by decide +kernel
theorem dX6_past_0 : decode cX6_past 0 = .ok (.iload_n 1, 1) := by decide +kernel
theorem dX6_past_1 : decode cX6_past 1 = .ok (.iconst 0, 1) := by decide +kernel
theorem dX6_past_2 : decode cX6_past 2 = .ok (.bipush 19, 2) := by decide +kernel
theorem dX6_past_4 : decode cX6_past 4 = .ok (.invokestatic 47, 3) := by decide +kernel
theorem dX6_past_7 : decode cX6_past 7 = .ok (.ifCond .eq 23, 3) := by decide +kernel
theorem dX6_past_10 : decode cX6_past 10 = .ok (.iload_n 1, 1) := by decide +kernel
theorem dX6_past_11 : decode cX6_past 11 = .ok (.aload_n 0, 1) := by decide +kernel
theorem dX6_past_12 : decode cX6_past 12 = .ok (.getfield 10, 3) := by decide +kernel
theorem dX6_past_15 : decode cX6_past 15 = .ok (.getfield 279, 3) := by decide +kernel
theorem dX6_past_18 : decode cX6_past 18 = .ok (.if_icmp .ge 12, 3) := by decide +kernel
theorem dX6_past_21 : decode cX6_past 21 = .ok (.iload_n 2, 1) := by decide +kernel
theorem dX6_past_22 : decode cX6_past 22 = .ok (.iconst 0, 1) := by decide +kernel
theorem dX6_past_23 : decode cX6_past 23 = .ok (.iconst 3, 1) := by decide +kernel
theorem dX6_past_24 : decode cX6_past 24 = .ok (.invokestatic 47, 3) := by decide +kernel
theorem dX6_past_27 : decode cX6_past 27 = .ok (.ifCond .ne 10, 3) := by decide +kernel
theorem dX6_past_30 : decode cX6_past 30 = .ok (.aload_n 0, 1) := by decide +kernel
theorem dX6_past_31 : decode cX6_past 31 = .ok (.bipush (-52), 2) := by decide +kernel
theorem dX6_past_33 : decode cX6_past 33 = .ok (.invokevirtual 51, 3) := by decide +kernel
theorem dX6_past_36 : decode cX6_past 36 = .ok (.ireturn, 1) := by decide +kernel
theorem dX6_past_37 : decode cX6_past 37 = .ok (.aload_n 0, 1) := by decide +kernel
theorem dX6_past_38 : decode cX6_past 38 = .ok (.getfield 10, 3) := by decide +kernel
theorem dX6_past_41 : decode cX6_past 41 = .ok (.getfield 282, 3) := by decide +kernel
theorem dX6_past_44 : decode cX6_past 44 = .ok (.aload_n 0, 1) := by decide +kernel
theorem dX6_past_45 : decode cX6_past 45 = .ok (.getfield 10, 3) := by decide +kernel
theorem dX6_past_48 : decode cX6_past 48 = .ok (.getfield 279, 3) := by decide +kernel
theorem dX6_past_51 : decode cX6_past 51 = .ok (.iload_n 1, 1) := by decide +kernel
theorem dX6_past_52 : decode cX6_past 52 = .ok (.isub, 1) := by decide +kernel
theorem dX6_past_53 : decode cX6_past 53 = .ok (.iload_n 2, 1) := by decide +kernel
theorem dX6_past_54 : decode cX6_past 54 = .ok (.invokevirtual 286, 3) := by decide +kernel
theorem dX6_past_57 : decode cX6_past 57 = .ok (.ireturn, 1) := by decide +kernel
theorem dX6_often_0 : decode cX6_often 0 = .ok (.iload_n 1, 1) := by decide +kernel
theorem dX6_often_1 : decode cX6_often 1 = .ok (.invokestatic 184, 3) := by decide +kernel
theorem dX6_often_4 : decode cX6_often 4 = .ok (.ifCond .ne 10, 3) := by decide +kernel
theorem dX6_often_7 : decode cX6_often 7 = .ok (.aload_n 0, 1) := by decide +kernel
theorem dX6_often_8 : decode cX6_often 8 = .ok (.bipush (-52), 2) := by decide +kernel
theorem dX6_often_10 : decode cX6_often 10 = .ok (.invokevirtual 51, 3) := by decide +kernel
theorem dX6_often_13 : decode cX6_often 13 = .ok (.ireturn, 1) := by decide +kernel
theorem dX6_often_14 : decode cX6_often 14 = .ok (.aload_n 0, 1) := by decide +kernel
theorem dX6_often_15 : decode cX6_often 15 = .ok (.getfield 10, 3) := by decide +kernel
theorem dX6_often_18 : decode cX6_often 18 = .ok (.getfield 282, 3) := by decide +kernel
theorem dX6_often_21 : decode cX6_often 21 = .ok (.iload_n 1, 1) := by decide +kernel
theorem dX6_often_22 : decode cX6_often 22 = .ok (.invokevirtual 290, 3) := by decide +kernel
theorem dX6_often_25 : decode cX6_often 25 = .ok (.ireturn, 1) := by decide +kernel
theorem dX6_days_0 : decode cX6_days 0 = .ok (.iload_n 1, 1) := by decide +kernel
theorem dX6_days_1 : decode cX6_days 1 = .ok (.iconst 1, 1) := by decide +kernel
theorem dX6_days_2 : decode cX6_days 2 = .ok (.bipush 60, 2) := by decide +kernel
theorem dX6_days_4 : decode cX6_days 4 = .ok (.invokestatic 47, 3) := by decide +kernel
theorem dX6_days_7 : decode cX6_days 7 = .ok (.ifCond .ne 10, 3) := by decide +kernel
theorem dX6_days_10 : decode cX6_days 10 = .ok (.aload_n 0, 1) := by decide +kernel
theorem dX6_days_11 : decode cX6_days 11 = .ok (.bipush (-52), 2) := by decide +kernel
theorem dX6_days_13 : decode cX6_days 13 = .ok (.invokevirtual 51, 3) := by decide +kernel
theorem dX6_days_16 : decode cX6_days 16 = .ok (.ireturn, 1) := by decide +kernel
theorem dX6_days_17 : decode cX6_days 17 = .ok (.iconst 0, 1) := by decide +kernel
theorem dX6_days_18 : decode cX6_days 18 = .ok (.istore_n 2, 1) := by decide +kernel
theorem dX6_days_19 : decode cX6_days 19 = .ok (.iconst 0, 1) := by decide +kernel
theorem dX6_days_20 : decode cX6_days 20 = .ok (.istore_n 3, 1) := by decide +kernel
theorem dX6_days_21 : decode cX6_days 21 = .ok (.iload_n 3, 1) := by decide +kernel
theorem dX6_days_22 : decode cX6_days 22 = .ok (.iload_n 1, 1) := by decide +kernel
theorem dX6_days_23 : decode cX6_days 23 = .ok (.if_icmp .ge 81, 3) := by decide +kernel
theorem dX6_days_26 : decode cX6_days 26 = .ok (.aload_n 0, 1) := by decide +kernel
theorem dX6_days_27 : decode cX6_days 27 = .ok (.getfield 10, 3) := by decide +kernel
theorem dX6_days_30 : decode cX6_days 30 = .ok (.getfield 293, 3) := by decide +kernel
theorem dX6_days_33 : decode cX6_days 33 = .ok (.iconst 4, 1) := by decide +kernel
theorem dX6_days_34 : decode cX6_days 34 = .ok (.invokevirtual 297, 3) := by decide +kernel
theorem dX6_days_37 : decode cX6_days 37 = .ok (.ifCond .ne 7, 3) := by decide +kernel
theorem dX6_days_40 : decode cX6_days 40 = .ok (.iconst 1, 1) := by decide +kernel
theorem dX6_days_41 : decode cX6_days 41 = .ok (.goto 4, 3) := by decide +kernel
theorem dX6_days_44 : decode cX6_days 44 = .ok (.iconst 0, 1) := by decide +kernel
theorem dX6_days_45 : decode cX6_days 45 = .ok (.istore 4, 2) := by decide +kernel
theorem dX6_days_47 : decode cX6_days 47 = .ok (.aload_n 0, 1) := by decide +kernel
theorem dX6_days_48 : decode cX6_days 48 = .ok (.getfield 10, 3) := by decide +kernel
theorem dX6_days_51 : decode cX6_days 51 = .ok (.getfield 293, 3) := by decide +kernel
theorem dX6_days_54 : decode cX6_days 54 = .ok (.invokevirtual 302, 3) := by decide +kernel
theorem dX6_days_57 : decode cX6_days 57 = .ok (.istore 5, 2) := by decide +kernel
theorem dX6_days_59 : decode cX6_days 59 = .ok (.iload 4, 2) := by decide +kernel
theorem dX6_days_61 : decode cX6_days 61 = .ok (.ifCond .eq 18, 3) := by decide +kernel
theorem dX6_days_64 : decode cX6_days 64 = .ok (.aload_n 0, 1) := by decide +kernel
theorem dX6_days_65 : decode cX6_days 65 = .ok (.getfield 10, 3) := by decide +kernel
theorem dX6_days_68 : decode cX6_days 68 = .ok (.getfield 293, 3) := by decide +kernel
theorem dX6_days_71 : decode cX6_days 71 = .ok (.bipush 100, 2) := by decide +kernel
theorem dX6_days_73 : decode cX6_days 73 = .ok (.invokevirtual 297, 3) := by decide +kernel
theorem dX6_days_76 : decode cX6_days 76 = .ok (.goto 4, 3) := by decide +kernel
theorem dX6_days_79 : decode cX6_days 79 = .ok (.iconst 0, 1) := by decide +kernel
theorem dX6_days_80 : decode cX6_days 80 = .ok (.istore 6, 2) := by decide +kernel
theorem dX6_days_82 : decode cX6_days 82 = .ok (.iload_n 2, 1) := by decide +kernel
theorem dX6_days_83 : decode cX6_days 83 = .ok (.aload_n 0, 1) := by decide +kernel
theorem dX6_days_84 : decode cX6_days 84 = .ok (.getfield 10, 3) := by decide +kernel
theorem dX6_days_87 : decode cX6_days 87 = .ok (.iload 5, 2) := by decide +kernel
theorem dX6_days_89 : decode cX6_days 89 = .ok (.iload 4, 2) := by decide +kernel
theorem dX6_days_91 : decode cX6_days 91 = .ok (.iload 6, 2) := by decide +kernel
theorem dX6_days_93 : decode cX6_days 93 = .ok (.invokevirtual 152, 3) := by decide +kernel
theorem dX6_days_96 : decode cX6_days 96 = .ok (.iadd, 1) := by decide +kernel
theorem dX6_days_97 : decode cX6_days 97 = .ok (.istore_n 2, 1) := by decide +kernel
theorem dX6_days_98 : decode cX6_days 98 = .ok (.iinc 3 1, 3) := by decide +kernel
theorem dX6_days_101 : decode cX6_days 101 = .ok (.goto (-80), 3) := by decide +kernel
theorem dX6_days_104 : decode cX6_days 104 = .ok (.iload_n 2, 1) := by decide +kernel
theorem dX6_days_105 : decode cX6_days 105 = .ok (.ireturn, 1) := by decide +kernel
theorem dX6_seed_0 : decode cX6_seed 0 = .ok (.aload_n 0, 1) := by decide +kernel
theorem dX6_seed_1 : decode cX6_seed 1 = .ok (.getfield 10, 3) := by decide +kernel
theorem dX6_seed_4 : decode cX6_seed 4 = .ok (.getfield 293, 3) := by decide +kernel
theorem dX6_seed_7 : decode cX6_seed 7 = .ok (.getfield 305, 3) := by decide +kernel
theorem dX6_seed_10 : decode cX6_seed 10 = .ok (.istore_n 2, 1) := by decide +kernel
theorem dX6_seed_11 : decode cX6_seed 11 = .ok (.aload_n 0, 1) := by decide +kernel
theorem dX6_seed_12 : decode cX6_seed 12 = .ok (.getfield 10, 3) := by decide +kernel
theorem dX6_seed_15 : decode cX6_seed 15 = .ok (.getfield 293, 3) := by decide +kernel
theorem dX6_seed_18 : decode cX6_seed 18 = .ok (.iload_n 1, 1) := by decide +kernel
theorem dX6_seed_19 : decode cX6_seed 19 = .ok (.putfield 305, 3) := by decide +kernel
theorem dX6_seed_22 : decode cX6_seed 22 = .ok (.iload_n 2, 1) := by decide +kernel
theorem dX6_seed_23 : decode cX6_seed 23 = .ok (.ireturn, 1) := by decide +kernel
theorem dX6_image_0 : decode cX6_image 0 = .ok (.aload_n 0, 1) := by decide +kernel
theorem dX6_image_1 : decode cX6_image 1 = .ok (.getfield 19, 3) := by decide +kernel
theorem dX6_image_4 : decode cX6_image 4 = .ok (.aload_n 0, 1) := by decide +kernel
theorem dX6_image_5 : decode cX6_image 5 = .ok (.getfield 10, 3) := by decide +kernel
theorem dX6_image_8 : decode cX6_image 8 = .ok (.invokevirtual 227, 3) := by decide +kernel
theorem dX6_image_11 : decode cX6_image 11 = .ok (.aload_n 0, 1) := by decide +kernel
theorem dX6_image_12 : decode cX6_image 12 = .ok (.iconst 1, 1) := by decide +kernel
theorem dX6_image_13 : decode cX6_image 13 = .ok (.putfield 308, 3) := by decide +kernel
theorem dX6_image_16 : decode cX6_image 16 = .ok (.iconst 1, 1) := by decide +kernel
theorem dX6_image_17 : decode cX6_image 17 = .ok (.ireturn, 1) := by decide +kernel
theorem dX6_back_0 : decode cX6_back 0 = .ok (.aload_n 0, 1) := by decide +kernel
theorem dX6_back_1 : decode cX6_back 1 = .ok (.getfield 308, 3) := by decide +kernel
theorem dX6_back_4 : decode cX6_back 4 = .ok (.ifCond .ne 10, 3) := by decide +kernel
theorem dX6_back_7 : decode cX6_back 7 = .ok (.aload_n 0, 1) := by decide +kernel
theorem dX6_back_8 : decode cX6_back 8 = .ok (.bipush (-55), 2) := by decide +kernel
theorem dX6_back_10 : decode cX6_back 10 = .ok (.invokevirtual 51, 3) := by decide +kernel
theorem dX6_back_13 : decode cX6_back 13 = .ok (.ireturn, 1) := by decide +kernel
theorem dX6_back_14 : decode cX6_back 14 = .ok (.aload_n 0, 1) := by decide +kernel
theorem dX6_back_15 : decode cX6_back 15 = .ok (.getfield 10, 3) := by decide +kernel
theorem dX6_back_18 : decode cX6_back 18 = .ok (.aload_n 0, 1) := by decide +kernel
theorem dX6_back_19 : decode cX6_back 19 = .ok (.getfield 19, 3) := by decide +kernel
theorem dX6_back_22 : decode cX6_back 22 = .ok (.invokevirtual 227, 3) := by decide +kernel
theorem dX6_back_25 : decode cX6_back 25 = .ok (.aload_n 0, 1) := by decide +kernel
theorem dX6_back_26 : decode cX6_back 26 = .ok (.invokevirtual 172, 3) := by decide +kernel
theorem dX6_back_29 : decode cX6_back 29 = .ok (.iconst 1, 1) := by decide +kernel
theorem dX6_back_30 : decode cX6_back 30 = .ok (.ireturn, 1) := by decide +kernel
theorem dX6_status_0 : decode cX6_status 0 = .ok (.iload_n 1, 1) := by decide +kernel
theorem dX6_status_1 : decode cX6_status 1 = .ok (.bipush 12, 2) := by decide +kernel
theorem dX6_status_3 : decode cX6_status 3 = .ok (.isub, 1) := by decide +kernel
theorem dX6_status_4 : decode cX6_status 4 = .ok (.istore_n 2, 1) := by decide +kernel
theorem dX6_status_5 : decode cX6_status 5 = .ok (.iload_n 2, 1) := by decide +kernel
theorem dX6_status_6 : decode cX6_status 6 = .ok (.iconst 0, 1) := by decide +kernel
theorem dX6_status_7 : decode cX6_status 7 = .ok (.aload_n 0, 1) := by decide +kernel
theorem dX6_status_8 : decode cX6_status 8 = .ok (.getfield 35, 3) := by decide +kernel
theorem dX6_status_11 : decode cX6_status 11 = .ok (.arraylength, 1) := by decide +kernel
theorem dX6_status_12 : decode cX6_status 12 = .ok (.iconst 1, 1) := by decide +kernel
theorem dX6_status_13 : decode cX6_status 13 = .ok (.isub, 1) := by decide +kernel
theorem dX6_status_14 : decode cX6_status 14 = .ok (.invokestatic 47, 3) := by decide +kernel
theorem dX6_status_17 : decode cX6_status 17 = .ok (.ifCond .eq 10, 3) := by decide +kernel
theorem dX6_status_20 : decode cX6_status 20 = .ok (.aload_n 0, 1) := by decide +kernel
theorem dX6_status_21 : decode cX6_status 21 = .ok (.getfield 35, 3) := by decide +kernel
theorem dX6_status_24 : decode cX6_status 24 = .ok (.iload_n 2, 1) := by decide +kernel
theorem dX6_status_25 : decode cX6_status 25 = .ok (.iaload, 1) := by decide +kernel
theorem dX6_status_26 : decode cX6_status 26 = .ok (.ireturn, 1) := by decide +kernel
theorem dX6_status_27 : decode cX6_status 27 = .ok (.iload_n 1, 1) := by decide +kernel
theorem dX6_status_28 : decode cX6_status 28 = .ok (.tableswitch 192 0 17 #[88, 96, 104, 112, 120, 128, 136, 144, 152, 160, 168, 176, 192, 192, 192, 192, 192, 187], 88) := by decide +kernel
theorem dX6_status_116 : decode cX6_status 116 = .ok (.aload_n 0, 1) := by decide +kernel
theorem dX6_status_117 : decode cX6_status 117 = .ok (.getfield 10, 3) := by decide +kernel
theorem dX6_status_120 : decode cX6_status 120 = .ok (.getfield 103, 3) := by decide +kernel
theorem dX6_status_123 : decode cX6_status 123 = .ok (.ireturn, 1) := by decide +kernel
theorem dX6_status_124 : decode cX6_status 124 = .ok (.aload_n 0, 1) := by decide +kernel
theorem dX6_status_125 : decode cX6_status 125 = .ok (.getfield 10, 3) := by decide +kernel
theorem dX6_status_128 : decode cX6_status 128 = .ok (.getfield 175, 3) := by decide +kernel
theorem dX6_status_131 : decode cX6_status 131 = .ok (.ireturn, 1) := by decide +kernel
theorem dX6_status_132 : decode cX6_status 132 = .ok (.aload_n 0, 1) := by decide +kernel
theorem dX6_status_133 : decode cX6_status 133 = .ok (.getfield 10, 3) := by decide +kernel
theorem dX6_status_136 : decode cX6_status 136 = .ok (.getfield 178, 3) := by decide +kernel
theorem dX6_status_139 : decode cX6_status 139 = .ok (.ireturn, 1) := by decide +kernel
theorem dX6_status_140 : decode cX6_status 140 = .ok (.aload_n 0, 1) := by decide +kernel
theorem dX6_status_141 : decode cX6_status 141 = .ok (.getfield 10, 3) := by decide +kernel
theorem dX6_status_144 : decode cX6_status 144 = .ok (.getfield 162, 3) := by decide +kernel
theorem dX6_status_147 : decode cX6_status 147 = .ok (.ireturn, 1) := by decide +kernel
theorem dX6_status_148 : decode cX6_status 148 = .ok (.aload_n 0, 1) := by decide +kernel
theorem dX6_status_149 : decode cX6_status 149 = .ok (.getfield 10, 3) := by decide +kernel
theorem dX6_status_152 : decode cX6_status 152 = .ok (.getfield 181, 3) := by decide +kernel
theorem dX6_status_155 : decode cX6_status 155 = .ok (.ireturn, 1) := by decide +kernel
theorem dX6_status_156 : decode cX6_status 156 = .ok (.aload_n 0, 1) := by decide +kernel
theorem dX6_status_157 : decode cX6_status 157 = .ok (.getfield 10, 3) := by decide +kernel
theorem dX6_status_160 : decode cX6_status 160 = .ok (.getfield 279, 3) := by decide +kernel
theorem dX6_status_163 : decode cX6_status 163 = .ok (.ireturn, 1) := by decide +kernel
theorem dX6_status_164 : decode cX6_status 164 = .ok (.aload_n 0, 1) := by decide +kernel
theorem dX6_status_165 : decode cX6_status 165 = .ok (.getfield 10, 3) := by decide +kernel
theorem dX6_status_168 : decode cX6_status 168 = .ok (.getfield 312, 3) := by decide +kernel
theorem dX6_status_171 : decode cX6_status 171 = .ok (.ireturn, 1) := by decide +kernel
theorem dX6_status_172 : decode cX6_status 172 = .ok (.aload_n 0, 1) := by decide +kernel
theorem dX6_status_173 : decode cX6_status 173 = .ok (.getfield 10, 3) := by decide +kernel
theorem dX6_status_176 : decode cX6_status 176 = .ok (.getfield 235, 3) := by decide +kernel
theorem dX6_status_179 : decode cX6_status 179 = .ok (.ireturn, 1) := by decide +kernel
theorem dX6_status_180 : decode cX6_status 180 = .ok (.aload_n 0, 1) := by decide +kernel
theorem dX6_status_181 : decode cX6_status 181 = .ok (.getfield 10, 3) := by decide +kernel
theorem dX6_status_184 : decode cX6_status 184 = .ok (.getfield 315, 3) := by decide +kernel
theorem dX6_status_187 : decode cX6_status 187 = .ok (.ireturn, 1) := by decide +kernel
theorem dX6_status_188 : decode cX6_status 188 = .ok (.aload_n 0, 1) := by decide +kernel
theorem dX6_status_189 : decode cX6_status 189 = .ok (.getfield 10, 3) := by decide +kernel
theorem dX6_status_192 : decode cX6_status 192 = .ok (.getfield 318, 3) := by decide +kernel
theorem dX6_status_195 : decode cX6_status 195 = .ok (.ireturn, 1) := by decide +kernel
theorem dX6_status_196 : decode cX6_status 196 = .ok (.aload_n 0, 1) := by decide +kernel
theorem dX6_status_197 : decode cX6_status 197 = .ok (.getfield 25, 3) := by decide +kernel
theorem dX6_status_200 : decode cX6_status 200 = .ok (.getfield 134, 3) := by decide +kernel
theorem dX6_status_203 : decode cX6_status 203 = .ok (.ireturn, 1) := by decide +kernel
theorem dX6_status_204 : decode cX6_status 204 = .ok (.aload_n 0, 1) := by decide +kernel
theorem dX6_status_205 : decode cX6_status 205 = .ok (.getfield 10, 3) := by decide +kernel
theorem dX6_status_208 : decode cX6_status 208 = .ok (.getfield 293, 3) := by decide +kernel
theorem dX6_status_211 : decode cX6_status 211 = .ok (.getfield 305, 3) := by decide +kernel
theorem dX6_status_214 : decode cX6_status 214 = .ok (.ireturn, 1) := by decide +kernel
theorem dX6_status_215 : decode cX6_status 215 = .ok (.aload_n 0, 1) := by decide +kernel
theorem dX6_status_216 : decode cX6_status 216 = .ok (.invokevirtual 321, 3) := by decide +kernel
theorem dX6_status_219 : decode cX6_status 219 = .ok (.ireturn, 1) := by decide +kernel
theorem dX6_status_220 : decode cX6_status 220 = .ok (.iconst (-1), 1) := by decide +kernel
theorem dX6_status_221 : decode cX6_status 221 = .ok (.ireturn, 1) := by decide +kernel
theorem dX6_isWithin_0 : decode cX6_isWithin 0 = .ok (.iload_n 0, 1) := by decide +kernel
theorem dX6_isWithin_1 : decode cX6_isWithin 1 = .ok (.iload_n 1, 1) := by decide +kernel
theorem dX6_isWithin_2 : decode cX6_isWithin 2 = .ok (.if_icmp .lt 12, 3) := by decide +kernel
theorem dX6_isWithin_5 : decode cX6_isWithin 5 = .ok (.iload_n 0, 1) := by decide +kernel
theorem dX6_isWithin_6 : decode cX6_isWithin 6 = .ok (.iload_n 2, 1) := by decide +kernel
theorem dX6_isWithin_7 : decode cX6_isWithin 7 = .ok (.if_icmp .gt 7, 3) := by decide +kernel
theorem dX6_isWithin_10 : decode cX6_isWithin 10 = .ok (.iconst 1, 1) := by decide +kernel
theorem dX6_isWithin_11 : decode cX6_isWithin 11 = .ok (.goto 4, 3) := by decide +kernel
theorem dX6_isWithin_14 : decode cX6_isWithin 14 = .ok (.iconst 0, 1) := by decide +kernel
theorem dX6_isWithin_15 : decode cX6_isWithin 15 = .ok (.ireturn, 1) := by decide +kernel
theorem dX6_isPage_0 : decode cX6_isPage 0 = .ok (.iload_n 0, 1) := by decide +kernel
theorem dX6_isPage_1 : decode cX6_isPage 1 = .ok (.ifCond .lt 13, 3) := by decide +kernel
theorem dX6_isPage_4 : decode cX6_isPage 4 = .ok (.iload_n 0, 1) := by decide +kernel
theorem dX6_isPage_5 : decode cX6_isPage 5 = .ok (.bipush 64, 2) := by decide +kernel
theorem dX6_isPage_7 : decode cX6_isPage 7 = .ok (.if_icmp .ge 7, 3) := by decide +kernel
theorem dX6_isPage_10 : decode cX6_isPage 10 = .ok (.iconst 1, 1) := by decide +kernel
theorem dX6_isPage_11 : decode cX6_isPage 11 = .ok (.goto 4, 3) := by decide +kernel
theorem dX6_isPage_14 : decode cX6_isPage 14 = .ok (.iconst 0, 1) := by decide +kernel
theorem dX6_isPage_15 : decode cX6_isPage 15 = .ok (.ireturn, 1) := by decide +kernel
theorem dX6_isUnder_0 : decode cX6_isUnder 0 = .ok (.iload_n 0, 1) := by decide +kernel
theorem dX6_isUnder_1 : decode cX6_isUnder 1 = .ok (.istore_n 2, 1) := by decide +kernel
theorem dX6_isUnder_2 : decode cX6_isUnder 2 = .ok (.iconst 0, 1) := by decide +kernel
theorem dX6_isUnder_3 : decode cX6_isUnder 3 = .ok (.istore_n 3, 1) := by decide +kernel
theorem dX6_isUnder_4 : decode cX6_isUnder 4 = .ok (.iload_n 3, 1) := by decide +kernel
theorem dX6_isUnder_5 : decode cX6_isUnder 5 = .ok (.getstatic 324, 3) := by decide +kernel
theorem dX6_isUnder_8 : decode cX6_isUnder 8 = .ok (.arraylength, 1) := by decide +kernel
theorem dX6_isUnder_9 : decode cX6_isUnder 9 = .ok (.if_icmp .ge 36, 3) := by decide +kernel
theorem dX6_isUnder_12 : decode cX6_isUnder 12 = .ok (.iload_n 2, 1) := by decide +kernel
theorem dX6_isUnder_13 : decode cX6_isUnder 13 = .ok (.iconst 0, 1) := by decide +kernel
theorem dX6_isUnder_14 : decode cX6_isUnder 14 = .ok (.getstatic 324, 3) := by decide +kernel
theorem dX6_isUnder_17 : decode cX6_isUnder 17 = .ok (.arraylength, 1) := by decide +kernel
theorem dX6_isUnder_18 : decode cX6_isUnder 18 = .ok (.iconst 1, 1) := by decide +kernel
theorem dX6_isUnder_19 : decode cX6_isUnder 19 = .ok (.isub, 1) := by decide +kernel
theorem dX6_isUnder_20 : decode cX6_isUnder 20 = .ok (.invokestatic 47, 3) := by decide +kernel
theorem dX6_isUnder_23 : decode cX6_isUnder 23 = .ok (.ifCond .eq 22, 3) := by decide +kernel
theorem dX6_isUnder_26 : decode cX6_isUnder 26 = .ok (.iload_n 2, 1) := by decide +kernel
theorem dX6_isUnder_27 : decode cX6_isUnder 27 = .ok (.iload_n 1, 1) := by decide +kernel
theorem dX6_isUnder_28 : decode cX6_isUnder 28 = .ok (.if_icmp .ne 5, 3) := by decide +kernel
theorem dX6_isUnder_31 : decode cX6_isUnder 31 = .ok (.iconst 1, 1) := by decide +kernel
theorem dX6_isUnder_32 : decode cX6_isUnder 32 = .ok (.ireturn, 1) := by decide +kernel
theorem dX6_isUnder_33 : decode cX6_isUnder 33 = .ok (.getstatic 324, 3) := by decide +kernel
theorem dX6_isUnder_36 : decode cX6_isUnder 36 = .ok (.iload_n 2, 1) := by decide +kernel
theorem dX6_isUnder_37 : decode cX6_isUnder 37 = .ok (.iaload, 1) := by decide +kernel
theorem dX6_isUnder_38 : decode cX6_isUnder 38 = .ok (.istore_n 2, 1) := by decide +kernel
theorem dX6_isUnder_39 : decode cX6_isUnder 39 = .ok (.iinc 3 1, 3) := by decide +kernel
theorem dX6_isUnder_42 : decode cX6_isUnder 42 = .ok (.goto (-38), 3) := by decide +kernel
theorem dX6_isUnder_45 : decode cX6_isUnder 45 = .ok (.iconst 0, 1) := by decide +kernel
theorem dX6_isUnder_46 : decode cX6_isUnder 46 = .ok (.ireturn, 1) := by decide +kernel
theorem dX6_refuse_0 : decode cX6_refuse 0 = .ok (.bipush (-52), 2) := by decide +kernel
theorem dX6_refuse_2 : decode cX6_refuse 2 = .ok (.iload_n 1, 1) := by decide +kernel
theorem dX6_refuse_3 : decode cX6_refuse 3 = .ok (.isub, 1) := by decide +kernel
theorem dX6_refuse_4 : decode cX6_refuse 4 = .ok (.istore_n 2, 1) := by decide +kernel
theorem dX6_refuse_5 : decode cX6_refuse 5 = .ok (.iload_n 2, 1) := by decide +kernel
theorem dX6_refuse_6 : decode cX6_refuse 6 = .ok (.iconst 0, 1) := by decide +kernel
theorem dX6_refuse_7 : decode cX6_refuse 7 = .ok (.aload_n 0, 1) := by decide +kernel
theorem dX6_refuse_8 : decode cX6_refuse 8 = .ok (.getfield 35, 3) := by decide +kernel
theorem dX6_refuse_11 : decode cX6_refuse 11 = .ok (.arraylength, 1) := by decide +kernel
theorem dX6_refuse_12 : decode cX6_refuse 12 = .ok (.iconst 1, 1) := by decide +kernel
theorem dX6_refuse_13 : decode cX6_refuse 13 = .ok (.isub, 1) := by decide +kernel
theorem dX6_refuse_14 : decode cX6_refuse 14 = .ok (.invokestatic 47, 3) := by decide +kernel
theorem dX6_refuse_17 : decode cX6_refuse 17 = .ok (.ifCond .eq 13, 3) := by decide +kernel
theorem dX6_refuse_20 : decode cX6_refuse 20 = .ok (.aload_n 0, 1) := by decide +kernel
theorem dX6_refuse_21 : decode cX6_refuse 21 = .ok (.getfield 35, 3) := by decide +kernel
theorem dX6_refuse_24 : decode cX6_refuse 24 = .ok (.iload_n 2, 1) := by decide +kernel
theorem dX6_refuse_25 : decode cX6_refuse 25 = .ok (.dup2, 1) := by decide +kernel
theorem dX6_refuse_26 : decode cX6_refuse 26 = .ok (.iaload, 1) := by decide +kernel
theorem dX6_refuse_27 : decode cX6_refuse 27 = .ok (.iconst 1, 1) := by decide +kernel
theorem dX6_refuse_28 : decode cX6_refuse 28 = .ok (.iadd, 1) := by decide +kernel
theorem dX6_refuse_29 : decode cX6_refuse 29 = .ok (.iastore, 1) := by decide +kernel
theorem dX6_refuse_30 : decode cX6_refuse 30 = .ok (.iload_n 1, 1) := by decide +kernel
theorem dX6_refuse_31 : decode cX6_refuse 31 = .ok (.ireturn, 1) := by decide +kernel
theorem dX6_shelfAt_0 : decode cX6_shelfAt 0 = .ok (.iload_n 1, 1) := by decide +kernel
theorem dX6_shelfAt_1 : decode cX6_shelfAt 1 = .ok (.iconst 0, 1) := by decide +kernel
theorem dX6_shelfAt_2 : decode cX6_shelfAt 2 = .ok (.aload_n 0, 1) := by decide +kernel
theorem dX6_shelfAt_3 : decode cX6_shelfAt 3 = .ok (.getfield 31, 3) := by decide +kernel
theorem dX6_shelfAt_6 : decode cX6_shelfAt 6 = .ok (.arraylength, 1) := by decide +kernel
theorem dX6_shelfAt_7 : decode cX6_shelfAt 7 = .ok (.iconst 1, 1) := by decide +kernel
theorem dX6_shelfAt_8 : decode cX6_shelfAt 8 = .ok (.isub, 1) := by decide +kernel
theorem dX6_shelfAt_9 : decode cX6_shelfAt 9 = .ok (.invokestatic 47, 3) := by decide +kernel
theorem dX6_shelfAt_12 : decode cX6_shelfAt 12 = .ok (.ifCond .eq 12, 3) := by decide +kernel
theorem dX6_shelfAt_15 : decode cX6_shelfAt 15 = .ok (.aload_n 0, 1) := by decide +kernel
theorem dX6_shelfAt_16 : decode cX6_shelfAt 16 = .ok (.getfield 31, 3) := by decide +kernel
theorem dX6_shelfAt_19 : decode cX6_shelfAt 19 = .ok (.iload_n 1, 1) := by decide +kernel
theorem dX6_shelfAt_20 : decode cX6_shelfAt 20 = .ok (.aaload, 1) := by decide +kernel
theorem dX6_shelfAt_21 : decode cX6_shelfAt 21 = .ok (.goto 4, 3) := by decide +kernel
theorem dX6_shelfAt_24 : decode cX6_shelfAt 24 = .ok (.aconst_null, 1) := by decide +kernel
theorem dX6_shelfAt_25 : decode cX6_shelfAt 25 = .ok (.areturn, 1) := by decide +kernel
theorem dX6_fullShelves_0 : decode cX6_fullShelves 0 = .ok (.iconst 0, 1) := by decide +kernel
theorem dX6_fullShelves_1 : decode cX6_fullShelves 1 = .ok (.istore_n 1, 1) := by decide +kernel
theorem dX6_fullShelves_2 : decode cX6_fullShelves 2 = .ok (.iconst 0, 1) := by decide +kernel
theorem dX6_fullShelves_3 : decode cX6_fullShelves 3 = .ok (.istore_n 2, 1) := by decide +kernel
theorem dX6_fullShelves_4 : decode cX6_fullShelves 4 = .ok (.iload_n 2, 1) := by decide +kernel
theorem dX6_fullShelves_5 : decode cX6_fullShelves 5 = .ok (.bipush 8, 2) := by decide +kernel
theorem dX6_fullShelves_7 : decode cX6_fullShelves 7 = .ok (.if_icmp .ge 26, 3) := by decide +kernel
theorem dX6_fullShelves_10 : decode cX6_fullShelves 10 = .ok (.iload_n 1, 1) := by decide +kernel
theorem dX6_fullShelves_11 : decode cX6_fullShelves 11 = .ok (.aload_n 0, 1) := by decide +kernel
theorem dX6_fullShelves_12 : decode cX6_fullShelves 12 = .ok (.iload_n 2, 1) := by decide +kernel
theorem dX6_fullShelves_13 : decode cX6_fullShelves 13 = .ok (.invokevirtual 327, 3) := by decide +kernel
theorem dX6_fullShelves_16 : decode cX6_fullShelves 16 = .ok (.iconst (-1), 1) := by decide +kernel
theorem dX6_fullShelves_17 : decode cX6_fullShelves 17 = .ok (.if_icmp .ne 7, 3) := by decide +kernel
theorem dX6_fullShelves_20 : decode cX6_fullShelves 20 = .ok (.iconst 0, 1) := by decide +kernel
theorem dX6_fullShelves_21 : decode cX6_fullShelves 21 = .ok (.goto 4, 3) := by decide +kernel
theorem dX6_fullShelves_24 : decode cX6_fullShelves 24 = .ok (.iconst 1, 1) := by decide +kernel
theorem dX6_fullShelves_25 : decode cX6_fullShelves 25 = .ok (.iadd, 1) := by decide +kernel
theorem dX6_fullShelves_26 : decode cX6_fullShelves 26 = .ok (.istore_n 1, 1) := by decide +kernel
theorem dX6_fullShelves_27 : decode cX6_fullShelves 27 = .ok (.iinc 2 1, 3) := by decide +kernel
theorem dX6_fullShelves_30 : decode cX6_fullShelves 30 = .ok (.goto (-26), 3) := by decide +kernel
theorem dX6_fullShelves_33 : decode cX6_fullShelves 33 = .ok (.iload_n 1, 1) := by decide +kernel
theorem dX6_fullShelves_34 : decode cX6_fullShelves 34 = .ok (.ireturn, 1) := by decide +kernel
theorem dX6_rowRefusal_0 : decode cX6_rowRefusal 0 = .ok (.aload_n 0, 1) := by decide +kernel
theorem dX6_rowRefusal_1 : decode cX6_rowRefusal 1 = .ok (.ifnonnull 6, 3) := by decide +kernel
theorem dX6_rowRefusal_4 : decode cX6_rowRefusal 4 = .ok (.bipush (-52), 2) := by decide +kernel
theorem dX6_rowRefusal_6 : decode cX6_rowRefusal 6 = .ok (.ireturn, 1) := by decide +kernel
theorem dX6_rowRefusal_7 : decode cX6_rowRefusal 7 = .ok (.aload_n 0, 1) := by decide +kernel
theorem dX6_rowRefusal_8 : decode cX6_rowRefusal 8 = .ok (.invokevirtual 79, 3) := by decide +kernel
theorem dX6_rowRefusal_11 : decode cX6_rowRefusal 11 = .ok (.ifCond .eq 6, 3) := by decide +kernel
theorem dX6_rowRefusal_14 : decode cX6_rowRefusal 14 = .ok (.bipush (-53), 2) := by decide +kernel
theorem dX6_rowRefusal_16 : decode cX6_rowRefusal 16 = .ok (.ireturn, 1) := by decide +kernel
theorem dX6_rowRefusal_17 : decode cX6_rowRefusal 17 = .ok (.aload_n 0, 1) := by decide +kernel
theorem dX6_rowRefusal_18 : decode cX6_rowRefusal 18 = .ok (.invokevirtual 71, 3) := by decide +kernel
theorem dX6_rowRefusal_21 : decode cX6_rowRefusal 21 = .ok (.ifCond .eq 7, 3) := by decide +kernel
theorem dX6_rowRefusal_24 : decode cX6_rowRefusal 24 = .ok (.iconst 0, 1) := by decide +kernel
theorem dX6_rowRefusal_25 : decode cX6_rowRefusal 25 = .ok (.goto 5, 3) := by decide +kernel
theorem dX6_rowRefusal_28 : decode cX6_rowRefusal 28 = .ok (.bipush (-54), 2) := by decide +kernel
theorem dX6_rowRefusal_30 : decode cX6_rowRefusal 30 = .ok (.ireturn, 1) := by decide +kernel
theorem dX6_hear_0 : decode cX6_hear 0 = .ok (.iload_n 3, 1) := by decide +kernel
theorem dX6_hear_1 : decode cX6_hear 1 = .ok (.ifCond .eq 13, 3) := by decide +kernel
theorem dX6_hear_4 : decode cX6_hear 4 = .ok (.iload_n 2, 1) := by decide +kernel
theorem dX6_hear_5 : decode cX6_hear 5 = .ok (.iconst 0, 1) := by decide +kernel
theorem dX6_hear_6 : decode cX6_hear 6 = .ok (.bipush 40, 2) := by decide +kernel
theorem dX6_hear_8 : decode cX6_hear 8 = .ok (.invokestatic 47, 3) := by decide +kernel
theorem dX6_hear_11 : decode cX6_hear 11 = .ok (.ifCond .ne 10, 3) := by decide +kernel
theorem dX6_hear_14 : decode cX6_hear 14 = .ok (.aload_n 0, 1) := by decide +kernel
theorem dX6_hear_15 : decode cX6_hear 15 = .ok (.bipush (-52), 2) := by decide +kernel
theorem dX6_hear_17 : decode cX6_hear 17 = .ok (.invokevirtual 51, 3) := by decide +kernel
theorem dX6_hear_20 : decode cX6_hear 20 = .ok (.ireturn, 1) := by decide +kernel
theorem dX6_hear_21 : decode cX6_hear 21 = .ok (.aload_n 0, 1) := by decide +kernel
theorem dX6_hear_22 : decode cX6_hear 22 = .ok (.iload_n 1, 1) := by decide +kernel
theorem dX6_hear_23 : decode cX6_hear 23 = .ok (.iload_n 2, 1) := by decide +kernel
theorem dX6_hear_24 : decode cX6_hear 24 = .ok (.iconst 1, 1) := by decide +kernel
theorem dX6_hear_25 : decode cX6_hear 25 = .ok (.invokevirtual 272, 3) := by decide +kernel
theorem dX6_hear_28 : decode cX6_hear 28 = .ok (.istore 4, 2) := by decide +kernel
theorem dX6_hear_30 : decode cX6_hear 30 = .ok (.iload 4, 2) := by decide +kernel
theorem dX6_hear_32 : decode cX6_hear 32 = .ok (.ifCond .ne 7, 3) := by decide +kernel
theorem dX6_hear_35 : decode cX6_hear 35 = .ok (.iconst 0, 1) := by decide +kernel
theorem dX6_hear_36 : decode cX6_hear 36 = .ok (.goto 9, 3) := by decide +kernel
theorem dX6_hear_39 : decode cX6_hear 39 = .ok (.aload_n 0, 1) := by decide +kernel
theorem dX6_hear_40 : decode cX6_hear 40 = .ok (.iload 4, 2) := by decide +kernel
theorem dX6_hear_42 : decode cX6_hear 42 = .ok (.invokevirtual 51, 3) := by decide +kernel
theorem dX6_hear_45 : decode cX6_hear 45 = .ok (.ireturn, 1) := by decide +kernel
theorem dX6_listen_0 : decode cX6_listen 0 = .ok (.aload_n 0, 1) := by decide +kernel
theorem dX6_listen_1 : decode cX6_listen 1 = .ok (.iload_n 1, 1) := by decide +kernel
theorem dX6_listen_2 : decode cX6_listen 2 = .ok (.invokevirtual 43, 3) := by decide +kernel
theorem dX6_listen_5 : decode cX6_listen 5 = .ok (.astore 4, 2) := by decide +kernel
theorem dX6_listen_7 : decode cX6_listen 7 = .ok (.aload 4, 2) := by decide +kernel
theorem dX6_listen_9 : decode cX6_listen 9 = .ok (.invokestatic 59, 3) := by decide +kernel
theorem dX6_listen_12 : decode cX6_listen 12 = .ok (.istore 5, 2) := by decide +kernel
theorem dX6_listen_14 : decode cX6_listen 14 = .ok (.aload 4, 2) := by decide +kernel
theorem dX6_listen_16 : decode cX6_listen 16 = .ok (.ifnull 8, 3) := by decide +kernel
theorem dX6_listen_19 : decode cX6_listen 19 = .ok (.iload 5, 2) := by decide +kernel
theorem dX6_listen_21 : decode cX6_listen 21 = .ok (.ifCond .eq 6, 3) := by decide +kernel
theorem dX6_listen_24 : decode cX6_listen 24 = .ok (.iload 5, 2) := by decide +kernel
theorem dX6_listen_26 : decode cX6_listen 26 = .ok (.ireturn, 1) := by decide +kernel
theorem dX6_listen_27 : decode cX6_listen 27 = .ok (.aload 4, 2) := by decide +kernel
theorem dX6_listen_29 : decode cX6_listen 29 = .ok (.iconst 0, 1) := by decide +kernel
theorem dX6_listen_30 : decode cX6_listen 30 = .ok (.iload_n 2, 1) := by decide +kernel
theorem dX6_listen_31 : decode cX6_listen 31 = .ok (.iload_n 3, 1) := by decide +kernel
theorem dX6_listen_32 : decode cX6_listen 32 = .ok (.imul, 1) := by decide +kernel
theorem dX6_listen_33 : decode cX6_listen 33 = .ok (.invokevirtual 82, 3) := by decide +kernel
theorem dX6_listen_36 : decode cX6_listen 36 = .ok (.ifCond .ne 6, 3) := by decide +kernel
theorem dX6_listen_39 : decode cX6_listen 39 = .ok (.bipush (-52), 2) := by decide +kernel
theorem dX6_listen_41 : decode cX6_listen 41 = .ok (.ireturn, 1) := by decide +kernel
theorem dX6_listen_42 : decode cX6_listen 42 = .ok (.iconst 0, 1) := by decide +kernel
theorem dX6_listen_43 : decode cX6_listen 43 = .ok (.istore 6, 2) := by decide +kernel
theorem dX6_listen_45 : decode cX6_listen 45 = .ok (.iload 6, 2) := by decide +kernel
theorem dX6_listen_47 : decode cX6_listen 47 = .ok (.iload_n 2, 1) := by decide +kernel
theorem dX6_listen_48 : decode cX6_listen 48 = .ok (.if_icmp .ge 59, 3) := by decide +kernel
theorem dX6_listen_51 : decode cX6_listen 51 = .ok (.iload 6, 2) := by decide +kernel
theorem dX6_listen_53 : decode cX6_listen 53 = .ok (.aload_n 0, 1) := by decide +kernel
theorem dX6_listen_54 : decode cX6_listen 54 = .ok (.getfield 39, 3) := by decide +kernel
theorem dX6_listen_57 : decode cX6_listen 57 = .ok (.arraylength, 1) := by decide +kernel
theorem dX6_listen_58 : decode cX6_listen 58 = .ok (.if_icmp .ge 49, 3) := by decide +kernel
theorem dX6_listen_61 : decode cX6_listen 61 = .ok (.aload 4, 2) := by decide +kernel
theorem dX6_listen_63 : decode cX6_listen 63 = .ok (.iload 6, 2) := by decide +kernel
theorem dX6_listen_65 : decode cX6_listen 65 = .ok (.iload_n 3, 1) := by decide +kernel
theorem dX6_listen_66 : decode cX6_listen 66 = .ok (.imul, 1) := by decide +kernel
theorem dX6_listen_67 : decode cX6_listen 67 = .ok (.invokevirtual 96, 3) := by decide +kernel
theorem dX6_listen_70 : decode cX6_listen 70 = .ok (.lstore 7, 2) := by decide +kernel
theorem dX6_listen_72 : decode cX6_listen 72 = .ok (.lload 7, 2) := by decide +kernel
theorem dX6_listen_74 : decode cX6_listen 74 = .ok (.lconst 0, 1) := by decide +kernel
theorem dX6_listen_75 : decode cX6_listen 75 = .ok (.lcmp, 1) := by decide +kernel
theorem dX6_listen_76 : decode cX6_listen 76 = .ok (.ifCond .lt 12, 3) := by decide +kernel
theorem dX6_listen_79 : decode cX6_listen 79 = .ok (.lload 7, 2) := by decide +kernel
theorem dX6_listen_81 : decode cX6_listen 81 = .ok (.ldc2_w 330, 3) := by decide +kernel
theorem dX6_listen_84 : decode cX6_listen 84 = .ok (.lcmp, 1) := by decide +kernel
theorem dX6_listen_85 : decode cX6_listen 85 = .ok (.ifCond .lt 6, 3) := by decide +kernel
theorem dX6_listen_88 : decode cX6_listen 88 = .ok (.bipush (-52), 2) := by decide +kernel
theorem dX6_listen_90 : decode cX6_listen 90 = .ok (.ireturn, 1) := by decide +kernel
theorem dX6_listen_91 : decode cX6_listen 91 = .ok (.aload_n 0, 1) := by decide +kernel
theorem dX6_listen_92 : decode cX6_listen 92 = .ok (.getfield 39, 3) := by decide +kernel
theorem dX6_listen_95 : decode cX6_listen 95 = .ok (.iload 6, 2) := by decide +kernel
theorem dX6_listen_97 : decode cX6_listen 97 = .ok (.lload 7, 2) := by decide +kernel
theorem dX6_listen_99 : decode cX6_listen 99 = .ok (.l2i, 1) := by decide +kernel
theorem dX6_listen_100 : decode cX6_listen 100 = .ok (.iastore, 1) := by decide +kernel
theorem dX6_listen_101 : decode cX6_listen 101 = .ok (.iinc 6 1, 3) := by decide +kernel
theorem dX6_listen_104 : decode cX6_listen 104 = .ok (.goto (-59), 3) := by decide +kernel
theorem dX6_listen_107 : decode cX6_listen 107 = .ok (.iconst 0, 1) := by decide +kernel
theorem dX6_listen_108 : decode cX6_listen 108 = .ok (.ireturn, 1) := by decide +kernel
theorem dX6_toldAt_0 : decode cX6_toldAt 0 = .ok (.iload_n 1, 1) := by decide +kernel
theorem dX6_toldAt_1 : decode cX6_toldAt 1 = .ok (.iconst 0, 1) := by decide +kernel
theorem dX6_toldAt_2 : decode cX6_toldAt 2 = .ok (.aload_n 0, 1) := by decide +kernel
theorem dX6_toldAt_3 : decode cX6_toldAt 3 = .ok (.getfield 39, 3) := by decide +kernel
theorem dX6_toldAt_6 : decode cX6_toldAt 6 = .ok (.arraylength, 1) := by decide +kernel
theorem dX6_toldAt_7 : decode cX6_toldAt 7 = .ok (.iconst 1, 1) := by decide +kernel
theorem dX6_toldAt_8 : decode cX6_toldAt 8 = .ok (.isub, 1) := by decide +kernel
theorem dX6_toldAt_9 : decode cX6_toldAt 9 = .ok (.invokestatic 47, 3) := by decide +kernel
theorem dX6_toldAt_12 : decode cX6_toldAt 12 = .ok (.ifCond .eq 12, 3) := by decide +kernel
theorem dX6_toldAt_15 : decode cX6_toldAt 15 = .ok (.aload_n 0, 1) := by decide +kernel
theorem dX6_toldAt_16 : decode cX6_toldAt 16 = .ok (.getfield 39, 3) := by decide +kernel
theorem dX6_toldAt_19 : decode cX6_toldAt 19 = .ok (.iload_n 1, 1) := by decide +kernel
theorem dX6_toldAt_20 : decode cX6_toldAt 20 = .ok (.iaload, 1) := by decide +kernel
theorem dX6_toldAt_21 : decode cX6_toldAt 21 = .ok (.goto 4, 3) := by decide +kernel
theorem dX6_toldAt_24 : decode cX6_toldAt 24 = .ok (.iconst (-1), 1) := by decide +kernel
theorem dX6_toldAt_25 : decode cX6_toldAt 25 = .ok (.ireturn, 1) := by decide +kernel
theorem dX6_thinkSweptOut_0 : decode cX6_thinkSweptOut 0 = .ok (.aload_n 0, 1) := by decide +kernel
theorem dX6_thinkSweptOut_1 : decode cX6_thinkSweptOut 1 = .ok (.getfield 16, 3) := by decide +kernel
theorem dX6_thinkSweptOut_4 : decode cX6_thinkSweptOut 4 = .ok (.aload_n 0, 1) := by decide +kernel
theorem dX6_thinkSweptOut_5 : decode cX6_thinkSweptOut 5 = .ok (.getfield 10, 3) := by decide +kernel
theorem dX6_thinkSweptOut_8 : decode cX6_thinkSweptOut 8 = .ok (.invokevirtual 227, 3) := by decide +kernel
theorem dX6_thinkSweptOut_11 : decode cX6_thinkSweptOut 11 = .ok (.aload_n 0, 1) := by decide +kernel
theorem dX6_thinkSweptOut_12 : decode cX6_thinkSweptOut 12 = .ok (.getfield 16, 3) := by decide +kernel
theorem dX6_thinkSweptOut_15 : decode cX6_thinkSweptOut 15 = .ok (.invokevirtual 165, 3) := by decide +kernel
theorem dX6_thinkSweptOut_18 : decode cX6_thinkSweptOut 18 = .ok (.return_, 1) := by decide +kernel
theorem dX6_costInThought_0 : decode cX6_costInThought 0 = .ok (.iconst 0, 1) := by decide +kernel
theorem dX6_costInThought_1 : decode cX6_costInThought 1 = .ok (.istore_n 2, 1) := by decide +kernel
theorem dX6_costInThought_2 : decode cX6_costInThought 2 = .ok (.iconst 0, 1) := by decide +kernel
theorem dX6_costInThought_3 : decode cX6_costInThought 3 = .ok (.istore_n 3, 1) := by decide +kernel
theorem dX6_costInThought_4 : decode cX6_costInThought 4 = .ok (.iload_n 3, 1) := by decide +kernel
theorem dX6_costInThought_5 : decode cX6_costInThought 5 = .ok (.iload_n 1, 1) := by decide +kernel
theorem dX6_costInThought_6 : decode cX6_costInThought 6 = .ok (.if_icmp .ge 26, 3) := by decide +kernel
theorem dX6_costInThought_9 : decode cX6_costInThought 9 = .ok (.iload_n 2, 1) := by decide +kernel
theorem dX6_costInThought_10 : decode cX6_costInThought 10 = .ok (.aload_n 0, 1) := by decide +kernel
theorem dX6_costInThought_11 : decode cX6_costInThought 11 = .ok (.getfield 16, 3) := by decide +kernel
theorem dX6_costInThought_14 : decode cX6_costInThought 14 = .ok (.aload_n 0, 1) := by decide +kernel
theorem dX6_costInThought_15 : decode cX6_costInThought 15 = .ok (.iload_n 3, 1) := by decide +kernel
theorem dX6_costInThought_16 : decode cX6_costInThought 16 = .ok (.invokevirtual 244, 3) := by decide +kernel
theorem dX6_costInThought_19 : decode cX6_costInThought 19 = .ok (.iconst 0, 1) := by decide +kernel
theorem dX6_costInThought_20 : decode cX6_costInThought 20 = .ok (.iconst 0, 1) := by decide +kernel
theorem dX6_costInThought_21 : decode cX6_costInThought 21 = .ok (.invokevirtual 152, 3) := by decide +kernel
theorem dX6_costInThought_24 : decode cX6_costInThought 24 = .ok (.iadd, 1) := by decide +kernel
theorem dX6_costInThought_25 : decode cX6_costInThought 25 = .ok (.istore_n 2, 1) := by decide +kernel
theorem dX6_costInThought_26 : decode cX6_costInThought 26 = .ok (.iinc 3 1, 3) := by decide +kernel
theorem dX6_costInThought_29 : decode cX6_costInThought 29 = .ok (.goto (-25), 3) := by decide +kernel
theorem dX6_costInThought_32 : decode cX6_costInThought 32 = .ok (.iload_n 2, 1) := by decide +kernel
theorem dX6_costInThought_33 : decode cX6_costInThought 33 = .ok (.ireturn, 1) := by decide +kernel
theorem dX6_pagesTold_0 : decode cX6_pagesTold 0 = .ok (.lconst 0, 1) := by decide +kernel
theorem dX6_pagesTold_1 : decode cX6_pagesTold 1 = .ok (.lstore_n 3, 1) := by decide +kernel
theorem dX6_pagesTold_2 : decode cX6_pagesTold 2 = .ok (.iload_n 1, 1) := by decide +kernel
theorem dX6_pagesTold_3 : decode cX6_pagesTold 3 = .ok (.istore 5, 2) := by decide +kernel
theorem dX6_pagesTold_5 : decode cX6_pagesTold 5 = .ok (.iload 5, 2) := by decide +kernel
theorem dX6_pagesTold_7 : decode cX6_pagesTold 7 = .ok (.iload_n 2, 1) := by decide +kernel
theorem dX6_pagesTold_8 : decode cX6_pagesTold 8 = .ok (.if_icmp .ge 20, 3) := by decide +kernel
theorem dX6_pagesTold_11 : decode cX6_pagesTold 11 = .ok (.lload_n 3, 1) := by decide +kernel
theorem dX6_pagesTold_12 : decode cX6_pagesTold 12 = .ok (.lconst 1, 1) := by decide +kernel
theorem dX6_pagesTold_13 : decode cX6_pagesTold 13 = .ok (.aload_n 0, 1) := by decide +kernel
theorem dX6_pagesTold_14 : decode cX6_pagesTold 14 = .ok (.iload 5, 2) := by decide +kernel
theorem dX6_pagesTold_16 : decode cX6_pagesTold 16 = .ok (.invokevirtual 244, 3) := by decide +kernel
theorem dX6_pagesTold_19 : decode cX6_pagesTold 19 = .ok (.lshl, 1) := by decide +kernel
theorem dX6_pagesTold_20 : decode cX6_pagesTold 20 = .ok (.lor, 1) := by decide +kernel
theorem dX6_pagesTold_21 : decode cX6_pagesTold 21 = .ok (.lstore_n 3, 1) := by decide +kernel
theorem dX6_pagesTold_22 : decode cX6_pagesTold 22 = .ok (.iinc 5 1, 3) := by decide +kernel
theorem dX6_pagesTold_25 : decode cX6_pagesTold 25 = .ok (.goto (-20), 3) := by decide +kernel
theorem dX6_pagesTold_28 : decode cX6_pagesTold 28 = .ok (.lload_n 3, 1) := by decide +kernel
theorem dX6_pagesTold_29 : decode cX6_pagesTold 29 = .ok (.lreturn, 1) := by decide +kernel
theorem dX6_reuseOf_0 : decode cX6_reuseOf 0 = .ok (.iload_n 1, 1) := by decide +kernel
theorem dX6_reuseOf_1 : decode cX6_reuseOf 1 = .ok (.iconst 1, 1) := by decide +kernel
theorem dX6_reuseOf_2 : decode cX6_reuseOf 2 = .ok (.isub, 1) := by decide +kernel
theorem dX6_reuseOf_3 : decode cX6_reuseOf 3 = .ok (.istore_n 2, 1) := by decide +kernel
theorem dX6_reuseOf_4 : decode cX6_reuseOf 4 = .ok (.iload_n 2, 1) := by decide +kernel
theorem dX6_reuseOf_5 : decode cX6_reuseOf 5 = .ok (.ifCond .lt 34, 3) := by decide +kernel
theorem dX6_reuseOf_8 : decode cX6_reuseOf 8 = .ok (.aload_n 0, 1) := by decide +kernel
theorem dX6_reuseOf_9 : decode cX6_reuseOf 9 = .ok (.iload_n 2, 1) := by decide +kernel
theorem dX6_reuseOf_10 : decode cX6_reuseOf 10 = .ok (.invokevirtual 244, 3) := by decide +kernel
theorem dX6_reuseOf_13 : decode cX6_reuseOf 13 = .ok (.aload_n 0, 1) := by decide +kernel
theorem dX6_reuseOf_14 : decode cX6_reuseOf 14 = .ok (.iload_n 1, 1) := by decide +kernel
theorem dX6_reuseOf_15 : decode cX6_reuseOf 15 = .ok (.invokevirtual 244, 3) := by decide +kernel
theorem dX6_reuseOf_18 : decode cX6_reuseOf 18 = .ok (.if_icmp .ne 15, 3) := by decide +kernel
theorem dX6_reuseOf_21 : decode cX6_reuseOf 21 = .ok (.aload_n 0, 1) := by decide +kernel
theorem dX6_reuseOf_22 : decode cX6_reuseOf 22 = .ok (.iload_n 2, 1) := by decide +kernel
theorem dX6_reuseOf_23 : decode cX6_reuseOf 23 = .ok (.iconst 1, 1) := by decide +kernel
theorem dX6_reuseOf_24 : decode cX6_reuseOf 24 = .ok (.iadd, 1) := by decide +kernel
theorem dX6_reuseOf_25 : decode cX6_reuseOf 25 = .ok (.iload_n 1, 1) := by decide +kernel
theorem dX6_reuseOf_26 : decode cX6_reuseOf 26 = .ok (.invokevirtual 262, 3) := by decide +kernel
theorem dX6_reuseOf_29 : decode cX6_reuseOf 29 = .ok (.invokestatic 193, 3) := by decide +kernel
theorem dX6_reuseOf_32 : decode cX6_reuseOf 32 = .ok (.ireturn, 1) := by decide +kernel
theorem dX6_reuseOf_33 : decode cX6_reuseOf 33 = .ok (.iinc 2 (-1), 3) := by decide +kernel
theorem dX6_reuseOf_36 : decode cX6_reuseOf 36 = .ok (.goto (-32), 3) := by decide +kernel
theorem dX6_reuseOf_39 : decode cX6_reuseOf 39 = .ok (.iconst (-1), 1) := by decide +kernel
theorem dX6_reuseOf_40 : decode cX6_reuseOf 40 = .ok (.ireturn, 1) := by decide +kernel
theorem dX6_greatestReuse_0 : decode cX6_greatestReuse 0 = .ok (.iconst (-1), 1) := by decide +kernel
theorem dX6_greatestReuse_1 : decode cX6_greatestReuse 1 = .ok (.istore_n 2, 1) := by decide +kernel
theorem dX6_greatestReuse_2 : decode cX6_greatestReuse 2 = .ok (.iconst 0, 1) := by decide +kernel
theorem dX6_greatestReuse_3 : decode cX6_greatestReuse 3 = .ok (.istore_n 3, 1) := by decide +kernel
theorem dX6_greatestReuse_4 : decode cX6_greatestReuse 4 = .ok (.iload_n 3, 1) := by decide +kernel
theorem dX6_greatestReuse_5 : decode cX6_greatestReuse 5 = .ok (.iload_n 1, 1) := by decide +kernel
theorem dX6_greatestReuse_6 : decode cX6_greatestReuse 6 = .ok (.if_icmp .ge 19, 3) := by decide +kernel
theorem dX6_greatestReuse_9 : decode cX6_greatestReuse 9 = .ok (.iload_n 2, 1) := by decide +kernel
theorem dX6_greatestReuse_10 : decode cX6_greatestReuse 10 = .ok (.aload_n 0, 1) := by decide +kernel
theorem dX6_greatestReuse_11 : decode cX6_greatestReuse 11 = .ok (.iload_n 3, 1) := by decide +kernel
theorem dX6_greatestReuse_12 : decode cX6_greatestReuse 12 = .ok (.invokevirtual 259, 3) := by decide +kernel
theorem dX6_greatestReuse_15 : decode cX6_greatestReuse 15 = .ok (.invokestatic 332, 3) := by decide +kernel
theorem dX6_greatestReuse_18 : decode cX6_greatestReuse 18 = .ok (.istore_n 2, 1) := by decide +kernel
theorem dX6_greatestReuse_19 : decode cX6_greatestReuse 19 = .ok (.iinc 3 1, 3) := by decide +kernel
theorem dX6_greatestReuse_22 : decode cX6_greatestReuse 22 = .ok (.goto (-18), 3) := by decide +kernel
theorem dX6_greatestReuse_25 : decode cX6_greatestReuse 25 = .ok (.iload_n 2, 1) := by decide +kernel
theorem dX6_greatestReuse_26 : decode cX6_greatestReuse 26 = .ok (.ireturn, 1) := by decide +kernel
theorem dX6_oftenestTold_0 : decode cX6_oftenestTold 0 = .ok (.iconst (-1), 1) := by decide +kernel
theorem dX6_oftenestTold_1 : decode cX6_oftenestTold 1 = .ok (.istore_n 2, 1) := by decide +kernel
theorem dX6_oftenestTold_2 : decode cX6_oftenestTold 2 = .ok (.iconst 0, 1) := by decide +kernel
theorem dX6_oftenestTold_3 : decode cX6_oftenestTold 3 = .ok (.istore_n 3, 1) := by decide +kernel
theorem dX6_oftenestTold_4 : decode cX6_oftenestTold 4 = .ok (.iconst 0, 1) := by decide +kernel
theorem dX6_oftenestTold_5 : decode cX6_oftenestTold 5 = .ok (.istore 4, 2) := by decide +kernel
theorem dX6_oftenestTold_7 : decode cX6_oftenestTold 7 = .ok (.iload 4, 2) := by decide +kernel
theorem dX6_oftenestTold_9 : decode cX6_oftenestTold 9 = .ok (.bipush 64, 2) := by decide +kernel
theorem dX6_oftenestTold_11 : decode cX6_oftenestTold 11 = .ok (.if_icmp .ge 60, 3) := by decide +kernel
theorem dX6_oftenestTold_14 : decode cX6_oftenestTold 14 = .ok (.iconst 0, 1) := by decide +kernel
theorem dX6_oftenestTold_15 : decode cX6_oftenestTold 15 = .ok (.istore 5, 2) := by decide +kernel
theorem dX6_oftenestTold_17 : decode cX6_oftenestTold 17 = .ok (.iconst 0, 1) := by decide +kernel
theorem dX6_oftenestTold_18 : decode cX6_oftenestTold 18 = .ok (.istore 6, 2) := by decide +kernel
theorem dX6_oftenestTold_20 : decode cX6_oftenestTold 20 = .ok (.iload 6, 2) := by decide +kernel
theorem dX6_oftenestTold_22 : decode cX6_oftenestTold 22 = .ok (.iload_n 1, 1) := by decide +kernel
theorem dX6_oftenestTold_23 : decode cX6_oftenestTold 23 = .ok (.if_icmp .ge 30, 3) := by decide +kernel
theorem dX6_oftenestTold_26 : decode cX6_oftenestTold 26 = .ok (.iload 5, 2) := by decide +kernel
theorem dX6_oftenestTold_28 : decode cX6_oftenestTold 28 = .ok (.aload_n 0, 1) := by decide +kernel
theorem dX6_oftenestTold_29 : decode cX6_oftenestTold 29 = .ok (.iload 6, 2) := by decide +kernel
theorem dX6_oftenestTold_31 : decode cX6_oftenestTold 31 = .ok (.invokevirtual 244, 3) := by decide +kernel
theorem dX6_oftenestTold_34 : decode cX6_oftenestTold 34 = .ok (.iload 4, 2) := by decide +kernel
theorem dX6_oftenestTold_36 : decode cX6_oftenestTold 36 = .ok (.if_icmp .ne 7, 3) := by decide +kernel
theorem dX6_oftenestTold_39 : decode cX6_oftenestTold 39 = .ok (.iconst 1, 1) := by decide +kernel
theorem dX6_oftenestTold_40 : decode cX6_oftenestTold 40 = .ok (.goto 4, 3) := by decide +kernel
theorem dX6_oftenestTold_43 : decode cX6_oftenestTold 43 = .ok (.iconst 0, 1) := by decide +kernel
theorem dX6_oftenestTold_44 : decode cX6_oftenestTold 44 = .ok (.iadd, 1) := by decide +kernel
theorem dX6_oftenestTold_45 : decode cX6_oftenestTold 45 = .ok (.istore 5, 2) := by decide +kernel
theorem dX6_oftenestTold_47 : decode cX6_oftenestTold 47 = .ok (.iinc 6 1, 3) := by decide +kernel
theorem dX6_oftenestTold_50 : decode cX6_oftenestTold 50 = .ok (.goto (-30), 3) := by decide +kernel
theorem dX6_oftenestTold_53 : decode cX6_oftenestTold 53 = .ok (.iload 5, 2) := by decide +kernel
theorem dX6_oftenestTold_55 : decode cX6_oftenestTold 55 = .ok (.iload_n 3, 1) := by decide +kernel
theorem dX6_oftenestTold_56 : decode cX6_oftenestTold 56 = .ok (.if_icmp .le 9, 3) := by decide +kernel
theorem dX6_oftenestTold_59 : decode cX6_oftenestTold 59 = .ok (.iload 4, 2) := by decide +kernel
theorem dX6_oftenestTold_61 : decode cX6_oftenestTold 61 = .ok (.istore_n 2, 1) := by decide +kernel
theorem dX6_oftenestTold_62 : decode cX6_oftenestTold 62 = .ok (.iload 5, 2) := by decide +kernel
theorem dX6_oftenestTold_64 : decode cX6_oftenestTold 64 = .ok (.istore_n 3, 1) := by decide +kernel
theorem dX6_oftenestTold_65 : decode cX6_oftenestTold 65 = .ok (.iinc 4 1, 3) := by decide +kernel
theorem dX6_oftenestTold_68 : decode cX6_oftenestTold 68 = .ok (.goto (-61), 3) := by decide +kernel
theorem dX6_oftenestTold_71 : decode cX6_oftenestTold 71 = .ok (.iload_n 2, 1) := by decide +kernel
theorem dX6_oftenestTold_72 : decode cX6_oftenestTold 72 = .ok (.ireturn, 1) := by decide +kernel
theorem dX6_hitsByForesight_0 : decode cX6_hitsByForesight 0 = .ok (.lconst 0, 1) := by decide +kernel
theorem dX6_hitsByForesight_1 : decode cX6_hitsByForesight 1 = .ok (.lstore_n 3, 1) := by decide +kernel
theorem dX6_hitsByForesight_2 : decode cX6_hitsByForesight 2 = .ok (.iconst 0, 1) := by decide +kernel
theorem dX6_hitsByForesight_3 : decode cX6_hitsByForesight 3 = .ok (.istore 5, 2) := by decide +kernel
theorem dX6_hitsByForesight_5 : decode cX6_hitsByForesight 5 = .ok (.iconst 0, 1) := by decide +kernel
theorem dX6_hitsByForesight_6 : decode cX6_hitsByForesight 6 = .ok (.istore 6, 2) := by decide +kernel
theorem dX6_hitsByForesight_8 : decode cX6_hitsByForesight 8 = .ok (.iload 6, 2) := by decide +kernel
theorem dX6_hitsByForesight_10 : decode cX6_hitsByForesight 10 = .ok (.iload_n 1, 1) := by decide +kernel
theorem dX6_hitsByForesight_11 : decode cX6_hitsByForesight 11 = .ok (.if_icmp .ge 66, 3) := by decide +kernel
theorem dX6_hitsByForesight_14 : decode cX6_hitsByForesight 14 = .ok (.lconst 1, 1) := by decide +kernel
theorem dX6_hitsByForesight_15 : decode cX6_hitsByForesight 15 = .ok (.aload_n 0, 1) := by decide +kernel
theorem dX6_hitsByForesight_16 : decode cX6_hitsByForesight 16 = .ok (.iload 6, 2) := by decide +kernel
theorem dX6_hitsByForesight_18 : decode cX6_hitsByForesight 18 = .ok (.invokevirtual 244, 3) := by decide +kernel
theorem dX6_hitsByForesight_21 : decode cX6_hitsByForesight 21 = .ok (.lshl, 1) := by decide +kernel
theorem dX6_hitsByForesight_22 : decode cX6_hitsByForesight 22 = .ok (.lstore 7, 2) := by decide +kernel
theorem dX6_hitsByForesight_24 : decode cX6_hitsByForesight 24 = .ok (.lload_n 3, 1) := by decide +kernel
theorem dX6_hitsByForesight_25 : decode cX6_hitsByForesight 25 = .ok (.lload 7, 2) := by decide +kernel
theorem dX6_hitsByForesight_27 : decode cX6_hitsByForesight 27 = .ok (.land, 1) := by decide +kernel
theorem dX6_hitsByForesight_28 : decode cX6_hitsByForesight 28 = .ok (.lconst 0, 1) := by decide +kernel
theorem dX6_hitsByForesight_29 : decode cX6_hitsByForesight 29 = .ok (.lcmp, 1) := by decide +kernel
theorem dX6_hitsByForesight_30 : decode cX6_hitsByForesight 30 = .ok (.ifCond .eq 9, 3) := by decide +kernel
theorem dX6_hitsByForesight_33 : decode cX6_hitsByForesight 33 = .ok (.iinc 5 1, 3) := by decide +kernel
theorem dX6_hitsByForesight_36 : decode cX6_hitsByForesight 36 = .ok (.goto 35, 3) := by decide +kernel
theorem dX6_hitsByForesight_39 : decode cX6_hitsByForesight 39 = .ok (.lload_n 3, 1) := by decide +kernel
theorem dX6_hitsByForesight_40 : decode cX6_hitsByForesight 40 = .ok (.invokestatic 193, 3) := by decide +kernel
theorem dX6_hitsByForesight_43 : decode cX6_hitsByForesight 43 = .ok (.iload_n 2, 1) := by decide +kernel
theorem dX6_hitsByForesight_44 : decode cX6_hitsByForesight 44 = .ok (.if_icmp .lt 22, 3) := by decide +kernel
theorem dX6_hitsByForesight_47 : decode cX6_hitsByForesight 47 = .ok (.lload_n 3, 1) := by decide +kernel
theorem dX6_hitsByForesight_48 : decode cX6_hitsByForesight 48 = .ok (.lconst 1, 1) := by decide +kernel
theorem dX6_hitsByForesight_49 : decode cX6_hitsByForesight 49 = .ok (.aload_n 0, 1) := by decide +kernel
theorem dX6_hitsByForesight_50 : decode cX6_hitsByForesight 50 = .ok (.lload_n 3, 1) := by decide +kernel
theorem dX6_hitsByForesight_51 : decode cX6_hitsByForesight 51 = .ok (.iload 6, 2) := by decide +kernel
theorem dX6_hitsByForesight_53 : decode cX6_hitsByForesight 53 = .ok (.iconst 1, 1) := by decide +kernel
theorem dX6_hitsByForesight_54 : decode cX6_hitsByForesight 54 = .ok (.iadd, 1) := by decide +kernel
theorem dX6_hitsByForesight_55 : decode cX6_hitsByForesight 55 = .ok (.iload_n 1, 1) := by decide +kernel
theorem dX6_hitsByForesight_56 : decode cX6_hitsByForesight 56 = .ok (.invokevirtual 337, 3) := by decide +kernel
theorem dX6_hitsByForesight_59 : decode cX6_hitsByForesight 59 = .ok (.lshl, 1) := by decide +kernel
theorem dX6_hitsByForesight_60 : decode cX6_hitsByForesight 60 = .ok (.ldc2_w 238, 3) := by decide +kernel
theorem dX6_hitsByForesight_63 : decode cX6_hitsByForesight 63 = .ok (.lxor, 1) := by decide +kernel
theorem dX6_hitsByForesight_64 : decode cX6_hitsByForesight 64 = .ok (.land, 1) := by decide +kernel
theorem dX6_hitsByForesight_65 : decode cX6_hitsByForesight 65 = .ok (.lstore_n 3, 1) := by decide +kernel
theorem dX6_hitsByForesight_66 : decode cX6_hitsByForesight 66 = .ok (.lload_n 3, 1) := by decide +kernel
theorem dX6_hitsByForesight_67 : decode cX6_hitsByForesight 67 = .ok (.lload 7, 2) := by decide +kernel
theorem dX6_hitsByForesight_69 : decode cX6_hitsByForesight 69 = .ok (.lor, 1) := by decide +kernel
theorem dX6_hitsByForesight_70 : decode cX6_hitsByForesight 70 = .ok (.lstore_n 3, 1) := by decide +kernel
theorem dX6_hitsByForesight_71 : decode cX6_hitsByForesight 71 = .ok (.iinc 6 1, 3) := by decide +kernel
theorem dX6_hitsByForesight_74 : decode cX6_hitsByForesight 74 = .ok (.goto (-66), 3) := by decide +kernel
theorem dX6_hitsByForesight_77 : decode cX6_hitsByForesight 77 = .ok (.iload 5, 2) := by decide +kernel
theorem dX6_hitsByForesight_79 : decode cX6_hitsByForesight 79 = .ok (.ireturn, 1) := by decide +kernel
theorem dX6_toldLatest_0 : decode cX6_toldLatest 0 = .ok (.iconst 0, 1) := by decide +kernel
theorem dX6_toldLatest_1 : decode cX6_toldLatest 1 = .ok (.istore 5, 2) := by decide +kernel
theorem dX6_toldLatest_3 : decode cX6_toldLatest 3 = .ok (.iconst (-1), 1) := by decide +kernel
theorem dX6_toldLatest_4 : decode cX6_toldLatest 4 = .ok (.istore 6, 2) := by decide +kernel
theorem dX6_toldLatest_6 : decode cX6_toldLatest 6 = .ok (.iconst 0, 1) := by decide +kernel
theorem dX6_toldLatest_7 : decode cX6_toldLatest 7 = .ok (.istore 7, 2) := by decide +kernel
theorem dX6_toldLatest_9 : decode cX6_toldLatest 9 = .ok (.iload 7, 2) := by decide +kernel
theorem dX6_toldLatest_11 : decode cX6_toldLatest 11 = .ok (.bipush 64, 2) := by decide +kernel
theorem dX6_toldLatest_13 : decode cX6_toldLatest 13 = .ok (.if_icmp .ge 62, 3) := by decide +kernel
theorem dX6_toldLatest_16 : decode cX6_toldLatest 16 = .ok (.lload_n 1, 1) := by decide +kernel
theorem dX6_toldLatest_17 : decode cX6_toldLatest 17 = .ok (.iload 7, 2) := by decide +kernel
theorem dX6_toldLatest_19 : decode cX6_toldLatest 19 = .ok (.lushr, 1) := by decide +kernel
theorem dX6_toldLatest_20 : decode cX6_toldLatest 20 = .ok (.lconst 1, 1) := by decide +kernel
theorem dX6_toldLatest_21 : decode cX6_toldLatest 21 = .ok (.land, 1) := by decide +kernel
theorem dX6_toldLatest_22 : decode cX6_toldLatest 22 = .ok (.lconst 1, 1) := by decide +kernel
theorem dX6_toldLatest_23 : decode cX6_toldLatest 23 = .ok (.lcmp, 1) := by decide +kernel
theorem dX6_toldLatest_24 : decode cX6_toldLatest 24 = .ok (.ifCond .ne 45, 3) := by decide +kernel
theorem dX6_toldLatest_27 : decode cX6_toldLatest 27 = .ok (.iload_n 3, 1) := by decide +kernel
theorem dX6_toldLatest_28 : decode cX6_toldLatest 28 = .ok (.istore 8, 2) := by decide +kernel
theorem dX6_toldLatest_30 : decode cX6_toldLatest 30 = .ok (.iload 8, 2) := by decide +kernel
theorem dX6_toldLatest_32 : decode cX6_toldLatest 32 = .ok (.iload 4, 2) := by decide +kernel
theorem dX6_toldLatest_34 : decode cX6_toldLatest 34 = .ok (.if_icmp .ge 20, 3) := by decide +kernel
theorem dX6_toldLatest_37 : decode cX6_toldLatest 37 = .ok (.aload_n 0, 1) := by decide +kernel
theorem dX6_toldLatest_38 : decode cX6_toldLatest 38 = .ok (.iload 8, 2) := by decide +kernel
theorem dX6_toldLatest_40 : decode cX6_toldLatest 40 = .ok (.invokevirtual 244, 3) := by decide +kernel
theorem dX6_toldLatest_43 : decode cX6_toldLatest 43 = .ok (.iload 7, 2) := by decide +kernel
theorem dX6_toldLatest_45 : decode cX6_toldLatest 45 = .ok (.if_icmp .eq 9, 3) := by decide +kernel
theorem dX6_toldLatest_48 : decode cX6_toldLatest 48 = .ok (.iinc 8 1, 3) := by decide +kernel
theorem dX6_toldLatest_51 : decode cX6_toldLatest 51 = .ok (.goto (-21), 3) := by decide +kernel
theorem dX6_toldLatest_54 : decode cX6_toldLatest 54 = .ok (.iload 8, 2) := by decide +kernel
theorem dX6_toldLatest_56 : decode cX6_toldLatest 56 = .ok (.iload 6, 2) := by decide +kernel
theorem dX6_toldLatest_58 : decode cX6_toldLatest 58 = .ok (.if_icmp .le 11, 3) := by decide +kernel
theorem dX6_toldLatest_61 : decode cX6_toldLatest 61 = .ok (.iload 7, 2) := by decide +kernel
theorem dX6_toldLatest_63 : decode cX6_toldLatest 63 = .ok (.istore 5, 2) := by decide +kernel
theorem dX6_toldLatest_65 : decode cX6_toldLatest 65 = .ok (.iload 8, 2) := by decide +kernel
theorem dX6_toldLatest_67 : decode cX6_toldLatest 67 = .ok (.istore 6, 2) := by decide +kernel
theorem dX6_toldLatest_69 : decode cX6_toldLatest 69 = .ok (.iinc 7 1, 3) := by decide +kernel
theorem dX6_toldLatest_72 : decode cX6_toldLatest 72 = .ok (.goto (-63), 3) := by decide +kernel
theorem dX6_toldLatest_75 : decode cX6_toldLatest 75 = .ok (.iload 5, 2) := by decide +kernel
theorem dX6_toldLatest_77 : decode cX6_toldLatest 77 = .ok (.ireturn, 1) := by decide +kernel
theorem dX7_init_0 : decode cX7_init 0 = .ok (.aload_n 0, 1) := by decide +kernel
theorem dX7_init_1 : decode cX7_init 1 = .ok (.invokespecial 1, 3) := by decide +kernel
theorem dX7_init_4 : decode cX7_init 4 = .ok (.aload_n 0, 1) := by decide +kernel
theorem dX7_init_5 : decode cX7_init 5 = .ok (.sipush 784, 3) := by decide +kernel
theorem dX7_init_8 : decode cX7_init 8 = .ok (.newarray .int, 2) := by decide +kernel
theorem dX7_init_10 : decode cX7_init 10 = .ok (.putfield 7, 3) := by decide +kernel
theorem dX7_init_13 : decode cX7_init 13 = .ok (.aload_n 0, 1) := by decide +kernel
theorem dX7_init_14 : decode cX7_init 14 = .ok (.sipush 784, 3) := by decide +kernel
theorem dX7_init_17 : decode cX7_init 17 = .ok (.newarray .int, 2) := by decide +kernel
theorem dX7_init_19 : decode cX7_init 19 = .ok (.putfield 13, 3) := by decide +kernel
theorem dX7_init_22 : decode cX7_init 22 = .ok (.aload_n 0, 1) := by decide +kernel
theorem dX7_init_23 : decode cX7_init 23 = .ok (.sipush 784, 3) := by decide +kernel
theorem dX7_init_26 : decode cX7_init 26 = .ok (.newarray .int, 2) := by decide +kernel
theorem dX7_init_28 : decode cX7_init 28 = .ok (.putfield 16, 3) := by decide +kernel
theorem dX7_init_31 : decode cX7_init 31 = .ok (.aload_n 0, 1) := by decide +kernel
theorem dX7_init_32 : decode cX7_init 32 = .ok (.iconst 5, 1) := by decide +kernel
theorem dX7_init_33 : decode cX7_init 33 = .ok (.newarray .int, 2) := by decide +kernel
theorem dX7_init_35 : decode cX7_init 35 = .ok (.putfield 19, 3) := by decide +kernel
theorem dX7_init_38 : decode cX7_init 38 = .ok (.aload_n 0, 1) := by decide +kernel
theorem dX7_init_39 : decode cX7_init 39 = .ok (.sipush 250, 3) := by decide +kernel
theorem dX7_init_42 : decode cX7_init 42 = .ok (.newarray .int, 2) := by decide +kernel
theorem dX7_init_44 : decode cX7_init 44 = .ok (.putfield 22, 3) := by decide +kernel
theorem dX7_init_47 : decode cX7_init 47 = .ok (.aload_n 0, 1) := by decide +kernel
theorem dX7_init_48 : decode cX7_init 48 = .ok (.bipush 8, 2) := by decide +kernel
theorem dX7_init_50 : decode cX7_init 50 = .ok (.newarray .int, 2) := by decide +kernel
theorem dX7_init_52 : decode cX7_init 52 = .ok (.dup, 1) := by decide +kernel
theorem dX7_init_53 : decode cX7_init 53 = .ok (.iconst 0, 1) := by decide +kernel
theorem dX7_init_54 : decode cX7_init 54 = .ok (.iconst (-1), 1) := by decide +kernel
theorem dX7_init_55 : decode cX7_init 55 = .ok (.iastore, 1) := by decide +kernel
theorem dX7_init_56 : decode cX7_init 56 = .ok (.dup, 1) := by decide +kernel
theorem dX7_init_57 : decode cX7_init 57 = .ok (.iconst 1, 1) := by decide +kernel
theorem dX7_init_58 : decode cX7_init 58 = .ok (.iconst (-1), 1) := by decide +kernel
theorem dX7_init_59 : decode cX7_init 59 = .ok (.iastore, 1) := by decide +kernel
theorem dX7_init_60 : decode cX7_init 60 = .ok (.dup, 1) := by decide +kernel
theorem dX7_init_61 : decode cX7_init 61 = .ok (.iconst 2, 1) := by decide +kernel
theorem dX7_init_62 : decode cX7_init 62 = .ok (.iconst (-1), 1) := by decide +kernel
theorem dX7_init_63 : decode cX7_init 63 = .ok (.iastore, 1) := by decide +kernel
theorem dX7_init_64 : decode cX7_init 64 = .ok (.dup, 1) := by decide +kernel
theorem dX7_init_65 : decode cX7_init 65 = .ok (.iconst 3, 1) := by decide +kernel
theorem dX7_init_66 : decode cX7_init 66 = .ok (.iconst (-1), 1) := by decide +kernel
theorem dX7_init_67 : decode cX7_init 67 = .ok (.iastore, 1) := by decide +kernel
theorem dX7_init_68 : decode cX7_init 68 = .ok (.dup, 1) := by decide +kernel
theorem dX7_init_69 : decode cX7_init 69 = .ok (.iconst 4, 1) := by decide +kernel
theorem dX7_init_70 : decode cX7_init 70 = .ok (.iconst (-1), 1) := by decide +kernel
theorem dX7_init_71 : decode cX7_init 71 = .ok (.iastore, 1) := by decide +kernel
theorem dX7_init_72 : decode cX7_init 72 = .ok (.dup, 1) := by decide +kernel
theorem dX7_init_73 : decode cX7_init 73 = .ok (.iconst 5, 1) := by decide +kernel
theorem dX7_init_74 : decode cX7_init 74 = .ok (.iconst (-1), 1) := by decide +kernel
theorem dX7_init_75 : decode cX7_init 75 = .ok (.iastore, 1) := by decide +kernel
theorem dX7_init_76 : decode cX7_init 76 = .ok (.dup, 1) := by decide +kernel
theorem dX7_init_77 : decode cX7_init 77 = .ok (.bipush 6, 2) := by decide +kernel
theorem dX7_init_79 : decode cX7_init 79 = .ok (.iconst (-1), 1) := by decide +kernel
theorem dX7_init_80 : decode cX7_init 80 = .ok (.iastore, 1) := by decide +kernel
theorem dX7_init_81 : decode cX7_init 81 = .ok (.dup, 1) := by decide +kernel
theorem dX7_init_82 : decode cX7_init 82 = .ok (.bipush 7, 2) := by decide +kernel
theorem dX7_init_84 : decode cX7_init 84 = .ok (.iconst (-1), 1) := by decide +kernel
theorem dX7_init_85 : decode cX7_init 85 = .ok (.iastore, 1) := by decide +kernel
theorem dX7_init_86 : decode cX7_init 86 = .ok (.putfield 25, 3) := by decide +kernel
theorem dX7_init_89 : decode cX7_init 89 = .ok (.aload_n 0, 1) := by decide +kernel
theorem dX7_init_90 : decode cX7_init 90 = .ok (.bipush 8, 2) := by decide +kernel
theorem dX7_init_92 : decode cX7_init 92 = .ok (.newarray .int, 2) := by decide +kernel
theorem dX7_init_94 : decode cX7_init 94 = .ok (.putfield 28, 3) := by decide +kernel
theorem dX7_init_97 : decode cX7_init 97 = .ok (.aload_n 0, 1) := by decide +kernel
theorem dX7_init_98 : decode cX7_init 98 = .ok (.sipush 320, 3) := by decide +kernel
theorem dX7_init_101 : decode cX7_init 101 = .ok (.newarray .long, 2) := by decide +kernel
theorem dX7_init_103 : decode cX7_init 103 = .ok (.putfield 31, 3) := by decide +kernel
theorem dX7_init_106 : decode cX7_init 106 = .ok (.aload_n 0, 1) := by decide +kernel
theorem dX7_init_107 : decode cX7_init 107 = .ok (.bipush 40, 2) := by decide +kernel
theorem dX7_init_109 : decode cX7_init 109 = .ok (.newarray .long, 2) := by decide +kernel
theorem dX7_init_111 : decode cX7_init 111 = .ok (.putfield 35, 3) := by decide +kernel
theorem dX7_init_114 : decode cX7_init 114 = .ok (.aload_n 0, 1) := by decide +kernel
theorem dX7_init_115 : decode cX7_init 115 = .ok (.bipush 64, 2) := by decide +kernel
theorem dX7_init_117 : decode cX7_init 117 = .ok (.newarray .boolean, 2) := by decide +kernel
theorem dX7_init_119 : decode cX7_init 119 = .ok (.putfield 38, 3) := by decide +kernel
theorem dX7_init_122 : decode cX7_init 122 = .ok (.aload_n 0, 1) := by decide +kernel
theorem dX7_init_123 : decode cX7_init 123 = .ok (.bipush 16, 2) := by decide +kernel
theorem dX7_init_125 : decode cX7_init 125 = .ok (.newarray .int, 2) := by decide +kernel
theorem dX7_init_127 : decode cX7_init 127 = .ok (.putfield 42, 3) := by decide +kernel
theorem dX7_init_130 : decode cX7_init 130 = .ok (.aload_n 0, 1) := by decide +kernel
theorem dX7_init_131 : decode cX7_init 131 = .ok (.getfield 7, 3) := by decide +kernel
theorem dX7_init_134 : decode cX7_init 134 = .ok (.sipush 692, 3) := by decide +kernel
theorem dX7_init_137 : decode cX7_init 137 = .ok (.bipush 50, 2) := by decide +kernel
theorem dX7_init_139 : decode cX7_init 139 = .ok (.iastore, 1) := by decide +kernel
theorem dX7_init_140 : decode cX7_init 140 = .ok (.aload_n 0, 1) := by decide +kernel
theorem dX7_init_141 : decode cX7_init 141 = .ok (.getfield 7, 3) := by decide +kernel
theorem dX7_init_144 : decode cX7_init 144 = .ok (.sipush 695, 3) := by decide +kernel
theorem dX7_init_147 : decode cX7_init 147 = .ok (.bipush (-9), 2) := by decide +kernel
theorem dX7_init_149 : decode cX7_init 149 = .ok (.iastore, 1) := by decide +kernel
theorem dX7_init_150 : decode cX7_init 150 = .ok (.aload_n 0, 1) := by decide +kernel
theorem dX7_init_151 : decode cX7_init 151 = .ok (.getfield 7, 3) := by decide +kernel
theorem dX7_init_154 : decode cX7_init 154 = .ok (.sipush 699, 3) := by decide +kernel
theorem dX7_init_157 : decode cX7_init 157 = .ok (.iconst 1, 1) := by decide +kernel
theorem dX7_init_158 : decode cX7_init 158 = .ok (.iastore, 1) := by decide +kernel
theorem dX7_init_159 : decode cX7_init 159 = .ok (.aload_n 0, 1) := by decide +kernel
theorem dX7_init_160 : decode cX7_init 160 = .ok (.getfield 7, 3) := by decide +kernel
theorem dX7_init_163 : decode cX7_init 163 = .ok (.sipush 701, 3) := by decide +kernel
theorem dX7_init_166 : decode cX7_init 166 = .ok (.iconst (-1), 1) := by decide +kernel
theorem dX7_init_167 : decode cX7_init 167 = .ok (.iastore, 1) := by decide +kernel
theorem dX7_init_168 : decode cX7_init 168 = .ok (.return_, 1) := by decide +kernel
theorem dX7_isIn_0 : decode cX7_isIn 0 = .ok (.lload_n 0, 1) := by decide +kernel
theorem dX7_isIn_1 : decode cX7_isIn 1 = .ok (.lload_n 2, 1) := by decide +kernel
theorem dX7_isIn_2 : decode cX7_isIn 2 = .ok (.lcmp, 1) := by decide +kernel
theorem dX7_isIn_3 : decode cX7_isIn 3 = .ok (.ifCond .lt 14, 3) := by decide +kernel
theorem dX7_isIn_6 : decode cX7_isIn 6 = .ok (.lload_n 0, 1) := by decide +kernel
theorem dX7_isIn_7 : decode cX7_isIn 7 = .ok (.lload 4, 2) := by decide +kernel
theorem dX7_isIn_9 : decode cX7_isIn 9 = .ok (.lcmp, 1) := by decide +kernel
theorem dX7_isIn_10 : decode cX7_isIn 10 = .ok (.ifCond .gt 7, 3) := by decide +kernel
theorem dX7_isIn_13 : decode cX7_isIn 13 = .ok (.iconst 1, 1) := by decide +kernel
theorem dX7_isIn_14 : decode cX7_isIn 14 = .ok (.goto 4, 3) := by decide +kernel
theorem dX7_isIn_17 : decode cX7_isIn 17 = .ok (.iconst 0, 1) := by decide +kernel
theorem dX7_isIn_18 : decode cX7_isIn 18 = .ok (.ireturn, 1) := by decide +kernel
theorem dX7_pours_0 : decode cX7_pours 0 = .ok (.iconst 0, 1) := by decide +kernel
theorem dX7_pours_1 : decode cX7_pours 1 = .ok (.istore_n 2, 1) := by decide +kernel
theorem dX7_pours_2 : decode cX7_pours 2 = .ok (.iload_n 2, 1) := by decide +kernel
theorem dX7_pours_3 : decode cX7_pours 3 = .ok (.sipush 784, 3) := by decide +kernel
theorem dX7_pours_6 : decode cX7_pours 6 = .ok (.if_icmp .ge 15, 3) := by decide +kernel
theorem dX7_pours_9 : decode cX7_pours 9 = .ok (.aload_n 1, 1) := by decide +kernel
theorem dX7_pours_10 : decode cX7_pours 10 = .ok (.iload_n 2, 1) := by decide +kernel
theorem dX7_pours_11 : decode cX7_pours 11 = .ok (.aload_n 0, 1) := by decide +kernel
theorem dX7_pours_12 : decode cX7_pours 12 = .ok (.iload_n 2, 1) := by decide +kernel
theorem dX7_pours_13 : decode cX7_pours 13 = .ok (.iaload, 1) := by decide +kernel
theorem dX7_pours_14 : decode cX7_pours 14 = .ok (.iastore, 1) := by decide +kernel
theorem dX7_pours_15 : decode cX7_pours 15 = .ok (.iinc 2 1, 3) := by decide +kernel
theorem dX7_pours_18 : decode cX7_pours 18 = .ok (.goto (-16), 3) := by decide +kernel
theorem dX7_pours_21 : decode cX7_pours 21 = .ok (.return_, 1) := by decide +kernel
theorem dX7_refuses_0 : decode cX7_refuses 0 = .ok (.aload_n 0, 1) := by decide +kernel
theorem dX7_refuses_1 : decode cX7_refuses 1 = .ok (.getfield 19, 3) := by decide +kernel
theorem dX7_refuses_4 : decode cX7_refuses 4 = .ok (.bipush (-52), 2) := by decide +kernel
theorem dX7_refuses_6 : decode cX7_refuses 6 = .ok (.iload_n 1, 1) := by decide +kernel
theorem dX7_refuses_7 : decode cX7_refuses 7 = .ok (.isub, 1) := by decide +kernel
theorem dX7_refuses_8 : decode cX7_refuses 8 = .ok (.dup2, 1) := by decide +kernel
theorem dX7_refuses_9 : decode cX7_refuses 9 = .ok (.iaload, 1) := by decide +kernel
theorem dX7_refuses_10 : decode cX7_refuses 10 = .ok (.iconst 1, 1) := by decide +kernel
theorem dX7_refuses_11 : decode cX7_refuses 11 = .ok (.iadd, 1) := by decide +kernel
theorem dX7_refuses_12 : decode cX7_refuses 12 = .ok (.iastore, 1) := by decide +kernel
theorem dX7_refuses_13 : decode cX7_refuses 13 = .ok (.iload_n 1, 1) := by decide +kernel
theorem dX7_refuses_14 : decode cX7_refuses 14 = .ok (.ireturn, 1) := by decide +kernel
theorem dX7_isPage_0 : decode cX7_isPage 0 = .ok (.lload_n 0, 1) := by decide +kernel
theorem dX7_isPage_1 : decode cX7_isPage 1 = .ok (.lconst 0, 1) := by decide +kernel
theorem dX7_isPage_2 : decode cX7_isPage 2 = .ok (.ldc2_w 45, 3) := by decide +kernel
theorem dX7_isPage_5 : decode cX7_isPage 5 = .ok (.invokestatic 47, 3) := by decide +kernel
theorem dX7_isPage_8 : decode cX7_isPage 8 = .ok (.ireturn, 1) := by decide +kernel
theorem dX7_isLevel_0 : decode cX7_isLevel 0 = .ok (.iload_n 1, 1) := by decide +kernel
theorem dX7_isLevel_1 : decode cX7_isLevel 1 = .ok (.i2l, 1) := by decide +kernel
theorem dX7_isLevel_2 : decode cX7_isLevel 2 = .ok (.lconst 1, 1) := by decide +kernel
theorem dX7_isLevel_3 : decode cX7_isLevel 3 = .ok (.aload_n 0, 1) := by decide +kernel
theorem dX7_isLevel_4 : decode cX7_isLevel 4 = .ok (.getfield 7, 3) := by decide +kernel
theorem dX7_isLevel_7 : decode cX7_isLevel 7 = .ok (.sipush 688, 3) := by decide +kernel
theorem dX7_isLevel_10 : decode cX7_isLevel 10 = .ok (.iaload, 1) := by decide +kernel
theorem dX7_isLevel_11 : decode cX7_isLevel 11 = .ok (.i2l, 1) := by decide +kernel
theorem dX7_isLevel_12 : decode cX7_isLevel 12 = .ok (.invokestatic 47, 3) := by decide +kernel
theorem dX7_isLevel_15 : decode cX7_isLevel 15 = .ok (.ireturn, 1) := by decide +kernel
theorem dX7_at_0 : decode cX7_at 0 = .ok (.sipush 128, 3) := by decide +kernel
theorem dX7_at_3 : decode cX7_at 3 = .ok (.sipush 140, 3) := by decide +kernel
theorem dX7_at_6 : decode cX7_at 6 = .ok (.iload_n 0, 1) := by decide +kernel
theorem dX7_at_7 : decode cX7_at 7 = .ok (.imul, 1) := by decide +kernel
theorem dX7_at_8 : decode cX7_at 8 = .ok (.iadd, 1) := by decide +kernel
theorem dX7_at_9 : decode cX7_at 9 = .ok (.iload_n 1, 1) := by decide +kernel
theorem dX7_at_10 : decode cX7_at 10 = .ok (.iadd, 1) := by decide +kernel
theorem dX7_at_11 : decode cX7_at 11 = .ok (.ireturn, 1) := by decide +kernel
theorem dX7_slotAt_0 : decode cX7_slotAt 0 = .ok (.sipush 128, 3) := by decide +kernel
theorem dX7_slotAt_3 : decode cX7_slotAt 3 = .ok (.sipush 140, 3) := by decide +kernel
theorem dX7_slotAt_6 : decode cX7_slotAt 6 = .ok (.iload_n 0, 1) := by decide +kernel
theorem dX7_slotAt_7 : decode cX7_slotAt 7 = .ok (.imul, 1) := by decide +kernel
theorem dX7_slotAt_8 : decode cX7_slotAt 8 = .ok (.iadd, 1) := by decide +kernel
theorem dX7_slotAt_9 : decode cX7_slotAt 9 = .ok (.bipush 12, 2) := by decide +kernel
theorem dX7_slotAt_11 : decode cX7_slotAt 11 = .ok (.iadd, 1) := by decide +kernel
theorem dX7_slotAt_12 : decode cX7_slotAt 12 = .ok (.bipush 7, 2) := by decide +kernel
theorem dX7_slotAt_14 : decode cX7_slotAt 14 = .ok (.iload_n 1, 1) := by decide +kernel
theorem dX7_slotAt_15 : decode cX7_slotAt 15 = .ok (.imul, 1) := by decide +kernel
theorem dX7_slotAt_16 : decode cX7_slotAt 16 = .ok (.iadd, 1) := by decide +kernel
theorem dX7_slotAt_17 : decode cX7_slotAt 17 = .ok (.iload_n 2, 1) := by decide +kernel
theorem dX7_slotAt_18 : decode cX7_slotAt 18 = .ok (.iadd, 1) := by decide +kernel
theorem dX7_slotAt_19 : decode cX7_slotAt 19 = .ok (.ireturn, 1) := by decide +kernel
theorem dX7_of_0 : decode cX7_of 0 = .ok (.aload_n 0, 1) := by decide +kernel
theorem dX7_of_1 : decode cX7_of 1 = .ok (.getfield 7, 3) := by decide +kernel
theorem dX7_of_4 : decode cX7_of 4 = .ok (.iload_n 1, 1) := by decide +kernel
theorem dX7_of_5 : decode cX7_of 5 = .ok (.iload_n 2, 1) := by decide +kernel
theorem dX7_of_6 : decode cX7_of 6 = .ok (.invokestatic 51, 3) := by decide +kernel
theorem dX7_of_9 : decode cX7_of 9 = .ok (.iaload, 1) := by decide +kernel
theorem dX7_of_10 : decode cX7_of 10 = .ok (.ireturn, 1) := by decide +kernel
theorem dX7_note_0 : decode cX7_note 0 = .ok (.aload_n 0, 1) := by decide +kernel
theorem dX7_note_1 : decode cX7_note 1 = .ok (.getfield 7, 3) := by decide +kernel
theorem dX7_note_4 : decode cX7_note 4 = .ok (.iload_n 1, 1) := by decide +kernel
theorem dX7_note_5 : decode cX7_note 5 = .ok (.iload_n 2, 1) := by decide +kernel
theorem dX7_note_6 : decode cX7_note 6 = .ok (.iload_n 3, 1) := by decide +kernel
theorem dX7_note_7 : decode cX7_note 7 = .ok (.invokestatic 55, 3) := by decide +kernel
theorem dX7_note_10 : decode cX7_note 10 = .ok (.iaload, 1) := by decide +kernel
theorem dX7_note_11 : decode cX7_note 11 = .ok (.ireturn, 1) := by decide +kernel
theorem dX7_found_0 : decode cX7_found 0 = .ok (.iconst 0, 1) := by decide +kernel
theorem dX7_found_1 : decode cX7_found 1 = .ok (.istore_n 3, 1) := by decide +kernel
theorem dX7_found_2 : decode cX7_found 2 = .ok (.iload_n 3, 1) := by decide +kernel
theorem dX7_found_3 : decode cX7_found 3 = .ok (.aload_n 0, 1) := by decide +kernel
theorem dX7_found_4 : decode cX7_found 4 = .ok (.iload_n 1, 1) := by decide +kernel
theorem dX7_found_5 : decode cX7_found 5 = .ok (.iconst 0, 1) := by decide +kernel
theorem dX7_found_6 : decode cX7_found 6 = .ok (.invokevirtual 59, 3) := by decide +kernel
theorem dX7_found_9 : decode cX7_found 9 = .ok (.if_icmp .ge 22, 3) := by decide +kernel
theorem dX7_found_12 : decode cX7_found 12 = .ok (.aload_n 0, 1) := by decide +kernel
theorem dX7_found_13 : decode cX7_found 13 = .ok (.iload_n 1, 1) := by decide +kernel
theorem dX7_found_14 : decode cX7_found 14 = .ok (.iload_n 3, 1) := by decide +kernel
theorem dX7_found_15 : decode cX7_found 15 = .ok (.iconst 0, 1) := by decide +kernel
theorem dX7_found_16 : decode cX7_found 16 = .ok (.invokevirtual 62, 3) := by decide +kernel
theorem dX7_found_19 : decode cX7_found 19 = .ok (.iload_n 2, 1) := by decide +kernel
theorem dX7_found_20 : decode cX7_found 20 = .ok (.if_icmp .ne 5, 3) := by decide +kernel
theorem dX7_found_23 : decode cX7_found 23 = .ok (.iload_n 3, 1) := by decide +kernel
theorem dX7_found_24 : decode cX7_found 24 = .ok (.ireturn, 1) := by decide +kernel
theorem dX7_found_25 : decode cX7_found 25 = .ok (.iinc 3 1, 3) := by decide +kernel
theorem dX7_found_28 : decode cX7_found 28 = .ok (.goto (-26), 3) := by decide +kernel
theorem dX7_found_31 : decode cX7_found 31 = .ok (.iconst (-1), 1) := by decide +kernel
theorem dX7_found_32 : decode cX7_found 32 = .ok (.ireturn, 1) := by decide +kernel
theorem dX7_draw_0 : decode cX7_draw 0 = .ok (.aload_n 0, 1) := by decide +kernel
theorem dX7_draw_1 : decode cX7_draw 1 = .ok (.getfield 7, 3) := by decide +kernel
theorem dX7_draw_4 : decode cX7_draw 4 = .ok (.sipush 699, 3) := by decide +kernel
theorem dX7_draw_7 : decode cX7_draw 7 = .ok (.aload_n 0, 1) := by decide +kernel
theorem dX7_draw_8 : decode cX7_draw 8 = .ok (.getfield 7, 3) := by decide +kernel
theorem dX7_draw_11 : decode cX7_draw 11 = .ok (.sipush 699, 3) := by decide +kernel
theorem dX7_draw_14 : decode cX7_draw 14 = .ok (.iaload, 1) := by decide +kernel
theorem dX7_draw_15 : decode cX7_draw 15 = .ok (.ldc 65, 2) := by decide +kernel
theorem dX7_draw_17 : decode cX7_draw 17 = .ok (.imul, 1) := by decide +kernel
theorem dX7_draw_18 : decode cX7_draw 18 = .ok (.sipush 12345, 3) := by decide +kernel
theorem dX7_draw_21 : decode cX7_draw 21 = .ok (.iadd, 1) := by decide +kernel
theorem dX7_draw_22 : decode cX7_draw 22 = .ok (.iastore, 1) := by decide +kernel
theorem dX7_draw_23 : decode cX7_draw 23 = .ok (.aload_n 0, 1) := by decide +kernel
theorem dX7_draw_24 : decode cX7_draw 24 = .ok (.getfield 7, 3) := by decide +kernel
theorem dX7_draw_27 : decode cX7_draw 27 = .ok (.sipush 699, 3) := by decide +kernel
theorem dX7_draw_30 : decode cX7_draw 30 = .ok (.iaload, 1) := by decide +kernel
theorem dX7_draw_31 : decode cX7_draw 31 = .ok (.bipush 16, 2) := by decide +kernel
theorem dX7_draw_33 : decode cX7_draw 33 = .ok (.iushr, 1) := by decide +kernel
theorem dX7_draw_34 : decode cX7_draw 34 = .ok (.iload_n 1, 1) := by decide +kernel
theorem dX7_draw_35 : decode cX7_draw 35 = .ok (.irem, 1) := by decide +kernel
theorem dX7_draw_36 : decode cX7_draw 36 = .ok (.ireturn, 1) := by decide +kernel
theorem dX7_noted_0 : decode cX7_noted 0 = .ok (.aload_n 0, 1) := by decide +kernel
theorem dX7_noted_1 : decode cX7_noted 1 = .ok (.iload_n 1, 1) := by decide +kernel
theorem dX7_noted_2 : decode cX7_noted 2 = .ok (.iconst 2, 1) := by decide +kernel
theorem dX7_noted_3 : decode cX7_noted 3 = .ok (.invokevirtual 59, 3) := by decide +kernel
theorem dX7_noted_6 : decode cX7_noted 6 = .ok (.istore_n 2, 1) := by decide +kernel
theorem dX7_noted_7 : decode cX7_noted 7 = .ok (.iconst (-1), 1) := by decide +kernel
theorem dX7_noted_8 : decode cX7_noted 8 = .ok (.istore_n 3, 1) := by decide +kernel
theorem dX7_noted_9 : decode cX7_noted 9 = .ok (.iconst 0, 1) := by decide +kernel
theorem dX7_noted_10 : decode cX7_noted 10 = .ok (.istore 4, 2) := by decide +kernel
theorem dX7_noted_12 : decode cX7_noted 12 = .ok (.iload 4, 2) := by decide +kernel
theorem dX7_noted_14 : decode cX7_noted 14 = .ok (.aload_n 0, 1) := by decide +kernel
theorem dX7_noted_15 : decode cX7_noted 15 = .ok (.iload_n 1, 1) := by decide +kernel
theorem dX7_noted_16 : decode cX7_noted 16 = .ok (.iconst 0, 1) := by decide +kernel
theorem dX7_noted_17 : decode cX7_noted 17 = .ok (.invokevirtual 59, 3) := by decide +kernel
theorem dX7_noted_20 : decode cX7_noted 20 = .ok (.if_icmp .ge 215, 3) := by decide +kernel
theorem dX7_noted_23 : decode cX7_noted 23 = .ok (.aload_n 0, 1) := by decide +kernel
theorem dX7_noted_24 : decode cX7_noted 24 = .ok (.iload_n 1, 1) := by decide +kernel
theorem dX7_noted_25 : decode cX7_noted 25 = .ok (.iload 4, 2) := by decide +kernel
theorem dX7_noted_27 : decode cX7_noted 27 = .ok (.iconst 0, 1) := by decide +kernel
theorem dX7_noted_28 : decode cX7_noted 28 = .ok (.invokevirtual 62, 3) := by decide +kernel
theorem dX7_noted_31 : decode cX7_noted 31 = .ok (.ifCond .lt 198, 3) := by decide +kernel
theorem dX7_noted_34 : decode cX7_noted 34 = .ok (.iload_n 3, 1) := by decide +kernel
theorem dX7_noted_35 : decode cX7_noted 35 = .ok (.ifCond .ge 7, 3) := by decide +kernel
theorem dX7_noted_38 : decode cX7_noted 38 = .ok (.iconst 1, 1) := by decide +kernel
theorem dX7_noted_39 : decode cX7_noted 39 = .ok (.goto 4, 3) := by decide +kernel
theorem dX7_noted_42 : decode cX7_noted 42 = .ok (.iconst 0, 1) := by decide +kernel
theorem dX7_noted_43 : decode cX7_noted 43 = .ok (.istore 5, 2) := by decide +kernel
theorem dX7_noted_45 : decode cX7_noted 45 = .ok (.iload 5, 2) := by decide +kernel
theorem dX7_noted_47 : decode cX7_noted 47 = .ok (.ifCond .ne 36, 3) := by decide +kernel
theorem dX7_noted_50 : decode cX7_noted 50 = .ok (.iload_n 2, 1) := by decide +kernel
theorem dX7_noted_51 : decode cX7_noted 51 = .ok (.iconst 3, 1) := by decide +kernel
theorem dX7_noted_52 : decode cX7_noted 52 = .ok (.if_icmp .ne 31, 3) := by decide +kernel
theorem dX7_noted_55 : decode cX7_noted 55 = .ok (.aload_n 0, 1) := by decide +kernel
theorem dX7_noted_56 : decode cX7_noted 56 = .ok (.iload_n 1, 1) := by decide +kernel
theorem dX7_noted_57 : decode cX7_noted 57 = .ok (.iload 4, 2) := by decide +kernel
theorem dX7_noted_59 : decode cX7_noted 59 = .ok (.iconst 3, 1) := by decide +kernel
theorem dX7_noted_60 : decode cX7_noted 60 = .ok (.invokevirtual 62, 3) := by decide +kernel
theorem dX7_noted_63 : decode cX7_noted 63 = .ok (.aload_n 0, 1) := by decide +kernel
theorem dX7_noted_64 : decode cX7_noted 64 = .ok (.iload_n 1, 1) := by decide +kernel
theorem dX7_noted_65 : decode cX7_noted 65 = .ok (.iload_n 3, 1) := by decide +kernel
theorem dX7_noted_66 : decode cX7_noted 66 = .ok (.iconst 3, 1) := by decide +kernel
theorem dX7_noted_67 : decode cX7_noted 67 = .ok (.invokevirtual 62, 3) := by decide +kernel
theorem dX7_noted_70 : decode cX7_noted 70 = .ok (.if_icmp .ge 7, 3) := by decide +kernel
theorem dX7_noted_73 : decode cX7_noted 73 = .ok (.iconst 1, 1) := by decide +kernel
theorem dX7_noted_74 : decode cX7_noted 74 = .ok (.goto 4, 3) := by decide +kernel
theorem dX7_noted_77 : decode cX7_noted 77 = .ok (.iconst 0, 1) := by decide +kernel
theorem dX7_noted_78 : decode cX7_noted 78 = .ok (.istore 5, 2) := by decide +kernel
theorem dX7_noted_80 : decode cX7_noted 80 = .ok (.goto 137, 3) := by decide +kernel
theorem dX7_noted_83 : decode cX7_noted 83 = .ok (.iload 5, 2) := by decide +kernel
theorem dX7_noted_85 : decode cX7_noted 85 = .ok (.ifCond .ne 36, 3) := by decide +kernel
theorem dX7_noted_88 : decode cX7_noted 88 = .ok (.iload_n 2, 1) := by decide +kernel
theorem dX7_noted_89 : decode cX7_noted 89 = .ok (.iconst 4, 1) := by decide +kernel
theorem dX7_noted_90 : decode cX7_noted 90 = .ok (.if_icmp .ne 31, 3) := by decide +kernel
theorem dX7_noted_93 : decode cX7_noted 93 = .ok (.aload_n 0, 1) := by decide +kernel
theorem dX7_noted_94 : decode cX7_noted 94 = .ok (.iload_n 1, 1) := by decide +kernel
theorem dX7_noted_95 : decode cX7_noted 95 = .ok (.iload 4, 2) := by decide +kernel
theorem dX7_noted_97 : decode cX7_noted 97 = .ok (.iconst 4, 1) := by decide +kernel
theorem dX7_noted_98 : decode cX7_noted 98 = .ok (.invokevirtual 62, 3) := by decide +kernel
theorem dX7_noted_101 : decode cX7_noted 101 = .ok (.aload_n 0, 1) := by decide +kernel
theorem dX7_noted_102 : decode cX7_noted 102 = .ok (.iload_n 1, 1) := by decide +kernel
theorem dX7_noted_103 : decode cX7_noted 103 = .ok (.iload_n 3, 1) := by decide +kernel
theorem dX7_noted_104 : decode cX7_noted 104 = .ok (.iconst 4, 1) := by decide +kernel
theorem dX7_noted_105 : decode cX7_noted 105 = .ok (.invokevirtual 62, 3) := by decide +kernel
theorem dX7_noted_108 : decode cX7_noted 108 = .ok (.if_icmp .ge 7, 3) := by decide +kernel
theorem dX7_noted_111 : decode cX7_noted 111 = .ok (.iconst 1, 1) := by decide +kernel
theorem dX7_noted_112 : decode cX7_noted 112 = .ok (.goto 4, 3) := by decide +kernel
theorem dX7_noted_115 : decode cX7_noted 115 = .ok (.iconst 0, 1) := by decide +kernel
theorem dX7_noted_116 : decode cX7_noted 116 = .ok (.istore 5, 2) := by decide +kernel
theorem dX7_noted_118 : decode cX7_noted 118 = .ok (.goto 99, 3) := by decide +kernel
theorem dX7_noted_121 : decode cX7_noted 121 = .ok (.iload 5, 2) := by decide +kernel
theorem dX7_noted_123 : decode cX7_noted 123 = .ok (.ifCond .ne 36, 3) := by decide +kernel
theorem dX7_noted_126 : decode cX7_noted 126 = .ok (.iload_n 2, 1) := by decide +kernel
theorem dX7_noted_127 : decode cX7_noted 127 = .ok (.iconst 5, 1) := by decide +kernel
theorem dX7_noted_128 : decode cX7_noted 128 = .ok (.if_icmp .ne 31, 3) := by decide +kernel
theorem dX7_noted_131 : decode cX7_noted 131 = .ok (.aload_n 0, 1) := by decide +kernel
theorem dX7_noted_132 : decode cX7_noted 132 = .ok (.iload_n 1, 1) := by decide +kernel
theorem dX7_noted_133 : decode cX7_noted 133 = .ok (.iload 4, 2) := by decide +kernel
theorem dX7_noted_135 : decode cX7_noted 135 = .ok (.iconst 4, 1) := by decide +kernel
theorem dX7_noted_136 : decode cX7_noted 136 = .ok (.invokevirtual 62, 3) := by decide +kernel
theorem dX7_noted_139 : decode cX7_noted 139 = .ok (.aload_n 0, 1) := by decide +kernel
theorem dX7_noted_140 : decode cX7_noted 140 = .ok (.iload_n 1, 1) := by decide +kernel
theorem dX7_noted_141 : decode cX7_noted 141 = .ok (.iload_n 3, 1) := by decide +kernel
theorem dX7_noted_142 : decode cX7_noted 142 = .ok (.iconst 4, 1) := by decide +kernel
theorem dX7_noted_143 : decode cX7_noted 143 = .ok (.invokevirtual 62, 3) := by decide +kernel
theorem dX7_noted_146 : decode cX7_noted 146 = .ok (.if_icmp .le 7, 3) := by decide +kernel
theorem dX7_noted_149 : decode cX7_noted 149 = .ok (.iconst 1, 1) := by decide +kernel
theorem dX7_noted_150 : decode cX7_noted 150 = .ok (.goto 4, 3) := by decide +kernel
theorem dX7_noted_153 : decode cX7_noted 153 = .ok (.iconst 0, 1) := by decide +kernel
theorem dX7_noted_154 : decode cX7_noted 154 = .ok (.istore 5, 2) := by decide +kernel
theorem dX7_noted_156 : decode cX7_noted 156 = .ok (.goto 61, 3) := by decide +kernel
theorem dX7_noted_159 : decode cX7_noted 159 = .ok (.iload 5, 2) := by decide +kernel
theorem dX7_noted_161 : decode cX7_noted 161 = .ok (.ifCond .ne 56, 3) := by decide +kernel
theorem dX7_noted_164 : decode cX7_noted 164 = .ok (.aload_n 0, 1) := by decide +kernel
theorem dX7_noted_165 : decode cX7_noted 165 = .ok (.iload_n 1, 1) := by decide +kernel
theorem dX7_noted_166 : decode cX7_noted 166 = .ok (.iload 4, 2) := by decide +kernel
theorem dX7_noted_168 : decode cX7_noted 168 = .ok (.iconst 5, 1) := by decide +kernel
theorem dX7_noted_169 : decode cX7_noted 169 = .ok (.invokevirtual 62, 3) := by decide +kernel
theorem dX7_noted_172 : decode cX7_noted 172 = .ok (.aload_n 0, 1) := by decide +kernel
theorem dX7_noted_173 : decode cX7_noted 173 = .ok (.iload_n 1, 1) := by decide +kernel
theorem dX7_noted_174 : decode cX7_noted 174 = .ok (.iload_n 3, 1) := by decide +kernel
theorem dX7_noted_175 : decode cX7_noted 175 = .ok (.iconst 5, 1) := by decide +kernel
theorem dX7_noted_176 : decode cX7_noted 176 = .ok (.invokevirtual 62, 3) := by decide +kernel
theorem dX7_noted_179 : decode cX7_noted 179 = .ok (.isub, 1) := by decide +kernel
theorem dX7_noted_180 : decode cX7_noted 180 = .ok (.istore 6, 2) := by decide +kernel
theorem dX7_noted_182 : decode cX7_noted 182 = .ok (.iload 6, 2) := by decide +kernel
theorem dX7_noted_184 : decode cX7_noted 184 = .ok (.ifCond .lt 26, 3) := by decide +kernel
theorem dX7_noted_187 : decode cX7_noted 187 = .ok (.iload 6, 2) := by decide +kernel
theorem dX7_noted_189 : decode cX7_noted 189 = .ok (.ifCond .ne 25, 3) := by decide +kernel
theorem dX7_noted_192 : decode cX7_noted 192 = .ok (.aload_n 0, 1) := by decide +kernel
theorem dX7_noted_193 : decode cX7_noted 193 = .ok (.iload_n 1, 1) := by decide +kernel
theorem dX7_noted_194 : decode cX7_noted 194 = .ok (.iload 4, 2) := by decide +kernel
theorem dX7_noted_196 : decode cX7_noted 196 = .ok (.iconst 4, 1) := by decide +kernel
theorem dX7_noted_197 : decode cX7_noted 197 = .ok (.invokevirtual 62, 3) := by decide +kernel
theorem dX7_noted_200 : decode cX7_noted 200 = .ok (.aload_n 0, 1) := by decide +kernel
theorem dX7_noted_201 : decode cX7_noted 201 = .ok (.iload_n 1, 1) := by decide +kernel
theorem dX7_noted_202 : decode cX7_noted 202 = .ok (.iload_n 3, 1) := by decide +kernel
theorem dX7_noted_203 : decode cX7_noted 203 = .ok (.iconst 4, 1) := by decide +kernel
theorem dX7_noted_204 : decode cX7_noted 204 = .ok (.invokevirtual 62, 3) := by decide +kernel
theorem dX7_noted_207 : decode cX7_noted 207 = .ok (.if_icmp .ge 7, 3) := by decide +kernel
theorem dX7_noted_210 : decode cX7_noted 210 = .ok (.iconst 1, 1) := by decide +kernel
theorem dX7_noted_211 : decode cX7_noted 211 = .ok (.goto 4, 3) := by decide +kernel
theorem dX7_noted_214 : decode cX7_noted 214 = .ok (.iconst 0, 1) := by decide +kernel
theorem dX7_noted_215 : decode cX7_noted 215 = .ok (.istore 5, 2) := by decide +kernel
theorem dX7_noted_217 : decode cX7_noted 217 = .ok (.iload 5, 2) := by decide +kernel
theorem dX7_noted_219 : decode cX7_noted 219 = .ok (.ifCond .eq 8, 3) := by decide +kernel
theorem dX7_noted_222 : decode cX7_noted 222 = .ok (.iload 4, 2) := by decide +kernel
theorem dX7_noted_224 : decode cX7_noted 224 = .ok (.goto 4, 3) := by decide +kernel
theorem dX7_noted_227 : decode cX7_noted 227 = .ok (.iload_n 3, 1) := by decide +kernel
theorem dX7_noted_228 : decode cX7_noted 228 = .ok (.istore_n 3, 1) := by decide +kernel
theorem dX7_noted_229 : decode cX7_noted 229 = .ok (.iinc 4 1, 3) := by decide +kernel
theorem dX7_noted_232 : decode cX7_noted 232 = .ok (.goto (-220), 3) := by decide +kernel
theorem dX7_noted_235 : decode cX7_noted 235 = .ok (.iload_n 3, 1) := by decide +kernel
theorem dX7_noted_236 : decode cX7_noted 236 = .ok (.ireturn, 1) := by decide +kernel
theorem dX7_victim_0 : decode cX7_victim 0 = .ok (.aload_n 0, 1) := by decide +kernel
theorem dX7_victim_1 : decode cX7_victim 1 = .ok (.iload_n 1, 1) := by decide +kernel
theorem dX7_victim_2 : decode cX7_victim 2 = .ok (.iconst 2, 1) := by decide +kernel
theorem dX7_victim_3 : decode cX7_victim 3 = .ok (.invokevirtual 59, 3) := by decide +kernel
theorem dX7_victim_6 : decode cX7_victim 6 = .ok (.istore_n 2, 1) := by decide +kernel
theorem dX7_victim_7 : decode cX7_victim 7 = .ok (.iload_n 2, 1) := by decide +kernel
theorem dX7_victim_8 : decode cX7_victim 8 = .ok (.bipush 7, 2) := by decide +kernel
theorem dX7_victim_10 : decode cX7_victim 10 = .ok (.if_icmp .ge 9, 3) := by decide +kernel
theorem dX7_victim_13 : decode cX7_victim 13 = .ok (.aload_n 0, 1) := by decide +kernel
theorem dX7_victim_14 : decode cX7_victim 14 = .ok (.iload_n 1, 1) := by decide +kernel
theorem dX7_victim_15 : decode cX7_victim 15 = .ok (.invokevirtual 66, 3) := by decide +kernel
theorem dX7_victim_18 : decode cX7_victim 18 = .ok (.ireturn, 1) := by decide +kernel
theorem dX7_victim_19 : decode cX7_victim 19 = .ok (.iload_n 2, 1) := by decide +kernel
theorem dX7_victim_20 : decode cX7_victim 20 = .ok (.bipush 8, 2) := by decide +kernel
theorem dX7_victim_22 : decode cX7_victim 22 = .ok (.if_icmp .ne 29, 3) := by decide +kernel
theorem dX7_victim_25 : decode cX7_victim 25 = .ok (.aload_n 0, 1) := by decide +kernel
theorem dX7_victim_26 : decode cX7_victim 26 = .ok (.getfield 7, 3) := by decide +kernel
theorem dX7_victim_29 : decode cX7_victim 29 = .ok (.iload_n 1, 1) := by decide +kernel
theorem dX7_victim_30 : decode cX7_victim 30 = .ok (.bipush 9, 2) := by decide +kernel
theorem dX7_victim_32 : decode cX7_victim 32 = .ok (.invokestatic 51, 3) := by decide +kernel
theorem dX7_victim_35 : decode cX7_victim 35 = .ok (.dup2, 1) := by decide +kernel
theorem dX7_victim_36 : decode cX7_victim 36 = .ok (.iaload, 1) := by decide +kernel
theorem dX7_victim_37 : decode cX7_victim 37 = .ok (.iconst 1, 1) := by decide +kernel
theorem dX7_victim_38 : decode cX7_victim 38 = .ok (.iadd, 1) := by decide +kernel
theorem dX7_victim_39 : decode cX7_victim 39 = .ok (.iastore, 1) := by decide +kernel
theorem dX7_victim_40 : decode cX7_victim 40 = .ok (.aload_n 0, 1) := by decide +kernel
theorem dX7_victim_41 : decode cX7_victim 41 = .ok (.aload_n 0, 1) := by decide +kernel
theorem dX7_victim_42 : decode cX7_victim 42 = .ok (.iload_n 1, 1) := by decide +kernel
theorem dX7_victim_43 : decode cX7_victim 43 = .ok (.iconst 0, 1) := by decide +kernel
theorem dX7_victim_44 : decode cX7_victim 44 = .ok (.invokevirtual 59, 3) := by decide +kernel
theorem dX7_victim_47 : decode cX7_victim 47 = .ok (.invokevirtual 70, 3) := by decide +kernel
theorem dX7_victim_50 : decode cX7_victim 50 = .ok (.ireturn, 1) := by decide +kernel
theorem dX7_victim_51 : decode cX7_victim 51 = .ok (.aload_n 0, 1) := by decide +kernel
theorem dX7_victim_52 : decode cX7_victim 52 = .ok (.iload_n 1, 1) := by decide +kernel
theorem dX7_victim_53 : decode cX7_victim 53 = .ok (.iconst 3, 1) := by decide +kernel
theorem dX7_victim_54 : decode cX7_victim 54 = .ok (.invokevirtual 59, 3) := by decide +kernel
theorem dX7_victim_57 : decode cX7_victim 57 = .ok (.istore_n 3, 1) := by decide +kernel
theorem dX7_victim_58 : decode cX7_victim 58 = .ok (.aload_n 0, 1) := by decide +kernel
theorem dX7_victim_59 : decode cX7_victim 59 = .ok (.iload_n 1, 1) := by decide +kernel
theorem dX7_victim_60 : decode cX7_victim 60 = .ok (.iload_n 3, 1) := by decide +kernel
theorem dX7_victim_61 : decode cX7_victim 61 = .ok (.bipush 6, 2) := by decide +kernel
theorem dX7_victim_63 : decode cX7_victim 63 = .ok (.invokevirtual 62, 3) := by decide +kernel
theorem dX7_victim_66 : decode cX7_victim 66 = .ok (.iconst 1, 1) := by decide +kernel
theorem dX7_victim_67 : decode cX7_victim 67 = .ok (.if_icmp .ne 30, 3) := by decide +kernel
theorem dX7_victim_70 : decode cX7_victim 70 = .ok (.aload_n 0, 1) := by decide +kernel
theorem dX7_victim_71 : decode cX7_victim 71 = .ok (.getfield 7, 3) := by decide +kernel
theorem dX7_victim_74 : decode cX7_victim 74 = .ok (.iload_n 1, 1) := by decide +kernel
theorem dX7_victim_75 : decode cX7_victim 75 = .ok (.iload_n 3, 1) := by decide +kernel
theorem dX7_victim_76 : decode cX7_victim 76 = .ok (.bipush 6, 2) := by decide +kernel
theorem dX7_victim_78 : decode cX7_victim 78 = .ok (.invokestatic 55, 3) := by decide +kernel
theorem dX7_victim_81 : decode cX7_victim 81 = .ok (.iconst 0, 1) := by decide +kernel
theorem dX7_victim_82 : decode cX7_victim 82 = .ok (.iastore, 1) := by decide +kernel
theorem dX7_victim_83 : decode cX7_victim 83 = .ok (.iload_n 3, 1) := by decide +kernel
theorem dX7_victim_84 : decode cX7_victim 84 = .ok (.iconst 1, 1) := by decide +kernel
theorem dX7_victim_85 : decode cX7_victim 85 = .ok (.iadd, 1) := by decide +kernel
theorem dX7_victim_86 : decode cX7_victim 86 = .ok (.aload_n 0, 1) := by decide +kernel
theorem dX7_victim_87 : decode cX7_victim 87 = .ok (.iload_n 1, 1) := by decide +kernel
theorem dX7_victim_88 : decode cX7_victim 88 = .ok (.iconst 0, 1) := by decide +kernel
theorem dX7_victim_89 : decode cX7_victim 89 = .ok (.invokevirtual 59, 3) := by decide +kernel
theorem dX7_victim_92 : decode cX7_victim 92 = .ok (.irem, 1) := by decide +kernel
theorem dX7_victim_93 : decode cX7_victim 93 = .ok (.istore_n 3, 1) := by decide +kernel
theorem dX7_victim_94 : decode cX7_victim 94 = .ok (.goto (-36), 3) := by decide +kernel
theorem dX7_victim_97 : decode cX7_victim 97 = .ok (.aload_n 0, 1) := by decide +kernel
theorem dX7_victim_98 : decode cX7_victim 98 = .ok (.getfield 7, 3) := by decide +kernel
theorem dX7_victim_101 : decode cX7_victim 101 = .ok (.iload_n 1, 1) := by decide +kernel
theorem dX7_victim_102 : decode cX7_victim 102 = .ok (.iconst 3, 1) := by decide +kernel
theorem dX7_victim_103 : decode cX7_victim 103 = .ok (.invokestatic 51, 3) := by decide +kernel
theorem dX7_victim_106 : decode cX7_victim 106 = .ok (.iload_n 3, 1) := by decide +kernel
theorem dX7_victim_107 : decode cX7_victim 107 = .ok (.iconst 1, 1) := by decide +kernel
theorem dX7_victim_108 : decode cX7_victim 108 = .ok (.iadd, 1) := by decide +kernel
theorem dX7_victim_109 : decode cX7_victim 109 = .ok (.aload_n 0, 1) := by decide +kernel
theorem dX7_victim_110 : decode cX7_victim 110 = .ok (.iload_n 1, 1) := by decide +kernel
theorem dX7_victim_111 : decode cX7_victim 111 = .ok (.iconst 0, 1) := by decide +kernel
theorem dX7_victim_112 : decode cX7_victim 112 = .ok (.invokevirtual 59, 3) := by decide +kernel
theorem dX7_victim_115 : decode cX7_victim 115 = .ok (.irem, 1) := by decide +kernel
theorem dX7_victim_116 : decode cX7_victim 116 = .ok (.iastore, 1) := by decide +kernel
theorem dX7_victim_117 : decode cX7_victim 117 = .ok (.iload_n 3, 1) := by decide +kernel
theorem dX7_victim_118 : decode cX7_victim 118 = .ok (.ireturn, 1) := by decide +kernel
theorem dX7_flushes_0 : decode cX7_flushes 0 = .ok (.aload_n 0, 1) := by decide +kernel
theorem dX7_flushes_1 : decode cX7_flushes 1 = .ok (.getfield 7, 3) := by decide +kernel
theorem dX7_flushes_4 : decode cX7_flushes 4 = .ok (.iload_n 1, 1) := by decide +kernel
theorem dX7_flushes_5 : decode cX7_flushes 5 = .ok (.bipush 7, 2) := by decide +kernel
theorem dX7_flushes_7 : decode cX7_flushes 7 = .ok (.invokestatic 51, 3) := by decide +kernel
theorem dX7_flushes_10 : decode cX7_flushes 10 = .ok (.dup2, 1) := by decide +kernel
theorem dX7_flushes_11 : decode cX7_flushes 11 = .ok (.iaload, 1) := by decide +kernel
theorem dX7_flushes_12 : decode cX7_flushes 12 = .ok (.iconst 1, 1) := by decide +kernel
theorem dX7_flushes_13 : decode cX7_flushes 13 = .ok (.iadd, 1) := by decide +kernel
theorem dX7_flushes_14 : decode cX7_flushes 14 = .ok (.iastore, 1) := by decide +kernel
theorem dX7_flushes_15 : decode cX7_flushes 15 = .ok (.iload_n 1, 1) := by decide +kernel
theorem dX7_flushes_16 : decode cX7_flushes 16 = .ok (.iconst 1, 1) := by decide +kernel
theorem dX7_flushes_17 : decode cX7_flushes 17 = .ok (.iadd, 1) := by decide +kernel
theorem dX7_flushes_18 : decode cX7_flushes 18 = .ok (.istore 4, 2) := by decide +kernel
theorem dX7_flushes_20 : decode cX7_flushes 20 = .ok (.iload 4, 2) := by decide +kernel
theorem dX7_flushes_22 : decode cX7_flushes 22 = .ok (.aload_n 0, 1) := by decide +kernel
theorem dX7_flushes_23 : decode cX7_flushes 23 = .ok (.getfield 7, 3) := by decide +kernel
theorem dX7_flushes_26 : decode cX7_flushes 26 = .ok (.sipush 688, 3) := by decide +kernel
theorem dX7_flushes_29 : decode cX7_flushes 29 = .ok (.iaload, 1) := by decide +kernel
theorem dX7_flushes_30 : decode cX7_flushes 30 = .ok (.if_icmp .ge 52, 3) := by decide +kernel
theorem dX7_flushes_33 : decode cX7_flushes 33 = .ok (.aload_n 0, 1) := by decide +kernel
theorem dX7_flushes_34 : decode cX7_flushes 34 = .ok (.iload 4, 2) := by decide +kernel
theorem dX7_flushes_36 : decode cX7_flushes 36 = .ok (.iload_n 2, 1) := by decide +kernel
theorem dX7_flushes_37 : decode cX7_flushes 37 = .ok (.invokevirtual 73, 3) := by decide +kernel
theorem dX7_flushes_40 : decode cX7_flushes 40 = .ok (.istore 5, 2) := by decide +kernel
theorem dX7_flushes_42 : decode cX7_flushes 42 = .ok (.iload 5, 2) := by decide +kernel
theorem dX7_flushes_44 : decode cX7_flushes 44 = .ok (.ifCond .lt 32, 3) := by decide +kernel
theorem dX7_flushes_47 : decode cX7_flushes 47 = .ok (.aload_n 0, 1) := by decide +kernel
theorem dX7_flushes_48 : decode cX7_flushes 48 = .ok (.getfield 7, 3) := by decide +kernel
theorem dX7_flushes_51 : decode cX7_flushes 51 = .ok (.iload 4, 2) := by decide +kernel
theorem dX7_flushes_53 : decode cX7_flushes 53 = .ok (.iload 5, 2) := by decide +kernel
theorem dX7_flushes_55 : decode cX7_flushes 55 = .ok (.iconst 1, 1) := by decide +kernel
theorem dX7_flushes_56 : decode cX7_flushes 56 = .ok (.invokestatic 55, 3) := by decide +kernel
theorem dX7_flushes_59 : decode cX7_flushes 59 = .ok (.iload_n 3, 1) := by decide +kernel
theorem dX7_flushes_60 : decode cX7_flushes 60 = .ok (.iastore, 1) := by decide +kernel
theorem dX7_flushes_61 : decode cX7_flushes 61 = .ok (.aload_n 0, 1) := by decide +kernel
theorem dX7_flushes_62 : decode cX7_flushes 62 = .ok (.getfield 7, 3) := by decide +kernel
theorem dX7_flushes_65 : decode cX7_flushes 65 = .ok (.iload 4, 2) := by decide +kernel
theorem dX7_flushes_67 : decode cX7_flushes 67 = .ok (.iload 5, 2) := by decide +kernel
theorem dX7_flushes_69 : decode cX7_flushes 69 = .ok (.iconst 2, 1) := by decide +kernel
theorem dX7_flushes_70 : decode cX7_flushes 70 = .ok (.invokestatic 55, 3) := by decide +kernel
theorem dX7_flushes_73 : decode cX7_flushes 73 = .ok (.iconst 1, 1) := by decide +kernel
theorem dX7_flushes_74 : decode cX7_flushes 74 = .ok (.iastore, 1) := by decide +kernel
theorem dX7_flushes_75 : decode cX7_flushes 75 = .ok (.return_, 1) := by decide +kernel
theorem dX7_flushes_76 : decode cX7_flushes 76 = .ok (.iinc 4 1, 3) := by decide +kernel
theorem dX7_flushes_79 : decode cX7_flushes 79 = .ok (.goto (-59), 3) := by decide +kernel
theorem dX7_flushes_82 : decode cX7_flushes 82 = .ok (.aload_n 0, 1) := by decide +kernel
theorem dX7_flushes_83 : decode cX7_flushes 83 = .ok (.getfield 7, 3) := by decide +kernel
theorem dX7_flushes_86 : decode cX7_flushes 86 = .ok (.iload_n 2, 1) := by decide +kernel
theorem dX7_flushes_87 : decode cX7_flushes 87 = .ok (.iload_n 3, 1) := by decide +kernel
theorem dX7_flushes_88 : decode cX7_flushes 88 = .ok (.iastore, 1) := by decide +kernel
theorem dX7_flushes_89 : decode cX7_flushes 89 = .ok (.aload_n 0, 1) := by decide +kernel
theorem dX7_flushes_90 : decode cX7_flushes 90 = .ok (.getfield 7, 3) := by decide +kernel
theorem dX7_flushes_93 : decode cX7_flushes 93 = .ok (.sipush 697, 3) := by decide +kernel
theorem dX7_flushes_96 : decode cX7_flushes 96 = .ok (.dup2, 1) := by decide +kernel
theorem dX7_flushes_97 : decode cX7_flushes 97 = .ok (.iaload, 1) := by decide +kernel
theorem dX7_flushes_98 : decode cX7_flushes 98 = .ok (.iconst 1, 1) := by decide +kernel
theorem dX7_flushes_99 : decode cX7_flushes 99 = .ok (.iadd, 1) := by decide +kernel
theorem dX7_flushes_100 : decode cX7_flushes 100 = .ok (.iastore, 1) := by decide +kernel
theorem dX7_flushes_101 : decode cX7_flushes 101 = .ok (.return_, 1) := by decide +kernel
theorem dX7_empties_0 : decode cX7_empties 0 = .ok (.aload_n 0, 1) := by decide +kernel
theorem dX7_empties_1 : decode cX7_empties 1 = .ok (.getfield 7, 3) := by decide +kernel
theorem dX7_empties_4 : decode cX7_empties 4 = .ok (.iload_n 1, 1) := by decide +kernel
theorem dX7_empties_5 : decode cX7_empties 5 = .ok (.iload_n 2, 1) := by decide +kernel
theorem dX7_empties_6 : decode cX7_empties 6 = .ok (.iconst 0, 1) := by decide +kernel
theorem dX7_empties_7 : decode cX7_empties 7 = .ok (.invokestatic 55, 3) := by decide +kernel
theorem dX7_empties_10 : decode cX7_empties 10 = .ok (.iconst (-1), 1) := by decide +kernel
theorem dX7_empties_11 : decode cX7_empties 11 = .ok (.iastore, 1) := by decide +kernel
theorem dX7_empties_12 : decode cX7_empties 12 = .ok (.return_, 1) := by decide +kernel
theorem dX7_goesOut_0 : decode cX7_goesOut 0 = .ok (.aload_n 0, 1) := by decide +kernel
theorem dX7_goesOut_1 : decode cX7_goesOut 1 = .ok (.iload_n 1, 1) := by decide +kernel
theorem dX7_goesOut_2 : decode cX7_goesOut 2 = .ok (.iload_n 2, 1) := by decide +kernel
theorem dX7_goesOut_3 : decode cX7_goesOut 3 = .ok (.iconst 0, 1) := by decide +kernel
theorem dX7_goesOut_4 : decode cX7_goesOut 4 = .ok (.invokevirtual 62, 3) := by decide +kernel
theorem dX7_goesOut_7 : decode cX7_goesOut 7 = .ok (.istore_n 3, 1) := by decide +kernel
theorem dX7_goesOut_8 : decode cX7_goesOut 8 = .ok (.aload_n 0, 1) := by decide +kernel
theorem dX7_goesOut_9 : decode cX7_goesOut 9 = .ok (.iload_n 1, 1) := by decide +kernel
theorem dX7_goesOut_10 : decode cX7_goesOut 10 = .ok (.iload_n 2, 1) := by decide +kernel
theorem dX7_goesOut_11 : decode cX7_goesOut 11 = .ok (.iconst 1, 1) := by decide +kernel
theorem dX7_goesOut_12 : decode cX7_goesOut 12 = .ok (.invokevirtual 62, 3) := by decide +kernel
theorem dX7_goesOut_15 : decode cX7_goesOut 15 = .ok (.istore 4, 2) := by decide +kernel
theorem dX7_goesOut_17 : decode cX7_goesOut 17 = .ok (.aload_n 0, 1) := by decide +kernel
theorem dX7_goesOut_18 : decode cX7_goesOut 18 = .ok (.iload_n 1, 1) := by decide +kernel
theorem dX7_goesOut_19 : decode cX7_goesOut 19 = .ok (.iload_n 2, 1) := by decide +kernel
theorem dX7_goesOut_20 : decode cX7_goesOut 20 = .ok (.iconst 2, 1) := by decide +kernel
theorem dX7_goesOut_21 : decode cX7_goesOut 21 = .ok (.invokevirtual 62, 3) := by decide +kernel
theorem dX7_goesOut_24 : decode cX7_goesOut 24 = .ok (.iconst 1, 1) := by decide +kernel
theorem dX7_goesOut_25 : decode cX7_goesOut 25 = .ok (.if_icmp .ne 7, 3) := by decide +kernel
theorem dX7_goesOut_28 : decode cX7_goesOut 28 = .ok (.iconst 1, 1) := by decide +kernel
theorem dX7_goesOut_29 : decode cX7_goesOut 29 = .ok (.goto 4, 3) := by decide +kernel
theorem dX7_goesOut_32 : decode cX7_goesOut 32 = .ok (.iconst 0, 1) := by decide +kernel
theorem dX7_goesOut_33 : decode cX7_goesOut 33 = .ok (.istore 5, 2) := by decide +kernel
theorem dX7_goesOut_35 : decode cX7_goesOut 35 = .ok (.aload_n 0, 1) := by decide +kernel
theorem dX7_goesOut_36 : decode cX7_goesOut 36 = .ok (.getfield 7, 3) := by decide +kernel
theorem dX7_goesOut_39 : decode cX7_goesOut 39 = .ok (.sipush 689, 3) := by decide +kernel
theorem dX7_goesOut_42 : decode cX7_goesOut 42 = .ok (.iaload, 1) := by decide +kernel
theorem dX7_goesOut_43 : decode cX7_goesOut 43 = .ok (.iconst 1, 1) := by decide +kernel
theorem dX7_goesOut_44 : decode cX7_goesOut 44 = .ok (.if_icmp .ne 139, 3) := by decide +kernel
theorem dX7_goesOut_47 : decode cX7_goesOut 47 = .ok (.iconst 0, 1) := by decide +kernel
theorem dX7_goesOut_48 : decode cX7_goesOut 48 = .ok (.istore 6, 2) := by decide +kernel
theorem dX7_goesOut_50 : decode cX7_goesOut 50 = .ok (.iconst 0, 1) := by decide +kernel
theorem dX7_goesOut_51 : decode cX7_goesOut 51 = .ok (.istore 7, 2) := by decide +kernel
theorem dX7_goesOut_53 : decode cX7_goesOut 53 = .ok (.iload 7, 2) := by decide +kernel
theorem dX7_goesOut_55 : decode cX7_goesOut 55 = .ok (.iload_n 1, 1) := by decide +kernel
theorem dX7_goesOut_56 : decode cX7_goesOut 56 = .ok (.if_icmp .ge 110, 3) := by decide +kernel
theorem dX7_goesOut_59 : decode cX7_goesOut 59 = .ok (.aload_n 0, 1) := by decide +kernel
theorem dX7_goesOut_60 : decode cX7_goesOut 60 = .ok (.iload 7, 2) := by decide +kernel
theorem dX7_goesOut_62 : decode cX7_goesOut 62 = .ok (.iload_n 3, 1) := by decide +kernel
theorem dX7_goesOut_63 : decode cX7_goesOut 63 = .ok (.invokevirtual 73, 3) := by decide +kernel
theorem dX7_goesOut_66 : decode cX7_goesOut 66 = .ok (.istore 8, 2) := by decide +kernel
theorem dX7_goesOut_68 : decode cX7_goesOut 68 = .ok (.iload 8, 2) := by decide +kernel
theorem dX7_goesOut_70 : decode cX7_goesOut 70 = .ok (.ifCond .lt 90, 3) := by decide +kernel
theorem dX7_goesOut_73 : decode cX7_goesOut 73 = .ok (.aload_n 0, 1) := by decide +kernel
theorem dX7_goesOut_74 : decode cX7_goesOut 74 = .ok (.iload 7, 2) := by decide +kernel
theorem dX7_goesOut_76 : decode cX7_goesOut 76 = .ok (.iload 8, 2) := by decide +kernel
theorem dX7_goesOut_78 : decode cX7_goesOut 78 = .ok (.iconst 2, 1) := by decide +kernel
theorem dX7_goesOut_79 : decode cX7_goesOut 79 = .ok (.invokevirtual 62, 3) := by decide +kernel
theorem dX7_goesOut_82 : decode cX7_goesOut 82 = .ok (.iconst 1, 1) := by decide +kernel
theorem dX7_goesOut_83 : decode cX7_goesOut 83 = .ok (.if_icmp .ne 12, 3) := by decide +kernel
theorem dX7_goesOut_86 : decode cX7_goesOut 86 = .ok (.iload 6, 2) := by decide +kernel
theorem dX7_goesOut_88 : decode cX7_goesOut 88 = .ok (.ifCond .ne 7, 3) := by decide +kernel
theorem dX7_goesOut_91 : decode cX7_goesOut 91 = .ok (.iconst 1, 1) := by decide +kernel
theorem dX7_goesOut_92 : decode cX7_goesOut 92 = .ok (.goto 4, 3) := by decide +kernel
theorem dX7_goesOut_95 : decode cX7_goesOut 95 = .ok (.iconst 0, 1) := by decide +kernel
theorem dX7_goesOut_96 : decode cX7_goesOut 96 = .ok (.istore 9, 2) := by decide +kernel
theorem dX7_goesOut_98 : decode cX7_goesOut 98 = .ok (.iload 9, 2) := by decide +kernel
theorem dX7_goesOut_100 : decode cX7_goesOut 100 = .ok (.ifCond .eq 15, 3) := by decide +kernel
theorem dX7_goesOut_103 : decode cX7_goesOut 103 = .ok (.aload_n 0, 1) := by decide +kernel
theorem dX7_goesOut_104 : decode cX7_goesOut 104 = .ok (.iload 7, 2) := by decide +kernel
theorem dX7_goesOut_106 : decode cX7_goesOut 106 = .ok (.iload 8, 2) := by decide +kernel
theorem dX7_goesOut_108 : decode cX7_goesOut 108 = .ok (.iconst 1, 1) := by decide +kernel
theorem dX7_goesOut_109 : decode cX7_goesOut 109 = .ok (.invokevirtual 62, 3) := by decide +kernel
theorem dX7_goesOut_112 : decode cX7_goesOut 112 = .ok (.goto 5, 3) := by decide +kernel
theorem dX7_goesOut_115 : decode cX7_goesOut 115 = .ok (.iload 4, 2) := by decide +kernel
theorem dX7_goesOut_117 : decode cX7_goesOut 117 = .ok (.istore 4, 2) := by decide +kernel
theorem dX7_goesOut_119 : decode cX7_goesOut 119 = .ok (.iload 6, 2) := by decide +kernel
theorem dX7_goesOut_121 : decode cX7_goesOut 121 = .ok (.ifCond .ne 8, 3) := by decide +kernel
theorem dX7_goesOut_124 : decode cX7_goesOut 124 = .ok (.iload 9, 2) := by decide +kernel
theorem dX7_goesOut_126 : decode cX7_goesOut 126 = .ok (.ifCond .eq 7, 3) := by decide +kernel
theorem dX7_goesOut_129 : decode cX7_goesOut 129 = .ok (.iconst 1, 1) := by decide +kernel
theorem dX7_goesOut_130 : decode cX7_goesOut 130 = .ok (.goto 4, 3) := by decide +kernel
theorem dX7_goesOut_133 : decode cX7_goesOut 133 = .ok (.iconst 0, 1) := by decide +kernel
theorem dX7_goesOut_134 : decode cX7_goesOut 134 = .ok (.istore 6, 2) := by decide +kernel
theorem dX7_goesOut_136 : decode cX7_goesOut 136 = .ok (.aload_n 0, 1) := by decide +kernel
theorem dX7_goesOut_137 : decode cX7_goesOut 137 = .ok (.iload 7, 2) := by decide +kernel
theorem dX7_goesOut_139 : decode cX7_goesOut 139 = .ok (.iload 8, 2) := by decide +kernel
theorem dX7_goesOut_141 : decode cX7_goesOut 141 = .ok (.invokevirtual 76, 3) := by decide +kernel
theorem dX7_goesOut_144 : decode cX7_goesOut 144 = .ok (.aload_n 0, 1) := by decide +kernel
theorem dX7_goesOut_145 : decode cX7_goesOut 145 = .ok (.getfield 7, 3) := by decide +kernel
theorem dX7_goesOut_148 : decode cX7_goesOut 148 = .ok (.iload 7, 2) := by decide +kernel
theorem dX7_goesOut_150 : decode cX7_goesOut 150 = .ok (.bipush 8, 2) := by decide +kernel
theorem dX7_goesOut_152 : decode cX7_goesOut 152 = .ok (.invokestatic 51, 3) := by decide +kernel
theorem dX7_goesOut_155 : decode cX7_goesOut 155 = .ok (.dup2, 1) := by decide +kernel
theorem dX7_goesOut_156 : decode cX7_goesOut 156 = .ok (.iaload, 1) := by decide +kernel
theorem dX7_goesOut_157 : decode cX7_goesOut 157 = .ok (.iconst 1, 1) := by decide +kernel
theorem dX7_goesOut_158 : decode cX7_goesOut 158 = .ok (.iadd, 1) := by decide +kernel
theorem dX7_goesOut_159 : decode cX7_goesOut 159 = .ok (.iastore, 1) := by decide +kernel
theorem dX7_goesOut_160 : decode cX7_goesOut 160 = .ok (.iinc 7 1, 3) := by decide +kernel
theorem dX7_goesOut_163 : decode cX7_goesOut 163 = .ok (.goto (-110), 3) := by decide +kernel
theorem dX7_goesOut_166 : decode cX7_goesOut 166 = .ok (.iload 5, 2) := by decide +kernel
theorem dX7_goesOut_168 : decode cX7_goesOut 168 = .ok (.ifCond .ne 8, 3) := by decide +kernel
theorem dX7_goesOut_171 : decode cX7_goesOut 171 = .ok (.iload 6, 2) := by decide +kernel
theorem dX7_goesOut_173 : decode cX7_goesOut 173 = .ok (.ifCond .eq 7, 3) := by decide +kernel
theorem dX7_goesOut_176 : decode cX7_goesOut 176 = .ok (.iconst 1, 1) := by decide +kernel
theorem dX7_goesOut_177 : decode cX7_goesOut 177 = .ok (.goto 4, 3) := by decide +kernel
theorem dX7_goesOut_180 : decode cX7_goesOut 180 = .ok (.iconst 0, 1) := by decide +kernel
theorem dX7_goesOut_181 : decode cX7_goesOut 181 = .ok (.istore 5, 2) := by decide +kernel
theorem dX7_goesOut_183 : decode cX7_goesOut 183 = .ok (.aload_n 0, 1) := by decide +kernel
theorem dX7_goesOut_184 : decode cX7_goesOut 184 = .ok (.iload_n 1, 1) := by decide +kernel
theorem dX7_goesOut_185 : decode cX7_goesOut 185 = .ok (.iload_n 2, 1) := by decide +kernel
theorem dX7_goesOut_186 : decode cX7_goesOut 186 = .ok (.invokevirtual 76, 3) := by decide +kernel
theorem dX7_goesOut_189 : decode cX7_goesOut 189 = .ok (.aload_n 0, 1) := by decide +kernel
theorem dX7_goesOut_190 : decode cX7_goesOut 190 = .ok (.getfield 7, 3) := by decide +kernel
theorem dX7_goesOut_193 : decode cX7_goesOut 193 = .ok (.iload_n 1, 1) := by decide +kernel
theorem dX7_goesOut_194 : decode cX7_goesOut 194 = .ok (.bipush 8, 2) := by decide +kernel
theorem dX7_goesOut_196 : decode cX7_goesOut 196 = .ok (.invokestatic 51, 3) := by decide +kernel
theorem dX7_goesOut_199 : decode cX7_goesOut 199 = .ok (.dup2, 1) := by decide +kernel
theorem dX7_goesOut_200 : decode cX7_goesOut 200 = .ok (.iaload, 1) := by decide +kernel
theorem dX7_goesOut_201 : decode cX7_goesOut 201 = .ok (.iconst 1, 1) := by decide +kernel
theorem dX7_goesOut_202 : decode cX7_goesOut 202 = .ok (.iadd, 1) := by decide +kernel
theorem dX7_goesOut_203 : decode cX7_goesOut 203 = .ok (.iastore, 1) := by decide +kernel
theorem dX7_goesOut_204 : decode cX7_goesOut 204 = .ok (.aload_n 0, 1) := by decide +kernel
theorem dX7_goesOut_205 : decode cX7_goesOut 205 = .ok (.getfield 7, 3) := by decide +kernel
theorem dX7_goesOut_208 : decode cX7_goesOut 208 = .ok (.sipush 689, 3) := by decide +kernel
theorem dX7_goesOut_211 : decode cX7_goesOut 211 = .ok (.iaload, 1) := by decide +kernel
theorem dX7_goesOut_212 : decode cX7_goesOut 212 = .ok (.iconst 2, 1) := by decide +kernel
theorem dX7_goesOut_213 : decode cX7_goesOut 213 = .ok (.if_icmp .ne 40, 3) := by decide +kernel
theorem dX7_goesOut_216 : decode cX7_goesOut 216 = .ok (.iload_n 1, 1) := by decide +kernel
theorem dX7_goesOut_217 : decode cX7_goesOut 217 = .ok (.iconst 1, 1) := by decide +kernel
theorem dX7_goesOut_218 : decode cX7_goesOut 218 = .ok (.iadd, 1) := by decide +kernel
theorem dX7_goesOut_219 : decode cX7_goesOut 219 = .ok (.aload_n 0, 1) := by decide +kernel
theorem dX7_goesOut_220 : decode cX7_goesOut 220 = .ok (.getfield 7, 3) := by decide +kernel
theorem dX7_goesOut_223 : decode cX7_goesOut 223 = .ok (.sipush 688, 3) := by decide +kernel
theorem dX7_goesOut_226 : decode cX7_goesOut 226 = .ok (.iaload, 1) := by decide +kernel
theorem dX7_goesOut_227 : decode cX7_goesOut 227 = .ok (.if_icmp .ge 26, 3) := by decide +kernel
theorem dX7_goesOut_230 : decode cX7_goesOut 230 = .ok (.aload_n 0, 1) := by decide +kernel
theorem dX7_goesOut_231 : decode cX7_goesOut 231 = .ok (.iload_n 1, 1) := by decide +kernel
theorem dX7_goesOut_232 : decode cX7_goesOut 232 = .ok (.iconst 1, 1) := by decide +kernel
theorem dX7_goesOut_233 : decode cX7_goesOut 233 = .ok (.iadd, 1) := by decide +kernel
theorem dX7_goesOut_234 : decode cX7_goesOut 234 = .ok (.iload_n 3, 1) := by decide +kernel
theorem dX7_goesOut_235 : decode cX7_goesOut 235 = .ok (.iload 4, 2) := by decide +kernel
theorem dX7_goesOut_237 : decode cX7_goesOut 237 = .ok (.iload 5, 2) := by decide +kernel
theorem dX7_goesOut_239 : decode cX7_goesOut 239 = .ok (.ifCond .eq 7, 3) := by decide +kernel
theorem dX7_goesOut_242 : decode cX7_goesOut 242 = .ok (.iconst 1, 1) := by decide +kernel
theorem dX7_goesOut_243 : decode cX7_goesOut 243 = .ok (.goto 4, 3) := by decide +kernel
theorem dX7_goesOut_246 : decode cX7_goesOut 246 = .ok (.iconst 0, 1) := by decide +kernel
theorem dX7_goesOut_247 : decode cX7_goesOut 247 = .ok (.invokevirtual 80, 3) := by decide +kernel
theorem dX7_goesOut_250 : decode cX7_goesOut 250 = .ok (.goto 16, 3) := by decide +kernel
theorem dX7_goesOut_253 : decode cX7_goesOut 253 = .ok (.iload 5, 2) := by decide +kernel
theorem dX7_goesOut_255 : decode cX7_goesOut 255 = .ok (.ifCond .eq 11, 3) := by decide +kernel
theorem dX7_goesOut_258 : decode cX7_goesOut 258 = .ok (.aload_n 0, 1) := by decide +kernel
theorem dX7_goesOut_259 : decode cX7_goesOut 259 = .ok (.iload_n 1, 1) := by decide +kernel
theorem dX7_goesOut_260 : decode cX7_goesOut 260 = .ok (.iload_n 3, 1) := by decide +kernel
theorem dX7_goesOut_261 : decode cX7_goesOut 261 = .ok (.iload 4, 2) := by decide +kernel
theorem dX7_goesOut_263 : decode cX7_goesOut 263 = .ok (.invokevirtual 84, 3) := by decide +kernel
theorem dX7_goesOut_266 : decode cX7_goesOut 266 = .ok (.return_, 1) := by decide +kernel
theorem dX7_places_0 : decode cX7_places 0 = .ok (.aload_n 0, 1) := by decide +kernel
theorem dX7_places_1 : decode cX7_places 1 = .ok (.iload_n 1, 1) := by decide +kernel
theorem dX7_places_2 : decode cX7_places 2 = .ok (.iconst (-1), 1) := by decide +kernel
theorem dX7_places_3 : decode cX7_places 3 = .ok (.invokevirtual 73, 3) := by decide +kernel
theorem dX7_places_6 : decode cX7_places 6 = .ok (.ifCond .ge 13, 3) := by decide +kernel
theorem dX7_places_9 : decode cX7_places 9 = .ok (.aload_n 0, 1) := by decide +kernel
theorem dX7_places_10 : decode cX7_places 10 = .ok (.iload_n 1, 1) := by decide +kernel
theorem dX7_places_11 : decode cX7_places 11 = .ok (.aload_n 0, 1) := by decide +kernel
theorem dX7_places_12 : decode cX7_places 12 = .ok (.iload_n 1, 1) := by decide +kernel
theorem dX7_places_13 : decode cX7_places 13 = .ok (.invokevirtual 88, 3) := by decide +kernel
theorem dX7_places_16 : decode cX7_places 16 = .ok (.invokevirtual 91, 3) := by decide +kernel
theorem dX7_places_19 : decode cX7_places 19 = .ok (.aload_n 0, 1) := by decide +kernel
theorem dX7_places_20 : decode cX7_places 20 = .ok (.iload_n 1, 1) := by decide +kernel
theorem dX7_places_21 : decode cX7_places 21 = .ok (.iconst (-1), 1) := by decide +kernel
theorem dX7_places_22 : decode cX7_places 22 = .ok (.invokevirtual 73, 3) := by decide +kernel
theorem dX7_places_25 : decode cX7_places 25 = .ok (.istore 5, 2) := by decide +kernel
theorem dX7_places_27 : decode cX7_places 27 = .ok (.aload_n 0, 1) := by decide +kernel
theorem dX7_places_28 : decode cX7_places 28 = .ok (.getfield 7, 3) := by decide +kernel
theorem dX7_places_31 : decode cX7_places 31 = .ok (.iload_n 1, 1) := by decide +kernel
theorem dX7_places_32 : decode cX7_places 32 = .ok (.iload 5, 2) := by decide +kernel
theorem dX7_places_34 : decode cX7_places 34 = .ok (.iconst 0, 1) := by decide +kernel
theorem dX7_places_35 : decode cX7_places 35 = .ok (.invokestatic 55, 3) := by decide +kernel
theorem dX7_places_38 : decode cX7_places 38 = .ok (.iload_n 2, 1) := by decide +kernel
theorem dX7_places_39 : decode cX7_places 39 = .ok (.iastore, 1) := by decide +kernel
theorem dX7_places_40 : decode cX7_places 40 = .ok (.aload_n 0, 1) := by decide +kernel
theorem dX7_places_41 : decode cX7_places 41 = .ok (.getfield 7, 3) := by decide +kernel
theorem dX7_places_44 : decode cX7_places 44 = .ok (.iload_n 1, 1) := by decide +kernel
theorem dX7_places_45 : decode cX7_places 45 = .ok (.iload 5, 2) := by decide +kernel
theorem dX7_places_47 : decode cX7_places 47 = .ok (.iconst 1, 1) := by decide +kernel
theorem dX7_places_48 : decode cX7_places 48 = .ok (.invokestatic 55, 3) := by decide +kernel
theorem dX7_places_51 : decode cX7_places 51 = .ok (.iload_n 3, 1) := by decide +kernel
theorem dX7_places_52 : decode cX7_places 52 = .ok (.iastore, 1) := by decide +kernel
theorem dX7_places_53 : decode cX7_places 53 = .ok (.aload_n 0, 1) := by decide +kernel
theorem dX7_places_54 : decode cX7_places 54 = .ok (.getfield 7, 3) := by decide +kernel
theorem dX7_places_57 : decode cX7_places 57 = .ok (.iload_n 1, 1) := by decide +kernel
theorem dX7_places_58 : decode cX7_places 58 = .ok (.iload 5, 2) := by decide +kernel
theorem dX7_places_60 : decode cX7_places 60 = .ok (.iconst 2, 1) := by decide +kernel
theorem dX7_places_61 : decode cX7_places 61 = .ok (.invokestatic 55, 3) := by decide +kernel
theorem dX7_places_64 : decode cX7_places 64 = .ok (.iload 4, 2) := by decide +kernel
theorem dX7_places_66 : decode cX7_places 66 = .ok (.iastore, 1) := by decide +kernel
theorem dX7_places_67 : decode cX7_places 67 = .ok (.aload_n 0, 1) := by decide +kernel
theorem dX7_places_68 : decode cX7_places 68 = .ok (.getfield 7, 3) := by decide +kernel
theorem dX7_places_71 : decode cX7_places 71 = .ok (.iload_n 1, 1) := by decide +kernel
theorem dX7_places_72 : decode cX7_places 72 = .ok (.iload 5, 2) := by decide +kernel
theorem dX7_places_74 : decode cX7_places 74 = .ok (.iconst 3, 1) := by decide +kernel
theorem dX7_places_75 : decode cX7_places 75 = .ok (.invokestatic 55, 3) := by decide +kernel
theorem dX7_places_78 : decode cX7_places 78 = .ok (.aload_n 0, 1) := by decide +kernel
theorem dX7_places_79 : decode cX7_places 79 = .ok (.getfield 7, 3) := by decide +kernel
theorem dX7_places_82 : decode cX7_places 82 = .ok (.sipush 700, 3) := by decide +kernel
theorem dX7_places_85 : decode cX7_places 85 = .ok (.iaload, 1) := by decide +kernel
theorem dX7_places_86 : decode cX7_places 86 = .ok (.iastore, 1) := by decide +kernel
theorem dX7_places_87 : decode cX7_places 87 = .ok (.aload_n 0, 1) := by decide +kernel
theorem dX7_places_88 : decode cX7_places 88 = .ok (.getfield 7, 3) := by decide +kernel
theorem dX7_places_91 : decode cX7_places 91 = .ok (.iload_n 1, 1) := by decide +kernel
theorem dX7_places_92 : decode cX7_places 92 = .ok (.iload 5, 2) := by decide +kernel
theorem dX7_places_94 : decode cX7_places 94 = .ok (.iconst 4, 1) := by decide +kernel
theorem dX7_places_95 : decode cX7_places 95 = .ok (.invokestatic 55, 3) := by decide +kernel
theorem dX7_places_98 : decode cX7_places 98 = .ok (.aload_n 0, 1) := by decide +kernel
theorem dX7_places_99 : decode cX7_places 99 = .ok (.getfield 7, 3) := by decide +kernel
theorem dX7_places_102 : decode cX7_places 102 = .ok (.sipush 693, 3) := by decide +kernel
theorem dX7_places_105 : decode cX7_places 105 = .ok (.iaload, 1) := by decide +kernel
theorem dX7_places_106 : decode cX7_places 106 = .ok (.iastore, 1) := by decide +kernel
theorem dX7_places_107 : decode cX7_places 107 = .ok (.aload_n 0, 1) := by decide +kernel
theorem dX7_places_108 : decode cX7_places 108 = .ok (.getfield 7, 3) := by decide +kernel
theorem dX7_places_111 : decode cX7_places 111 = .ok (.iload_n 1, 1) := by decide +kernel
theorem dX7_places_112 : decode cX7_places 112 = .ok (.iload 5, 2) := by decide +kernel
theorem dX7_places_114 : decode cX7_places 114 = .ok (.iconst 5, 1) := by decide +kernel
theorem dX7_places_115 : decode cX7_places 115 = .ok (.invokestatic 55, 3) := by decide +kernel
theorem dX7_places_118 : decode cX7_places 118 = .ok (.iconst 1, 1) := by decide +kernel
theorem dX7_places_119 : decode cX7_places 119 = .ok (.iastore, 1) := by decide +kernel
theorem dX7_places_120 : decode cX7_places 120 = .ok (.aload_n 0, 1) := by decide +kernel
theorem dX7_places_121 : decode cX7_places 121 = .ok (.getfield 7, 3) := by decide +kernel
theorem dX7_places_124 : decode cX7_places 124 = .ok (.iload_n 1, 1) := by decide +kernel
theorem dX7_places_125 : decode cX7_places 125 = .ok (.iload 5, 2) := by decide +kernel
theorem dX7_places_127 : decode cX7_places 127 = .ok (.bipush 6, 2) := by decide +kernel
theorem dX7_places_129 : decode cX7_places 129 = .ok (.invokestatic 55, 3) := by decide +kernel
theorem dX7_places_132 : decode cX7_places 132 = .ok (.iconst 0, 1) := by decide +kernel
theorem dX7_places_133 : decode cX7_places 133 = .ok (.iastore, 1) := by decide +kernel
theorem dX7_places_134 : decode cX7_places 134 = .ok (.aload_n 0, 1) := by decide +kernel
theorem dX7_places_135 : decode cX7_places 135 = .ok (.getfield 7, 3) := by decide +kernel
theorem dX7_places_138 : decode cX7_places 138 = .ok (.sipush 700, 3) := by decide +kernel
theorem dX7_places_141 : decode cX7_places 141 = .ok (.dup2, 1) := by decide +kernel
theorem dX7_places_142 : decode cX7_places 142 = .ok (.iaload, 1) := by decide +kernel
theorem dX7_places_143 : decode cX7_places 143 = .ok (.iconst 1, 1) := by decide +kernel
theorem dX7_places_144 : decode cX7_places 144 = .ok (.iadd, 1) := by decide +kernel
theorem dX7_places_145 : decode cX7_places 145 = .ok (.iastore, 1) := by decide +kernel
theorem dX7_places_146 : decode cX7_places 146 = .ok (.aload_n 0, 1) := by decide +kernel
theorem dX7_places_147 : decode cX7_places 147 = .ok (.getfield 7, 3) := by decide +kernel
theorem dX7_places_150 : decode cX7_places 150 = .ok (.iload_n 1, 1) := by decide +kernel
theorem dX7_places_151 : decode cX7_places 151 = .ok (.bipush 6, 2) := by decide +kernel
theorem dX7_places_153 : decode cX7_places 153 = .ok (.invokestatic 51, 3) := by decide +kernel
theorem dX7_places_156 : decode cX7_places 156 = .ok (.dup2, 1) := by decide +kernel
theorem dX7_places_157 : decode cX7_places 157 = .ok (.iaload, 1) := by decide +kernel
theorem dX7_places_158 : decode cX7_places 158 = .ok (.iconst 1, 1) := by decide +kernel
theorem dX7_places_159 : decode cX7_places 159 = .ok (.iadd, 1) := by decide +kernel
theorem dX7_places_160 : decode cX7_places 160 = .ok (.iastore, 1) := by decide +kernel
theorem dX7_places_161 : decode cX7_places 161 = .ok (.return_, 1) := by decide +kernel
theorem dX7_looks_0 : decode cX7_looks 0 = .ok (.aload_n 0, 1) := by decide +kernel
theorem dX7_looks_1 : decode cX7_looks 1 = .ok (.getfield 7, 3) := by decide +kernel
theorem dX7_looks_4 : decode cX7_looks 4 = .ok (.sipush 693, 3) := by decide +kernel
theorem dX7_looks_7 : decode cX7_looks 7 = .ok (.dup2, 1) := by decide +kernel
theorem dX7_looks_8 : decode cX7_looks 8 = .ok (.iaload, 1) := by decide +kernel
theorem dX7_looks_9 : decode cX7_looks 9 = .ok (.iconst 1, 1) := by decide +kernel
theorem dX7_looks_10 : decode cX7_looks 10 = .ok (.iadd, 1) := by decide +kernel
theorem dX7_looks_11 : decode cX7_looks 11 = .ok (.iastore, 1) := by decide +kernel
theorem dX7_looks_12 : decode cX7_looks 12 = .ok (.aload_n 0, 1) := by decide +kernel
theorem dX7_looks_13 : decode cX7_looks 13 = .ok (.getfield 7, 3) := by decide +kernel
theorem dX7_looks_16 : decode cX7_looks 16 = .ok (.bipush 64, 2) := by decide +kernel
theorem dX7_looks_18 : decode cX7_looks 18 = .ok (.iload_n 1, 1) := by decide +kernel
theorem dX7_looks_19 : decode cX7_looks 19 = .ok (.iadd, 1) := by decide +kernel
theorem dX7_looks_20 : decode cX7_looks 20 = .ok (.dup2, 1) := by decide +kernel
theorem dX7_looks_21 : decode cX7_looks 21 = .ok (.iaload, 1) := by decide +kernel
theorem dX7_looks_22 : decode cX7_looks 22 = .ok (.iconst 1, 1) := by decide +kernel
theorem dX7_looks_23 : decode cX7_looks 23 = .ok (.iadd, 1) := by decide +kernel
theorem dX7_looks_24 : decode cX7_looks 24 = .ok (.iastore, 1) := by decide +kernel
theorem dX7_looks_25 : decode cX7_looks 25 = .ok (.aload_n 0, 1) := by decide +kernel
theorem dX7_looks_26 : decode cX7_looks 26 = .ok (.iconst 0, 1) := by decide +kernel
theorem dX7_looks_27 : decode cX7_looks 27 = .ok (.putfield 94, 3) := by decide +kernel
theorem dX7_looks_30 : decode cX7_looks 30 = .ok (.iconst 0, 1) := by decide +kernel
theorem dX7_looks_31 : decode cX7_looks 31 = .ok (.istore_n 2, 1) := by decide +kernel
theorem dX7_looks_32 : decode cX7_looks 32 = .ok (.iload_n 2, 1) := by decide +kernel
theorem dX7_looks_33 : decode cX7_looks 33 = .ok (.aload_n 0, 1) := by decide +kernel
theorem dX7_looks_34 : decode cX7_looks 34 = .ok (.getfield 7, 3) := by decide +kernel
theorem dX7_looks_37 : decode cX7_looks 37 = .ok (.sipush 688, 3) := by decide +kernel
theorem dX7_looks_40 : decode cX7_looks 40 = .ok (.iaload, 1) := by decide +kernel
theorem dX7_looks_41 : decode cX7_looks 41 = .ok (.if_icmp .ge 47, 3) := by decide +kernel
theorem dX7_looks_44 : decode cX7_looks 44 = .ok (.aload_n 0, 1) := by decide +kernel
theorem dX7_looks_45 : decode cX7_looks 45 = .ok (.iload_n 2, 1) := by decide +kernel
theorem dX7_looks_46 : decode cX7_looks 46 = .ok (.iload_n 1, 1) := by decide +kernel
theorem dX7_looks_47 : decode cX7_looks 47 = .ok (.invokevirtual 73, 3) := by decide +kernel
theorem dX7_looks_50 : decode cX7_looks 50 = .ok (.ifCond .ge 38, 3) := by decide +kernel
theorem dX7_looks_53 : decode cX7_looks 53 = .ok (.aload_n 0, 1) := by decide +kernel
theorem dX7_looks_54 : decode cX7_looks 54 = .ok (.getfield 7, 3) := by decide +kernel
theorem dX7_looks_57 : decode cX7_looks 57 = .ok (.iload_n 2, 1) := by decide +kernel
theorem dX7_looks_58 : decode cX7_looks 58 = .ok (.iconst 5, 1) := by decide +kernel
theorem dX7_looks_59 : decode cX7_looks 59 = .ok (.invokestatic 51, 3) := by decide +kernel
theorem dX7_looks_62 : decode cX7_looks 62 = .ok (.dup2, 1) := by decide +kernel
theorem dX7_looks_63 : decode cX7_looks 63 = .ok (.iaload, 1) := by decide +kernel
theorem dX7_looks_64 : decode cX7_looks 64 = .ok (.iconst 1, 1) := by decide +kernel
theorem dX7_looks_65 : decode cX7_looks 65 = .ok (.iadd, 1) := by decide +kernel
theorem dX7_looks_66 : decode cX7_looks 66 = .ok (.iastore, 1) := by decide +kernel
theorem dX7_looks_67 : decode cX7_looks 67 = .ok (.aload_n 0, 1) := by decide +kernel
theorem dX7_looks_68 : decode cX7_looks 68 = .ok (.dup, 1) := by decide +kernel
theorem dX7_looks_69 : decode cX7_looks 69 = .ok (.getfield 94, 3) := by decide +kernel
theorem dX7_looks_72 : decode cX7_looks 72 = .ok (.aload_n 0, 1) := by decide +kernel
theorem dX7_looks_73 : decode cX7_looks 73 = .ok (.iload_n 2, 1) := by decide +kernel
theorem dX7_looks_74 : decode cX7_looks 74 = .ok (.iconst 1, 1) := by decide +kernel
theorem dX7_looks_75 : decode cX7_looks 75 = .ok (.invokevirtual 59, 3) := by decide +kernel
theorem dX7_looks_78 : decode cX7_looks 78 = .ok (.iadd, 1) := by decide +kernel
theorem dX7_looks_79 : decode cX7_looks 79 = .ok (.putfield 94, 3) := by decide +kernel
theorem dX7_looks_82 : decode cX7_looks 82 = .ok (.iinc 2 1, 3) := by decide +kernel
theorem dX7_looks_85 : decode cX7_looks 85 = .ok (.goto (-53), 3) := by decide +kernel
theorem dX7_looks_88 : decode cX7_looks 88 = .ok (.iload_n 2, 1) := by decide +kernel
theorem dX7_looks_89 : decode cX7_looks 89 = .ok (.aload_n 0, 1) := by decide +kernel
theorem dX7_looks_90 : decode cX7_looks 90 = .ok (.getfield 7, 3) := by decide +kernel
theorem dX7_looks_93 : decode cX7_looks 93 = .ok (.sipush 688, 3) := by decide +kernel
theorem dX7_looks_96 : decode cX7_looks 96 = .ok (.iaload, 1) := by decide +kernel
theorem dX7_looks_97 : decode cX7_looks 97 = .ok (.if_icmp .ne 7, 3) := by decide +kernel
theorem dX7_looks_100 : decode cX7_looks 100 = .ok (.iconst 1, 1) := by decide +kernel
theorem dX7_looks_101 : decode cX7_looks 101 = .ok (.goto 4, 3) := by decide +kernel
theorem dX7_looks_104 : decode cX7_looks 104 = .ok (.iconst 0, 1) := by decide +kernel
theorem dX7_looks_105 : decode cX7_looks 105 = .ok (.istore_n 3, 1) := by decide +kernel
theorem dX7_looks_106 : decode cX7_looks 106 = .ok (.aload_n 0, 1) := by decide +kernel
theorem dX7_looks_107 : decode cX7_looks 107 = .ok (.iload_n 3, 1) := by decide +kernel
theorem dX7_looks_108 : decode cX7_looks 108 = .ok (.ifCond .eq 7, 3) := by decide +kernel
theorem dX7_looks_111 : decode cX7_looks 111 = .ok (.iconst 0, 1) := by decide +kernel
theorem dX7_looks_112 : decode cX7_looks 112 = .ok (.goto 6, 3) := by decide +kernel
theorem dX7_looks_115 : decode cX7_looks 115 = .ok (.iload_n 2, 1) := by decide +kernel
theorem dX7_looks_116 : decode cX7_looks 116 = .ok (.iconst 1, 1) := by decide +kernel
theorem dX7_looks_117 : decode cX7_looks 117 = .ok (.iadd, 1) := by decide +kernel
theorem dX7_looks_118 : decode cX7_looks 118 = .ok (.putfield 98, 3) := by decide +kernel
theorem dX7_looks_121 : decode cX7_looks 121 = .ok (.aload_n 0, 1) := by decide +kernel
theorem dX7_looks_122 : decode cX7_looks 122 = .ok (.getfield 7, 3) := by decide +kernel
theorem dX7_looks_125 : decode cX7_looks 125 = .ok (.iload_n 1, 1) := by decide +kernel
theorem dX7_looks_126 : decode cX7_looks 126 = .ok (.iaload, 1) := by decide +kernel
theorem dX7_looks_127 : decode cX7_looks 127 = .ok (.istore 4, 2) := by decide +kernel
theorem dX7_looks_129 : decode cX7_looks 129 = .ok (.iconst 0, 1) := by decide +kernel
theorem dX7_looks_130 : decode cX7_looks 130 = .ok (.istore 5, 2) := by decide +kernel
theorem dX7_looks_132 : decode cX7_looks 132 = .ok (.iload_n 3, 1) := by decide +kernel
theorem dX7_looks_133 : decode cX7_looks 133 = .ok (.ifCond .eq 79, 3) := by decide +kernel
theorem dX7_looks_136 : decode cX7_looks 136 = .ok (.aload_n 0, 1) := by decide +kernel
theorem dX7_looks_137 : decode cX7_looks 137 = .ok (.dup, 1) := by decide +kernel
theorem dX7_looks_138 : decode cX7_looks 138 = .ok (.getfield 94, 3) := by decide +kernel
theorem dX7_looks_141 : decode cX7_looks 141 = .ok (.aload_n 0, 1) := by decide +kernel
theorem dX7_looks_142 : decode cX7_looks 142 = .ok (.getfield 7, 3) := by decide +kernel
theorem dX7_looks_145 : decode cX7_looks 145 = .ok (.sipush 692, 3) := by decide +kernel
theorem dX7_looks_148 : decode cX7_looks 148 = .ok (.iaload, 1) := by decide +kernel
theorem dX7_looks_149 : decode cX7_looks 149 = .ok (.iadd, 1) := by decide +kernel
theorem dX7_looks_150 : decode cX7_looks 150 = .ok (.putfield 94, 3) := by decide +kernel
theorem dX7_looks_153 : decode cX7_looks 153 = .ok (.aload_n 0, 1) := by decide +kernel
theorem dX7_looks_154 : decode cX7_looks 154 = .ok (.getfield 7, 3) := by decide +kernel
theorem dX7_looks_157 : decode cX7_looks 157 = .ok (.sipush 694, 3) := by decide +kernel
theorem dX7_looks_160 : decode cX7_looks 160 = .ok (.aload_n 0, 1) := by decide +kernel
theorem dX7_looks_161 : decode cX7_looks 161 = .ok (.getfield 7, 3) := by decide +kernel
theorem dX7_looks_164 : decode cX7_looks 164 = .ok (.sipush 694, 3) := by decide +kernel
theorem dX7_looks_167 : decode cX7_looks 167 = .ok (.iaload, 1) := by decide +kernel
theorem dX7_looks_168 : decode cX7_looks 168 = .ok (.ifCond .le 30, 3) := by decide +kernel
theorem dX7_looks_171 : decode cX7_looks 171 = .ok (.iload_n 1, 1) := by decide +kernel
theorem dX7_looks_172 : decode cX7_looks 172 = .ok (.aload_n 0, 1) := by decide +kernel
theorem dX7_looks_173 : decode cX7_looks 173 = .ok (.getfield 7, 3) := by decide +kernel
theorem dX7_looks_176 : decode cX7_looks 176 = .ok (.sipush 695, 3) := by decide +kernel
theorem dX7_looks_179 : decode cX7_looks 179 = .ok (.iaload, 1) := by decide +kernel
theorem dX7_looks_180 : decode cX7_looks 180 = .ok (.iconst 1, 1) := by decide +kernel
theorem dX7_looks_181 : decode cX7_looks 181 = .ok (.iadd, 1) := by decide +kernel
theorem dX7_looks_182 : decode cX7_looks 182 = .ok (.if_icmp .ne 16, 3) := by decide +kernel
theorem dX7_looks_185 : decode cX7_looks 185 = .ok (.aload_n 0, 1) := by decide +kernel
theorem dX7_looks_186 : decode cX7_looks 186 = .ok (.getfield 7, 3) := by decide +kernel
theorem dX7_looks_189 : decode cX7_looks 189 = .ok (.sipush 694, 3) := by decide +kernel
theorem dX7_looks_192 : decode cX7_looks 192 = .ok (.iaload, 1) := by decide +kernel
theorem dX7_looks_193 : decode cX7_looks 193 = .ok (.iconst 1, 1) := by decide +kernel
theorem dX7_looks_194 : decode cX7_looks 194 = .ok (.iadd, 1) := by decide +kernel
theorem dX7_looks_195 : decode cX7_looks 195 = .ok (.goto 4, 3) := by decide +kernel
theorem dX7_looks_198 : decode cX7_looks 198 = .ok (.iconst 1, 1) := by decide +kernel
theorem dX7_looks_199 : decode cX7_looks 199 = .ok (.iastore, 1) := by decide +kernel
theorem dX7_looks_200 : decode cX7_looks 200 = .ok (.aload_n 0, 1) := by decide +kernel
theorem dX7_looks_201 : decode cX7_looks 201 = .ok (.getfield 7, 3) := by decide +kernel
theorem dX7_looks_204 : decode cX7_looks 204 = .ok (.sipush 695, 3) := by decide +kernel
theorem dX7_looks_207 : decode cX7_looks 207 = .ok (.iload_n 1, 1) := by decide +kernel
theorem dX7_looks_208 : decode cX7_looks 208 = .ok (.iastore, 1) := by decide +kernel
theorem dX7_looks_209 : decode cX7_looks 209 = .ok (.goto 133, 3) := by decide +kernel
theorem dX7_looks_212 : decode cX7_looks 212 = .ok (.aload_n 0, 1) := by decide +kernel
theorem dX7_looks_213 : decode cX7_looks 213 = .ok (.iload_n 2, 1) := by decide +kernel
theorem dX7_looks_214 : decode cX7_looks 214 = .ok (.iload_n 1, 1) := by decide +kernel
theorem dX7_looks_215 : decode cX7_looks 215 = .ok (.invokevirtual 73, 3) := by decide +kernel
theorem dX7_looks_218 : decode cX7_looks 218 = .ok (.istore 6, 2) := by decide +kernel
theorem dX7_looks_220 : decode cX7_looks 220 = .ok (.aload_n 0, 1) := by decide +kernel
theorem dX7_looks_221 : decode cX7_looks 221 = .ok (.getfield 7, 3) := by decide +kernel
theorem dX7_looks_224 : decode cX7_looks 224 = .ok (.iload_n 2, 1) := by decide +kernel
theorem dX7_looks_225 : decode cX7_looks 225 = .ok (.iconst 4, 1) := by decide +kernel
theorem dX7_looks_226 : decode cX7_looks 226 = .ok (.invokestatic 51, 3) := by decide +kernel
theorem dX7_looks_229 : decode cX7_looks 229 = .ok (.dup2, 1) := by decide +kernel
theorem dX7_looks_230 : decode cX7_looks 230 = .ok (.iaload, 1) := by decide +kernel
theorem dX7_looks_231 : decode cX7_looks 231 = .ok (.iconst 1, 1) := by decide +kernel
theorem dX7_looks_232 : decode cX7_looks 232 = .ok (.iadd, 1) := by decide +kernel
theorem dX7_looks_233 : decode cX7_looks 233 = .ok (.iastore, 1) := by decide +kernel
theorem dX7_looks_234 : decode cX7_looks 234 = .ok (.aload_n 0, 1) := by decide +kernel
theorem dX7_looks_235 : decode cX7_looks 235 = .ok (.dup, 1) := by decide +kernel
theorem dX7_looks_236 : decode cX7_looks 236 = .ok (.getfield 94, 3) := by decide +kernel
theorem dX7_looks_239 : decode cX7_looks 239 = .ok (.aload_n 0, 1) := by decide +kernel
theorem dX7_looks_240 : decode cX7_looks 240 = .ok (.iload_n 2, 1) := by decide +kernel
theorem dX7_looks_241 : decode cX7_looks 241 = .ok (.iconst 1, 1) := by decide +kernel
theorem dX7_looks_242 : decode cX7_looks 242 = .ok (.invokevirtual 59, 3) := by decide +kernel
theorem dX7_looks_245 : decode cX7_looks 245 = .ok (.iadd, 1) := by decide +kernel
theorem dX7_looks_246 : decode cX7_looks 246 = .ok (.putfield 94, 3) := by decide +kernel
theorem dX7_looks_249 : decode cX7_looks 249 = .ok (.aload_n 0, 1) := by decide +kernel
theorem dX7_looks_250 : decode cX7_looks 250 = .ok (.iload_n 2, 1) := by decide +kernel
theorem dX7_looks_251 : decode cX7_looks 251 = .ok (.iload 6, 2) := by decide +kernel
theorem dX7_looks_253 : decode cX7_looks 253 = .ok (.iconst 1, 1) := by decide +kernel
theorem dX7_looks_254 : decode cX7_looks 254 = .ok (.invokevirtual 62, 3) := by decide +kernel
theorem dX7_looks_257 : decode cX7_looks 257 = .ok (.istore 4, 2) := by decide +kernel
theorem dX7_looks_259 : decode cX7_looks 259 = .ok (.aload_n 0, 1) := by decide +kernel
theorem dX7_looks_260 : decode cX7_looks 260 = .ok (.iload_n 2, 1) := by decide +kernel
theorem dX7_looks_261 : decode cX7_looks 261 = .ok (.iload 6, 2) := by decide +kernel
theorem dX7_looks_263 : decode cX7_looks 263 = .ok (.iconst 2, 1) := by decide +kernel
theorem dX7_looks_264 : decode cX7_looks 264 = .ok (.invokevirtual 62, 3) := by decide +kernel
theorem dX7_looks_267 : decode cX7_looks 267 = .ok (.istore 5, 2) := by decide +kernel
theorem dX7_looks_269 : decode cX7_looks 269 = .ok (.aload_n 0, 1) := by decide +kernel
theorem dX7_looks_270 : decode cX7_looks 270 = .ok (.getfield 7, 3) := by decide +kernel
theorem dX7_looks_273 : decode cX7_looks 273 = .ok (.iload_n 2, 1) := by decide +kernel
theorem dX7_looks_274 : decode cX7_looks 274 = .ok (.iload 6, 2) := by decide +kernel
theorem dX7_looks_276 : decode cX7_looks 276 = .ok (.iconst 4, 1) := by decide +kernel
theorem dX7_looks_277 : decode cX7_looks 277 = .ok (.invokestatic 55, 3) := by decide +kernel
theorem dX7_looks_280 : decode cX7_looks 280 = .ok (.aload_n 0, 1) := by decide +kernel
theorem dX7_looks_281 : decode cX7_looks 281 = .ok (.getfield 7, 3) := by decide +kernel
theorem dX7_looks_284 : decode cX7_looks 284 = .ok (.sipush 693, 3) := by decide +kernel
theorem dX7_looks_287 : decode cX7_looks 287 = .ok (.iaload, 1) := by decide +kernel
theorem dX7_looks_288 : decode cX7_looks 288 = .ok (.iastore, 1) := by decide +kernel
theorem dX7_looks_289 : decode cX7_looks 289 = .ok (.aload_n 0, 1) := by decide +kernel
theorem dX7_looks_290 : decode cX7_looks 290 = .ok (.getfield 7, 3) := by decide +kernel
theorem dX7_looks_293 : decode cX7_looks 293 = .ok (.iload_n 2, 1) := by decide +kernel
theorem dX7_looks_294 : decode cX7_looks 294 = .ok (.iload 6, 2) := by decide +kernel
theorem dX7_looks_296 : decode cX7_looks 296 = .ok (.iconst 5, 1) := by decide +kernel
theorem dX7_looks_297 : decode cX7_looks 297 = .ok (.invokestatic 55, 3) := by decide +kernel
theorem dX7_looks_300 : decode cX7_looks 300 = .ok (.dup2, 1) := by decide +kernel
theorem dX7_looks_301 : decode cX7_looks 301 = .ok (.iaload, 1) := by decide +kernel
theorem dX7_looks_302 : decode cX7_looks 302 = .ok (.iconst 1, 1) := by decide +kernel
theorem dX7_looks_303 : decode cX7_looks 303 = .ok (.iadd, 1) := by decide +kernel
theorem dX7_looks_304 : decode cX7_looks 304 = .ok (.iastore, 1) := by decide +kernel
theorem dX7_looks_305 : decode cX7_looks 305 = .ok (.aload_n 0, 1) := by decide +kernel
theorem dX7_looks_306 : decode cX7_looks 306 = .ok (.getfield 7, 3) := by decide +kernel
theorem dX7_looks_309 : decode cX7_looks 309 = .ok (.iload_n 2, 1) := by decide +kernel
theorem dX7_looks_310 : decode cX7_looks 310 = .ok (.iload 6, 2) := by decide +kernel
theorem dX7_looks_312 : decode cX7_looks 312 = .ok (.bipush 6, 2) := by decide +kernel
theorem dX7_looks_314 : decode cX7_looks 314 = .ok (.invokestatic 55, 3) := by decide +kernel
theorem dX7_looks_317 : decode cX7_looks 317 = .ok (.iconst 1, 1) := by decide +kernel
theorem dX7_looks_318 : decode cX7_looks 318 = .ok (.iastore, 1) := by decide +kernel
theorem dX7_looks_319 : decode cX7_looks 319 = .ok (.aload_n 0, 1) := by decide +kernel
theorem dX7_looks_320 : decode cX7_looks 320 = .ok (.getfield 7, 3) := by decide +kernel
theorem dX7_looks_323 : decode cX7_looks 323 = .ok (.sipush 689, 3) := by decide +kernel
theorem dX7_looks_326 : decode cX7_looks 326 = .ok (.iaload, 1) := by decide +kernel
theorem dX7_looks_327 : decode cX7_looks 327 = .ok (.iconst 2, 1) := by decide +kernel
theorem dX7_looks_328 : decode cX7_looks 328 = .ok (.if_icmp .ne 14, 3) := by decide +kernel
theorem dX7_looks_331 : decode cX7_looks 331 = .ok (.iload_n 2, 1) := by decide +kernel
theorem dX7_looks_332 : decode cX7_looks 332 = .ok (.ifCond .le 10, 3) := by decide +kernel
theorem dX7_looks_335 : decode cX7_looks 335 = .ok (.aload_n 0, 1) := by decide +kernel
theorem dX7_looks_336 : decode cX7_looks 336 = .ok (.iload_n 2, 1) := by decide +kernel
theorem dX7_looks_337 : decode cX7_looks 337 = .ok (.iload 6, 2) := by decide +kernel
theorem dX7_looks_339 : decode cX7_looks 339 = .ok (.invokevirtual 76, 3) := by decide +kernel
theorem dX7_looks_342 : decode cX7_looks 342 = .ok (.aload_n 0, 1) := by decide +kernel
theorem dX7_looks_343 : decode cX7_looks 343 = .ok (.getfield 7, 3) := by decide +kernel
theorem dX7_looks_346 : decode cX7_looks 346 = .ok (.sipush 689, 3) := by decide +kernel
theorem dX7_looks_349 : decode cX7_looks 349 = .ok (.iaload, 1) := by decide +kernel
theorem dX7_looks_350 : decode cX7_looks 350 = .ok (.iconst 2, 1) := by decide +kernel
theorem dX7_looks_351 : decode cX7_looks 351 = .ok (.if_icmp .ne 17, 3) := by decide +kernel
theorem dX7_looks_354 : decode cX7_looks 354 = .ok (.iload_n 2, 1) := by decide +kernel
theorem dX7_looks_355 : decode cX7_looks 355 = .ok (.ifCond .le 13, 3) := by decide +kernel
theorem dX7_looks_358 : decode cX7_looks 358 = .ok (.aload_n 0, 1) := by decide +kernel
theorem dX7_looks_359 : decode cX7_looks 359 = .ok (.iconst 0, 1) := by decide +kernel
theorem dX7_looks_360 : decode cX7_looks 360 = .ok (.iload_n 1, 1) := by decide +kernel
theorem dX7_looks_361 : decode cX7_looks 361 = .ok (.iload 4, 2) := by decide +kernel
theorem dX7_looks_363 : decode cX7_looks 363 = .ok (.iload 5, 2) := by decide +kernel
theorem dX7_looks_365 : decode cX7_looks 365 = .ok (.invokevirtual 80, 3) := by decide +kernel
theorem dX7_looks_368 : decode cX7_looks 368 = .ok (.iload_n 2, 1) := by decide +kernel
theorem dX7_looks_369 : decode cX7_looks 369 = .ok (.iconst 1, 1) := by decide +kernel
theorem dX7_looks_370 : decode cX7_looks 370 = .ok (.isub, 1) := by decide +kernel
theorem dX7_looks_371 : decode cX7_looks 371 = .ok (.istore 6, 2) := by decide +kernel
theorem dX7_looks_373 : decode cX7_looks 373 = .ok (.iload 6, 2) := by decide +kernel
theorem dX7_looks_375 : decode cX7_looks 375 = .ok (.ifCond .lt 31, 3) := by decide +kernel
theorem dX7_looks_378 : decode cX7_looks 378 = .ok (.aload_n 0, 1) := by decide +kernel
theorem dX7_looks_379 : decode cX7_looks 379 = .ok (.getfield 7, 3) := by decide +kernel
theorem dX7_looks_382 : decode cX7_looks 382 = .ok (.sipush 689, 3) := by decide +kernel
theorem dX7_looks_385 : decode cX7_looks 385 = .ok (.iaload, 1) := by decide +kernel
theorem dX7_looks_386 : decode cX7_looks 386 = .ok (.iconst 2, 1) := by decide +kernel
theorem dX7_looks_387 : decode cX7_looks 387 = .ok (.if_icmp .eq 19, 3) := by decide +kernel
theorem dX7_looks_390 : decode cX7_looks 390 = .ok (.aload_n 0, 1) := by decide +kernel
theorem dX7_looks_391 : decode cX7_looks 391 = .ok (.iload 6, 2) := by decide +kernel
theorem dX7_looks_393 : decode cX7_looks 393 = .ok (.iload_n 1, 1) := by decide +kernel
theorem dX7_looks_394 : decode cX7_looks 394 = .ok (.iload 4, 2) := by decide +kernel
theorem dX7_looks_396 : decode cX7_looks 396 = .ok (.iconst 0, 1) := by decide +kernel
theorem dX7_looks_397 : decode cX7_looks 397 = .ok (.invokevirtual 80, 3) := by decide +kernel
theorem dX7_looks_400 : decode cX7_looks 400 = .ok (.iinc 6 (-1), 3) := by decide +kernel
theorem dX7_looks_403 : decode cX7_looks 403 = .ok (.goto (-30), 3) := by decide +kernel
theorem dX7_looks_406 : decode cX7_looks 406 = .ok (.aload_n 0, 1) := by decide +kernel
theorem dX7_looks_407 : decode cX7_looks 407 = .ok (.getfield 7, 3) := by decide +kernel
theorem dX7_looks_410 : decode cX7_looks 410 = .ok (.sipush 698, 3) := by decide +kernel
theorem dX7_looks_413 : decode cX7_looks 413 = .ok (.dup2, 1) := by decide +kernel
theorem dX7_looks_414 : decode cX7_looks 414 = .ok (.iaload, 1) := by decide +kernel
theorem dX7_looks_415 : decode cX7_looks 415 = .ok (.aload_n 0, 1) := by decide +kernel
theorem dX7_looks_416 : decode cX7_looks 416 = .ok (.getfield 94, 3) := by decide +kernel
theorem dX7_looks_419 : decode cX7_looks 419 = .ok (.iadd, 1) := by decide +kernel
theorem dX7_looks_420 : decode cX7_looks 420 = .ok (.iastore, 1) := by decide +kernel
theorem dX7_looks_421 : decode cX7_looks 421 = .ok (.iload 4, 2) := by decide +kernel
theorem dX7_looks_423 : decode cX7_looks 423 = .ok (.ireturn, 1) := by decide +kernel
theorem dX7_isAnywhere_0 : decode cX7_isAnywhere 0 = .ok (.iconst 0, 1) := by decide +kernel
theorem dX7_isAnywhere_1 : decode cX7_isAnywhere 1 = .ok (.istore_n 2, 1) := by decide +kernel
theorem dX7_isAnywhere_2 : decode cX7_isAnywhere 2 = .ok (.iconst 0, 1) := by decide +kernel
theorem dX7_isAnywhere_3 : decode cX7_isAnywhere 3 = .ok (.istore_n 3, 1) := by decide +kernel
theorem dX7_isAnywhere_4 : decode cX7_isAnywhere 4 = .ok (.iload_n 3, 1) := by decide +kernel
theorem dX7_isAnywhere_5 : decode cX7_isAnywhere 5 = .ok (.aload_n 0, 1) := by decide +kernel
theorem dX7_isAnywhere_6 : decode cX7_isAnywhere 6 = .ok (.getfield 7, 3) := by decide +kernel
theorem dX7_isAnywhere_9 : decode cX7_isAnywhere 9 = .ok (.sipush 688, 3) := by decide +kernel
theorem dX7_isAnywhere_12 : decode cX7_isAnywhere 12 = .ok (.iaload, 1) := by decide +kernel
theorem dX7_isAnywhere_13 : decode cX7_isAnywhere 13 = .ok (.if_icmp .ge 28, 3) := by decide +kernel
theorem dX7_isAnywhere_16 : decode cX7_isAnywhere 16 = .ok (.iload_n 2, 1) := by decide +kernel
theorem dX7_isAnywhere_17 : decode cX7_isAnywhere 17 = .ok (.ifCond .ne 12, 3) := by decide +kernel
theorem dX7_isAnywhere_20 : decode cX7_isAnywhere 20 = .ok (.aload_n 0, 1) := by decide +kernel
theorem dX7_isAnywhere_21 : decode cX7_isAnywhere 21 = .ok (.iload_n 3, 1) := by decide +kernel
theorem dX7_isAnywhere_22 : decode cX7_isAnywhere 22 = .ok (.iload_n 1, 1) := by decide +kernel
theorem dX7_isAnywhere_23 : decode cX7_isAnywhere 23 = .ok (.invokevirtual 73, 3) := by decide +kernel
theorem dX7_isAnywhere_26 : decode cX7_isAnywhere 26 = .ok (.ifCond .lt 7, 3) := by decide +kernel
theorem dX7_isAnywhere_29 : decode cX7_isAnywhere 29 = .ok (.iconst 1, 1) := by decide +kernel
theorem dX7_isAnywhere_30 : decode cX7_isAnywhere 30 = .ok (.goto 4, 3) := by decide +kernel
theorem dX7_isAnywhere_33 : decode cX7_isAnywhere 33 = .ok (.iconst 0, 1) := by decide +kernel
theorem dX7_isAnywhere_34 : decode cX7_isAnywhere 34 = .ok (.istore_n 2, 1) := by decide +kernel
theorem dX7_isAnywhere_35 : decode cX7_isAnywhere 35 = .ok (.iinc 3 1, 3) := by decide +kernel
theorem dX7_isAnywhere_38 : decode cX7_isAnywhere 38 = .ok (.goto (-34), 3) := by decide +kernel
theorem dX7_isAnywhere_41 : decode cX7_isAnywhere 41 = .ok (.iload_n 2, 1) := by decide +kernel
theorem dX7_isAnywhere_42 : decode cX7_isAnywhere 42 = .ok (.ireturn, 1) := by decide +kernel
theorem dX7_follows_0 : decode cX7_follows 0 = .ok (.aload_n 0, 1) := by decide +kernel
theorem dX7_follows_1 : decode cX7_follows 1 = .ok (.getfield 7, 3) := by decide +kernel
theorem dX7_follows_4 : decode cX7_follows 4 = .ok (.sipush 688, 3) := by decide +kernel
theorem dX7_follows_7 : decode cX7_follows 7 = .ok (.iaload, 1) := by decide +kernel
theorem dX7_follows_8 : decode cX7_follows 8 = .ok (.iconst 1, 1) := by decide +kernel
theorem dX7_follows_9 : decode cX7_follows 9 = .ok (.isub, 1) := by decide +kernel
theorem dX7_follows_10 : decode cX7_follows 10 = .ok (.istore_n 3, 1) := by decide +kernel
theorem dX7_follows_11 : decode cX7_follows 11 = .ok (.iload_n 1, 1) := by decide +kernel
theorem dX7_follows_12 : decode cX7_follows 12 = .ok (.iconst 1, 1) := by decide +kernel
theorem dX7_follows_13 : decode cX7_follows 13 = .ok (.iadd, 1) := by decide +kernel
theorem dX7_follows_14 : decode cX7_follows 14 = .ok (.istore 4, 2) := by decide +kernel
theorem dX7_follows_16 : decode cX7_follows 16 = .ok (.aload_n 0, 1) := by decide +kernel
theorem dX7_follows_17 : decode cX7_follows 17 = .ok (.getfield 98, 3) := by decide +kernel
theorem dX7_follows_20 : decode cX7_follows 20 = .ok (.ifCond .ne 83, 3) := by decide +kernel
theorem dX7_follows_23 : decode cX7_follows 23 = .ok (.aload_n 0, 1) := by decide +kernel
theorem dX7_follows_24 : decode cX7_follows 24 = .ok (.getfield 7, 3) := by decide +kernel
theorem dX7_follows_27 : decode cX7_follows 27 = .ok (.sipush 694, 3) := by decide +kernel
theorem dX7_follows_30 : decode cX7_follows 30 = .ok (.iaload, 1) := by decide +kernel
theorem dX7_follows_31 : decode cX7_follows 31 = .ok (.iconst 1, 1) := by decide +kernel
theorem dX7_follows_32 : decode cX7_follows 32 = .ok (.if_icmp .le 71, 3) := by decide +kernel
theorem dX7_follows_35 : decode cX7_follows 35 = .ok (.iload_n 3, 1) := by decide +kernel
theorem dX7_follows_36 : decode cX7_follows 36 = .ok (.ifCond .lt 67, 3) := by decide +kernel
theorem dX7_follows_39 : decode cX7_follows 39 = .ok (.iload 4, 2) := by decide +kernel
theorem dX7_follows_41 : decode cX7_follows 41 = .ok (.iload_n 1, 1) := by decide +kernel
theorem dX7_follows_42 : decode cX7_follows 42 = .ok (.aload_n 0, 1) := by decide +kernel
theorem dX7_follows_43 : decode cX7_follows 43 = .ok (.getfield 7, 3) := by decide +kernel
theorem dX7_follows_46 : decode cX7_follows 46 = .ok (.sipush 691, 3) := by decide +kernel
theorem dX7_follows_49 : decode cX7_follows 49 = .ok (.iaload, 1) := by decide +kernel
theorem dX7_follows_50 : decode cX7_follows 50 = .ok (.iadd, 1) := by decide +kernel
theorem dX7_follows_51 : decode cX7_follows 51 = .ok (.if_icmp .gt 52, 3) := by decide +kernel
theorem dX7_follows_54 : decode cX7_follows 54 = .ok (.iload 4, 2) := by decide +kernel
theorem dX7_follows_56 : decode cX7_follows 56 = .ok (.bipush 64, 2) := by decide +kernel
theorem dX7_follows_58 : decode cX7_follows 58 = .ok (.if_icmp .ge 45, 3) := by decide +kernel
theorem dX7_follows_61 : decode cX7_follows 61 = .ok (.aload_n 0, 1) := by decide +kernel
theorem dX7_follows_62 : decode cX7_follows 62 = .ok (.iload 4, 2) := by decide +kernel
theorem dX7_follows_64 : decode cX7_follows 64 = .ok (.invokevirtual 101, 3) := by decide +kernel
theorem dX7_follows_67 : decode cX7_follows 67 = .ok (.ifCond .ne 30, 3) := by decide +kernel
theorem dX7_follows_70 : decode cX7_follows 70 = .ok (.aload_n 0, 1) := by decide +kernel
theorem dX7_follows_71 : decode cX7_follows 71 = .ok (.iload_n 3, 1) := by decide +kernel
theorem dX7_follows_72 : decode cX7_follows 72 = .ok (.iload 4, 2) := by decide +kernel
theorem dX7_follows_74 : decode cX7_follows 74 = .ok (.aload_n 0, 1) := by decide +kernel
theorem dX7_follows_75 : decode cX7_follows 75 = .ok (.getfield 7, 3) := by decide +kernel
theorem dX7_follows_78 : decode cX7_follows 78 = .ok (.iload 4, 2) := by decide +kernel
theorem dX7_follows_80 : decode cX7_follows 80 = .ok (.iaload, 1) := by decide +kernel
theorem dX7_follows_81 : decode cX7_follows 81 = .ok (.iconst 0, 1) := by decide +kernel
theorem dX7_follows_82 : decode cX7_follows 82 = .ok (.invokevirtual 80, 3) := by decide +kernel
theorem dX7_follows_85 : decode cX7_follows 85 = .ok (.aload_n 0, 1) := by decide +kernel
theorem dX7_follows_86 : decode cX7_follows 86 = .ok (.getfield 7, 3) := by decide +kernel
theorem dX7_follows_89 : decode cX7_follows 89 = .ok (.sipush 696, 3) := by decide +kernel
theorem dX7_follows_92 : decode cX7_follows 92 = .ok (.dup2, 1) := by decide +kernel
theorem dX7_follows_93 : decode cX7_follows 93 = .ok (.iaload, 1) := by decide +kernel
theorem dX7_follows_94 : decode cX7_follows 94 = .ok (.iconst 1, 1) := by decide +kernel
theorem dX7_follows_95 : decode cX7_follows 95 = .ok (.iadd, 1) := by decide +kernel
theorem dX7_follows_96 : decode cX7_follows 96 = .ok (.iastore, 1) := by decide +kernel
theorem dX7_follows_97 : decode cX7_follows 97 = .ok (.iinc 4 1, 3) := by decide +kernel
theorem dX7_follows_100 : decode cX7_follows 100 = .ok (.goto (-84), 3) := by decide +kernel
theorem dX7_follows_103 : decode cX7_follows 103 = .ok (.bipush 19, 2) := by decide +kernel
theorem dX7_follows_105 : decode cX7_follows 105 = .ok (.istore 4, 2) := by decide +kernel
theorem dX7_follows_107 : decode cX7_follows 107 = .ok (.iload 4, 2) := by decide +kernel
theorem dX7_follows_109 : decode cX7_follows 109 = .ok (.ifCond .le 58, 3) := by decide +kernel
theorem dX7_follows_112 : decode cX7_follows 112 = .ok (.iconst 0, 1) := by decide +kernel
theorem dX7_follows_113 : decode cX7_follows 113 = .ok (.istore 5, 2) := by decide +kernel
theorem dX7_follows_115 : decode cX7_follows 115 = .ok (.iload 5, 2) := by decide +kernel
theorem dX7_follows_117 : decode cX7_follows 117 = .ok (.iconst 4, 1) := by decide +kernel
theorem dX7_follows_118 : decode cX7_follows 118 = .ok (.if_icmp .ge 43, 3) := by decide +kernel
theorem dX7_follows_121 : decode cX7_follows 121 = .ok (.aload_n 0, 1) := by decide +kernel
theorem dX7_follows_122 : decode cX7_follows 122 = .ok (.getfield 7, 3) := by decide +kernel
theorem dX7_follows_125 : decode cX7_follows 125 = .ok (.sipush 704, 3) := by decide +kernel
theorem dX7_follows_128 : decode cX7_follows 128 = .ok (.iconst 4, 1) := by decide +kernel
theorem dX7_follows_129 : decode cX7_follows 129 = .ok (.iload 4, 2) := by decide +kernel
theorem dX7_follows_131 : decode cX7_follows 131 = .ok (.imul, 1) := by decide +kernel
theorem dX7_follows_132 : decode cX7_follows 132 = .ok (.iadd, 1) := by decide +kernel
theorem dX7_follows_133 : decode cX7_follows 133 = .ok (.iload 5, 2) := by decide +kernel
theorem dX7_follows_135 : decode cX7_follows 135 = .ok (.iadd, 1) := by decide +kernel
theorem dX7_follows_136 : decode cX7_follows 136 = .ok (.aload_n 0, 1) := by decide +kernel
theorem dX7_follows_137 : decode cX7_follows 137 = .ok (.getfield 7, 3) := by decide +kernel
theorem dX7_follows_140 : decode cX7_follows 140 = .ok (.sipush 704, 3) := by decide +kernel
theorem dX7_follows_143 : decode cX7_follows 143 = .ok (.iconst 4, 1) := by decide +kernel
theorem dX7_follows_144 : decode cX7_follows 144 = .ok (.iload 4, 2) := by decide +kernel
theorem dX7_follows_146 : decode cX7_follows 146 = .ok (.iconst 1, 1) := by decide +kernel
theorem dX7_follows_147 : decode cX7_follows 147 = .ok (.isub, 1) := by decide +kernel
theorem dX7_follows_148 : decode cX7_follows 148 = .ok (.imul, 1) := by decide +kernel
theorem dX7_follows_149 : decode cX7_follows 149 = .ok (.iadd, 1) := by decide +kernel
theorem dX7_follows_150 : decode cX7_follows 150 = .ok (.iload 5, 2) := by decide +kernel
theorem dX7_follows_152 : decode cX7_follows 152 = .ok (.iadd, 1) := by decide +kernel
theorem dX7_follows_153 : decode cX7_follows 153 = .ok (.iaload, 1) := by decide +kernel
theorem dX7_follows_154 : decode cX7_follows 154 = .ok (.iastore, 1) := by decide +kernel
theorem dX7_follows_155 : decode cX7_follows 155 = .ok (.iinc 5 1, 3) := by decide +kernel
theorem dX7_follows_158 : decode cX7_follows 158 = .ok (.goto (-43), 3) := by decide +kernel
theorem dX7_follows_161 : decode cX7_follows 161 = .ok (.iinc 4 (-1), 3) := by decide +kernel
theorem dX7_follows_164 : decode cX7_follows 164 = .ok (.goto (-57), 3) := by decide +kernel
theorem dX7_follows_167 : decode cX7_follows 167 = .ok (.aload_n 0, 1) := by decide +kernel
theorem dX7_follows_168 : decode cX7_follows 168 = .ok (.getfield 7, 3) := by decide +kernel
theorem dX7_follows_171 : decode cX7_follows 171 = .ok (.sipush 704, 3) := by decide +kernel
theorem dX7_follows_174 : decode cX7_follows 174 = .ok (.iload_n 1, 1) := by decide +kernel
theorem dX7_follows_175 : decode cX7_follows 175 = .ok (.iastore, 1) := by decide +kernel
theorem dX7_follows_176 : decode cX7_follows 176 = .ok (.aload_n 0, 1) := by decide +kernel
theorem dX7_follows_177 : decode cX7_follows 177 = .ok (.getfield 7, 3) := by decide +kernel
theorem dX7_follows_180 : decode cX7_follows 180 = .ok (.sipush 705, 3) := by decide +kernel
theorem dX7_follows_183 : decode cX7_follows 183 = .ok (.iload_n 2, 1) := by decide +kernel
theorem dX7_follows_184 : decode cX7_follows 184 = .ok (.iastore, 1) := by decide +kernel
theorem dX7_follows_185 : decode cX7_follows 185 = .ok (.aload_n 0, 1) := by decide +kernel
theorem dX7_follows_186 : decode cX7_follows 186 = .ok (.getfield 7, 3) := by decide +kernel
theorem dX7_follows_189 : decode cX7_follows 189 = .ok (.sipush 706, 3) := by decide +kernel
theorem dX7_follows_192 : decode cX7_follows 192 = .ok (.aload_n 0, 1) := by decide +kernel
theorem dX7_follows_193 : decode cX7_follows 193 = .ok (.getfield 94, 3) := by decide +kernel
theorem dX7_follows_196 : decode cX7_follows 196 = .ok (.iastore, 1) := by decide +kernel
theorem dX7_follows_197 : decode cX7_follows 197 = .ok (.aload_n 0, 1) := by decide +kernel
theorem dX7_follows_198 : decode cX7_follows 198 = .ok (.getfield 7, 3) := by decide +kernel
theorem dX7_follows_201 : decode cX7_follows 201 = .ok (.sipush 707, 3) := by decide +kernel
theorem dX7_follows_204 : decode cX7_follows 204 = .ok (.aload_n 0, 1) := by decide +kernel
theorem dX7_follows_205 : decode cX7_follows 205 = .ok (.getfield 98, 3) := by decide +kernel
theorem dX7_follows_208 : decode cX7_follows 208 = .ok (.iastore, 1) := by decide +kernel
theorem dX7_follows_209 : decode cX7_follows 209 = .ok (.aload_n 0, 1) := by decide +kernel
theorem dX7_follows_210 : decode cX7_follows 210 = .ok (.getfield 7, 3) := by decide +kernel
theorem dX7_follows_213 : decode cX7_follows 213 = .ok (.sipush 702, 3) := by decide +kernel
theorem dX7_follows_216 : decode cX7_follows 216 = .ok (.bipush 20, 2) := by decide +kernel
theorem dX7_follows_218 : decode cX7_follows 218 = .ok (.aload_n 0, 1) := by decide +kernel
theorem dX7_follows_219 : decode cX7_follows 219 = .ok (.getfield 7, 3) := by decide +kernel
theorem dX7_follows_222 : decode cX7_follows 222 = .ok (.sipush 702, 3) := by decide +kernel
theorem dX7_follows_225 : decode cX7_follows 225 = .ok (.iaload, 1) := by decide +kernel
theorem dX7_follows_226 : decode cX7_follows 226 = .ok (.iconst 1, 1) := by decide +kernel
theorem dX7_follows_227 : decode cX7_follows 227 = .ok (.iadd, 1) := by decide +kernel
theorem dX7_follows_228 : decode cX7_follows 228 = .ok (.invokestatic 105, 3) := by decide +kernel
theorem dX7_follows_231 : decode cX7_follows 231 = .ok (.iastore, 1) := by decide +kernel
theorem dX7_follows_232 : decode cX7_follows 232 = .ok (.return_, 1) := by decide +kernel
theorem dX7_reads_0 : decode cX7_reads 0 = .ok (.aload_n 0, 1) := by decide +kernel
theorem dX7_reads_1 : decode cX7_reads 1 = .ok (.iload_n 1, 1) := by decide +kernel
theorem dX7_reads_2 : decode cX7_reads 2 = .ok (.invokevirtual 110, 3) := by decide +kernel
theorem dX7_reads_5 : decode cX7_reads 5 = .ok (.istore_n 2, 1) := by decide +kernel
theorem dX7_reads_6 : decode cX7_reads 6 = .ok (.aload_n 0, 1) := by decide +kernel
theorem dX7_reads_7 : decode cX7_reads 7 = .ok (.iload_n 1, 1) := by decide +kernel
theorem dX7_reads_8 : decode cX7_reads 8 = .ok (.iconst 0, 1) := by decide +kernel
theorem dX7_reads_9 : decode cX7_reads 9 = .ok (.invokevirtual 113, 3) := by decide +kernel
theorem dX7_reads_12 : decode cX7_reads 12 = .ok (.iload_n 2, 1) := by decide +kernel
theorem dX7_reads_13 : decode cX7_reads 13 = .ok (.ireturn, 1) := by decide +kernel
theorem dX7_writes_0 : decode cX7_writes 0 = .ok (.aload_n 0, 1) := by decide +kernel
theorem dX7_writes_1 : decode cX7_writes 1 = .ok (.iload_n 1, 1) := by decide +kernel
theorem dX7_writes_2 : decode cX7_writes 2 = .ok (.invokevirtual 110, 3) := by decide +kernel
theorem dX7_writes_5 : decode cX7_writes 5 = .ok (.pop, 1) := by decide +kernel
theorem dX7_writes_6 : decode cX7_writes 6 = .ok (.aload_n 0, 1) := by decide +kernel
theorem dX7_writes_7 : decode cX7_writes 7 = .ok (.getfield 7, 3) := by decide +kernel
theorem dX7_writes_10 : decode cX7_writes 10 = .ok (.sipush 690, 3) := by decide +kernel
theorem dX7_writes_13 : decode cX7_writes 13 = .ok (.iaload, 1) := by decide +kernel
theorem dX7_writes_14 : decode cX7_writes 14 = .ok (.iconst 1, 1) := by decide +kernel
theorem dX7_writes_15 : decode cX7_writes 15 = .ok (.if_icmp .ne 7, 3) := by decide +kernel
theorem dX7_writes_18 : decode cX7_writes 18 = .ok (.iconst 1, 1) := by decide +kernel
theorem dX7_writes_19 : decode cX7_writes 19 = .ok (.goto 4, 3) := by decide +kernel
theorem dX7_writes_22 : decode cX7_writes 22 = .ok (.iconst 0, 1) := by decide +kernel
theorem dX7_writes_23 : decode cX7_writes 23 = .ok (.istore_n 3, 1) := by decide +kernel
theorem dX7_writes_24 : decode cX7_writes 24 = .ok (.iconst 0, 1) := by decide +kernel
theorem dX7_writes_25 : decode cX7_writes 25 = .ok (.istore 4, 2) := by decide +kernel
theorem dX7_writes_27 : decode cX7_writes 27 = .ok (.iload 4, 2) := by decide +kernel
theorem dX7_writes_29 : decode cX7_writes 29 = .ok (.aload_n 0, 1) := by decide +kernel
theorem dX7_writes_30 : decode cX7_writes 30 = .ok (.getfield 7, 3) := by decide +kernel
theorem dX7_writes_33 : decode cX7_writes 33 = .ok (.sipush 688, 3) := by decide +kernel
theorem dX7_writes_36 : decode cX7_writes 36 = .ok (.iaload, 1) := by decide +kernel
theorem dX7_writes_37 : decode cX7_writes 37 = .ok (.if_icmp .ge 68, 3) := by decide +kernel
theorem dX7_writes_40 : decode cX7_writes 40 = .ok (.aload_n 0, 1) := by decide +kernel
theorem dX7_writes_41 : decode cX7_writes 41 = .ok (.iload 4, 2) := by decide +kernel
theorem dX7_writes_43 : decode cX7_writes 43 = .ok (.iload_n 1, 1) := by decide +kernel
theorem dX7_writes_44 : decode cX7_writes 44 = .ok (.invokevirtual 73, 3) := by decide +kernel
theorem dX7_writes_47 : decode cX7_writes 47 = .ok (.istore 5, 2) := by decide +kernel
theorem dX7_writes_49 : decode cX7_writes 49 = .ok (.iload 5, 2) := by decide +kernel
theorem dX7_writes_51 : decode cX7_writes 51 = .ok (.ifCond .lt 48, 3) := by decide +kernel
theorem dX7_writes_54 : decode cX7_writes 54 = .ok (.iload 4, 2) := by decide +kernel
theorem dX7_writes_56 : decode cX7_writes 56 = .ok (.ifCond .eq 7, 3) := by decide +kernel
theorem dX7_writes_59 : decode cX7_writes 59 = .ok (.iload_n 3, 1) := by decide +kernel
theorem dX7_writes_60 : decode cX7_writes 60 = .ok (.ifCond .eq 39, 3) := by decide +kernel
theorem dX7_writes_63 : decode cX7_writes 63 = .ok (.aload_n 0, 1) := by decide +kernel
theorem dX7_writes_64 : decode cX7_writes 64 = .ok (.getfield 7, 3) := by decide +kernel
theorem dX7_writes_67 : decode cX7_writes 67 = .ok (.iload 4, 2) := by decide +kernel
theorem dX7_writes_69 : decode cX7_writes 69 = .ok (.iload 5, 2) := by decide +kernel
theorem dX7_writes_71 : decode cX7_writes 71 = .ok (.iconst 1, 1) := by decide +kernel
theorem dX7_writes_72 : decode cX7_writes 72 = .ok (.invokestatic 55, 3) := by decide +kernel
theorem dX7_writes_75 : decode cX7_writes 75 = .ok (.iload_n 2, 1) := by decide +kernel
theorem dX7_writes_76 : decode cX7_writes 76 = .ok (.iastore, 1) := by decide +kernel
theorem dX7_writes_77 : decode cX7_writes 77 = .ok (.aload_n 0, 1) := by decide +kernel
theorem dX7_writes_78 : decode cX7_writes 78 = .ok (.getfield 7, 3) := by decide +kernel
theorem dX7_writes_81 : decode cX7_writes 81 = .ok (.iload 4, 2) := by decide +kernel
theorem dX7_writes_83 : decode cX7_writes 83 = .ok (.iload 5, 2) := by decide +kernel
theorem dX7_writes_85 : decode cX7_writes 85 = .ok (.iconst 2, 1) := by decide +kernel
theorem dX7_writes_86 : decode cX7_writes 86 = .ok (.invokestatic 55, 3) := by decide +kernel
theorem dX7_writes_89 : decode cX7_writes 89 = .ok (.iload_n 3, 1) := by decide +kernel
theorem dX7_writes_90 : decode cX7_writes 90 = .ok (.ifCond .eq 7, 3) := by decide +kernel
theorem dX7_writes_93 : decode cX7_writes 93 = .ok (.iconst 0, 1) := by decide +kernel
theorem dX7_writes_94 : decode cX7_writes 94 = .ok (.goto 4, 3) := by decide +kernel
theorem dX7_writes_97 : decode cX7_writes 97 = .ok (.iconst 1, 1) := by decide +kernel
theorem dX7_writes_98 : decode cX7_writes 98 = .ok (.iastore, 1) := by decide +kernel
theorem dX7_writes_99 : decode cX7_writes 99 = .ok (.iinc 4 1, 3) := by decide +kernel
theorem dX7_writes_102 : decode cX7_writes 102 = .ok (.goto (-75), 3) := by decide +kernel
theorem dX7_writes_105 : decode cX7_writes 105 = .ok (.iload_n 3, 1) := by decide +kernel
theorem dX7_writes_106 : decode cX7_writes 106 = .ok (.ifCond .ne 14, 3) := by decide +kernel
theorem dX7_writes_109 : decode cX7_writes 109 = .ok (.aload_n 0, 1) := by decide +kernel
theorem dX7_writes_110 : decode cX7_writes 110 = .ok (.getfield 7, 3) := by decide +kernel
theorem dX7_writes_113 : decode cX7_writes 113 = .ok (.sipush 688, 3) := by decide +kernel
theorem dX7_writes_116 : decode cX7_writes 116 = .ok (.iaload, 1) := by decide +kernel
theorem dX7_writes_117 : decode cX7_writes 117 = .ok (.ifCond .ne 22, 3) := by decide +kernel
theorem dX7_writes_120 : decode cX7_writes 120 = .ok (.aload_n 0, 1) := by decide +kernel
theorem dX7_writes_121 : decode cX7_writes 121 = .ok (.getfield 7, 3) := by decide +kernel
theorem dX7_writes_124 : decode cX7_writes 124 = .ok (.iload_n 1, 1) := by decide +kernel
theorem dX7_writes_125 : decode cX7_writes 125 = .ok (.iload_n 2, 1) := by decide +kernel
theorem dX7_writes_126 : decode cX7_writes 126 = .ok (.iastore, 1) := by decide +kernel
theorem dX7_writes_127 : decode cX7_writes 127 = .ok (.aload_n 0, 1) := by decide +kernel
theorem dX7_writes_128 : decode cX7_writes 128 = .ok (.getfield 7, 3) := by decide +kernel
theorem dX7_writes_131 : decode cX7_writes 131 = .ok (.sipush 697, 3) := by decide +kernel
theorem dX7_writes_134 : decode cX7_writes 134 = .ok (.dup2, 1) := by decide +kernel
theorem dX7_writes_135 : decode cX7_writes 135 = .ok (.iaload, 1) := by decide +kernel
theorem dX7_writes_136 : decode cX7_writes 136 = .ok (.iconst 1, 1) := by decide +kernel
theorem dX7_writes_137 : decode cX7_writes 137 = .ok (.iadd, 1) := by decide +kernel
theorem dX7_writes_138 : decode cX7_writes 138 = .ok (.iastore, 1) := by decide +kernel
theorem dX7_writes_139 : decode cX7_writes 139 = .ok (.aload_n 0, 1) := by decide +kernel
theorem dX7_writes_140 : decode cX7_writes 140 = .ok (.iload_n 1, 1) := by decide +kernel
theorem dX7_writes_141 : decode cX7_writes 141 = .ok (.iconst 1, 1) := by decide +kernel
theorem dX7_writes_142 : decode cX7_writes 142 = .ok (.invokevirtual 113, 3) := by decide +kernel
theorem dX7_writes_145 : decode cX7_writes 145 = .ok (.aload_n 0, 1) := by decide +kernel
theorem dX7_writes_146 : decode cX7_writes 146 = .ok (.getfield 94, 3) := by decide +kernel
theorem dX7_writes_149 : decode cX7_writes 149 = .ok (.ireturn, 1) := by decide +kernel
theorem dX7_sweeps_0 : decode cX7_sweeps 0 = .ok (.iconst 0, 1) := by decide +kernel
theorem dX7_sweeps_1 : decode cX7_sweeps 1 = .ok (.istore_n 2, 1) := by decide +kernel
theorem dX7_sweeps_2 : decode cX7_sweeps 2 = .ok (.iconst 0, 1) := by decide +kernel
theorem dX7_sweeps_3 : decode cX7_sweeps 3 = .ok (.istore_n 3, 1) := by decide +kernel
theorem dX7_sweeps_4 : decode cX7_sweeps 4 = .ok (.iload_n 3, 1) := by decide +kernel
theorem dX7_sweeps_5 : decode cX7_sweeps 5 = .ok (.aload_n 0, 1) := by decide +kernel
theorem dX7_sweeps_6 : decode cX7_sweeps 6 = .ok (.iload_n 1, 1) := by decide +kernel
theorem dX7_sweeps_7 : decode cX7_sweeps 7 = .ok (.iconst 0, 1) := by decide +kernel
theorem dX7_sweeps_8 : decode cX7_sweeps 8 = .ok (.invokevirtual 59, 3) := by decide +kernel
theorem dX7_sweeps_11 : decode cX7_sweeps 11 = .ok (.if_icmp .ge 64, 3) := by decide +kernel
theorem dX7_sweeps_14 : decode cX7_sweeps 14 = .ok (.aload_n 0, 1) := by decide +kernel
theorem dX7_sweeps_15 : decode cX7_sweeps 15 = .ok (.iload_n 1, 1) := by decide +kernel
theorem dX7_sweeps_16 : decode cX7_sweeps 16 = .ok (.iload_n 3, 1) := by decide +kernel
theorem dX7_sweeps_17 : decode cX7_sweeps 17 = .ok (.iconst 0, 1) := by decide +kernel
theorem dX7_sweeps_18 : decode cX7_sweeps 18 = .ok (.invokevirtual 62, 3) := by decide +kernel
theorem dX7_sweeps_21 : decode cX7_sweeps 21 = .ok (.ifCond .lt 48, 3) := by decide +kernel
theorem dX7_sweeps_24 : decode cX7_sweeps 24 = .ok (.aload_n 0, 1) := by decide +kernel
theorem dX7_sweeps_25 : decode cX7_sweeps 25 = .ok (.iload_n 1, 1) := by decide +kernel
theorem dX7_sweeps_26 : decode cX7_sweeps 26 = .ok (.iload_n 3, 1) := by decide +kernel
theorem dX7_sweeps_27 : decode cX7_sweeps 27 = .ok (.iconst 2, 1) := by decide +kernel
theorem dX7_sweeps_28 : decode cX7_sweeps 28 = .ok (.invokevirtual 62, 3) := by decide +kernel
theorem dX7_sweeps_31 : decode cX7_sweeps 31 = .ok (.iconst 1, 1) := by decide +kernel
theorem dX7_sweeps_32 : decode cX7_sweeps 32 = .ok (.if_icmp .ne 37, 3) := by decide +kernel
theorem dX7_sweeps_35 : decode cX7_sweeps 35 = .ok (.aload_n 0, 1) := by decide +kernel
theorem dX7_sweeps_36 : decode cX7_sweeps 36 = .ok (.iload_n 1, 1) := by decide +kernel
theorem dX7_sweeps_37 : decode cX7_sweeps 37 = .ok (.aload_n 0, 1) := by decide +kernel
theorem dX7_sweeps_38 : decode cX7_sweeps 38 = .ok (.iload_n 1, 1) := by decide +kernel
theorem dX7_sweeps_39 : decode cX7_sweeps 39 = .ok (.iload_n 3, 1) := by decide +kernel
theorem dX7_sweeps_40 : decode cX7_sweeps 40 = .ok (.iconst 0, 1) := by decide +kernel
theorem dX7_sweeps_41 : decode cX7_sweeps 41 = .ok (.invokevirtual 62, 3) := by decide +kernel
theorem dX7_sweeps_44 : decode cX7_sweeps 44 = .ok (.aload_n 0, 1) := by decide +kernel
theorem dX7_sweeps_45 : decode cX7_sweeps 45 = .ok (.iload_n 1, 1) := by decide +kernel
theorem dX7_sweeps_46 : decode cX7_sweeps 46 = .ok (.iload_n 3, 1) := by decide +kernel
theorem dX7_sweeps_47 : decode cX7_sweeps 47 = .ok (.iconst 1, 1) := by decide +kernel
theorem dX7_sweeps_48 : decode cX7_sweeps 48 = .ok (.invokevirtual 62, 3) := by decide +kernel
theorem dX7_sweeps_51 : decode cX7_sweeps 51 = .ok (.invokevirtual 84, 3) := by decide +kernel
theorem dX7_sweeps_54 : decode cX7_sweeps 54 = .ok (.aload_n 0, 1) := by decide +kernel
theorem dX7_sweeps_55 : decode cX7_sweeps 55 = .ok (.getfield 7, 3) := by decide +kernel
theorem dX7_sweeps_58 : decode cX7_sweeps 58 = .ok (.iload_n 1, 1) := by decide +kernel
theorem dX7_sweeps_59 : decode cX7_sweeps 59 = .ok (.iload_n 3, 1) := by decide +kernel
theorem dX7_sweeps_60 : decode cX7_sweeps 60 = .ok (.iconst 2, 1) := by decide +kernel
theorem dX7_sweeps_61 : decode cX7_sweeps 61 = .ok (.invokestatic 55, 3) := by decide +kernel
theorem dX7_sweeps_64 : decode cX7_sweeps 64 = .ok (.iconst 0, 1) := by decide +kernel
theorem dX7_sweeps_65 : decode cX7_sweeps 65 = .ok (.iastore, 1) := by decide +kernel
theorem dX7_sweeps_66 : decode cX7_sweeps 66 = .ok (.iinc 2 1, 3) := by decide +kernel
theorem dX7_sweeps_69 : decode cX7_sweeps 69 = .ok (.iinc 3 1, 3) := by decide +kernel
theorem dX7_sweeps_72 : decode cX7_sweeps 72 = .ok (.goto (-68), 3) := by decide +kernel
theorem dX7_sweeps_75 : decode cX7_sweeps 75 = .ok (.iload_n 2, 1) := by decide +kernel
theorem dX7_sweeps_76 : decode cX7_sweeps 76 = .ok (.ireturn, 1) := by decide +kernel
theorem dX7_sweepsOut_0 : decode cX7_sweepsOut 0 = .ok (.iconst 0, 1) := by decide +kernel
theorem dX7_sweepsOut_1 : decode cX7_sweepsOut 1 = .ok (.istore_n 1, 1) := by decide +kernel
theorem dX7_sweepsOut_2 : decode cX7_sweepsOut 2 = .ok (.iload_n 1, 1) := by decide +kernel
theorem dX7_sweepsOut_3 : decode cX7_sweepsOut 3 = .ok (.aload_n 0, 1) := by decide +kernel
theorem dX7_sweepsOut_4 : decode cX7_sweepsOut 4 = .ok (.getfield 7, 3) := by decide +kernel
theorem dX7_sweepsOut_7 : decode cX7_sweepsOut 7 = .ok (.sipush 688, 3) := by decide +kernel
theorem dX7_sweepsOut_10 : decode cX7_sweepsOut 10 = .ok (.iaload, 1) := by decide +kernel
theorem dX7_sweepsOut_11 : decode cX7_sweepsOut 11 = .ok (.if_icmp .ge 15, 3) := by decide +kernel
theorem dX7_sweepsOut_14 : decode cX7_sweepsOut 14 = .ok (.aload_n 0, 1) := by decide +kernel
theorem dX7_sweepsOut_15 : decode cX7_sweepsOut 15 = .ok (.iload_n 1, 1) := by decide +kernel
theorem dX7_sweepsOut_16 : decode cX7_sweepsOut 16 = .ok (.invokevirtual 116, 3) := by decide +kernel
theorem dX7_sweepsOut_19 : decode cX7_sweepsOut 19 = .ok (.pop, 1) := by decide +kernel
theorem dX7_sweepsOut_20 : decode cX7_sweepsOut 20 = .ok (.iinc 1 1, 3) := by decide +kernel
theorem dX7_sweepsOut_23 : decode cX7_sweepsOut 23 = .ok (.goto (-21), 3) := by decide +kernel
theorem dX7_sweepsOut_26 : decode cX7_sweepsOut 26 = .ok (.iconst 0, 1) := by decide +kernel
theorem dX7_sweepsOut_27 : decode cX7_sweepsOut 27 = .ok (.istore_n 1, 1) := by decide +kernel
theorem dX7_sweepsOut_28 : decode cX7_sweepsOut 28 = .ok (.iload_n 1, 1) := by decide +kernel
theorem dX7_sweepsOut_29 : decode cX7_sweepsOut 29 = .ok (.aload_n 0, 1) := by decide +kernel
theorem dX7_sweepsOut_30 : decode cX7_sweepsOut 30 = .ok (.getfield 7, 3) := by decide +kernel
theorem dX7_sweepsOut_33 : decode cX7_sweepsOut 33 = .ok (.sipush 688, 3) := by decide +kernel
theorem dX7_sweepsOut_36 : decode cX7_sweepsOut 36 = .ok (.iaload, 1) := by decide +kernel
theorem dX7_sweepsOut_37 : decode cX7_sweepsOut 37 = .ok (.if_icmp .ge 40, 3) := by decide +kernel
theorem dX7_sweepsOut_40 : decode cX7_sweepsOut 40 = .ok (.aload_n 0, 1) := by decide +kernel
theorem dX7_sweepsOut_41 : decode cX7_sweepsOut 41 = .ok (.getfield 7, 3) := by decide +kernel
theorem dX7_sweepsOut_44 : decode cX7_sweepsOut 44 = .ok (.iload_n 1, 1) := by decide +kernel
theorem dX7_sweepsOut_45 : decode cX7_sweepsOut 45 = .ok (.iconst 3, 1) := by decide +kernel
theorem dX7_sweepsOut_46 : decode cX7_sweepsOut 46 = .ok (.invokestatic 51, 3) := by decide +kernel
theorem dX7_sweepsOut_49 : decode cX7_sweepsOut 49 = .ok (.iconst 0, 1) := by decide +kernel
theorem dX7_sweepsOut_50 : decode cX7_sweepsOut 50 = .ok (.iastore, 1) := by decide +kernel
theorem dX7_sweepsOut_51 : decode cX7_sweepsOut 51 = .ok (.iconst 0, 1) := by decide +kernel
theorem dX7_sweepsOut_52 : decode cX7_sweepsOut 52 = .ok (.istore_n 2, 1) := by decide +kernel
theorem dX7_sweepsOut_53 : decode cX7_sweepsOut 53 = .ok (.iload_n 2, 1) := by decide +kernel
theorem dX7_sweepsOut_54 : decode cX7_sweepsOut 54 = .ok (.bipush 16, 2) := by decide +kernel
theorem dX7_sweepsOut_56 : decode cX7_sweepsOut 56 = .ok (.if_icmp .ge 15, 3) := by decide +kernel
theorem dX7_sweepsOut_59 : decode cX7_sweepsOut 59 = .ok (.aload_n 0, 1) := by decide +kernel
theorem dX7_sweepsOut_60 : decode cX7_sweepsOut 60 = .ok (.iload_n 1, 1) := by decide +kernel
theorem dX7_sweepsOut_61 : decode cX7_sweepsOut 61 = .ok (.iload_n 2, 1) := by decide +kernel
theorem dX7_sweepsOut_62 : decode cX7_sweepsOut 62 = .ok (.invokevirtual 76, 3) := by decide +kernel
theorem dX7_sweepsOut_65 : decode cX7_sweepsOut 65 = .ok (.iinc 2 1, 3) := by decide +kernel
theorem dX7_sweepsOut_68 : decode cX7_sweepsOut 68 = .ok (.goto (-15), 3) := by decide +kernel
theorem dX7_sweepsOut_71 : decode cX7_sweepsOut 71 = .ok (.iinc 1 1, 3) := by decide +kernel
theorem dX7_sweepsOut_74 : decode cX7_sweepsOut 74 = .ok (.goto (-46), 3) := by decide +kernel
theorem dX7_sweepsOut_77 : decode cX7_sweepsOut 77 = .ok (.aload_n 0, 1) := by decide +kernel
theorem dX7_sweepsOut_78 : decode cX7_sweepsOut 78 = .ok (.getfield 7, 3) := by decide +kernel
theorem dX7_sweepsOut_81 : decode cX7_sweepsOut 81 = .ok (.sipush 694, 3) := by decide +kernel
theorem dX7_sweepsOut_84 : decode cX7_sweepsOut 84 = .ok (.iconst 0, 1) := by decide +kernel
theorem dX7_sweepsOut_85 : decode cX7_sweepsOut 85 = .ok (.iastore, 1) := by decide +kernel
theorem dX7_sweepsOut_86 : decode cX7_sweepsOut 86 = .ok (.return_, 1) := by decide +kernel
theorem dX7_level_0 : decode cX7_level 0 = .ok (.iload_n 1, 1) := by decide +kernel
theorem dX7_level_1 : decode cX7_level 1 = .ok (.i2l, 1) := by decide +kernel
theorem dX7_level_2 : decode cX7_level 2 = .ok (.lconst 1, 1) := by decide +kernel
theorem dX7_level_3 : decode cX7_level 3 = .ok (.ldc2_w 119, 3) := by decide +kernel
theorem dX7_level_6 : decode cX7_level 6 = .ok (.invokestatic 47, 3) := by decide +kernel
theorem dX7_level_9 : decode cX7_level 9 = .ok (.ifCond .eq 29, 3) := by decide +kernel
theorem dX7_level_12 : decode cX7_level 12 = .ok (.iload_n 2, 1) := by decide +kernel
theorem dX7_level_13 : decode cX7_level 13 = .ok (.i2l, 1) := by decide +kernel
theorem dX7_level_14 : decode cX7_level 14 = .ok (.lconst 0, 1) := by decide +kernel
theorem dX7_level_15 : decode cX7_level 15 = .ok (.ldc2_w 121, 3) := by decide +kernel
theorem dX7_level_18 : decode cX7_level 18 = .ok (.invokestatic 47, 3) := by decide +kernel
theorem dX7_level_21 : decode cX7_level 21 = .ok (.ifCond .eq 17, 3) := by decide +kernel
theorem dX7_level_24 : decode cX7_level 24 = .ok (.iload_n 3, 1) := by decide +kernel
theorem dX7_level_25 : decode cX7_level 25 = .ok (.i2l, 1) := by decide +kernel
theorem dX7_level_26 : decode cX7_level 26 = .ok (.ldc2_w 123, 3) := by decide +kernel
theorem dX7_level_29 : decode cX7_level 29 = .ok (.ldc2_w 125, 3) := by decide +kernel
theorem dX7_level_32 : decode cX7_level 32 = .ok (.invokestatic 47, 3) := by decide +kernel
theorem dX7_level_35 : decode cX7_level 35 = .ok (.ifCond .ne 10, 3) := by decide +kernel
theorem dX7_level_38 : decode cX7_level 38 = .ok (.aload_n 0, 1) := by decide +kernel
theorem dX7_level_39 : decode cX7_level 39 = .ok (.bipush (-52), 2) := by decide +kernel
theorem dX7_level_41 : decode cX7_level 41 = .ok (.invokevirtual 127, 3) := by decide +kernel
theorem dX7_level_44 : decode cX7_level 44 = .ok (.ireturn, 1) := by decide +kernel
theorem dX7_level_45 : decode cX7_level 45 = .ok (.aload_n 0, 1) := by decide +kernel
theorem dX7_level_46 : decode cX7_level 46 = .ok (.getfield 7, 3) := by decide +kernel
theorem dX7_level_49 : decode cX7_level 49 = .ok (.sipush 688, 3) := by decide +kernel
theorem dX7_level_52 : decode cX7_level 52 = .ok (.iaload, 1) := by decide +kernel
theorem dX7_level_53 : decode cX7_level 53 = .ok (.iconst 4, 1) := by decide +kernel
theorem dX7_level_54 : decode cX7_level 54 = .ok (.if_icmp .ne 10, 3) := by decide +kernel
theorem dX7_level_57 : decode cX7_level 57 = .ok (.aload_n 0, 1) := by decide +kernel
theorem dX7_level_58 : decode cX7_level 58 = .ok (.bipush (-56), 2) := by decide +kernel
theorem dX7_level_60 : decode cX7_level 60 = .ok (.invokevirtual 127, 3) := by decide +kernel
theorem dX7_level_63 : decode cX7_level 63 = .ok (.ireturn, 1) := by decide +kernel
theorem dX7_level_64 : decode cX7_level 64 = .ok (.aload_n 0, 1) := by decide +kernel
theorem dX7_level_65 : decode cX7_level 65 = .ok (.invokevirtual 130, 3) := by decide +kernel
theorem dX7_level_68 : decode cX7_level 68 = .ok (.aload_n 0, 1) := by decide +kernel
theorem dX7_level_69 : decode cX7_level 69 = .ok (.getfield 7, 3) := by decide +kernel
theorem dX7_level_72 : decode cX7_level 72 = .ok (.sipush 688, 3) := by decide +kernel
theorem dX7_level_75 : decode cX7_level 75 = .ok (.iaload, 1) := by decide +kernel
theorem dX7_level_76 : decode cX7_level 76 = .ok (.istore 4, 2) := by decide +kernel
theorem dX7_level_78 : decode cX7_level 78 = .ok (.iconst 0, 1) := by decide +kernel
theorem dX7_level_79 : decode cX7_level 79 = .ok (.istore 5, 2) := by decide +kernel
theorem dX7_level_81 : decode cX7_level 81 = .ok (.iload 5, 2) := by decide +kernel
theorem dX7_level_83 : decode cX7_level 83 = .ok (.sipush 140, 3) := by decide +kernel
theorem dX7_level_86 : decode cX7_level 86 = .ok (.if_icmp .ge 22, 3) := by decide +kernel
theorem dX7_level_89 : decode cX7_level 89 = .ok (.aload_n 0, 1) := by decide +kernel
theorem dX7_level_90 : decode cX7_level 90 = .ok (.getfield 7, 3) := by decide +kernel
theorem dX7_level_93 : decode cX7_level 93 = .ok (.iload 4, 2) := by decide +kernel
theorem dX7_level_95 : decode cX7_level 95 = .ok (.iload 5, 2) := by decide +kernel
theorem dX7_level_97 : decode cX7_level 97 = .ok (.invokestatic 51, 3) := by decide +kernel
theorem dX7_level_100 : decode cX7_level 100 = .ok (.iconst 0, 1) := by decide +kernel
theorem dX7_level_101 : decode cX7_level 101 = .ok (.iastore, 1) := by decide +kernel
theorem dX7_level_102 : decode cX7_level 102 = .ok (.iinc 5 1, 3) := by decide +kernel
theorem dX7_level_105 : decode cX7_level 105 = .ok (.goto (-24), 3) := by decide +kernel
theorem dX7_level_108 : decode cX7_level 108 = .ok (.iconst 0, 1) := by decide +kernel
theorem dX7_level_109 : decode cX7_level 109 = .ok (.istore 5, 2) := by decide +kernel
theorem dX7_level_111 : decode cX7_level 111 = .ok (.iload 5, 2) := by decide +kernel
theorem dX7_level_113 : decode cX7_level 113 = .ok (.bipush 16, 2) := by decide +kernel
theorem dX7_level_115 : decode cX7_level 115 = .ok (.if_icmp .ge 17, 3) := by decide +kernel
theorem dX7_level_118 : decode cX7_level 118 = .ok (.aload_n 0, 1) := by decide +kernel
theorem dX7_level_119 : decode cX7_level 119 = .ok (.iload 4, 2) := by decide +kernel
theorem dX7_level_121 : decode cX7_level 121 = .ok (.iload 5, 2) := by decide +kernel
theorem dX7_level_123 : decode cX7_level 123 = .ok (.invokevirtual 76, 3) := by decide +kernel
theorem dX7_level_126 : decode cX7_level 126 = .ok (.iinc 5 1, 3) := by decide +kernel
theorem dX7_level_129 : decode cX7_level 129 = .ok (.goto (-18), 3) := by decide +kernel
theorem dX7_level_132 : decode cX7_level 132 = .ok (.aload_n 0, 1) := by decide +kernel
theorem dX7_level_133 : decode cX7_level 133 = .ok (.getfield 7, 3) := by decide +kernel
theorem dX7_level_136 : decode cX7_level 136 = .ok (.iload 4, 2) := by decide +kernel
theorem dX7_level_138 : decode cX7_level 138 = .ok (.iconst 0, 1) := by decide +kernel
theorem dX7_level_139 : decode cX7_level 139 = .ok (.invokestatic 51, 3) := by decide +kernel
theorem dX7_level_142 : decode cX7_level 142 = .ok (.iload_n 1, 1) := by decide +kernel
theorem dX7_level_143 : decode cX7_level 143 = .ok (.iastore, 1) := by decide +kernel
theorem dX7_level_144 : decode cX7_level 144 = .ok (.aload_n 0, 1) := by decide +kernel
theorem dX7_level_145 : decode cX7_level 145 = .ok (.getfield 7, 3) := by decide +kernel
theorem dX7_level_148 : decode cX7_level 148 = .ok (.iload 4, 2) := by decide +kernel
theorem dX7_level_150 : decode cX7_level 150 = .ok (.iconst 1, 1) := by decide +kernel
theorem dX7_level_151 : decode cX7_level 151 = .ok (.invokestatic 51, 3) := by decide +kernel
theorem dX7_level_154 : decode cX7_level 154 = .ok (.iload_n 2, 1) := by decide +kernel
theorem dX7_level_155 : decode cX7_level 155 = .ok (.iastore, 1) := by decide +kernel
theorem dX7_level_156 : decode cX7_level 156 = .ok (.aload_n 0, 1) := by decide +kernel
theorem dX7_level_157 : decode cX7_level 157 = .ok (.getfield 7, 3) := by decide +kernel
theorem dX7_level_160 : decode cX7_level 160 = .ok (.iload 4, 2) := by decide +kernel
theorem dX7_level_162 : decode cX7_level 162 = .ok (.iconst 2, 1) := by decide +kernel
theorem dX7_level_163 : decode cX7_level 163 = .ok (.invokestatic 51, 3) := by decide +kernel
theorem dX7_level_166 : decode cX7_level 166 = .ok (.iload_n 3, 1) := by decide +kernel
theorem dX7_level_167 : decode cX7_level 167 = .ok (.iastore, 1) := by decide +kernel
theorem dX7_level_168 : decode cX7_level 168 = .ok (.aload_n 0, 1) := by decide +kernel
theorem dX7_level_169 : decode cX7_level 169 = .ok (.getfield 7, 3) := by decide +kernel
theorem dX7_level_172 : decode cX7_level 172 = .ok (.sipush 688, 3) := by decide +kernel
theorem dX7_level_175 : decode cX7_level 175 = .ok (.dup2, 1) := by decide +kernel
theorem dX7_level_176 : decode cX7_level 176 = .ok (.iaload, 1) := by decide +kernel
theorem dX7_level_177 : decode cX7_level 177 = .ok (.iconst 1, 1) := by decide +kernel
theorem dX7_level_178 : decode cX7_level 178 = .ok (.iadd, 1) := by decide +kernel
theorem dX7_level_179 : decode cX7_level 179 = .ok (.iastore, 1) := by decide +kernel
theorem dX7_level_180 : decode cX7_level 180 = .ok (.aload_n 0, 1) := by decide +kernel
theorem dX7_level_181 : decode cX7_level 181 = .ok (.getfield 7, 3) := by decide +kernel
theorem dX7_level_184 : decode cX7_level 184 = .ok (.sipush 688, 3) := by decide +kernel
theorem dX7_level_187 : decode cX7_level 187 = .ok (.iaload, 1) := by decide +kernel
theorem dX7_level_188 : decode cX7_level 188 = .ok (.ireturn, 1) := by decide +kernel
theorem dX7_drop_0 : decode cX7_drop 0 = .ok (.aload_n 0, 1) := by decide +kernel
theorem dX7_drop_1 : decode cX7_drop 1 = .ok (.getfield 7, 3) := by decide +kernel
theorem dX7_drop_4 : decode cX7_drop 4 = .ok (.sipush 688, 3) := by decide +kernel
theorem dX7_drop_7 : decode cX7_drop 7 = .ok (.iaload, 1) := by decide +kernel
theorem dX7_drop_8 : decode cX7_drop 8 = .ok (.ifCond .ne 10, 3) := by decide +kernel
theorem dX7_drop_11 : decode cX7_drop 11 = .ok (.aload_n 0, 1) := by decide +kernel
theorem dX7_drop_12 : decode cX7_drop 12 = .ok (.bipush (-55), 2) := by decide +kernel
theorem dX7_drop_14 : decode cX7_drop 14 = .ok (.invokevirtual 127, 3) := by decide +kernel
theorem dX7_drop_17 : decode cX7_drop 17 = .ok (.ireturn, 1) := by decide +kernel
theorem dX7_drop_18 : decode cX7_drop 18 = .ok (.aload_n 0, 1) := by decide +kernel
theorem dX7_drop_19 : decode cX7_drop 19 = .ok (.invokevirtual 130, 3) := by decide +kernel
theorem dX7_drop_22 : decode cX7_drop 22 = .ok (.iconst 0, 1) := by decide +kernel
theorem dX7_drop_23 : decode cX7_drop 23 = .ok (.istore_n 1, 1) := by decide +kernel
theorem dX7_drop_24 : decode cX7_drop 24 = .ok (.iload_n 1, 1) := by decide +kernel
theorem dX7_drop_25 : decode cX7_drop 25 = .ok (.bipush 8, 2) := by decide +kernel
theorem dX7_drop_27 : decode cX7_drop 27 = .ok (.if_icmp .ge 45, 3) := by decide +kernel
theorem dX7_drop_30 : decode cX7_drop 30 = .ok (.aload_n 0, 1) := by decide +kernel
theorem dX7_drop_31 : decode cX7_drop 31 = .ok (.getfield 25, 3) := by decide +kernel
theorem dX7_drop_34 : decode cX7_drop 34 = .ok (.iload_n 1, 1) := by decide +kernel
theorem dX7_drop_35 : decode cX7_drop 35 = .ok (.aload_n 0, 1) := by decide +kernel
theorem dX7_drop_36 : decode cX7_drop 36 = .ok (.getfield 25, 3) := by decide +kernel
theorem dX7_drop_39 : decode cX7_drop 39 = .ok (.iload_n 1, 1) := by decide +kernel
theorem dX7_drop_40 : decode cX7_drop 40 = .ok (.iaload, 1) := by decide +kernel
theorem dX7_drop_41 : decode cX7_drop 41 = .ok (.bipush 10, 2) := by decide +kernel
theorem dX7_drop_43 : decode cX7_drop 43 = .ok (.aload_n 0, 1) := by decide +kernel
theorem dX7_drop_44 : decode cX7_drop 44 = .ok (.getfield 7, 3) := by decide +kernel
theorem dX7_drop_47 : decode cX7_drop 47 = .ok (.sipush 688, 3) := by decide +kernel
theorem dX7_drop_50 : decode cX7_drop 50 = .ok (.iaload, 1) := by decide +kernel
theorem dX7_drop_51 : decode cX7_drop 51 = .ok (.iadd, 1) := by decide +kernel
theorem dX7_drop_52 : decode cX7_drop 52 = .ok (.if_icmp .ne 7, 3) := by decide +kernel
theorem dX7_drop_55 : decode cX7_drop 55 = .ok (.iconst (-1), 1) := by decide +kernel
theorem dX7_drop_56 : decode cX7_drop 56 = .ok (.goto 9, 3) := by decide +kernel
theorem dX7_drop_59 : decode cX7_drop 59 = .ok (.aload_n 0, 1) := by decide +kernel
theorem dX7_drop_60 : decode cX7_drop 60 = .ok (.getfield 25, 3) := by decide +kernel
theorem dX7_drop_63 : decode cX7_drop 63 = .ok (.iload_n 1, 1) := by decide +kernel
theorem dX7_drop_64 : decode cX7_drop 64 = .ok (.iaload, 1) := by decide +kernel
theorem dX7_drop_65 : decode cX7_drop 65 = .ok (.iastore, 1) := by decide +kernel
theorem dX7_drop_66 : decode cX7_drop 66 = .ok (.iinc 1 1, 3) := by decide +kernel
theorem dX7_drop_69 : decode cX7_drop 69 = .ok (.goto (-45), 3) := by decide +kernel
theorem dX7_drop_72 : decode cX7_drop 72 = .ok (.aload_n 0, 1) := by decide +kernel
theorem dX7_drop_73 : decode cX7_drop 73 = .ok (.getfield 7, 3) := by decide +kernel
theorem dX7_drop_76 : decode cX7_drop 76 = .ok (.sipush 688, 3) := by decide +kernel
theorem dX7_drop_79 : decode cX7_drop 79 = .ok (.dup2, 1) := by decide +kernel
theorem dX7_drop_80 : decode cX7_drop 80 = .ok (.iaload, 1) := by decide +kernel
theorem dX7_drop_81 : decode cX7_drop 81 = .ok (.iconst 1, 1) := by decide +kernel
theorem dX7_drop_82 : decode cX7_drop 82 = .ok (.isub, 1) := by decide +kernel
theorem dX7_drop_83 : decode cX7_drop 83 = .ok (.iastore, 1) := by decide +kernel
theorem dX7_drop_84 : decode cX7_drop 84 = .ok (.aload_n 0, 1) := by decide +kernel
theorem dX7_drop_85 : decode cX7_drop 85 = .ok (.getfield 7, 3) := by decide +kernel
theorem dX7_drop_88 : decode cX7_drop 88 = .ok (.sipush 688, 3) := by decide +kernel
theorem dX7_drop_91 : decode cX7_drop 91 = .ok (.iaload, 1) := by decide +kernel
theorem dX7_drop_92 : decode cX7_drop 92 = .ok (.ireturn, 1) := by decide +kernel
theorem dX7_mode_0 : decode cX7_mode 0 = .ok (.iload_n 1, 1) := by decide +kernel
theorem dX7_mode_1 : decode cX7_mode 1 = .ok (.i2l, 1) := by decide +kernel
theorem dX7_mode_2 : decode cX7_mode 2 = .ok (.lconst 0, 1) := by decide +kernel
theorem dX7_mode_3 : decode cX7_mode 3 = .ok (.lconst 1, 1) := by decide +kernel
theorem dX7_mode_4 : decode cX7_mode 4 = .ok (.invokestatic 47, 3) := by decide +kernel
theorem dX7_mode_7 : decode cX7_mode 7 = .ok (.ifCond .eq 23, 3) := by decide +kernel
theorem dX7_mode_10 : decode cX7_mode 10 = .ok (.iload_n 2, 1) := by decide +kernel
theorem dX7_mode_11 : decode cX7_mode 11 = .ok (.i2l, 1) := by decide +kernel
theorem dX7_mode_12 : decode cX7_mode 12 = .ok (.lconst 0, 1) := by decide +kernel
theorem dX7_mode_13 : decode cX7_mode 13 = .ok (.iload_n 1, 1) := by decide +kernel
theorem dX7_mode_14 : decode cX7_mode 14 = .ok (.ifCond .ne 9, 3) := by decide +kernel
theorem dX7_mode_17 : decode cX7_mode 17 = .ok (.ldc2_w 133, 3) := by decide +kernel
theorem dX7_mode_20 : decode cX7_mode 20 = .ok (.goto 4, 3) := by decide +kernel
theorem dX7_mode_23 : decode cX7_mode 23 = .ok (.lconst 1, 1) := by decide +kernel
theorem dX7_mode_24 : decode cX7_mode 24 = .ok (.invokestatic 47, 3) := by decide +kernel
theorem dX7_mode_27 : decode cX7_mode 27 = .ok (.ifCond .ne 10, 3) := by decide +kernel
theorem dX7_mode_30 : decode cX7_mode 30 = .ok (.aload_n 0, 1) := by decide +kernel
theorem dX7_mode_31 : decode cX7_mode 31 = .ok (.bipush (-52), 2) := by decide +kernel
theorem dX7_mode_33 : decode cX7_mode 33 = .ok (.invokevirtual 127, 3) := by decide +kernel
theorem dX7_mode_36 : decode cX7_mode 36 = .ok (.ireturn, 1) := by decide +kernel
theorem dX7_mode_37 : decode cX7_mode 37 = .ok (.aload_n 0, 1) := by decide +kernel
theorem dX7_mode_38 : decode cX7_mode 38 = .ok (.invokevirtual 130, 3) := by decide +kernel
theorem dX7_mode_41 : decode cX7_mode 41 = .ok (.aload_n 0, 1) := by decide +kernel
theorem dX7_mode_42 : decode cX7_mode 42 = .ok (.getfield 7, 3) := by decide +kernel
theorem dX7_mode_45 : decode cX7_mode 45 = .ok (.sipush 689, 3) := by decide +kernel
theorem dX7_mode_48 : decode cX7_mode 48 = .ok (.iload_n 1, 1) := by decide +kernel
theorem dX7_mode_49 : decode cX7_mode 49 = .ok (.iadd, 1) := by decide +kernel
theorem dX7_mode_50 : decode cX7_mode 50 = .ok (.iaload, 1) := by decide +kernel
theorem dX7_mode_51 : decode cX7_mode 51 = .ok (.istore_n 3, 1) := by decide +kernel
theorem dX7_mode_52 : decode cX7_mode 52 = .ok (.aload_n 0, 1) := by decide +kernel
theorem dX7_mode_53 : decode cX7_mode 53 = .ok (.getfield 7, 3) := by decide +kernel
theorem dX7_mode_56 : decode cX7_mode 56 = .ok (.sipush 689, 3) := by decide +kernel
theorem dX7_mode_59 : decode cX7_mode 59 = .ok (.iload_n 1, 1) := by decide +kernel
theorem dX7_mode_60 : decode cX7_mode 60 = .ok (.iadd, 1) := by decide +kernel
theorem dX7_mode_61 : decode cX7_mode 61 = .ok (.iload_n 2, 1) := by decide +kernel
theorem dX7_mode_62 : decode cX7_mode 62 = .ok (.iastore, 1) := by decide +kernel
theorem dX7_mode_63 : decode cX7_mode 63 = .ok (.iload_n 3, 1) := by decide +kernel
theorem dX7_mode_64 : decode cX7_mode 64 = .ok (.ireturn, 1) := by decide +kernel
theorem dX7_tell_0 : decode cX7_tell 0 = .ok (.iload_n 1, 1) := by decide +kernel
theorem dX7_tell_1 : decode cX7_tell 1 = .ok (.i2l, 1) := by decide +kernel
theorem dX7_tell_2 : decode cX7_tell 2 = .ok (.lconst 0, 1) := by decide +kernel
theorem dX7_tell_3 : decode cX7_tell 3 = .ok (.lconst 1, 1) := by decide +kernel
theorem dX7_tell_4 : decode cX7_tell 4 = .ok (.invokestatic 47, 3) := by decide +kernel
theorem dX7_tell_7 : decode cX7_tell 7 = .ok (.ifCond .eq 25, 3) := by decide +kernel
theorem dX7_tell_10 : decode cX7_tell 10 = .ok (.iload_n 2, 1) := by decide +kernel
theorem dX7_tell_11 : decode cX7_tell 11 = .ok (.i2l, 1) := by decide +kernel
theorem dX7_tell_12 : decode cX7_tell 12 = .ok (.lconst 0, 1) := by decide +kernel
theorem dX7_tell_13 : decode cX7_tell 13 = .ok (.iload_n 1, 1) := by decide +kernel
theorem dX7_tell_14 : decode cX7_tell 14 = .ok (.ifCond .ne 9, 3) := by decide +kernel
theorem dX7_tell_17 : decode cX7_tell 17 = .ok (.ldc2_w 125, 3) := by decide +kernel
theorem dX7_tell_20 : decode cX7_tell 20 = .ok (.goto 6, 3) := by decide +kernel
theorem dX7_tell_23 : decode cX7_tell 23 = .ok (.ldc2_w 135, 3) := by decide +kernel
theorem dX7_tell_26 : decode cX7_tell 26 = .ok (.invokestatic 47, 3) := by decide +kernel
theorem dX7_tell_29 : decode cX7_tell 29 = .ok (.ifCond .ne 10, 3) := by decide +kernel
theorem dX7_tell_32 : decode cX7_tell 32 = .ok (.aload_n 0, 1) := by decide +kernel
theorem dX7_tell_33 : decode cX7_tell 33 = .ok (.bipush (-52), 2) := by decide +kernel
theorem dX7_tell_35 : decode cX7_tell 35 = .ok (.invokevirtual 127, 3) := by decide +kernel
theorem dX7_tell_38 : decode cX7_tell 38 = .ok (.ireturn, 1) := by decide +kernel
theorem dX7_tell_39 : decode cX7_tell 39 = .ok (.aload_n 0, 1) := by decide +kernel
theorem dX7_tell_40 : decode cX7_tell 40 = .ok (.getfield 7, 3) := by decide +kernel
theorem dX7_tell_43 : decode cX7_tell 43 = .ok (.sipush 691, 3) := by decide +kernel
theorem dX7_tell_46 : decode cX7_tell 46 = .ok (.iload_n 1, 1) := by decide +kernel
theorem dX7_tell_47 : decode cX7_tell 47 = .ok (.iadd, 1) := by decide +kernel
theorem dX7_tell_48 : decode cX7_tell 48 = .ok (.iaload, 1) := by decide +kernel
theorem dX7_tell_49 : decode cX7_tell 49 = .ok (.istore_n 3, 1) := by decide +kernel
theorem dX7_tell_50 : decode cX7_tell 50 = .ok (.aload_n 0, 1) := by decide +kernel
theorem dX7_tell_51 : decode cX7_tell 51 = .ok (.getfield 7, 3) := by decide +kernel
theorem dX7_tell_54 : decode cX7_tell 54 = .ok (.sipush 691, 3) := by decide +kernel
theorem dX7_tell_57 : decode cX7_tell 57 = .ok (.iload_n 1, 1) := by decide +kernel
theorem dX7_tell_58 : decode cX7_tell 58 = .ok (.iadd, 1) := by decide +kernel
theorem dX7_tell_59 : decode cX7_tell 59 = .ok (.iload_n 2, 1) := by decide +kernel
theorem dX7_tell_60 : decode cX7_tell 60 = .ok (.iastore, 1) := by decide +kernel
theorem dX7_tell_61 : decode cX7_tell 61 = .ok (.iload_n 3, 1) := by decide +kernel
theorem dX7_tell_62 : decode cX7_tell 62 = .ok (.ireturn, 1) := by decide +kernel
theorem dX7_read_0 : decode cX7_read 0 = .ok (.iload_n 1, 1) := by decide +kernel
theorem dX7_read_1 : decode cX7_read 1 = .ok (.i2l, 1) := by decide +kernel
theorem dX7_read_2 : decode cX7_read 2 = .ok (.invokestatic 137, 3) := by decide +kernel
theorem dX7_read_5 : decode cX7_read 5 = .ok (.ifCond .eq 11, 3) := by decide +kernel
theorem dX7_read_8 : decode cX7_read 8 = .ok (.aload_n 0, 1) := by decide +kernel
theorem dX7_read_9 : decode cX7_read 9 = .ok (.iload_n 1, 1) := by decide +kernel
theorem dX7_read_10 : decode cX7_read 10 = .ok (.invokevirtual 141, 3) := by decide +kernel
theorem dX7_read_13 : decode cX7_read 13 = .ok (.goto 9, 3) := by decide +kernel
theorem dX7_read_16 : decode cX7_read 16 = .ok (.aload_n 0, 1) := by decide +kernel
theorem dX7_read_17 : decode cX7_read 17 = .ok (.bipush (-52), 2) := by decide +kernel
theorem dX7_read_19 : decode cX7_read 19 = .ok (.invokevirtual 127, 3) := by decide +kernel
theorem dX7_read_22 : decode cX7_read 22 = .ok (.ireturn, 1) := by decide +kernel
theorem dX7_write_0 : decode cX7_write 0 = .ok (.iload_n 1, 1) := by decide +kernel
theorem dX7_write_1 : decode cX7_write 1 = .ok (.i2l, 1) := by decide +kernel
theorem dX7_write_2 : decode cX7_write 2 = .ok (.invokestatic 137, 3) := by decide +kernel
theorem dX7_write_5 : decode cX7_write 5 = .ok (.ifCond .eq 12, 3) := by decide +kernel
theorem dX7_write_8 : decode cX7_write 8 = .ok (.aload_n 0, 1) := by decide +kernel
theorem dX7_write_9 : decode cX7_write 9 = .ok (.iload_n 1, 1) := by decide +kernel
theorem dX7_write_10 : decode cX7_write 10 = .ok (.iload_n 2, 1) := by decide +kernel
theorem dX7_write_11 : decode cX7_write 11 = .ok (.invokevirtual 144, 3) := by decide +kernel
theorem dX7_write_14 : decode cX7_write 14 = .ok (.goto 9, 3) := by decide +kernel
theorem dX7_write_17 : decode cX7_write 17 = .ok (.aload_n 0, 1) := by decide +kernel
theorem dX7_write_18 : decode cX7_write 18 = .ok (.bipush (-52), 2) := by decide +kernel
theorem dX7_write_20 : decode cX7_write 20 = .ok (.invokevirtual 127, 3) := by decide +kernel
theorem dX7_write_23 : decode cX7_write 23 = .ok (.ireturn, 1) := by decide +kernel
theorem dX7_sweep_0 : decode cX7_sweep 0 = .ok (.aload_n 0, 1) := by decide +kernel
theorem dX7_sweep_1 : decode cX7_sweep 1 = .ok (.iload_n 1, 1) := by decide +kernel
theorem dX7_sweep_2 : decode cX7_sweep 2 = .ok (.invokevirtual 147, 3) := by decide +kernel
theorem dX7_sweep_5 : decode cX7_sweep 5 = .ok (.ifCond .eq 13, 3) := by decide +kernel
theorem dX7_sweep_8 : decode cX7_sweep 8 = .ok (.aload_n 0, 1) := by decide +kernel
theorem dX7_sweep_9 : decode cX7_sweep 9 = .ok (.iload_n 1, 1) := by decide +kernel
theorem dX7_sweep_10 : decode cX7_sweep 10 = .ok (.iconst 1, 1) := by decide +kernel
theorem dX7_sweep_11 : decode cX7_sweep 11 = .ok (.isub, 1) := by decide +kernel
theorem dX7_sweep_12 : decode cX7_sweep 12 = .ok (.invokevirtual 116, 3) := by decide +kernel
theorem dX7_sweep_15 : decode cX7_sweep 15 = .ok (.goto 9, 3) := by decide +kernel
theorem dX7_sweep_18 : decode cX7_sweep 18 = .ok (.aload_n 0, 1) := by decide +kernel
theorem dX7_sweep_19 : decode cX7_sweep 19 = .ok (.bipush (-52), 2) := by decide +kernel
theorem dX7_sweep_21 : decode cX7_sweep 21 = .ok (.invokevirtual 127, 3) := by decide +kernel
theorem dX7_sweep_24 : decode cX7_sweep 24 = .ok (.ireturn, 1) := by decide +kernel
theorem dX7_manyPages_0 : decode cX7_manyPages 0 = .ok (.iconst 0, 1) := by decide +kernel
theorem dX7_manyPages_1 : decode cX7_manyPages 1 = .ok (.istore_n 1, 1) := by decide +kernel
theorem dX7_manyPages_2 : decode cX7_manyPages 2 = .ok (.iconst 0, 1) := by decide +kernel
theorem dX7_manyPages_3 : decode cX7_manyPages 3 = .ok (.istore_n 2, 1) := by decide +kernel
theorem dX7_manyPages_4 : decode cX7_manyPages 4 = .ok (.iload_n 2, 1) := by decide +kernel
theorem dX7_manyPages_5 : decode cX7_manyPages 5 = .ok (.bipush 64, 2) := by decide +kernel
theorem dX7_manyPages_7 : decode cX7_manyPages 7 = .ok (.if_icmp .ge 25, 3) := by decide +kernel
theorem dX7_manyPages_10 : decode cX7_manyPages 10 = .ok (.iload_n 1, 1) := by decide +kernel
