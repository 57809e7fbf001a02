theorem dX0_init_0 : decode cX0_init 0 = .ok (.aload_n 0, 1) := by decide +kernel
theorem dX0_init_1 : decode cX0_init 1 = .ok (.invokespecial 3, 3) := by decide +kernel
theorem dX0_init_4 : decode cX0_init 4 = .ok (.aload_n 0, 1) := by decide +kernel
theorem dX0_init_5 : decode cX0_init 5 = .ok (.iconst 1, 1) := by decide +kernel
theorem dX0_init_6 : decode cX0_init 6 = .ok (.putfield 9, 3) := by decide +kernel
theorem dX0_init_9 : decode cX0_init 9 = .ok (.return_, 1) := by decide +kernel
theorem dX0_takeFrom_0 : decode cX0_takeFrom 0 = .ok (.aload_n 0, 1) := by decide +kernel
theorem dX0_takeFrom_1 : decode cX0_takeFrom 1 = .ok (.aload_n 1, 1) := by decide +kernel
theorem dX0_takeFrom_2 : decode cX0_takeFrom 2 = .ok (.getfield 9, 3) := by decide +kernel
theorem dX0_takeFrom_5 : decode cX0_takeFrom 5 = .ok (.putfield 9, 3) := by decide +kernel
theorem dX0_takeFrom_8 : decode cX0_takeFrom 8 = .ok (.aload_n 0, 1) := by decide +kernel
theorem dX0_takeFrom_9 : decode cX0_takeFrom 9 = .ok (.aload_n 1, 1) := by decide +kernel
theorem dX0_takeFrom_10 : decode cX0_takeFrom 10 = .ok (.getfield 15, 3) := by decide +kernel
theorem dX0_takeFrom_13 : decode cX0_takeFrom 13 = .ok (.putfield 15, 3) := by decide +kernel
theorem dX0_takeFrom_16 : decode cX0_takeFrom 16 = .ok (.return_, 1) := by decide +kernel
theorem dX0_drawBelow_0 : decode cX0_drawBelow 0 = .ok (.aload_n 0, 1) := by decide +kernel
theorem dX0_drawBelow_1 : decode cX0_drawBelow 1 = .ok (.aload_n 0, 1) := by decide +kernel
theorem dX0_drawBelow_2 : decode cX0_drawBelow 2 = .ok (.getfield 9, 3) := by decide +kernel
theorem dX0_drawBelow_5 : decode cX0_drawBelow 5 = .ok (.ldc 18, 2) := by decide +kernel
theorem dX0_drawBelow_7 : decode cX0_drawBelow 7 = .ok (.imul, 1) := by decide +kernel
theorem dX0_drawBelow_8 : decode cX0_drawBelow 8 = .ok (.sipush 12345, 3) := by decide +kernel
theorem dX0_drawBelow_11 : decode cX0_drawBelow 11 = .ok (.iadd, 1) := by decide +kernel
theorem dX0_drawBelow_12 : decode cX0_drawBelow 12 = .ok (.putfield 9, 3) := by decide +kernel
theorem dX0_drawBelow_15 : decode cX0_drawBelow 15 = .ok (.iload_n 1, 1) := by decide +kernel
theorem dX0_drawBelow_16 : decode cX0_drawBelow 16 = .ok (.ifCond .le 15, 3) := by decide +kernel
theorem dX0_drawBelow_19 : decode cX0_drawBelow 19 = .ok (.aload_n 0, 1) := by decide +kernel
theorem dX0_drawBelow_20 : decode cX0_drawBelow 20 = .ok (.getfield 9, 3) := by decide +kernel
theorem dX0_drawBelow_23 : decode cX0_drawBelow 23 = .ok (.bipush 16, 2) := by decide +kernel
theorem dX0_drawBelow_25 : decode cX0_drawBelow 25 = .ok (.iushr, 1) := by decide +kernel
theorem dX0_drawBelow_26 : decode cX0_drawBelow 26 = .ok (.iload_n 1, 1) := by decide +kernel
theorem dX0_drawBelow_27 : decode cX0_drawBelow 27 = .ok (.irem, 1) := by decide +kernel
theorem dX0_drawBelow_28 : decode cX0_drawBelow 28 = .ok (.goto 4, 3) := by decide +kernel
theorem dX0_drawBelow_31 : decode cX0_drawBelow 31 = .ok (.iconst 0, 1) := by decide +kernel
theorem dX0_drawBelow_32 : decode cX0_drawBelow 32 = .ok (.ireturn, 1) := by decide +kernel
theorem dX0_drawPage_0 : decode cX0_drawPage 0 = .ok (.aload_n 0, 1) := by decide +kernel
theorem dX0_drawPage_1 : decode cX0_drawPage 1 = .ok (.aload_n 0, 1) := by decide +kernel
theorem dX0_drawPage_2 : decode cX0_drawPage 2 = .ok (.iconst 3, 1) := by decide +kernel
theorem dX0_drawPage_3 : decode cX0_drawPage 3 = .ok (.invokevirtual 19, 3) := by decide +kernel
theorem dX0_drawPage_6 : decode cX0_drawPage 6 = .ok (.ifCond .ne 12, 3) := by decide +kernel
theorem dX0_drawPage_9 : decode cX0_drawPage 9 = .ok (.aload_n 0, 1) := by decide +kernel
theorem dX0_drawPage_10 : decode cX0_drawPage 10 = .ok (.bipush 64, 2) := by decide +kernel
theorem dX0_drawPage_12 : decode cX0_drawPage 12 = .ok (.invokevirtual 19, 3) := by decide +kernel
theorem dX0_drawPage_15 : decode cX0_drawPage 15 = .ok (.goto 12, 3) := by decide +kernel
theorem dX0_drawPage_18 : decode cX0_drawPage 18 = .ok (.aload_n 0, 1) := by decide +kernel
theorem dX0_drawPage_19 : decode cX0_drawPage 19 = .ok (.getfield 15, 3) := by decide +kernel
theorem dX0_drawPage_22 : decode cX0_drawPage 22 = .ok (.iconst 1, 1) := by decide +kernel
theorem dX0_drawPage_23 : decode cX0_drawPage 23 = .ok (.iadd, 1) := by decide +kernel
theorem dX0_drawPage_24 : decode cX0_drawPage 24 = .ok (.bipush 64, 2) := by decide +kernel
theorem dX0_drawPage_26 : decode cX0_drawPage 26 = .ok (.irem, 1) := by decide +kernel
theorem dX0_drawPage_27 : decode cX0_drawPage 27 = .ok (.putfield 15, 3) := by decide +kernel
theorem dX0_drawPage_30 : decode cX0_drawPage 30 = .ok (.aload_n 0, 1) := by decide +kernel
theorem dX0_drawPage_31 : decode cX0_drawPage 31 = .ok (.getfield 15, 3) := by decide +kernel
theorem dX0_drawPage_34 : decode cX0_drawPage 34 = .ok (.ireturn, 1) := by decide +kernel
theorem dX1_init_0 : decode cX1_init 0 = .ok (.aload_n 0, 1) := by decide +kernel
theorem dX1_init_1 : decode cX1_init 1 = .ok (.invokespecial 3, 3) := by decide +kernel
theorem dX1_init_4 : decode cX1_init 4 = .ok (.aload_n 0, 1) := by decide +kernel
theorem dX1_init_5 : decode cX1_init 5 = .ok (.bipush 20, 2) := by decide +kernel
theorem dX1_init_7 : decode cX1_init 7 = .ok (.newarray .int, 2) := by decide +kernel
theorem dX1_init_9 : decode cX1_init 9 = .ok (.putfield 9, 3) := by decide +kernel
theorem dX1_init_12 : decode cX1_init 12 = .ok (.aload_n 0, 1) := by decide +kernel
theorem dX1_init_13 : decode cX1_init 13 = .ok (.bipush 20, 2) := by decide +kernel
theorem dX1_init_15 : decode cX1_init 15 = .ok (.newarray .int, 2) := by decide +kernel
theorem dX1_init_17 : decode cX1_init 17 = .ok (.putfield 15, 3) := by decide +kernel
theorem dX1_init_20 : decode cX1_init 20 = .ok (.aload_n 0, 1) := by decide +kernel
theorem dX1_init_21 : decode cX1_init 21 = .ok (.bipush 20, 2) := by decide +kernel
theorem dX1_init_23 : decode cX1_init 23 = .ok (.newarray .int, 2) := by decide +kernel
theorem dX1_init_25 : decode cX1_init 25 = .ok (.putfield 18, 3) := by decide +kernel
theorem dX1_init_28 : decode cX1_init 28 = .ok (.aload_n 0, 1) := by decide +kernel
theorem dX1_init_29 : decode cX1_init 29 = .ok (.bipush 20, 2) := by decide +kernel
theorem dX1_init_31 : decode cX1_init 31 = .ok (.newarray .int, 2) := by decide +kernel
theorem dX1_init_33 : decode cX1_init 33 = .ok (.putfield 21, 3) := by decide +kernel
theorem dX1_init_36 : decode cX1_init 36 = .ok (.aload_n 0, 1) := by decide +kernel
theorem dX1_init_37 : decode cX1_init 37 = .ok (.bipush 64, 2) := by decide +kernel
theorem dX1_init_39 : decode cX1_init 39 = .ok (.newarray .int, 2) := by decide +kernel
theorem dX1_init_41 : decode cX1_init 41 = .ok (.putfield 24, 3) := by decide +kernel
theorem dX1_init_44 : decode cX1_init 44 = .ok (.return_, 1) := by decide +kernel
theorem dX1_takeFrom_0 : decode cX1_takeFrom 0 = .ok (.aload_n 1, 1) := by decide +kernel
theorem dX1_takeFrom_1 : decode cX1_takeFrom 1 = .ok (.getfield 9, 3) := by decide +kernel
theorem dX1_takeFrom_4 : decode cX1_takeFrom 4 = .ok (.iconst 0, 1) := by decide +kernel
theorem dX1_takeFrom_5 : decode cX1_takeFrom 5 = .ok (.aload_n 0, 1) := by decide +kernel
theorem dX1_takeFrom_6 : decode cX1_takeFrom 6 = .ok (.getfield 9, 3) := by decide +kernel
theorem dX1_takeFrom_9 : decode cX1_takeFrom 9 = .ok (.iconst 0, 1) := by decide +kernel
theorem dX1_takeFrom_10 : decode cX1_takeFrom 10 = .ok (.bipush 20, 2) := by decide +kernel
theorem dX1_takeFrom_12 : decode cX1_takeFrom 12 = .ok (.invokestatic 27, 3) := by decide +kernel
theorem dX1_takeFrom_15 : decode cX1_takeFrom 15 = .ok (.aload_n 1, 1) := by decide +kernel
theorem dX1_takeFrom_16 : decode cX1_takeFrom 16 = .ok (.getfield 15, 3) := by decide +kernel
theorem dX1_takeFrom_19 : decode cX1_takeFrom 19 = .ok (.iconst 0, 1) := by decide +kernel
theorem dX1_takeFrom_20 : decode cX1_takeFrom 20 = .ok (.aload_n 0, 1) := by decide +kernel
theorem dX1_takeFrom_21 : decode cX1_takeFrom 21 = .ok (.getfield 15, 3) := by decide +kernel
theorem dX1_takeFrom_24 : decode cX1_takeFrom 24 = .ok (.iconst 0, 1) := by decide +kernel
theorem dX1_takeFrom_25 : decode cX1_takeFrom 25 = .ok (.bipush 20, 2) := by decide +kernel
theorem dX1_takeFrom_27 : decode cX1_takeFrom 27 = .ok (.invokestatic 27, 3) := by decide +kernel
theorem dX1_takeFrom_30 : decode cX1_takeFrom 30 = .ok (.aload_n 1, 1) := by decide +kernel
theorem dX1_takeFrom_31 : decode cX1_takeFrom 31 = .ok (.getfield 18, 3) := by decide +kernel
theorem dX1_takeFrom_34 : decode cX1_takeFrom 34 = .ok (.iconst 0, 1) := by decide +kernel
theorem dX1_takeFrom_35 : decode cX1_takeFrom 35 = .ok (.aload_n 0, 1) := by decide +kernel
theorem dX1_takeFrom_36 : decode cX1_takeFrom 36 = .ok (.getfield 18, 3) := by decide +kernel
theorem dX1_takeFrom_39 : decode cX1_takeFrom 39 = .ok (.iconst 0, 1) := by decide +kernel
theorem dX1_takeFrom_40 : decode cX1_takeFrom 40 = .ok (.bipush 20, 2) := by decide +kernel
theorem dX1_takeFrom_42 : decode cX1_takeFrom 42 = .ok (.invokestatic 27, 3) := by decide +kernel
theorem dX1_takeFrom_45 : decode cX1_takeFrom 45 = .ok (.aload_n 1, 1) := by decide +kernel
theorem dX1_takeFrom_46 : decode cX1_takeFrom 46 = .ok (.getfield 21, 3) := by decide +kernel
theorem dX1_takeFrom_49 : decode cX1_takeFrom 49 = .ok (.iconst 0, 1) := by decide +kernel
theorem dX1_takeFrom_50 : decode cX1_takeFrom 50 = .ok (.aload_n 0, 1) := by decide +kernel
theorem dX1_takeFrom_51 : decode cX1_takeFrom 51 = .ok (.getfield 21, 3) := by decide +kernel
theorem dX1_takeFrom_54 : decode cX1_takeFrom 54 = .ok (.iconst 0, 1) := by decide +kernel
theorem dX1_takeFrom_55 : decode cX1_takeFrom 55 = .ok (.bipush 20, 2) := by decide +kernel
theorem dX1_takeFrom_57 : decode cX1_takeFrom 57 = .ok (.invokestatic 27, 3) := by decide +kernel
theorem dX1_takeFrom_60 : decode cX1_takeFrom 60 = .ok (.aload_n 1, 1) := by decide +kernel
theorem dX1_takeFrom_61 : decode cX1_takeFrom 61 = .ok (.getfield 24, 3) := by decide +kernel
theorem dX1_takeFrom_64 : decode cX1_takeFrom 64 = .ok (.iconst 0, 1) := by decide +kernel
theorem dX1_takeFrom_65 : decode cX1_takeFrom 65 = .ok (.aload_n 0, 1) := by decide +kernel
theorem dX1_takeFrom_66 : decode cX1_takeFrom 66 = .ok (.getfield 24, 3) := by decide +kernel
theorem dX1_takeFrom_69 : decode cX1_takeFrom 69 = .ok (.iconst 0, 1) := by decide +kernel
theorem dX1_takeFrom_70 : decode cX1_takeFrom 70 = .ok (.bipush 64, 2) := by decide +kernel
theorem dX1_takeFrom_72 : decode cX1_takeFrom 72 = .ok (.invokestatic 27, 3) := by decide +kernel
theorem dX1_takeFrom_75 : decode cX1_takeFrom 75 = .ok (.return_, 1) := by decide +kernel
theorem dX1_note_0 : decode cX1_note 0 = .ok (.iload_n 1, 1) := by decide +kernel
theorem dX1_note_1 : decode cX1_note 1 = .ok (.bipush 20, 2) := by decide +kernel
theorem dX1_note_3 : decode cX1_note 3 = .ok (.invokestatic 33, 3) := by decide +kernel
theorem dX1_note_6 : decode cX1_note 6 = .ok (.istore 6, 2) := by decide +kernel
theorem dX1_note_8 : decode cX1_note 8 = .ok (.iload 6, 2) := by decide +kernel
theorem dX1_note_10 : decode cX1_note 10 = .ok (.iconst 0, 1) := by decide +kernel
theorem dX1_note_11 : decode cX1_note 11 = .ok (.bipush 19, 2) := by decide +kernel
theorem dX1_note_13 : decode cX1_note 13 = .ok (.invokestatic 39, 3) := by decide +kernel
theorem dX1_note_16 : decode cX1_note 16 = .ok (.ifCond .eq 45, 3) := by decide +kernel
theorem dX1_note_19 : decode cX1_note 19 = .ok (.aload_n 0, 1) := by decide +kernel
theorem dX1_note_20 : decode cX1_note 20 = .ok (.getfield 9, 3) := by decide +kernel
theorem dX1_note_23 : decode cX1_note 23 = .ok (.iload 6, 2) := by decide +kernel
theorem dX1_note_25 : decode cX1_note 25 = .ok (.iload_n 2, 1) := by decide +kernel
theorem dX1_note_26 : decode cX1_note 26 = .ok (.iastore, 1) := by decide +kernel
theorem dX1_note_27 : decode cX1_note 27 = .ok (.aload_n 0, 1) := by decide +kernel
theorem dX1_note_28 : decode cX1_note 28 = .ok (.getfield 15, 3) := by decide +kernel
theorem dX1_note_31 : decode cX1_note 31 = .ok (.iload 6, 2) := by decide +kernel
theorem dX1_note_33 : decode cX1_note 33 = .ok (.iload_n 3, 1) := by decide +kernel
theorem dX1_note_34 : decode cX1_note 34 = .ok (.ifCond .eq 7, 3) := by decide +kernel
theorem dX1_note_37 : decode cX1_note 37 = .ok (.iconst 1, 1) := by decide +kernel
theorem dX1_note_38 : decode cX1_note 38 = .ok (.goto 4, 3) := by decide +kernel
theorem dX1_note_41 : decode cX1_note 41 = .ok (.iconst 0, 1) := by decide +kernel
theorem dX1_note_42 : decode cX1_note 42 = .ok (.iastore, 1) := by decide +kernel
theorem dX1_note_43 : decode cX1_note 43 = .ok (.aload_n 0, 1) := by decide +kernel
theorem dX1_note_44 : decode cX1_note 44 = .ok (.getfield 18, 3) := by decide +kernel
theorem dX1_note_47 : decode cX1_note 47 = .ok (.iload 6, 2) := by decide +kernel
theorem dX1_note_49 : decode cX1_note 49 = .ok (.iload 4, 2) := by decide +kernel
theorem dX1_note_51 : decode cX1_note 51 = .ok (.iastore, 1) := by decide +kernel
theorem dX1_note_52 : decode cX1_note 52 = .ok (.aload_n 0, 1) := by decide +kernel
theorem dX1_note_53 : decode cX1_note 53 = .ok (.getfield 21, 3) := by decide +kernel
theorem dX1_note_56 : decode cX1_note 56 = .ok (.iload 6, 2) := by decide +kernel
theorem dX1_note_58 : decode cX1_note 58 = .ok (.iload 5, 2) := by decide +kernel
theorem dX1_note_60 : decode cX1_note 60 = .ok (.iastore, 1) := by decide +kernel
theorem dX1_note_61 : decode cX1_note 61 = .ok (.iload_n 2, 1) := by decide +kernel
theorem dX1_note_62 : decode cX1_note 62 = .ok (.invokestatic 43, 3) := by decide +kernel
theorem dX1_note_65 : decode cX1_note 65 = .ok (.ifCond .eq 13, 3) := by decide +kernel
theorem dX1_note_68 : decode cX1_note 68 = .ok (.aload_n 0, 1) := by decide +kernel
theorem dX1_note_69 : decode cX1_note 69 = .ok (.getfield 24, 3) := by decide +kernel
theorem dX1_note_72 : decode cX1_note 72 = .ok (.iload_n 2, 1) := by decide +kernel
theorem dX1_note_73 : decode cX1_note 73 = .ok (.dup2, 1) := by decide +kernel
theorem dX1_note_74 : decode cX1_note 74 = .ok (.iaload, 1) := by decide +kernel
theorem dX1_note_75 : decode cX1_note 75 = .ok (.iconst 1, 1) := by decide +kernel
theorem dX1_note_76 : decode cX1_note 76 = .ok (.iadd, 1) := by decide +kernel
theorem dX1_note_77 : decode cX1_note 77 = .ok (.iastore, 1) := by decide +kernel
theorem dX1_note_78 : decode cX1_note 78 = .ok (.return_, 1) := by decide +kernel
theorem dX1_tells_0 : decode cX1_tells 0 = .ok (.iload_n 1, 1) := by decide +kernel
theorem dX1_tells_1 : decode cX1_tells 1 = .ok (.bipush 20, 2) := by decide +kernel
theorem dX1_tells_3 : decode cX1_tells 3 = .ok (.invokestatic 33, 3) := by decide +kernel
theorem dX1_tells_6 : decode cX1_tells 6 = .ok (.istore_n 3, 1) := by decide +kernel
theorem dX1_tells_7 : decode cX1_tells 7 = .ok (.iload_n 3, 1) := by decide +kernel
theorem dX1_tells_8 : decode cX1_tells 8 = .ok (.iconst 0, 1) := by decide +kernel
theorem dX1_tells_9 : decode cX1_tells 9 = .ok (.bipush 19, 2) := by decide +kernel
theorem dX1_tells_11 : decode cX1_tells 11 = .ok (.invokestatic 39, 3) := by decide +kernel
theorem dX1_tells_14 : decode cX1_tells 14 = .ok (.ifCond .ne 5, 3) := by decide +kernel
theorem dX1_tells_17 : decode cX1_tells 17 = .ok (.iconst (-1), 1) := by decide +kernel
theorem dX1_tells_18 : decode cX1_tells 18 = .ok (.ireturn, 1) := by decide +kernel
theorem dX1_tells_19 : decode cX1_tells 19 = .ok (.iload_n 2, 1) := by decide +kernel
theorem dX1_tells_20 : decode cX1_tells 20 = .ok (.tableswitch 49 0 2 #[28, 35, 42], 28) := by decide +kernel
theorem dX1_tells_48 : decode cX1_tells 48 = .ok (.aload_n 0, 1) := by decide +kernel
theorem dX1_tells_49 : decode cX1_tells 49 = .ok (.getfield 9, 3) := by decide +kernel
theorem dX1_tells_52 : decode cX1_tells 52 = .ok (.iload_n 3, 1) := by decide +kernel
theorem dX1_tells_53 : decode cX1_tells 53 = .ok (.iaload, 1) := by decide +kernel
theorem dX1_tells_54 : decode cX1_tells 54 = .ok (.ireturn, 1) := by decide +kernel
theorem dX1_tells_55 : decode cX1_tells 55 = .ok (.aload_n 0, 1) := by decide +kernel
theorem dX1_tells_56 : decode cX1_tells 56 = .ok (.getfield 15, 3) := by decide +kernel
theorem dX1_tells_59 : decode cX1_tells 59 = .ok (.iload_n 3, 1) := by decide +kernel
theorem dX1_tells_60 : decode cX1_tells 60 = .ok (.iaload, 1) := by decide +kernel
theorem dX1_tells_61 : decode cX1_tells 61 = .ok (.ireturn, 1) := by decide +kernel
theorem dX1_tells_62 : decode cX1_tells 62 = .ok (.aload_n 0, 1) := by decide +kernel
theorem dX1_tells_63 : decode cX1_tells 63 = .ok (.getfield 18, 3) := by decide +kernel
theorem dX1_tells_66 : decode cX1_tells 66 = .ok (.iload_n 3, 1) := by decide +kernel
theorem dX1_tells_67 : decode cX1_tells 67 = .ok (.iaload, 1) := by decide +kernel
theorem dX1_tells_68 : decode cX1_tells 68 = .ok (.ireturn, 1) := by decide +kernel
theorem dX1_tells_69 : decode cX1_tells 69 = .ok (.aload_n 0, 1) := by decide +kernel
theorem dX1_tells_70 : decode cX1_tells 70 = .ok (.getfield 21, 3) := by decide +kernel
theorem dX1_tells_73 : decode cX1_tells 73 = .ok (.iload_n 3, 1) := by decide +kernel
theorem dX1_tells_74 : decode cX1_tells 74 = .ok (.iaload, 1) := by decide +kernel
theorem dX1_tells_75 : decode cX1_tells 75 = .ok (.ireturn, 1) := by decide +kernel
theorem dX1_timesOf_0 : decode cX1_timesOf 0 = .ok (.iload_n 1, 1) := by decide +kernel
theorem dX1_timesOf_1 : decode cX1_timesOf 1 = .ok (.invokestatic 43, 3) := by decide +kernel
theorem dX1_timesOf_4 : decode cX1_timesOf 4 = .ok (.ifCond .eq 12, 3) := by decide +kernel
theorem dX1_timesOf_7 : decode cX1_timesOf 7 = .ok (.aload_n 0, 1) := by decide +kernel
theorem dX1_timesOf_8 : decode cX1_timesOf 8 = .ok (.getfield 24, 3) := by decide +kernel
theorem dX1_timesOf_11 : decode cX1_timesOf 11 = .ok (.iload_n 1, 1) := by decide +kernel
theorem dX1_timesOf_12 : decode cX1_timesOf 12 = .ok (.iaload, 1) := by decide +kernel
theorem dX1_timesOf_13 : decode cX1_timesOf 13 = .ok (.goto 4, 3) := by decide +kernel
theorem dX1_timesOf_16 : decode cX1_timesOf 16 = .ok (.iconst 0, 1) := by decide +kernel
theorem dX1_timesOf_17 : decode cX1_timesOf 17 = .ok (.ireturn, 1) := by decide +kernel
theorem dX2_init_0 : decode cX2_init 0 = .ok (.aload_n 0, 1) := by decide +kernel
theorem dX2_init_1 : decode cX2_init 1 = .ok (.invokespecial 3, 3) := by decide +kernel
theorem dX2_init_4 : decode cX2_init 4 = .ok (.aload_n 0, 1) := by decide +kernel
theorem dX2_init_5 : decode cX2_init 5 = .ok (.bipush 16, 2) := by decide +kernel
theorem dX2_init_7 : decode cX2_init 7 = .ok (.newarray .int, 2) := by decide +kernel
theorem dX2_init_9 : decode cX2_init 9 = .ok (.putfield 9, 3) := by decide +kernel
theorem dX2_init_12 : decode cX2_init 12 = .ok (.aload_n 0, 1) := by decide +kernel
theorem dX2_init_13 : decode cX2_init 13 = .ok (.bipush 16, 2) := by decide +kernel
theorem dX2_init_15 : decode cX2_init 15 = .ok (.newarray .int, 2) := by decide +kernel
theorem dX2_init_17 : decode cX2_init 17 = .ok (.putfield 15, 3) := by decide +kernel
theorem dX2_init_20 : decode cX2_init 20 = .ok (.aload_n 0, 1) := by decide +kernel
theorem dX2_init_21 : decode cX2_init 21 = .ok (.bipush 16, 2) := by decide +kernel
theorem dX2_init_23 : decode cX2_init 23 = .ok (.newarray .boolean, 2) := by decide +kernel
theorem dX2_init_25 : decode cX2_init 25 = .ok (.putfield 18, 3) := by decide +kernel
theorem dX2_init_28 : decode cX2_init 28 = .ok (.aload_n 0, 1) := by decide +kernel
theorem dX2_init_29 : decode cX2_init 29 = .ok (.bipush 16, 2) := by decide +kernel
theorem dX2_init_31 : decode cX2_init 31 = .ok (.newarray .int, 2) := by decide +kernel
theorem dX2_init_33 : decode cX2_init 33 = .ok (.putfield 22, 3) := by decide +kernel
theorem dX2_init_36 : decode cX2_init 36 = .ok (.aload_n 0, 1) := by decide +kernel
theorem dX2_init_37 : decode cX2_init 37 = .ok (.bipush 16, 2) := by decide +kernel
theorem dX2_init_39 : decode cX2_init 39 = .ok (.newarray .int, 2) := by decide +kernel
theorem dX2_init_41 : decode cX2_init 41 = .ok (.putfield 25, 3) := by decide +kernel
theorem dX2_init_44 : decode cX2_init 44 = .ok (.aload_n 0, 1) := by decide +kernel
theorem dX2_init_45 : decode cX2_init 45 = .ok (.bipush 16, 2) := by decide +kernel
theorem dX2_init_47 : decode cX2_init 47 = .ok (.newarray .int, 2) := by decide +kernel
theorem dX2_init_49 : decode cX2_init 49 = .ok (.putfield 28, 3) := by decide +kernel
theorem dX2_init_52 : decode cX2_init 52 = .ok (.aload_n 0, 1) := by decide +kernel
theorem dX2_init_53 : decode cX2_init 53 = .ok (.bipush 16, 2) := by decide +kernel
theorem dX2_init_55 : decode cX2_init 55 = .ok (.newarray .boolean, 2) := by decide +kernel
theorem dX2_init_57 : decode cX2_init 57 = .ok (.putfield 31, 3) := by decide +kernel
theorem dX2_init_60 : decode cX2_init 60 = .ok (.aload_n 0, 1) := by decide +kernel
theorem dX2_init_61 : decode cX2_init 61 = .ok (.bipush 64, 2) := by decide +kernel
theorem dX2_init_63 : decode cX2_init 63 = .ok (.newarray .int, 2) := by decide +kernel
theorem dX2_init_65 : decode cX2_init 65 = .ok (.putfield 34, 3) := by decide +kernel
theorem dX2_init_68 : decode cX2_init 68 = .ok (.return_, 1) := by decide +kernel
theorem dX2_begin_0 : decode cX2_begin 0 = .ok (.aload_n 0, 1) := by decide +kernel
theorem dX2_begin_1 : decode cX2_begin 1 = .ok (.iload_n 1, 1) := by decide +kernel
theorem dX2_begin_2 : decode cX2_begin 2 = .ok (.putfield 37, 3) := by decide +kernel
theorem dX2_begin_5 : decode cX2_begin 5 = .ok (.aload_n 0, 1) := by decide +kernel
theorem dX2_begin_6 : decode cX2_begin 6 = .ok (.iload_n 2, 1) := by decide +kernel
theorem dX2_begin_7 : decode cX2_begin 7 = .ok (.putfield 41, 3) := by decide +kernel
theorem dX2_begin_10 : decode cX2_begin 10 = .ok (.aload_n 0, 1) := by decide +kernel
theorem dX2_begin_11 : decode cX2_begin 11 = .ok (.iload_n 3, 1) := by decide +kernel
theorem dX2_begin_12 : decode cX2_begin 12 = .ok (.putfield 44, 3) := by decide +kernel
theorem dX2_begin_15 : decode cX2_begin 15 = .ok (.aload_n 0, 1) := by decide +kernel
theorem dX2_begin_16 : decode cX2_begin 16 = .ok (.iconst 0, 1) := by decide +kernel
theorem dX2_begin_17 : decode cX2_begin 17 = .ok (.putfield 47, 3) := by decide +kernel
theorem dX2_begin_20 : decode cX2_begin 20 = .ok (.aload_n 0, 1) := by decide +kernel
theorem dX2_begin_21 : decode cX2_begin 21 = .ok (.iconst 0, 1) := by decide +kernel
theorem dX2_begin_22 : decode cX2_begin 22 = .ok (.putfield 50, 3) := by decide +kernel
theorem dX2_begin_25 : decode cX2_begin 25 = .ok (.aload_n 0, 1) := by decide +kernel
theorem dX2_begin_26 : decode cX2_begin 26 = .ok (.iconst 0, 1) := by decide +kernel
theorem dX2_begin_27 : decode cX2_begin 27 = .ok (.putfield 53, 3) := by decide +kernel
theorem dX2_begin_30 : decode cX2_begin 30 = .ok (.aload_n 0, 1) := by decide +kernel
theorem dX2_begin_31 : decode cX2_begin 31 = .ok (.iconst 0, 1) := by decide +kernel
theorem dX2_begin_32 : decode cX2_begin 32 = .ok (.putfield 56, 3) := by decide +kernel
theorem dX2_begin_35 : decode cX2_begin 35 = .ok (.aload_n 0, 1) := by decide +kernel
theorem dX2_begin_36 : decode cX2_begin 36 = .ok (.iconst 0, 1) := by decide +kernel
theorem dX2_begin_37 : decode cX2_begin 37 = .ok (.putfield 59, 3) := by decide +kernel
theorem dX2_begin_40 : decode cX2_begin 40 = .ok (.aload_n 0, 1) := by decide +kernel
theorem dX2_begin_41 : decode cX2_begin 41 = .ok (.iconst 0, 1) := by decide +kernel
theorem dX2_begin_42 : decode cX2_begin 42 = .ok (.putfield 62, 3) := by decide +kernel
theorem dX2_begin_45 : decode cX2_begin 45 = .ok (.aload_n 0, 1) := by decide +kernel
theorem dX2_begin_46 : decode cX2_begin 46 = .ok (.invokevirtual 65, 3) := by decide +kernel
theorem dX2_begin_49 : decode cX2_begin 49 = .ok (.return_, 1) := by decide +kernel
theorem dX2_holdNothing_0 : decode cX2_holdNothing 0 = .ok (.aload_n 0, 1) := by decide +kernel
theorem dX2_holdNothing_1 : decode cX2_holdNothing 1 = .ok (.iconst 0, 1) := by decide +kernel
theorem dX2_holdNothing_2 : decode cX2_holdNothing 2 = .ok (.putfield 68, 3) := by decide +kernel
theorem dX2_holdNothing_5 : decode cX2_holdNothing 5 = .ok (.aload_n 0, 1) := by decide +kernel
theorem dX2_holdNothing_6 : decode cX2_holdNothing 6 = .ok (.iconst 0, 1) := by decide +kernel
theorem dX2_holdNothing_7 : decode cX2_holdNothing 7 = .ok (.putfield 71, 3) := by decide +kernel
theorem dX2_holdNothing_10 : decode cX2_holdNothing 10 = .ok (.iconst 0, 1) := by decide +kernel
theorem dX2_holdNothing_11 : decode cX2_holdNothing 11 = .ok (.istore_n 1, 1) := by decide +kernel
theorem dX2_holdNothing_12 : decode cX2_holdNothing 12 = .ok (.iload_n 1, 1) := by decide +kernel
theorem dX2_holdNothing_13 : decode cX2_holdNothing 13 = .ok (.bipush 16, 2) := by decide +kernel
theorem dX2_holdNothing_15 : decode cX2_holdNothing 15 = .ok (.if_icmp .ge 30, 3) := by decide +kernel
theorem dX2_holdNothing_18 : decode cX2_holdNothing 18 = .ok (.aload_n 0, 1) := by decide +kernel
theorem dX2_holdNothing_19 : decode cX2_holdNothing 19 = .ok (.getfield 9, 3) := by decide +kernel
theorem dX2_holdNothing_22 : decode cX2_holdNothing 22 = .ok (.iload_n 1, 1) := by decide +kernel
theorem dX2_holdNothing_23 : decode cX2_holdNothing 23 = .ok (.iconst (-1), 1) := by decide +kernel
theorem dX2_holdNothing_24 : decode cX2_holdNothing 24 = .ok (.iastore, 1) := by decide +kernel
theorem dX2_holdNothing_25 : decode cX2_holdNothing 25 = .ok (.aload_n 0, 1) := by decide +kernel
theorem dX2_holdNothing_26 : decode cX2_holdNothing 26 = .ok (.getfield 18, 3) := by decide +kernel
theorem dX2_holdNothing_29 : decode cX2_holdNothing 29 = .ok (.iload_n 1, 1) := by decide +kernel
theorem dX2_holdNothing_30 : decode cX2_holdNothing 30 = .ok (.iconst 0, 1) := by decide +kernel
theorem dX2_holdNothing_31 : decode cX2_holdNothing 31 = .ok (.bastore, 1) := by decide +kernel
theorem dX2_holdNothing_32 : decode cX2_holdNothing 32 = .ok (.aload_n 0, 1) := by decide +kernel
theorem dX2_holdNothing_33 : decode cX2_holdNothing 33 = .ok (.getfield 31, 3) := by decide +kernel
theorem dX2_holdNothing_36 : decode cX2_holdNothing 36 = .ok (.iload_n 1, 1) := by decide +kernel
theorem dX2_holdNothing_37 : decode cX2_holdNothing 37 = .ok (.iconst 0, 1) := by decide +kernel
theorem dX2_holdNothing_38 : decode cX2_holdNothing 38 = .ok (.bastore, 1) := by decide +kernel
theorem dX2_holdNothing_39 : decode cX2_holdNothing 39 = .ok (.iinc 1 1, 3) := by decide +kernel
theorem dX2_holdNothing_42 : decode cX2_holdNothing 42 = .ok (.goto (-30), 3) := by decide +kernel
theorem dX2_holdNothing_45 : decode cX2_holdNothing 45 = .ok (.iconst 0, 1) := by decide +kernel
theorem dX2_holdNothing_46 : decode cX2_holdNothing 46 = .ok (.istore_n 1, 1) := by decide +kernel
theorem dX2_holdNothing_47 : decode cX2_holdNothing 47 = .ok (.iload_n 1, 1) := by decide +kernel
theorem dX2_holdNothing_48 : decode cX2_holdNothing 48 = .ok (.bipush 64, 2) := by decide +kernel
theorem dX2_holdNothing_50 : decode cX2_holdNothing 50 = .ok (.if_icmp .ge 16, 3) := by decide +kernel
theorem dX2_holdNothing_53 : decode cX2_holdNothing 53 = .ok (.aload_n 0, 1) := by decide +kernel
theorem dX2_holdNothing_54 : decode cX2_holdNothing 54 = .ok (.getfield 34, 3) := by decide +kernel
theorem dX2_holdNothing_57 : decode cX2_holdNothing 57 = .ok (.iload_n 1, 1) := by decide +kernel
theorem dX2_holdNothing_58 : decode cX2_holdNothing 58 = .ok (.iconst (-1), 1) := by decide +kernel
theorem dX2_holdNothing_59 : decode cX2_holdNothing 59 = .ok (.iastore, 1) := by decide +kernel
theorem dX2_holdNothing_60 : decode cX2_holdNothing 60 = .ok (.iinc 1 1, 3) := by decide +kernel
theorem dX2_holdNothing_63 : decode cX2_holdNothing 63 = .ok (.goto (-16), 3) := by decide +kernel
theorem dX2_holdNothing_66 : decode cX2_holdNothing 66 = .ok (.return_, 1) := by decide +kernel
theorem dX2_takeFrom_0 : decode cX2_takeFrom 0 = .ok (.aload_n 0, 1) := by decide +kernel
theorem dX2_takeFrom_1 : decode cX2_takeFrom 1 = .ok (.aload_n 1, 1) := by decide +kernel
theorem dX2_takeFrom_2 : decode cX2_takeFrom 2 = .ok (.getfield 37, 3) := by decide +kernel
theorem dX2_takeFrom_5 : decode cX2_takeFrom 5 = .ok (.putfield 37, 3) := by decide +kernel
theorem dX2_takeFrom_8 : decode cX2_takeFrom 8 = .ok (.aload_n 0, 1) := by decide +kernel
theorem dX2_takeFrom_9 : decode cX2_takeFrom 9 = .ok (.aload_n 1, 1) := by decide +kernel
theorem dX2_takeFrom_10 : decode cX2_takeFrom 10 = .ok (.getfield 41, 3) := by decide +kernel
theorem dX2_takeFrom_13 : decode cX2_takeFrom 13 = .ok (.putfield 41, 3) := by decide +kernel
theorem dX2_takeFrom_16 : decode cX2_takeFrom 16 = .ok (.aload_n 0, 1) := by decide +kernel
theorem dX2_takeFrom_17 : decode cX2_takeFrom 17 = .ok (.aload_n 1, 1) := by decide +kernel
theorem dX2_takeFrom_18 : decode cX2_takeFrom 18 = .ok (.getfield 44, 3) := by decide +kernel
theorem dX2_takeFrom_21 : decode cX2_takeFrom 21 = .ok (.putfield 44, 3) := by decide +kernel
theorem dX2_takeFrom_24 : decode cX2_takeFrom 24 = .ok (.aload_n 0, 1) := by decide +kernel
theorem dX2_takeFrom_25 : decode cX2_takeFrom 25 = .ok (.aload_n 1, 1) := by decide +kernel
theorem dX2_takeFrom_26 : decode cX2_takeFrom 26 = .ok (.getfield 68, 3) := by decide +kernel
theorem dX2_takeFrom_29 : decode cX2_takeFrom 29 = .ok (.putfield 68, 3) := by decide +kernel
theorem dX2_takeFrom_32 : decode cX2_takeFrom 32 = .ok (.aload_n 0, 1) := by decide +kernel
theorem dX2_takeFrom_33 : decode cX2_takeFrom 33 = .ok (.aload_n 1, 1) := by decide +kernel
theorem dX2_takeFrom_34 : decode cX2_takeFrom 34 = .ok (.getfield 47, 3) := by decide +kernel
theorem dX2_takeFrom_37 : decode cX2_takeFrom 37 = .ok (.putfield 47, 3) := by decide +kernel
theorem dX2_takeFrom_40 : decode cX2_takeFrom 40 = .ok (.aload_n 0, 1) := by decide +kernel
theorem dX2_takeFrom_41 : decode cX2_takeFrom 41 = .ok (.aload_n 1, 1) := by decide +kernel
theorem dX2_takeFrom_42 : decode cX2_takeFrom 42 = .ok (.getfield 50, 3) := by decide +kernel
theorem dX2_takeFrom_45 : decode cX2_takeFrom 45 = .ok (.putfield 50, 3) := by decide +kernel
theorem dX2_takeFrom_48 : decode cX2_takeFrom 48 = .ok (.aload_n 0, 1) := by decide +kernel
theorem dX2_takeFrom_49 : decode cX2_takeFrom 49 = .ok (.aload_n 1, 1) := by decide +kernel
theorem dX2_takeFrom_50 : decode cX2_takeFrom 50 = .ok (.getfield 53, 3) := by decide +kernel
theorem dX2_takeFrom_53 : decode cX2_takeFrom 53 = .ok (.putfield 53, 3) := by decide +kernel
theorem dX2_takeFrom_56 : decode cX2_takeFrom 56 = .ok (.aload_n 0, 1) := by decide +kernel
theorem dX2_takeFrom_57 : decode cX2_takeFrom 57 = .ok (.aload_n 1, 1) := by decide +kernel
theorem dX2_takeFrom_58 : decode cX2_takeFrom 58 = .ok (.getfield 56, 3) := by decide +kernel
theorem dX2_takeFrom_61 : decode cX2_takeFrom 61 = .ok (.putfield 56, 3) := by decide +kernel
theorem dX2_takeFrom_64 : decode cX2_takeFrom 64 = .ok (.aload_n 0, 1) := by decide +kernel
theorem dX2_takeFrom_65 : decode cX2_takeFrom 65 = .ok (.aload_n 1, 1) := by decide +kernel
theorem dX2_takeFrom_66 : decode cX2_takeFrom 66 = .ok (.getfield 59, 3) := by decide +kernel
theorem dX2_takeFrom_69 : decode cX2_takeFrom 69 = .ok (.putfield 59, 3) := by decide +kernel
theorem dX2_takeFrom_72 : decode cX2_takeFrom 72 = .ok (.aload_n 0, 1) := by decide +kernel
theorem dX2_takeFrom_73 : decode cX2_takeFrom 73 = .ok (.aload_n 1, 1) := by decide +kernel
theorem dX2_takeFrom_74 : decode cX2_takeFrom 74 = .ok (.getfield 62, 3) := by decide +kernel
theorem dX2_takeFrom_77 : decode cX2_takeFrom 77 = .ok (.putfield 62, 3) := by decide +kernel
theorem dX2_takeFrom_80 : decode cX2_takeFrom 80 = .ok (.aload_n 0, 1) := by decide +kernel
theorem dX2_takeFrom_81 : decode cX2_takeFrom 81 = .ok (.aload_n 1, 1) := by decide +kernel
theorem dX2_takeFrom_82 : decode cX2_takeFrom 82 = .ok (.getfield 71, 3) := by decide +kernel
theorem dX2_takeFrom_85 : decode cX2_takeFrom 85 = .ok (.putfield 71, 3) := by decide +kernel
theorem dX2_takeFrom_88 : decode cX2_takeFrom 88 = .ok (.aload_n 1, 1) := by decide +kernel
theorem dX2_takeFrom_89 : decode cX2_takeFrom 89 = .ok (.getfield 9, 3) := by decide +kernel
theorem dX2_takeFrom_92 : decode cX2_takeFrom 92 = .ok (.iconst 0, 1) := by decide +kernel
theorem dX2_takeFrom_93 : decode cX2_takeFrom 93 = .ok (.aload_n 0, 1) := by decide +kernel
theorem dX2_takeFrom_94 : decode cX2_takeFrom 94 = .ok (.getfield 9, 3) := by decide +kernel
theorem dX2_takeFrom_97 : decode cX2_takeFrom 97 = .ok (.iconst 0, 1) := by decide +kernel
theorem dX2_takeFrom_98 : decode cX2_takeFrom 98 = .ok (.bipush 16, 2) := by decide +kernel
theorem dX2_takeFrom_100 : decode cX2_takeFrom 100 = .ok (.invokestatic 74, 3) := by decide +kernel
theorem dX2_takeFrom_103 : decode cX2_takeFrom 103 = .ok (.aload_n 1, 1) := by decide +kernel
theorem dX2_takeFrom_104 : decode cX2_takeFrom 104 = .ok (.getfield 15, 3) := by decide +kernel
theorem dX2_takeFrom_107 : decode cX2_takeFrom 107 = .ok (.iconst 0, 1) := by decide +kernel
theorem dX2_takeFrom_108 : decode cX2_takeFrom 108 = .ok (.aload_n 0, 1) := by decide +kernel
theorem dX2_takeFrom_109 : decode cX2_takeFrom 109 = .ok (.getfield 15, 3) := by decide +kernel
theorem dX2_takeFrom_112 : decode cX2_takeFrom 112 = .ok (.iconst 0, 1) := by decide +kernel
theorem dX2_takeFrom_113 : decode cX2_takeFrom 113 = .ok (.bipush 16, 2) := by decide +kernel
theorem dX2_takeFrom_115 : decode cX2_takeFrom 115 = .ok (.invokestatic 74, 3) := by decide +kernel
theorem dX2_takeFrom_118 : decode cX2_takeFrom 118 = .ok (.aload_n 1, 1) := by decide +kernel
theorem dX2_takeFrom_119 : decode cX2_takeFrom 119 = .ok (.getfield 22, 3) := by decide +kernel
theorem dX2_takeFrom_122 : decode cX2_takeFrom 122 = .ok (.iconst 0, 1) := by decide +kernel
theorem dX2_takeFrom_123 : decode cX2_takeFrom 123 = .ok (.aload_n 0, 1) := by decide +kernel
theorem dX2_takeFrom_124 : decode cX2_takeFrom 124 = .ok (.getfield 22, 3) := by decide +kernel
theorem dX2_takeFrom_127 : decode cX2_takeFrom 127 = .ok (.iconst 0, 1) := by decide +kernel
theorem dX2_takeFrom_128 : decode cX2_takeFrom 128 = .ok (.bipush 16, 2) := by decide +kernel
theorem dX2_takeFrom_130 : decode cX2_takeFrom 130 = .ok (.invokestatic 74, 3) := by decide +kernel
theorem dX2_takeFrom_133 : decode cX2_takeFrom 133 = .ok (.aload_n 1, 1) := by decide +kernel
theorem dX2_takeFrom_134 : decode cX2_takeFrom 134 = .ok (.getfield 25, 3) := by decide +kernel
theorem dX2_takeFrom_137 : decode cX2_takeFrom 137 = .ok (.iconst 0, 1) := by decide +kernel
theorem dX2_takeFrom_138 : decode cX2_takeFrom 138 = .ok (.aload_n 0, 1) := by decide +kernel
theorem dX2_takeFrom_139 : decode cX2_takeFrom 139 = .ok (.getfield 25, 3) := by decide +kernel
theorem dX2_takeFrom_142 : decode cX2_takeFrom 142 = .ok (.iconst 0, 1) := by decide +kernel
theorem dX2_takeFrom_143 : decode cX2_takeFrom 143 = .ok (.bipush 16, 2) := by decide +kernel
theorem dX2_takeFrom_145 : decode cX2_takeFrom 145 = .ok (.invokestatic 74, 3) := by decide +kernel
theorem dX2_takeFrom_148 : decode cX2_takeFrom 148 = .ok (.aload_n 1, 1) := by decide +kernel
theorem dX2_takeFrom_149 : decode cX2_takeFrom 149 = .ok (.getfield 28, 3) := by decide +kernel
theorem dX2_takeFrom_152 : decode cX2_takeFrom 152 = .ok (.iconst 0, 1) := by decide +kernel
theorem dX2_takeFrom_153 : decode cX2_takeFrom 153 = .ok (.aload_n 0, 1) := by decide +kernel
theorem dX2_takeFrom_154 : decode cX2_takeFrom 154 = .ok (.getfield 28, 3) := by decide +kernel
theorem dX2_takeFrom_157 : decode cX2_takeFrom 157 = .ok (.iconst 0, 1) := by decide +kernel
theorem dX2_takeFrom_158 : decode cX2_takeFrom 158 = .ok (.bipush 16, 2) := by decide +kernel
theorem dX2_takeFrom_160 : decode cX2_takeFrom 160 = .ok (.invokestatic 74, 3) := by decide +kernel
theorem dX2_takeFrom_163 : decode cX2_takeFrom 163 = .ok (.aload_n 1, 1) := by decide +kernel
theorem dX2_takeFrom_164 : decode cX2_takeFrom 164 = .ok (.getfield 34, 3) := by decide +kernel
theorem dX2_takeFrom_167 : decode cX2_takeFrom 167 = .ok (.iconst 0, 1) := by decide +kernel
theorem dX2_takeFrom_168 : decode cX2_takeFrom 168 = .ok (.aload_n 0, 1) := by decide +kernel
theorem dX2_takeFrom_169 : decode cX2_takeFrom 169 = .ok (.getfield 34, 3) := by decide +kernel
theorem dX2_takeFrom_172 : decode cX2_takeFrom 172 = .ok (.iconst 0, 1) := by decide +kernel
theorem dX2_takeFrom_173 : decode cX2_takeFrom 173 = .ok (.bipush 64, 2) := by decide +kernel
theorem dX2_takeFrom_175 : decode cX2_takeFrom 175 = .ok (.invokestatic 74, 3) := by decide +kernel
theorem dX2_takeFrom_178 : decode cX2_takeFrom 178 = .ok (.iconst 0, 1) := by decide +kernel
theorem dX2_takeFrom_179 : decode cX2_takeFrom 179 = .ok (.istore_n 2, 1) := by decide +kernel
theorem dX2_takeFrom_180 : decode cX2_takeFrom 180 = .ok (.iload_n 2, 1) := by decide +kernel
theorem dX2_takeFrom_181 : decode cX2_takeFrom 181 = .ok (.bipush 16, 2) := by decide +kernel
theorem dX2_takeFrom_183 : decode cX2_takeFrom 183 = .ok (.if_icmp .ge 33, 3) := by decide +kernel
theorem dX2_takeFrom_186 : decode cX2_takeFrom 186 = .ok (.aload_n 0, 1) := by decide +kernel
theorem dX2_takeFrom_187 : decode cX2_takeFrom 187 = .ok (.getfield 18, 3) := by decide +kernel
theorem dX2_takeFrom_190 : decode cX2_takeFrom 190 = .ok (.iload_n 2, 1) := by decide +kernel
theorem dX2_takeFrom_191 : decode cX2_takeFrom 191 = .ok (.aload_n 1, 1) := by decide +kernel
theorem dX2_takeFrom_192 : decode cX2_takeFrom 192 = .ok (.getfield 18, 3) := by decide +kernel
theorem dX2_takeFrom_195 : decode cX2_takeFrom 195 = .ok (.iload_n 2, 1) := by decide +kernel
theorem dX2_takeFrom_196 : decode cX2_takeFrom 196 = .ok (.baload, 1) := by decide +kernel
theorem dX2_takeFrom_197 : decode cX2_takeFrom 197 = .ok (.bastore, 1) := by decide +kernel
theorem dX2_takeFrom_198 : decode cX2_takeFrom 198 = .ok (.aload_n 0, 1) := by decide +kernel
theorem dX2_takeFrom_199 : decode cX2_takeFrom 199 = .ok (.getfield 31, 3) := by decide +kernel
theorem dX2_takeFrom_202 : decode cX2_takeFrom 202 = .ok (.iload_n 2, 1) := by decide +kernel
theorem dX2_takeFrom_203 : decode cX2_takeFrom 203 = .ok (.aload_n 1, 1) := by decide +kernel
theorem dX2_takeFrom_204 : decode cX2_takeFrom 204 = .ok (.getfield 31, 3) := by decide +kernel
theorem dX2_takeFrom_207 : decode cX2_takeFrom 207 = .ok (.iload_n 2, 1) := by decide +kernel
theorem dX2_takeFrom_208 : decode cX2_takeFrom 208 = .ok (.baload, 1) := by decide +kernel
theorem dX2_takeFrom_209 : decode cX2_takeFrom 209 = .ok (.bastore, 1) := by decide +kernel
theorem dX2_takeFrom_210 : decode cX2_takeFrom 210 = .ok (.iinc 2 1, 3) := by decide +kernel
theorem dX2_takeFrom_213 : decode cX2_takeFrom 213 = .ok (.goto (-33), 3) := by decide +kernel
theorem dX2_takeFrom_216 : decode cX2_takeFrom 216 = .ok (.return_, 1) := by decide +kernel
theorem dX2_isSlot_0 : decode cX2_isSlot 0 = .ok (.iload_n 0, 1) := by decide +kernel
theorem dX2_isSlot_1 : decode cX2_isSlot 1 = .ok (.ifCond .lt 13, 3) := by decide +kernel
theorem dX2_isSlot_4 : decode cX2_isSlot 4 = .ok (.iload_n 0, 1) := by decide +kernel
theorem dX2_isSlot_5 : decode cX2_isSlot 5 = .ok (.bipush 16, 2) := by decide +kernel
theorem dX2_isSlot_7 : decode cX2_isSlot 7 = .ok (.if_icmp .ge 7, 3) := by decide +kernel
theorem dX2_isSlot_10 : decode cX2_isSlot 10 = .ok (.iconst 1, 1) := by decide +kernel
theorem dX2_isSlot_11 : decode cX2_isSlot 11 = .ok (.goto 4, 3) := by decide +kernel
theorem dX2_isSlot_14 : decode cX2_isSlot 14 = .ok (.iconst 0, 1) := by decide +kernel
theorem dX2_isSlot_15 : decode cX2_isSlot 15 = .ok (.ireturn, 1) := by decide +kernel
theorem dX2_slotOf_0 : decode cX2_slotOf 0 = .ok (.iload_n 1, 1) := by decide +kernel
theorem dX2_slotOf_1 : decode cX2_slotOf 1 = .ok (.ifCond .lt 21, 3) := by decide +kernel
theorem dX2_slotOf_4 : decode cX2_slotOf 4 = .ok (.iload_n 1, 1) := by decide +kernel
theorem dX2_slotOf_5 : decode cX2_slotOf 5 = .ok (.aload_n 0, 1) := by decide +kernel
theorem dX2_slotOf_6 : decode cX2_slotOf 6 = .ok (.getfield 34, 3) := by decide +kernel
theorem dX2_slotOf_9 : decode cX2_slotOf 9 = .ok (.arraylength, 1) := by decide +kernel
theorem dX2_slotOf_10 : decode cX2_slotOf 10 = .ok (.if_icmp .ge 12, 3) := by decide +kernel
theorem dX2_slotOf_13 : decode cX2_slotOf 13 = .ok (.aload_n 0, 1) := by decide +kernel
theorem dX2_slotOf_14 : decode cX2_slotOf 14 = .ok (.getfield 34, 3) := by decide +kernel
theorem dX2_slotOf_17 : decode cX2_slotOf 17 = .ok (.iload_n 1, 1) := by decide +kernel
theorem dX2_slotOf_18 : decode cX2_slotOf 18 = .ok (.iaload, 1) := by decide +kernel
theorem dX2_slotOf_19 : decode cX2_slotOf 19 = .ok (.goto 4, 3) := by decide +kernel
theorem dX2_slotOf_22 : decode cX2_slotOf 22 = .ok (.iconst (-1), 1) := by decide +kernel
theorem dX2_slotOf_23 : decode cX2_slotOf 23 = .ok (.ireturn, 1) := by decide +kernel
theorem dX2_pageIn_0 : decode cX2_pageIn 0 = .ok (.iload_n 1, 1) := by decide +kernel
theorem dX2_pageIn_1 : decode cX2_pageIn 1 = .ok (.ifCond .lt 21, 3) := by decide +kernel
theorem dX2_pageIn_4 : decode cX2_pageIn 4 = .ok (.iload_n 1, 1) := by decide +kernel
theorem dX2_pageIn_5 : decode cX2_pageIn 5 = .ok (.aload_n 0, 1) := by decide +kernel
theorem dX2_pageIn_6 : decode cX2_pageIn 6 = .ok (.getfield 9, 3) := by decide +kernel
theorem dX2_pageIn_9 : decode cX2_pageIn 9 = .ok (.arraylength, 1) := by decide +kernel
theorem dX2_pageIn_10 : decode cX2_pageIn 10 = .ok (.if_icmp .ge 12, 3) := by decide +kernel
theorem dX2_pageIn_13 : decode cX2_pageIn 13 = .ok (.aload_n 0, 1) := by decide +kernel
theorem dX2_pageIn_14 : decode cX2_pageIn 14 = .ok (.getfield 9, 3) := by decide +kernel
theorem dX2_pageIn_17 : decode cX2_pageIn 17 = .ok (.iload_n 1, 1) := by decide +kernel
theorem dX2_pageIn_18 : decode cX2_pageIn 18 = .ok (.iaload, 1) := by decide +kernel
theorem dX2_pageIn_19 : decode cX2_pageIn 19 = .ok (.goto 4, 3) := by decide +kernel
theorem dX2_pageIn_22 : decode cX2_pageIn 22 = .ok (.iconst (-1), 1) := by decide +kernel
theorem dX2_pageIn_23 : decode cX2_pageIn 23 = .ok (.ireturn, 1) := by decide +kernel
theorem dX2_valueIn_0 : decode cX2_valueIn 0 = .ok (.iload_n 1, 1) := by decide +kernel
theorem dX2_valueIn_1 : decode cX2_valueIn 1 = .ok (.ifCond .lt 21, 3) := by decide +kernel
theorem dX2_valueIn_4 : decode cX2_valueIn 4 = .ok (.iload_n 1, 1) := by decide +kernel
theorem dX2_valueIn_5 : decode cX2_valueIn 5 = .ok (.aload_n 0, 1) := by decide +kernel
theorem dX2_valueIn_6 : decode cX2_valueIn 6 = .ok (.getfield 15, 3) := by decide +kernel
theorem dX2_valueIn_9 : decode cX2_valueIn 9 = .ok (.arraylength, 1) := by decide +kernel
theorem dX2_valueIn_10 : decode cX2_valueIn 10 = .ok (.if_icmp .ge 12, 3) := by decide +kernel
theorem dX2_valueIn_13 : decode cX2_valueIn 13 = .ok (.aload_n 0, 1) := by decide +kernel
theorem dX2_valueIn_14 : decode cX2_valueIn 14 = .ok (.getfield 15, 3) := by decide +kernel
theorem dX2_valueIn_17 : decode cX2_valueIn 17 = .ok (.iload_n 1, 1) := by decide +kernel
theorem dX2_valueIn_18 : decode cX2_valueIn 18 = .ok (.iaload, 1) := by decide +kernel
theorem dX2_valueIn_19 : decode cX2_valueIn 19 = .ok (.goto 4, 3) := by decide +kernel
theorem dX2_valueIn_22 : decode cX2_valueIn 22 = .ok (.iconst 0, 1) := by decide +kernel
theorem dX2_valueIn_23 : decode cX2_valueIn 23 = .ok (.ireturn, 1) := by decide +kernel
theorem dX2_isDirty_0 : decode cX2_isDirty 0 = .ok (.iload_n 1, 1) := by decide +kernel
theorem dX2_isDirty_1 : decode cX2_isDirty 1 = .ok (.ifCond .lt 25, 3) := by decide +kernel
theorem dX2_isDirty_4 : decode cX2_isDirty 4 = .ok (.iload_n 1, 1) := by decide +kernel
theorem dX2_isDirty_5 : decode cX2_isDirty 5 = .ok (.aload_n 0, 1) := by decide +kernel
theorem dX2_isDirty_6 : decode cX2_isDirty 6 = .ok (.getfield 18, 3) := by decide +kernel
theorem dX2_isDirty_9 : decode cX2_isDirty 9 = .ok (.arraylength, 1) := by decide +kernel
theorem dX2_isDirty_10 : decode cX2_isDirty 10 = .ok (.if_icmp .ge 16, 3) := by decide +kernel
theorem dX2_isDirty_13 : decode cX2_isDirty 13 = .ok (.aload_n 0, 1) := by decide +kernel
theorem dX2_isDirty_14 : decode cX2_isDirty 14 = .ok (.getfield 18, 3) := by decide +kernel
theorem dX2_isDirty_17 : decode cX2_isDirty 17 = .ok (.iload_n 1, 1) := by decide +kernel
theorem dX2_isDirty_18 : decode cX2_isDirty 18 = .ok (.baload, 1) := by decide +kernel
theorem dX2_isDirty_19 : decode cX2_isDirty 19 = .ok (.ifCond .eq 7, 3) := by decide +kernel
theorem dX2_isDirty_22 : decode cX2_isDirty 22 = .ok (.iconst 1, 1) := by decide +kernel
theorem dX2_isDirty_23 : decode cX2_isDirty 23 = .ok (.goto 4, 3) := by decide +kernel
theorem dX2_isDirty_26 : decode cX2_isDirty 26 = .ok (.iconst 0, 1) := by decide +kernel
theorem dX2_isDirty_27 : decode cX2_isDirty 27 = .ok (.ireturn, 1) := by decide +kernel
theorem dX2_change_0 : decode cX2_change 0 = .ok (.iload_n 1, 1) := by decide +kernel
theorem dX2_change_1 : decode cX2_change 1 = .ok (.ifCond .lt 23, 3) := by decide +kernel
theorem dX2_change_4 : decode cX2_change 4 = .ok (.iload_n 1, 1) := by decide +kernel
theorem dX2_change_5 : decode cX2_change 5 = .ok (.bipush 16, 2) := by decide +kernel
theorem dX2_change_7 : decode cX2_change 7 = .ok (.if_icmp .ge 17, 3) := by decide +kernel
theorem dX2_change_10 : decode cX2_change 10 = .ok (.aload_n 0, 1) := by decide +kernel
theorem dX2_change_11 : decode cX2_change 11 = .ok (.getfield 15, 3) := by decide +kernel
theorem dX2_change_14 : decode cX2_change 14 = .ok (.iload_n 1, 1) := by decide +kernel
theorem dX2_change_15 : decode cX2_change 15 = .ok (.iload_n 2, 1) := by decide +kernel
theorem dX2_change_16 : decode cX2_change 16 = .ok (.iastore, 1) := by decide +kernel
theorem dX2_change_17 : decode cX2_change 17 = .ok (.aload_n 0, 1) := by decide +kernel
theorem dX2_change_18 : decode cX2_change 18 = .ok (.getfield 18, 3) := by decide +kernel
theorem dX2_change_21 : decode cX2_change 21 = .ok (.iload_n 1, 1) := by decide +kernel
theorem dX2_change_22 : decode cX2_change 22 = .ok (.iload_n 3, 1) := by decide +kernel
theorem dX2_change_23 : decode cX2_change 23 = .ok (.bastore, 1) := by decide +kernel
theorem dX2_change_24 : decode cX2_change 24 = .ok (.return_, 1) := by decide +kernel
theorem dX2_freeSlot_0 : decode cX2_freeSlot 0 = .ok (.iconst 0, 1) := by decide +kernel
theorem dX2_freeSlot_1 : decode cX2_freeSlot 1 = .ok (.istore_n 1, 1) := by decide +kernel
theorem dX2_freeSlot_2 : decode cX2_freeSlot 2 = .ok (.aload_n 0, 1) := by decide +kernel
theorem dX2_freeSlot_3 : decode cX2_freeSlot 3 = .ok (.getfield 71, 3) := by decide +kernel
theorem dX2_freeSlot_6 : decode cX2_freeSlot 6 = .ok (.aload_n 0, 1) := by decide +kernel
theorem dX2_freeSlot_7 : decode cX2_freeSlot 7 = .ok (.getfield 37, 3) := by decide +kernel
theorem dX2_freeSlot_10 : decode cX2_freeSlot 10 = .ok (.if_icmp .ge 38, 3) := by decide +kernel
theorem dX2_freeSlot_13 : decode cX2_freeSlot 13 = .ok (.iload_n 1, 1) := by decide +kernel
theorem dX2_freeSlot_14 : decode cX2_freeSlot 14 = .ok (.aload_n 0, 1) := by decide +kernel
theorem dX2_freeSlot_15 : decode cX2_freeSlot 15 = .ok (.getfield 37, 3) := by decide +kernel
theorem dX2_freeSlot_18 : decode cX2_freeSlot 18 = .ok (.if_icmp .ge 30, 3) := by decide +kernel
theorem dX2_freeSlot_21 : decode cX2_freeSlot 21 = .ok (.iload_n 1, 1) := by decide +kernel
theorem dX2_freeSlot_22 : decode cX2_freeSlot 22 = .ok (.aload_n 0, 1) := by decide +kernel
theorem dX2_freeSlot_23 : decode cX2_freeSlot 23 = .ok (.getfield 9, 3) := by decide +kernel
theorem dX2_freeSlot_26 : decode cX2_freeSlot 26 = .ok (.arraylength, 1) := by decide +kernel
theorem dX2_freeSlot_27 : decode cX2_freeSlot 27 = .ok (.if_icmp .ge 21, 3) := by decide +kernel
theorem dX2_freeSlot_30 : decode cX2_freeSlot 30 = .ok (.aload_n 0, 1) := by decide +kernel
theorem dX2_freeSlot_31 : decode cX2_freeSlot 31 = .ok (.getfield 9, 3) := by decide +kernel
theorem dX2_freeSlot_34 : decode cX2_freeSlot 34 = .ok (.iload_n 1, 1) := by decide +kernel
theorem dX2_freeSlot_35 : decode cX2_freeSlot 35 = .ok (.iaload, 1) := by decide +kernel
theorem dX2_freeSlot_36 : decode cX2_freeSlot 36 = .ok (.iconst (-1), 1) := by decide +kernel
theorem dX2_freeSlot_37 : decode cX2_freeSlot 37 = .ok (.if_icmp .ne 5, 3) := by decide +kernel
theorem dX2_freeSlot_40 : decode cX2_freeSlot 40 = .ok (.iload_n 1, 1) := by decide +kernel
theorem dX2_freeSlot_41 : decode cX2_freeSlot 41 = .ok (.ireturn, 1) := by decide +kernel
theorem dX2_freeSlot_42 : decode cX2_freeSlot 42 = .ok (.iinc 1 1, 3) := by decide +kernel
theorem dX2_freeSlot_45 : decode cX2_freeSlot 45 = .ok (.goto (-43), 3) := by decide +kernel
theorem dX2_freeSlot_48 : decode cX2_freeSlot 48 = .ok (.iconst (-1), 1) := by decide +kernel
theorem dX2_freeSlot_49 : decode cX2_freeSlot 49 = .ok (.ireturn, 1) := by decide +kernel
theorem dX2_hold_0 : decode cX2_hold 0 = .ok (.iload_n 1, 1) := by decide +kernel
theorem dX2_hold_1 : decode cX2_hold 1 = .ok (.invokestatic 80, 3) := by decide +kernel
theorem dX2_hold_4 : decode cX2_hold 4 = .ok (.ifCond .eq 73, 3) := by decide +kernel
theorem dX2_hold_7 : decode cX2_hold 7 = .ok (.iload_n 2, 1) := by decide +kernel
theorem dX2_hold_8 : decode cX2_hold 8 = .ok (.invokestatic 84, 3) := by decide +kernel
theorem dX2_hold_11 : decode cX2_hold 11 = .ok (.ifCond .eq 66, 3) := by decide +kernel
theorem dX2_hold_14 : decode cX2_hold 14 = .ok (.aload_n 0, 1) := by decide +kernel
theorem dX2_hold_15 : decode cX2_hold 15 = .ok (.getfield 9, 3) := by decide +kernel
theorem dX2_hold_18 : decode cX2_hold 18 = .ok (.iload_n 1, 1) := by decide +kernel
theorem dX2_hold_19 : decode cX2_hold 19 = .ok (.iload_n 2, 1) := by decide +kernel
theorem dX2_hold_20 : decode cX2_hold 20 = .ok (.iastore, 1) := by decide +kernel
theorem dX2_hold_21 : decode cX2_hold 21 = .ok (.aload_n 0, 1) := by decide +kernel
theorem dX2_hold_22 : decode cX2_hold 22 = .ok (.getfield 34, 3) := by decide +kernel
theorem dX2_hold_25 : decode cX2_hold 25 = .ok (.iload_n 2, 1) := by decide +kernel
theorem dX2_hold_26 : decode cX2_hold 26 = .ok (.iload_n 1, 1) := by decide +kernel
theorem dX2_hold_27 : decode cX2_hold 27 = .ok (.iastore, 1) := by decide +kernel
theorem dX2_hold_28 : decode cX2_hold 28 = .ok (.aload_n 0, 1) := by decide +kernel
theorem dX2_hold_29 : decode cX2_hold 29 = .ok (.getfield 22, 3) := by decide +kernel
theorem dX2_hold_32 : decode cX2_hold 32 = .ok (.iload_n 1, 1) := by decide +kernel
theorem dX2_hold_33 : decode cX2_hold 33 = .ok (.iload_n 3, 1) := by decide +kernel
theorem dX2_hold_34 : decode cX2_hold 34 = .ok (.iastore, 1) := by decide +kernel
theorem dX2_hold_35 : decode cX2_hold 35 = .ok (.aload_n 0, 1) := by decide +kernel
theorem dX2_hold_36 : decode cX2_hold 36 = .ok (.getfield 25, 3) := by decide +kernel
theorem dX2_hold_39 : decode cX2_hold 39 = .ok (.iload_n 1, 1) := by decide +kernel
theorem dX2_hold_40 : decode cX2_hold 40 = .ok (.iload 4, 2) := by decide +kernel
theorem dX2_hold_42 : decode cX2_hold 42 = .ok (.iastore, 1) := by decide +kernel
theorem dX2_hold_43 : decode cX2_hold 43 = .ok (.aload_n 0, 1) := by decide +kernel
theorem dX2_hold_44 : decode cX2_hold 44 = .ok (.getfield 28, 3) := by decide +kernel
theorem dX2_hold_47 : decode cX2_hold 47 = .ok (.iload_n 1, 1) := by decide +kernel
theorem dX2_hold_48 : decode cX2_hold 48 = .ok (.iconst 1, 1) := by decide +kernel
theorem dX2_hold_49 : decode cX2_hold 49 = .ok (.iastore, 1) := by decide +kernel
theorem dX2_hold_50 : decode cX2_hold 50 = .ok (.aload_n 0, 1) := by decide +kernel
theorem dX2_hold_51 : decode cX2_hold 51 = .ok (.getfield 31, 3) := by decide +kernel
theorem dX2_hold_54 : decode cX2_hold 54 = .ok (.iload_n 1, 1) := by decide +kernel
theorem dX2_hold_55 : decode cX2_hold 55 = .ok (.iconst 0, 1) := by decide +kernel
theorem dX2_hold_56 : decode cX2_hold 56 = .ok (.bastore, 1) := by decide +kernel
theorem dX2_hold_57 : decode cX2_hold 57 = .ok (.aload_n 0, 1) := by decide +kernel
theorem dX2_hold_58 : decode cX2_hold 58 = .ok (.dup, 1) := by decide +kernel
theorem dX2_hold_59 : decode cX2_hold 59 = .ok (.getfield 71, 3) := by decide +kernel
theorem dX2_hold_62 : decode cX2_hold 62 = .ok (.iconst 1, 1) := by decide +kernel
theorem dX2_hold_63 : decode cX2_hold 63 = .ok (.iadd, 1) := by decide +kernel
theorem dX2_hold_64 : decode cX2_hold 64 = .ok (.putfield 71, 3) := by decide +kernel
theorem dX2_hold_67 : decode cX2_hold 67 = .ok (.aload_n 0, 1) := by decide +kernel
theorem dX2_hold_68 : decode cX2_hold 68 = .ok (.dup, 1) := by decide +kernel
theorem dX2_hold_69 : decode cX2_hold 69 = .ok (.getfield 56, 3) := by decide +kernel
theorem dX2_hold_72 : decode cX2_hold 72 = .ok (.iconst 1, 1) := by decide +kernel
theorem dX2_hold_73 : decode cX2_hold 73 = .ok (.iadd, 1) := by decide +kernel
theorem dX2_hold_74 : decode cX2_hold 74 = .ok (.putfield 56, 3) := by decide +kernel
theorem dX2_hold_77 : decode cX2_hold 77 = .ok (.return_, 1) := by decide +kernel
theorem dX2_release_0 : decode cX2_release 0 = .ok (.iload_n 1, 1) := by decide +kernel
theorem dX2_release_1 : decode cX2_release 1 = .ok (.ifCond .lt 18, 3) := by decide +kernel
theorem dX2_release_4 : decode cX2_release 4 = .ok (.iload_n 1, 1) := by decide +kernel
theorem dX2_release_5 : decode cX2_release 5 = .ok (.bipush 16, 2) := by decide +kernel
theorem dX2_release_7 : decode cX2_release 7 = .ok (.if_icmp .ge 12, 3) := by decide +kernel
theorem dX2_release_10 : decode cX2_release 10 = .ok (.aload_n 0, 1) := by decide +kernel
theorem dX2_release_11 : decode cX2_release 11 = .ok (.getfield 9, 3) := by decide +kernel
theorem dX2_release_14 : decode cX2_release 14 = .ok (.iload_n 1, 1) := by decide +kernel
theorem dX2_release_15 : decode cX2_release 15 = .ok (.iaload, 1) := by decide +kernel
theorem dX2_release_16 : decode cX2_release 16 = .ok (.goto 4, 3) := by decide +kernel
theorem dX2_release_19 : decode cX2_release 19 = .ok (.iconst (-1), 1) := by decide +kernel
theorem dX2_release_20 : decode cX2_release 20 = .ok (.istore_n 2, 1) := by decide +kernel
theorem dX2_release_21 : decode cX2_release 21 = .ok (.iload_n 2, 1) := by decide +kernel
theorem dX2_release_22 : decode cX2_release 22 = .ok (.ifCond .lt 12, 3) := by decide +kernel
theorem dX2_release_25 : decode cX2_release 25 = .ok (.iload_n 2, 1) := by decide +kernel
theorem dX2_release_26 : decode cX2_release 26 = .ok (.aload_n 0, 1) := by decide +kernel
theorem dX2_release_27 : decode cX2_release 27 = .ok (.getfield 34, 3) := by decide +kernel
theorem dX2_release_30 : decode cX2_release 30 = .ok (.arraylength, 1) := by decide +kernel
theorem dX2_release_31 : decode cX2_release 31 = .ok (.if_icmp .lt 5, 3) := by decide +kernel
theorem dX2_release_34 : decode cX2_release 34 = .ok (.iconst 0, 1) := by decide +kernel
theorem dX2_release_35 : decode cX2_release 35 = .ok (.ireturn, 1) := by decide +kernel
theorem dX2_release_36 : decode cX2_release 36 = .ok (.aload_n 0, 1) := by decide +kernel
theorem dX2_release_37 : decode cX2_release 37 = .ok (.getfield 9, 3) := by decide +kernel
theorem dX2_release_40 : decode cX2_release 40 = .ok (.iload_n 1, 1) := by decide +kernel
theorem dX2_release_41 : decode cX2_release 41 = .ok (.iconst (-1), 1) := by decide +kernel
theorem dX2_release_42 : decode cX2_release 42 = .ok (.iastore, 1) := by decide +kernel
theorem dX2_release_43 : decode cX2_release 43 = .ok (.aload_n 0, 1) := by decide +kernel
theorem dX2_release_44 : decode cX2_release 44 = .ok (.getfield 34, 3) := by decide +kernel
theorem dX2_release_47 : decode cX2_release 47 = .ok (.iload_n 2, 1) := by decide +kernel
theorem dX2_release_48 : decode cX2_release 48 = .ok (.iconst (-1), 1) := by decide +kernel
theorem dX2_release_49 : decode cX2_release 49 = .ok (.iastore, 1) := by decide +kernel
theorem dX2_release_50 : decode cX2_release 50 = .ok (.aload_n 0, 1) := by decide +kernel
theorem dX2_release_51 : decode cX2_release 51 = .ok (.getfield 18, 3) := by decide +kernel
theorem dX2_release_54 : decode cX2_release 54 = .ok (.iload_n 1, 1) := by decide +kernel
theorem dX2_release_55 : decode cX2_release 55 = .ok (.iconst 0, 1) := by decide +kernel
theorem dX2_release_56 : decode cX2_release 56 = .ok (.bastore, 1) := by decide +kernel
theorem dX2_release_57 : decode cX2_release 57 = .ok (.aload_n 0, 1) := by decide +kernel
theorem dX2_release_58 : decode cX2_release 58 = .ok (.dup, 1) := by decide +kernel
theorem dX2_release_59 : decode cX2_release 59 = .ok (.getfield 71, 3) := by decide +kernel
theorem dX2_release_62 : decode cX2_release 62 = .ok (.iconst 1, 1) := by decide +kernel
theorem dX2_release_63 : decode cX2_release 63 = .ok (.isub, 1) := by decide +kernel
theorem dX2_release_64 : decode cX2_release 64 = .ok (.putfield 71, 3) := by decide +kernel
theorem dX2_release_67 : decode cX2_release 67 = .ok (.iconst 1, 1) := by decide +kernel
theorem dX2_release_68 : decode cX2_release 68 = .ok (.ireturn, 1) := by decide +kernel
theorem dX2_letOut_0 : decode cX2_letOut 0 = .ok (.aload_n 0, 1) := by decide +kernel
theorem dX2_letOut_1 : decode cX2_letOut 1 = .ok (.iload_n 1, 1) := by decide +kernel
theorem dX2_letOut_2 : decode cX2_letOut 2 = .ok (.invokevirtual 87, 3) := by decide +kernel
theorem dX2_letOut_5 : decode cX2_letOut 5 = .ok (.ifCond .eq 13, 3) := by decide +kernel
theorem dX2_letOut_8 : decode cX2_letOut 8 = .ok (.aload_n 0, 1) := by decide +kernel
theorem dX2_letOut_9 : decode cX2_letOut 9 = .ok (.dup, 1) := by decide +kernel
theorem dX2_letOut_10 : decode cX2_letOut 10 = .ok (.getfield 62, 3) := by decide +kernel
theorem dX2_letOut_13 : decode cX2_letOut 13 = .ok (.iconst 1, 1) := by decide +kernel
theorem dX2_letOut_14 : decode cX2_letOut 14 = .ok (.iadd, 1) := by decide +kernel
theorem dX2_letOut_15 : decode cX2_letOut 15 = .ok (.putfield 62, 3) := by decide +kernel
theorem dX2_letOut_18 : decode cX2_letOut 18 = .ok (.return_, 1) := by decide +kernel
theorem dX2_touch_0 : decode cX2_touch 0 = .ok (.iload_n 1, 1) := by decide +kernel
theorem dX2_touch_1 : decode cX2_touch 1 = .ok (.invokestatic 80, 3) := by decide +kernel
theorem dX2_touch_4 : decode cX2_touch 4 = .ok (.ifCond .eq 27, 3) := by decide +kernel
theorem dX2_touch_7 : decode cX2_touch 7 = .ok (.aload_n 0, 1) := by decide +kernel
theorem dX2_touch_8 : decode cX2_touch 8 = .ok (.getfield 25, 3) := by decide +kernel
theorem dX2_touch_11 : decode cX2_touch 11 = .ok (.iload_n 1, 1) := by decide +kernel
theorem dX2_touch_12 : decode cX2_touch 12 = .ok (.iload_n 2, 1) := by decide +kernel
theorem dX2_touch_13 : decode cX2_touch 13 = .ok (.iastore, 1) := by decide +kernel
theorem dX2_touch_14 : decode cX2_touch 14 = .ok (.aload_n 0, 1) := by decide +kernel
theorem dX2_touch_15 : decode cX2_touch 15 = .ok (.getfield 28, 3) := by decide +kernel
theorem dX2_touch_18 : decode cX2_touch 18 = .ok (.iload_n 1, 1) := by decide +kernel
theorem dX2_touch_19 : decode cX2_touch 19 = .ok (.dup2, 1) := by decide +kernel
theorem dX2_touch_20 : decode cX2_touch 20 = .ok (.iaload, 1) := by decide +kernel
theorem dX2_touch_21 : decode cX2_touch 21 = .ok (.iconst 1, 1) := by decide +kernel
theorem dX2_touch_22 : decode cX2_touch 22 = .ok (.iadd, 1) := by decide +kernel
theorem dX2_touch_23 : decode cX2_touch 23 = .ok (.iastore, 1) := by decide +kernel
theorem dX2_touch_24 : decode cX2_touch 24 = .ok (.aload_n 0, 1) := by decide +kernel
theorem dX2_touch_25 : decode cX2_touch 25 = .ok (.getfield 31, 3) := by decide +kernel
theorem dX2_touch_28 : decode cX2_touch 28 = .ok (.iload_n 1, 1) := by decide +kernel
theorem dX2_touch_29 : decode cX2_touch 29 = .ok (.iconst 1, 1) := by decide +kernel
theorem dX2_touch_30 : decode cX2_touch 30 = .ok (.bastore, 1) := by decide +kernel
theorem dX2_touch_31 : decode cX2_touch 31 = .ok (.return_, 1) := by decide +kernel
theorem dX2_notedVictim_0 : decode cX2_notedVictim 0 = .ok (.iconst (-1), 1) := by decide +kernel
theorem dX2_notedVictim_1 : decode cX2_notedVictim 1 = .ok (.istore_n 1, 1) := by decide +kernel
theorem dX2_notedVictim_2 : decode cX2_notedVictim 2 = .ok (.iconst 0, 1) := by decide +kernel
theorem dX2_notedVictim_3 : decode cX2_notedVictim 3 = .ok (.istore_n 2, 1) := by decide +kernel
theorem dX2_notedVictim_4 : decode cX2_notedVictim 4 = .ok (.iload_n 2, 1) := by decide +kernel
theorem dX2_notedVictim_5 : decode cX2_notedVictim 5 = .ok (.aload_n 0, 1) := by decide +kernel
theorem dX2_notedVictim_6 : decode cX2_notedVictim 6 = .ok (.getfield 37, 3) := by decide +kernel
theorem dX2_notedVictim_9 : decode cX2_notedVictim 9 = .ok (.if_icmp .ge 34, 3) := by decide +kernel
theorem dX2_notedVictim_12 : decode cX2_notedVictim 12 = .ok (.aload_n 0, 1) := by decide +kernel
theorem dX2_notedVictim_13 : decode cX2_notedVictim 13 = .ok (.iload_n 2, 1) := by decide +kernel
theorem dX2_notedVictim_14 : decode cX2_notedVictim 14 = .ok (.invokevirtual 90, 3) := by decide +kernel
theorem dX2_notedVictim_17 : decode cX2_notedVictim 17 = .ok (.iconst (-1), 1) := by decide +kernel
theorem dX2_notedVictim_18 : decode cX2_notedVictim 18 = .ok (.if_icmp .eq 19, 3) := by decide +kernel
theorem dX2_notedVictim_21 : decode cX2_notedVictim 21 = .ok (.iload_n 1, 1) := by decide +kernel
theorem dX2_notedVictim_22 : decode cX2_notedVictim 22 = .ok (.iconst (-1), 1) := by decide +kernel
theorem dX2_notedVictim_23 : decode cX2_notedVictim 23 = .ok (.if_icmp .eq 12, 3) := by decide +kernel
theorem dX2_notedVictim_26 : decode cX2_notedVictim 26 = .ok (.aload_n 0, 1) := by decide +kernel
theorem dX2_notedVictim_27 : decode cX2_notedVictim 27 = .ok (.iload_n 2, 1) := by decide +kernel
theorem dX2_notedVictim_28 : decode cX2_notedVictim 28 = .ok (.iload_n 1, 1) := by decide +kernel
theorem dX2_notedVictim_29 : decode cX2_notedVictim 29 = .ok (.invokevirtual 94, 3) := by decide +kernel
theorem dX2_notedVictim_32 : decode cX2_notedVictim 32 = .ok (.ifCond .eq 5, 3) := by decide +kernel
theorem dX2_notedVictim_35 : decode cX2_notedVictim 35 = .ok (.iload_n 2, 1) := by decide +kernel
theorem dX2_notedVictim_36 : decode cX2_notedVictim 36 = .ok (.istore_n 1, 1) := by decide +kernel
theorem dX2_notedVictim_37 : decode cX2_notedVictim 37 = .ok (.iinc 2 1, 3) := by decide +kernel
theorem dX2_notedVictim_40 : decode cX2_notedVictim 40 = .ok (.goto (-36), 3) := by decide +kernel
theorem dX2_notedVictim_43 : decode cX2_notedVictim 43 = .ok (.iload_n 1, 1) := by decide +kernel
theorem dX2_notedVictim_44 : decode cX2_notedVictim 44 = .ok (.ireturn, 1) := by decide +kernel
theorem dX2_goesAhead_0 : decode cX2_goesAhead 0 = .ok (.iload_n 1, 1) := by decide +kernel
theorem dX2_goesAhead_1 : decode cX2_goesAhead 1 = .ok (.ifCond .lt 19, 3) := by decide +kernel
theorem dX2_goesAhead_4 : decode cX2_goesAhead 4 = .ok (.iload_n 1, 1) := by decide +kernel
theorem dX2_goesAhead_5 : decode cX2_goesAhead 5 = .ok (.bipush 16, 2) := by decide +kernel
theorem dX2_goesAhead_7 : decode cX2_goesAhead 7 = .ok (.if_icmp .ge 13, 3) := by decide +kernel
theorem dX2_goesAhead_10 : decode cX2_goesAhead 10 = .ok (.iload_n 2, 1) := by decide +kernel
theorem dX2_goesAhead_11 : decode cX2_goesAhead 11 = .ok (.ifCond .lt 9, 3) := by decide +kernel
theorem dX2_goesAhead_14 : decode cX2_goesAhead 14 = .ok (.iload_n 2, 1) := by decide +kernel
theorem dX2_goesAhead_15 : decode cX2_goesAhead 15 = .ok (.bipush 16, 2) := by decide +kernel
theorem dX2_goesAhead_17 : decode cX2_goesAhead 17 = .ok (.if_icmp .lt 5, 3) := by decide +kernel
theorem dX2_goesAhead_20 : decode cX2_goesAhead 20 = .ok (.iconst 0, 1) := by decide +kernel
theorem dX2_goesAhead_21 : decode cX2_goesAhead 21 = .ok (.ireturn, 1) := by decide +kernel
theorem dX2_goesAhead_22 : decode cX2_goesAhead 22 = .ok (.aload_n 0, 1) := by decide +kernel
theorem dX2_goesAhead_23 : decode cX2_goesAhead 23 = .ok (.getfield 44, 3) := by decide +kernel
theorem dX2_goesAhead_26 : decode cX2_goesAhead 26 = .ok (.tableswitch 89 3 5 #[26, 47, 68], 26) := by decide +kernel
theorem dX2_goesAhead_52 : decode cX2_goesAhead 52 = .ok (.aload_n 0, 1) := by decide +kernel
theorem dX2_goesAhead_53 : decode cX2_goesAhead 53 = .ok (.getfield 22, 3) := by decide +kernel
theorem dX2_goesAhead_56 : decode cX2_goesAhead 56 = .ok (.iload_n 1, 1) := by decide +kernel
theorem dX2_goesAhead_57 : decode cX2_goesAhead 57 = .ok (.iaload, 1) := by decide +kernel
theorem dX2_goesAhead_58 : decode cX2_goesAhead 58 = .ok (.aload_n 0, 1) := by decide +kernel
theorem dX2_goesAhead_59 : decode cX2_goesAhead 59 = .ok (.getfield 22, 3) := by decide +kernel
theorem dX2_goesAhead_62 : decode cX2_goesAhead 62 = .ok (.iload_n 2, 1) := by decide +kernel
theorem dX2_goesAhead_63 : decode cX2_goesAhead 63 = .ok (.iaload, 1) := by decide +kernel
theorem dX2_goesAhead_64 : decode cX2_goesAhead 64 = .ok (.if_icmp .ge 7, 3) := by decide +kernel
theorem dX2_goesAhead_67 : decode cX2_goesAhead 67 = .ok (.iconst 1, 1) := by decide +kernel
theorem dX2_goesAhead_68 : decode cX2_goesAhead 68 = .ok (.goto 4, 3) := by decide +kernel
theorem dX2_goesAhead_71 : decode cX2_goesAhead 71 = .ok (.iconst 0, 1) := by decide +kernel
theorem dX2_goesAhead_72 : decode cX2_goesAhead 72 = .ok (.ireturn, 1) := by decide +kernel
theorem dX2_goesAhead_73 : decode cX2_goesAhead 73 = .ok (.aload_n 0, 1) := by decide +kernel
theorem dX2_goesAhead_74 : decode cX2_goesAhead 74 = .ok (.getfield 25, 3) := by decide +kernel
theorem dX2_goesAhead_77 : decode cX2_goesAhead 77 = .ok (.iload_n 1, 1) := by decide +kernel
theorem dX2_goesAhead_78 : decode cX2_goesAhead 78 = .ok (.iaload, 1) := by decide +kernel
theorem dX2_goesAhead_79 : decode cX2_goesAhead 79 = .ok (.aload_n 0, 1) := by decide +kernel
theorem dX2_goesAhead_80 : decode cX2_goesAhead 80 = .ok (.getfield 25, 3) := by decide +kernel
theorem dX2_goesAhead_83 : decode cX2_goesAhead 83 = .ok (.iload_n 2, 1) := by decide +kernel
theorem dX2_goesAhead_84 : decode cX2_goesAhead 84 = .ok (.iaload, 1) := by decide +kernel
theorem dX2_goesAhead_85 : decode cX2_goesAhead 85 = .ok (.if_icmp .ge 7, 3) := by decide +kernel
theorem dX2_goesAhead_88 : decode cX2_goesAhead 88 = .ok (.iconst 1, 1) := by decide +kernel
theorem dX2_goesAhead_89 : decode cX2_goesAhead 89 = .ok (.goto 4, 3) := by decide +kernel
theorem dX2_goesAhead_92 : decode cX2_goesAhead 92 = .ok (.iconst 0, 1) := by decide +kernel
theorem dX2_goesAhead_93 : decode cX2_goesAhead 93 = .ok (.ireturn, 1) := by decide +kernel
theorem dX2_goesAhead_94 : decode cX2_goesAhead 94 = .ok (.aload_n 0, 1) := by decide +kernel
theorem dX2_goesAhead_95 : decode cX2_goesAhead 95 = .ok (.getfield 25, 3) := by decide +kernel
theorem dX2_goesAhead_98 : decode cX2_goesAhead 98 = .ok (.iload_n 1, 1) := by decide +kernel
theorem dX2_goesAhead_99 : decode cX2_goesAhead 99 = .ok (.iaload, 1) := by decide +kernel
theorem dX2_goesAhead_100 : decode cX2_goesAhead 100 = .ok (.aload_n 0, 1) := by decide +kernel
theorem dX2_goesAhead_101 : decode cX2_goesAhead 101 = .ok (.getfield 25, 3) := by decide +kernel
theorem dX2_goesAhead_104 : decode cX2_goesAhead 104 = .ok (.iload_n 2, 1) := by decide +kernel
theorem dX2_goesAhead_105 : decode cX2_goesAhead 105 = .ok (.iaload, 1) := by decide +kernel
theorem dX2_goesAhead_106 : decode cX2_goesAhead 106 = .ok (.if_icmp .le 7, 3) := by decide +kernel
theorem dX2_goesAhead_109 : decode cX2_goesAhead 109 = .ok (.iconst 1, 1) := by decide +kernel
theorem dX2_goesAhead_110 : decode cX2_goesAhead 110 = .ok (.goto 4, 3) := by decide +kernel
theorem dX2_goesAhead_113 : decode cX2_goesAhead 113 = .ok (.iconst 0, 1) := by decide +kernel
theorem dX2_goesAhead_114 : decode cX2_goesAhead 114 = .ok (.ireturn, 1) := by decide +kernel
theorem dX2_goesAhead_115 : decode cX2_goesAhead 115 = .ok (.aload_n 0, 1) := by decide +kernel
theorem dX2_goesAhead_116 : decode cX2_goesAhead 116 = .ok (.getfield 28, 3) := by decide +kernel
theorem dX2_goesAhead_119 : decode cX2_goesAhead 119 = .ok (.iload_n 1, 1) := by decide +kernel
theorem dX2_goesAhead_120 : decode cX2_goesAhead 120 = .ok (.iaload, 1) := by decide +kernel
theorem dX2_goesAhead_121 : decode cX2_goesAhead 121 = .ok (.aload_n 0, 1) := by decide +kernel
theorem dX2_goesAhead_122 : decode cX2_goesAhead 122 = .ok (.getfield 28, 3) := by decide +kernel
theorem dX2_goesAhead_125 : decode cX2_goesAhead 125 = .ok (.iload_n 2, 1) := by decide +kernel
theorem dX2_goesAhead_126 : decode cX2_goesAhead 126 = .ok (.iaload, 1) := by decide +kernel
theorem dX2_goesAhead_127 : decode cX2_goesAhead 127 = .ok (.if_icmp .lt 33, 3) := by decide +kernel
theorem dX2_goesAhead_130 : decode cX2_goesAhead 130 = .ok (.aload_n 0, 1) := by decide +kernel
theorem dX2_goesAhead_131 : decode cX2_goesAhead 131 = .ok (.getfield 28, 3) := by decide +kernel
theorem dX2_goesAhead_134 : decode cX2_goesAhead 134 = .ok (.iload_n 1, 1) := by decide +kernel
theorem dX2_goesAhead_135 : decode cX2_goesAhead 135 = .ok (.iaload, 1) := by decide +kernel
theorem dX2_goesAhead_136 : decode cX2_goesAhead 136 = .ok (.aload_n 0, 1) := by decide +kernel
theorem dX2_goesAhead_137 : decode cX2_goesAhead 137 = .ok (.getfield 28, 3) := by decide +kernel
theorem dX2_goesAhead_140 : decode cX2_goesAhead 140 = .ok (.iload_n 2, 1) := by decide +kernel
theorem dX2_goesAhead_141 : decode cX2_goesAhead 141 = .ok (.iaload, 1) := by decide +kernel
theorem dX2_goesAhead_142 : decode cX2_goesAhead 142 = .ok (.if_icmp .ne 22, 3) := by decide +kernel
theorem dX2_goesAhead_145 : decode cX2_goesAhead 145 = .ok (.aload_n 0, 1) := by decide +kernel
theorem dX2_goesAhead_146 : decode cX2_goesAhead 146 = .ok (.getfield 25, 3) := by decide +kernel
theorem dX2_goesAhead_149 : decode cX2_goesAhead 149 = .ok (.iload_n 1, 1) := by decide +kernel
theorem dX2_goesAhead_150 : decode cX2_goesAhead 150 = .ok (.iaload, 1) := by decide +kernel
theorem dX2_goesAhead_151 : decode cX2_goesAhead 151 = .ok (.aload_n 0, 1) := by decide +kernel
theorem dX2_goesAhead_152 : decode cX2_goesAhead 152 = .ok (.getfield 25, 3) := by decide +kernel
theorem dX2_goesAhead_155 : decode cX2_goesAhead 155 = .ok (.iload_n 2, 1) := by decide +kernel
theorem dX2_goesAhead_156 : decode cX2_goesAhead 156 = .ok (.iaload, 1) := by decide +kernel
theorem dX2_goesAhead_157 : decode cX2_goesAhead 157 = .ok (.if_icmp .ge 7, 3) := by decide +kernel
theorem dX2_goesAhead_160 : decode cX2_goesAhead 160 = .ok (.iconst 1, 1) := by decide +kernel
theorem dX2_goesAhead_161 : decode cX2_goesAhead 161 = .ok (.goto 4, 3) := by decide +kernel
theorem dX2_goesAhead_164 : decode cX2_goesAhead 164 = .ok (.iconst 0, 1) := by decide +kernel
theorem dX2_goesAhead_165 : decode cX2_goesAhead 165 = .ok (.ireturn, 1) := by decide +kernel
theorem dX2_clockVictim_0 : decode cX2_clockVictim 0 = .ok (.aload_n 0, 1) := by decide +kernel
theorem dX2_clockVictim_1 : decode cX2_clockVictim 1 = .ok (.getfield 68, 3) := by decide +kernel
theorem dX2_clockVictim_4 : decode cX2_clockVictim 4 = .ok (.istore_n 1, 1) := by decide +kernel
theorem dX2_clockVictim_5 : decode cX2_clockVictim 5 = .ok (.iconst 0, 1) := by decide +kernel
theorem dX2_clockVictim_6 : decode cX2_clockVictim 6 = .ok (.istore_n 2, 1) := by decide +kernel
theorem dX2_clockVictim_7 : decode cX2_clockVictim 7 = .ok (.iload_n 2, 1) := by decide +kernel
theorem dX2_clockVictim_8 : decode cX2_clockVictim 8 = .ok (.aload_n 0, 1) := by decide +kernel
theorem dX2_clockVictim_9 : decode cX2_clockVictim 9 = .ok (.getfield 37, 3) := by decide +kernel
theorem dX2_clockVictim_12 : decode cX2_clockVictim 12 = .ok (.if_icmp .ge 38, 3) := by decide +kernel
theorem dX2_clockVictim_15 : decode cX2_clockVictim 15 = .ok (.iload_n 1, 1) := by decide +kernel
theorem dX2_clockVictim_16 : decode cX2_clockVictim 16 = .ok (.invokestatic 80, 3) := by decide +kernel
theorem dX2_clockVictim_19 : decode cX2_clockVictim 19 = .ok (.ifCond .eq 31, 3) := by decide +kernel
theorem dX2_clockVictim_22 : decode cX2_clockVictim 22 = .ok (.aload_n 0, 1) := by decide +kernel
theorem dX2_clockVictim_23 : decode cX2_clockVictim 23 = .ok (.getfield 31, 3) := by decide +kernel
theorem dX2_clockVictim_26 : decode cX2_clockVictim 26 = .ok (.iload_n 1, 1) := by decide +kernel
theorem dX2_clockVictim_27 : decode cX2_clockVictim 27 = .ok (.baload, 1) := by decide +kernel
theorem dX2_clockVictim_28 : decode cX2_clockVictim 28 = .ok (.ifCond .eq 22, 3) := by decide +kernel
theorem dX2_clockVictim_31 : decode cX2_clockVictim 31 = .ok (.aload_n 0, 1) := by decide +kernel
theorem dX2_clockVictim_32 : decode cX2_clockVictim 32 = .ok (.getfield 31, 3) := by decide +kernel
theorem dX2_clockVictim_35 : decode cX2_clockVictim 35 = .ok (.iload_n 1, 1) := by decide +kernel
theorem dX2_clockVictim_36 : decode cX2_clockVictim 36 = .ok (.iconst 0, 1) := by decide +kernel
theorem dX2_clockVictim_37 : decode cX2_clockVictim 37 = .ok (.bastore, 1) := by decide +kernel
theorem dX2_clockVictim_38 : decode cX2_clockVictim 38 = .ok (.aload_n 0, 1) := by decide +kernel
theorem dX2_clockVictim_39 : decode cX2_clockVictim 39 = .ok (.iload_n 1, 1) := by decide +kernel
theorem dX2_clockVictim_40 : decode cX2_clockVictim 40 = .ok (.invokevirtual 98, 3) := by decide +kernel
theorem dX2_clockVictim_43 : decode cX2_clockVictim 43 = .ok (.istore_n 1, 1) := by decide +kernel
theorem dX2_clockVictim_44 : decode cX2_clockVictim 44 = .ok (.iinc 2 1, 3) := by decide +kernel
theorem dX2_clockVictim_47 : decode cX2_clockVictim 47 = .ok (.goto (-40), 3) := by decide +kernel
theorem dX2_clockVictim_50 : decode cX2_clockVictim 50 = .ok (.aload_n 0, 1) := by decide +kernel
theorem dX2_clockVictim_51 : decode cX2_clockVictim 51 = .ok (.aload_n 0, 1) := by decide +kernel
theorem dX2_clockVictim_52 : decode cX2_clockVictim 52 = .ok (.iload_n 1, 1) := by decide +kernel
theorem dX2_clockVictim_53 : decode cX2_clockVictim 53 = .ok (.invokevirtual 98, 3) := by decide +kernel
theorem dX2_clockVictim_56 : decode cX2_clockVictim 56 = .ok (.putfield 68, 3) := by decide +kernel
theorem dX2_clockVictim_59 : decode cX2_clockVictim 59 = .ok (.iload_n 1, 1) := by decide +kernel
theorem dX2_clockVictim_60 : decode cX2_clockVictim 60 = .ok (.ireturn, 1) := by decide +kernel
theorem dX2_slotBehind_0 : decode cX2_slotBehind 0 = .ok (.iload_n 1, 1) := by decide +kernel
theorem dX2_slotBehind_1 : decode cX2_slotBehind 1 = .ok (.iconst 1, 1) := by decide +kernel
theorem dX2_slotBehind_2 : decode cX2_slotBehind 2 = .ok (.iadd, 1) := by decide +kernel
theorem dX2_slotBehind_3 : decode cX2_slotBehind 3 = .ok (.aload_n 0, 1) := by decide +kernel
theorem dX2_slotBehind_4 : decode cX2_slotBehind 4 = .ok (.getfield 37, 3) := by decide +kernel
theorem dX2_slotBehind_7 : decode cX2_slotBehind 7 = .ok (.if_icmp .ge 9, 3) := by decide +kernel
theorem dX2_slotBehind_10 : decode cX2_slotBehind 10 = .ok (.iload_n 1, 1) := by decide +kernel
theorem dX2_slotBehind_11 : decode cX2_slotBehind 11 = .ok (.iconst 1, 1) := by decide +kernel
theorem dX2_slotBehind_12 : decode cX2_slotBehind 12 = .ok (.iadd, 1) := by decide +kernel
theorem dX2_slotBehind_13 : decode cX2_slotBehind 13 = .ok (.goto 4, 3) := by decide +kernel
theorem dX2_slotBehind_16 : decode cX2_slotBehind 16 = .ok (.iconst 0, 1) := by decide +kernel
theorem dX2_slotBehind_17 : decode cX2_slotBehind 17 = .ok (.ireturn, 1) := by decide +kernel
theorem dX2_saysAs_0 : decode cX2_saysAs 0 = .ok (.iload_n 1, 1) := by decide +kernel
theorem dX2_saysAs_1 : decode cX2_saysAs 1 = .ok (.tableswitch 103 0 7 #[47, 52, 57, 62, 71, 80, 89, 98], 47) := by decide +kernel
theorem dX2_saysAs_48 : decode cX2_saysAs 48 = .ok (.aload_n 0, 1) := by decide +kernel
theorem dX2_saysAs_49 : decode cX2_saysAs 49 = .ok (.getfield 44, 3) := by decide +kernel
theorem dX2_saysAs_52 : decode cX2_saysAs 52 = .ok (.ireturn, 1) := by decide +kernel
theorem dX2_saysAs_53 : decode cX2_saysAs 53 = .ok (.aload_n 0, 1) := by decide +kernel
theorem dX2_saysAs_54 : decode cX2_saysAs 54 = .ok (.invokevirtual 101, 3) := by decide +kernel
theorem dX2_saysAs_57 : decode cX2_saysAs 57 = .ok (.ireturn, 1) := by decide +kernel
theorem dX2_saysAs_58 : decode cX2_saysAs 58 = .ok (.aload_n 0, 1) := by decide +kernel
theorem dX2_saysAs_59 : decode cX2_saysAs 59 = .ok (.getfield 37, 3) := by decide +kernel
theorem dX2_saysAs_62 : decode cX2_saysAs 62 = .ok (.ireturn, 1) := by decide +kernel
theorem dX2_saysAs_63 : decode cX2_saysAs 63 = .ok (.aload_n 0, 1) := by decide +kernel
theorem dX2_saysAs_64 : decode cX2_saysAs 64 = .ok (.aload_n 0, 1) := by decide +kernel
theorem dX2_saysAs_65 : decode cX2_saysAs 65 = .ok (.getfield 22, 3) := by decide +kernel
theorem dX2_saysAs_68 : decode cX2_saysAs 68 = .ok (.invokevirtual 105, 3) := by decide +kernel
theorem dX2_saysAs_71 : decode cX2_saysAs 71 = .ok (.ireturn, 1) := by decide +kernel
theorem dX2_saysAs_72 : decode cX2_saysAs 72 = .ok (.aload_n 0, 1) := by decide +kernel
theorem dX2_saysAs_73 : decode cX2_saysAs 73 = .ok (.aload_n 0, 1) := by decide +kernel
theorem dX2_saysAs_74 : decode cX2_saysAs 74 = .ok (.getfield 25, 3) := by decide +kernel
theorem dX2_saysAs_77 : decode cX2_saysAs 77 = .ok (.invokevirtual 109, 3) := by decide +kernel
theorem dX2_saysAs_80 : decode cX2_saysAs 80 = .ok (.ireturn, 1) := by decide +kernel
theorem dX2_saysAs_81 : decode cX2_saysAs 81 = .ok (.aload_n 0, 1) := by decide +kernel
theorem dX2_saysAs_82 : decode cX2_saysAs 82 = .ok (.aload_n 0, 1) := by decide +kernel
theorem dX2_saysAs_83 : decode cX2_saysAs 83 = .ok (.getfield 25, 3) := by decide +kernel
theorem dX2_saysAs_86 : decode cX2_saysAs 86 = .ok (.invokevirtual 105, 3) := by decide +kernel
theorem dX2_saysAs_89 : decode cX2_saysAs 89 = .ok (.ireturn, 1) := by decide +kernel
theorem dX2_saysAs_90 : decode cX2_saysAs 90 = .ok (.aload_n 0, 1) := by decide +kernel
theorem dX2_saysAs_91 : decode cX2_saysAs 91 = .ok (.aload_n 0, 1) := by decide +kernel
theorem dX2_saysAs_92 : decode cX2_saysAs 92 = .ok (.getfield 28, 3) := by decide +kernel
theorem dX2_saysAs_95 : decode cX2_saysAs 95 = .ok (.invokevirtual 109, 3) := by decide +kernel
theorem dX2_saysAs_98 : decode cX2_saysAs 98 = .ok (.ireturn, 1) := by decide +kernel
theorem dX2_saysAs_99 : decode cX2_saysAs 99 = .ok (.aload_n 0, 1) := by decide +kernel
theorem dX2_saysAs_100 : decode cX2_saysAs 100 = .ok (.getfield 68, 3) := by decide +kernel
theorem dX2_saysAs_103 : decode cX2_saysAs 103 = .ok (.ireturn, 1) := by decide +kernel
theorem dX2_saysAs_104 : decode cX2_saysAs 104 = .ok (.aload_n 0, 1) := by decide +kernel
theorem dX2_saysAs_105 : decode cX2_saysAs 105 = .ok (.getfield 47, 3) := by decide +kernel
theorem dX2_saysAs_108 : decode cX2_saysAs 108 = .ok (.ireturn, 1) := by decide +kernel
theorem dX2_greatestOf_0 : decode cX2_greatestOf 0 = .ok (.iconst (-1), 1) := by decide +kernel
theorem dX2_greatestOf_1 : decode cX2_greatestOf 1 = .ok (.istore_n 2, 1) := by decide +kernel
theorem dX2_greatestOf_2 : decode cX2_greatestOf 2 = .ok (.iconst 0, 1) := by decide +kernel
theorem dX2_greatestOf_3 : decode cX2_greatestOf 3 = .ok (.istore_n 3, 1) := by decide +kernel
theorem dX2_greatestOf_4 : decode cX2_greatestOf 4 = .ok (.iload_n 3, 1) := by decide +kernel
theorem dX2_greatestOf_5 : decode cX2_greatestOf 5 = .ok (.aload_n 0, 1) := by decide +kernel
theorem dX2_greatestOf_6 : decode cX2_greatestOf 6 = .ok (.getfield 37, 3) := by decide +kernel
theorem dX2_greatestOf_9 : decode cX2_greatestOf 9 = .ok (.if_icmp .ge 32, 3) := by decide +kernel
theorem dX2_greatestOf_12 : decode cX2_greatestOf 12 = .ok (.iload_n 3, 1) := by decide +kernel
theorem dX2_greatestOf_13 : decode cX2_greatestOf 13 = .ok (.aload_n 1, 1) := by decide +kernel
theorem dX2_greatestOf_14 : decode cX2_greatestOf 14 = .ok (.arraylength, 1) := by decide +kernel
theorem dX2_greatestOf_15 : decode cX2_greatestOf 15 = .ok (.if_icmp .ge 26, 3) := by decide +kernel
theorem dX2_greatestOf_18 : decode cX2_greatestOf 18 = .ok (.aload_n 0, 1) := by decide +kernel
theorem dX2_greatestOf_19 : decode cX2_greatestOf 19 = .ok (.iload_n 3, 1) := by decide +kernel
theorem dX2_greatestOf_20 : decode cX2_greatestOf 20 = .ok (.invokevirtual 90, 3) := by decide +kernel
theorem dX2_greatestOf_23 : decode cX2_greatestOf 23 = .ok (.iconst (-1), 1) := by decide +kernel
theorem dX2_greatestOf_24 : decode cX2_greatestOf 24 = .ok (.if_icmp .eq 11, 3) := by decide +kernel
theorem dX2_greatestOf_27 : decode cX2_greatestOf 27 = .ok (.iload_n 2, 1) := by decide +kernel
theorem dX2_greatestOf_28 : decode cX2_greatestOf 28 = .ok (.aload_n 1, 1) := by decide +kernel
theorem dX2_greatestOf_29 : decode cX2_greatestOf 29 = .ok (.iload_n 3, 1) := by decide +kernel
theorem dX2_greatestOf_30 : decode cX2_greatestOf 30 = .ok (.iaload, 1) := by decide +kernel
theorem dX2_greatestOf_31 : decode cX2_greatestOf 31 = .ok (.invokestatic 112, 3) := by decide +kernel
theorem dX2_greatestOf_34 : decode cX2_greatestOf 34 = .ok (.istore_n 2, 1) := by decide +kernel
theorem dX2_greatestOf_35 : decode cX2_greatestOf 35 = .ok (.iinc 3 1, 3) := by decide +kernel
theorem dX2_greatestOf_38 : decode cX2_greatestOf 38 = .ok (.goto (-34), 3) := by decide +kernel
theorem dX2_greatestOf_41 : decode cX2_greatestOf 41 = .ok (.iload_n 2, 1) := by decide +kernel
theorem dX2_greatestOf_42 : decode cX2_greatestOf 42 = .ok (.ireturn, 1) := by decide +kernel
theorem dX2_leastOf_0 : decode cX2_leastOf 0 = .ok (.iconst (-1), 1) := by decide +kernel
theorem dX2_leastOf_1 : decode cX2_leastOf 1 = .ok (.istore_n 2, 1) := by decide +kernel
theorem dX2_leastOf_2 : decode cX2_leastOf 2 = .ok (.iconst 0, 1) := by decide +kernel
theorem dX2_leastOf_3 : decode cX2_leastOf 3 = .ok (.istore_n 3, 1) := by decide +kernel
theorem dX2_leastOf_4 : decode cX2_leastOf 4 = .ok (.iload_n 3, 1) := by decide +kernel
theorem dX2_leastOf_5 : decode cX2_leastOf 5 = .ok (.aload_n 0, 1) := by decide +kernel
theorem dX2_leastOf_6 : decode cX2_leastOf 6 = .ok (.getfield 37, 3) := by decide +kernel
theorem dX2_leastOf_9 : decode cX2_leastOf 9 = .ok (.if_icmp .ge 40, 3) := by decide +kernel
theorem dX2_leastOf_12 : decode cX2_leastOf 12 = .ok (.iload_n 3, 1) := by decide +kernel
theorem dX2_leastOf_13 : decode cX2_leastOf 13 = .ok (.aload_n 1, 1) := by decide +kernel
theorem dX2_leastOf_14 : decode cX2_leastOf 14 = .ok (.arraylength, 1) := by decide +kernel
theorem dX2_leastOf_15 : decode cX2_leastOf 15 = .ok (.if_icmp .ge 34, 3) := by decide +kernel
theorem dX2_leastOf_18 : decode cX2_leastOf 18 = .ok (.aload_n 0, 1) := by decide +kernel
theorem dX2_leastOf_19 : decode cX2_leastOf 19 = .ok (.iload_n 3, 1) := by decide +kernel
theorem dX2_leastOf_20 : decode cX2_leastOf 20 = .ok (.invokevirtual 90, 3) := by decide +kernel
theorem dX2_leastOf_23 : decode cX2_leastOf 23 = .ok (.iconst (-1), 1) := by decide +kernel
theorem dX2_leastOf_24 : decode cX2_leastOf 24 = .ok (.if_icmp .eq 19, 3) := by decide +kernel
theorem dX2_leastOf_27 : decode cX2_leastOf 27 = .ok (.iload_n 2, 1) := by decide +kernel
theorem dX2_leastOf_28 : decode cX2_leastOf 28 = .ok (.iconst (-1), 1) := by decide +kernel
theorem dX2_leastOf_29 : decode cX2_leastOf 29 = .ok (.if_icmp .eq 10, 3) := by decide +kernel
theorem dX2_leastOf_32 : decode cX2_leastOf 32 = .ok (.aload_n 1, 1) := by decide +kernel
theorem dX2_leastOf_33 : decode cX2_leastOf 33 = .ok (.iload_n 3, 1) := by decide +kernel
theorem dX2_leastOf_34 : decode cX2_leastOf 34 = .ok (.iaload, 1) := by decide +kernel
theorem dX2_leastOf_35 : decode cX2_leastOf 35 = .ok (.iload_n 2, 1) := by decide +kernel
theorem dX2_leastOf_36 : decode cX2_leastOf 36 = .ok (.if_icmp .ge 7, 3) := by decide +kernel
theorem dX2_leastOf_39 : decode cX2_leastOf 39 = .ok (.aload_n 1, 1) := by decide +kernel
theorem dX2_leastOf_40 : decode cX2_leastOf 40 = .ok (.iload_n 3, 1) := by decide +kernel
theorem dX2_leastOf_41 : decode cX2_leastOf 41 = .ok (.iaload, 1) := by decide +kernel
theorem dX2_leastOf_42 : decode cX2_leastOf 42 = .ok (.istore_n 2, 1) := by decide +kernel
theorem dX2_leastOf_43 : decode cX2_leastOf 43 = .ok (.iinc 3 1, 3) := by decide +kernel
theorem dX2_leastOf_46 : decode cX2_leastOf 46 = .ok (.goto (-42), 3) := by decide +kernel
theorem dX2_leastOf_49 : decode cX2_leastOf 49 = .ok (.iload_n 2, 1) := by decide +kernel
theorem dX2_leastOf_50 : decode cX2_leastOf 50 = .ok (.ireturn, 1) := by decide +kernel
theorem dX2_dirtyOnes_0 : decode cX2_dirtyOnes 0 = .ok (.iconst 0, 1) := by decide +kernel
theorem dX2_dirtyOnes_1 : decode cX2_dirtyOnes 1 = .ok (.istore_n 1, 1) := by decide +kernel
theorem dX2_dirtyOnes_2 : decode cX2_dirtyOnes 2 = .ok (.iconst 0, 1) := by decide +kernel
theorem dX2_dirtyOnes_3 : decode cX2_dirtyOnes 3 = .ok (.istore_n 2, 1) := by decide +kernel
theorem dX2_dirtyOnes_4 : decode cX2_dirtyOnes 4 = .ok (.iload_n 2, 1) := by decide +kernel
theorem dX2_dirtyOnes_5 : decode cX2_dirtyOnes 5 = .ok (.aload_n 0, 1) := by decide +kernel
theorem dX2_dirtyOnes_6 : decode cX2_dirtyOnes 6 = .ok (.getfield 37, 3) := by decide +kernel
theorem dX2_dirtyOnes_9 : decode cX2_dirtyOnes 9 = .ok (.if_icmp .ge 25, 3) := by decide +kernel
theorem dX2_dirtyOnes_12 : decode cX2_dirtyOnes 12 = .ok (.iload_n 1, 1) := by decide +kernel
theorem dX2_dirtyOnes_13 : decode cX2_dirtyOnes 13 = .ok (.aload_n 0, 1) := by decide +kernel
theorem dX2_dirtyOnes_14 : decode cX2_dirtyOnes 14 = .ok (.iload_n 2, 1) := by decide +kernel
theorem dX2_dirtyOnes_15 : decode cX2_dirtyOnes 15 = .ok (.invokevirtual 118, 3) := by decide +kernel
theorem dX2_dirtyOnes_18 : decode cX2_dirtyOnes 18 = .ok (.ifCond .eq 7, 3) := by decide +kernel
theorem dX2_dirtyOnes_21 : decode cX2_dirtyOnes 21 = .ok (.iconst 1, 1) := by decide +kernel
theorem dX2_dirtyOnes_22 : decode cX2_dirtyOnes 22 = .ok (.goto 4, 3) := by decide +kernel
theorem dX2_dirtyOnes_25 : decode cX2_dirtyOnes 25 = .ok (.iconst 0, 1) := by decide +kernel
theorem dX2_dirtyOnes_26 : decode cX2_dirtyOnes 26 = .ok (.iadd, 1) := by decide +kernel
theorem dX2_dirtyOnes_27 : decode cX2_dirtyOnes 27 = .ok (.istore_n 1, 1) := by decide +kernel
theorem dX2_dirtyOnes_28 : decode cX2_dirtyOnes 28 = .ok (.iinc 2 1, 3) := by decide +kernel
theorem dX2_dirtyOnes_31 : decode cX2_dirtyOnes 31 = .ok (.goto (-27), 3) := by decide +kernel
theorem dX2_dirtyOnes_34 : decode cX2_dirtyOnes 34 = .ok (.iload_n 1, 1) := by decide +kernel
theorem dX2_dirtyOnes_35 : decode cX2_dirtyOnes 35 = .ok (.ireturn, 1) := by decide +kernel
theorem dX2_tells_0 : decode cX2_tells 0 = .ok (.iload_n 1, 1) := by decide +kernel
theorem dX2_tells_1 : decode cX2_tells 1 = .ok (.tableswitch 96 0 8 #[51, 56, 61, 66, 71, 76, 81, 86, 91], 51) := by decide +kernel
theorem dX2_tells_52 : decode cX2_tells 52 = .ok (.aload_n 0, 1) := by decide +kernel
theorem dX2_tells_53 : decode cX2_tells 53 = .ok (.getfield 37, 3) := by decide +kernel
theorem dX2_tells_56 : decode cX2_tells 56 = .ok (.ireturn, 1) := by decide +kernel
theorem dX2_tells_57 : decode cX2_tells 57 = .ok (.aload_n 0, 1) := by decide +kernel
theorem dX2_tells_58 : decode cX2_tells 58 = .ok (.getfield 41, 3) := by decide +kernel
theorem dX2_tells_61 : decode cX2_tells 61 = .ok (.ireturn, 1) := by decide +kernel
theorem dX2_tells_62 : decode cX2_tells 62 = .ok (.aload_n 0, 1) := by decide +kernel
theorem dX2_tells_63 : decode cX2_tells 63 = .ok (.getfield 44, 3) := by decide +kernel
theorem dX2_tells_66 : decode cX2_tells 66 = .ok (.ireturn, 1) := by decide +kernel
theorem dX2_tells_67 : decode cX2_tells 67 = .ok (.aload_n 0, 1) := by decide +kernel
theorem dX2_tells_68 : decode cX2_tells 68 = .ok (.getfield 71, 3) := by decide +kernel
theorem dX2_tells_71 : decode cX2_tells 71 = .ok (.ireturn, 1) := by decide +kernel
theorem dX2_tells_72 : decode cX2_tells 72 = .ok (.aload_n 0, 1) := by decide +kernel
theorem dX2_tells_73 : decode cX2_tells 73 = .ok (.invokevirtual 121, 3) := by decide +kernel
theorem dX2_tells_76 : decode cX2_tells 76 = .ok (.ireturn, 1) := by decide +kernel
theorem dX2_tells_77 : decode cX2_tells 77 = .ok (.aload_n 0, 1) := by decide +kernel
theorem dX2_tells_78 : decode cX2_tells 78 = .ok (.getfield 50, 3) := by decide +kernel
theorem dX2_tells_81 : decode cX2_tells 81 = .ok (.ireturn, 1) := by decide +kernel
theorem dX2_tells_82 : decode cX2_tells 82 = .ok (.aload_n 0, 1) := by decide +kernel
theorem dX2_tells_83 : decode cX2_tells 83 = .ok (.getfield 53, 3) := by decide +kernel
theorem dX2_tells_86 : decode cX2_tells 86 = .ok (.ireturn, 1) := by decide +kernel
theorem dX2_tells_87 : decode cX2_tells 87 = .ok (.aload_n 0, 1) := by decide +kernel
theorem dX2_tells_88 : decode cX2_tells 88 = .ok (.getfield 56, 3) := by decide +kernel
theorem dX2_tells_91 : decode cX2_tells 91 = .ok (.ireturn, 1) := by decide +kernel
theorem dX2_tells_92 : decode cX2_tells 92 = .ok (.aload_n 0, 1) := by decide +kernel
theorem dX2_tells_93 : decode cX2_tells 93 = .ok (.getfield 59, 3) := by decide +kernel
theorem dX2_tells_96 : decode cX2_tells 96 = .ok (.ireturn, 1) := by decide +kernel
theorem dX2_tells_97 : decode cX2_tells 97 = .ok (.aload_n 0, 1) := by decide +kernel
theorem dX2_tells_98 : decode cX2_tells 98 = .ok (.getfield 62, 3) := by decide +kernel
theorem dX2_tells_101 : decode cX2_tells 101 = .ok (.ireturn, 1) := by decide +kernel
theorem dX2_tellsSlot_0 : decode cX2_tellsSlot 0 = .ok (.iload_n 1, 1) := by decide +kernel
theorem dX2_tellsSlot_1 : decode cX2_tellsSlot 1 = .ok (.invokestatic 80, 3) := by decide +kernel
theorem dX2_tellsSlot_4 : decode cX2_tellsSlot 4 = .ok (.ifCond .eq 12, 3) := by decide +kernel
theorem dX2_tellsSlot_7 : decode cX2_tellsSlot 7 = .ok (.aload_n 0, 1) := by decide +kernel
theorem dX2_tellsSlot_8 : decode cX2_tellsSlot 8 = .ok (.iload_n 1, 1) := by decide +kernel
theorem dX2_tellsSlot_9 : decode cX2_tellsSlot 9 = .ok (.invokevirtual 90, 3) := by decide +kernel
theorem dX2_tellsSlot_12 : decode cX2_tellsSlot 12 = .ok (.iconst (-1), 1) := by decide +kernel
theorem dX2_tellsSlot_13 : decode cX2_tellsSlot 13 = .ok (.if_icmp .ne 5, 3) := by decide +kernel
theorem dX2_tellsSlot_16 : decode cX2_tellsSlot 16 = .ok (.iconst (-1), 1) := by decide +kernel
theorem dX2_tellsSlot_17 : decode cX2_tellsSlot 17 = .ok (.ireturn, 1) := by decide +kernel
theorem dX2_tellsSlot_18 : decode cX2_tellsSlot 18 = .ok (.iload_n 2, 1) := by decide +kernel
theorem dX2_tellsSlot_19 : decode cX2_tellsSlot 19 = .ok (.tableswitch 76 0 4 #[33, 40, 55, 62, 69], 33) := by decide +kernel
theorem dX2_tellsSlot_52 : decode cX2_tellsSlot 52 = .ok (.aload_n 0, 1) := by decide +kernel
theorem dX2_tellsSlot_53 : decode cX2_tellsSlot 53 = .ok (.getfield 9, 3) := by decide +kernel
theorem dX2_tellsSlot_56 : decode cX2_tellsSlot 56 = .ok (.iload_n 1, 1) := by decide +kernel
theorem dX2_tellsSlot_57 : decode cX2_tellsSlot 57 = .ok (.iaload, 1) := by decide +kernel
theorem dX2_tellsSlot_58 : decode cX2_tellsSlot 58 = .ok (.ireturn, 1) := by decide +kernel
theorem dX2_tellsSlot_59 : decode cX2_tellsSlot 59 = .ok (.aload_n 0, 1) := by decide +kernel
theorem dX2_tellsSlot_60 : decode cX2_tellsSlot 60 = .ok (.getfield 18, 3) := by decide +kernel
theorem dX2_tellsSlot_63 : decode cX2_tellsSlot 63 = .ok (.iload_n 1, 1) := by decide +kernel
theorem dX2_tellsSlot_64 : decode cX2_tellsSlot 64 = .ok (.baload, 1) := by decide +kernel
theorem dX2_tellsSlot_65 : decode cX2_tellsSlot 65 = .ok (.ifCond .eq 7, 3) := by decide +kernel
theorem dX2_tellsSlot_68 : decode cX2_tellsSlot 68 = .ok (.iconst 1, 1) := by decide +kernel
theorem dX2_tellsSlot_69 : decode cX2_tellsSlot 69 = .ok (.goto 4, 3) := by decide +kernel
theorem dX2_tellsSlot_72 : decode cX2_tellsSlot 72 = .ok (.iconst 0, 1) := by decide +kernel
theorem dX2_tellsSlot_73 : decode cX2_tellsSlot 73 = .ok (.ireturn, 1) := by decide +kernel
theorem dX2_tellsSlot_74 : decode cX2_tellsSlot 74 = .ok (.aload_n 0, 1) := by decide +kernel
theorem dX2_tellsSlot_75 : decode cX2_tellsSlot 75 = .ok (.getfield 22, 3) := by decide +kernel
theorem dX2_tellsSlot_78 : decode cX2_tellsSlot 78 = .ok (.iload_n 1, 1) := by decide +kernel
theorem dX2_tellsSlot_79 : decode cX2_tellsSlot 79 = .ok (.iaload, 1) := by decide +kernel
theorem dX2_tellsSlot_80 : decode cX2_tellsSlot 80 = .ok (.ireturn, 1) := by decide +kernel
theorem dX2_tellsSlot_81 : decode cX2_tellsSlot 81 = .ok (.aload_n 0, 1) := by decide +kernel
theorem dX2_tellsSlot_82 : decode cX2_tellsSlot 82 = .ok (.getfield 25, 3) := by decide +kernel
theorem dX2_tellsSlot_85 : decode cX2_tellsSlot 85 = .ok (.iload_n 1, 1) := by decide +kernel
theorem dX2_tellsSlot_86 : decode cX2_tellsSlot 86 = .ok (.iaload, 1) := by decide +kernel
theorem dX2_tellsSlot_87 : decode cX2_tellsSlot 87 = .ok (.ireturn, 1) := by decide +kernel
theorem dX2_tellsSlot_88 : decode cX2_tellsSlot 88 = .ok (.aload_n 0, 1) := by decide +kernel
theorem dX2_tellsSlot_89 : decode cX2_tellsSlot 89 = .ok (.getfield 28, 3) := by decide +kernel
theorem dX2_tellsSlot_92 : decode cX2_tellsSlot 92 = .ok (.iload_n 1, 1) := by decide +kernel
theorem dX2_tellsSlot_93 : decode cX2_tellsSlot 93 = .ok (.iaload, 1) := by decide +kernel
theorem dX2_tellsSlot_94 : decode cX2_tellsSlot 94 = .ok (.ireturn, 1) := by decide +kernel
theorem dX2_tellsSlot_95 : decode cX2_tellsSlot 95 = .ok (.aload_n 0, 1) := by decide +kernel
theorem dX2_tellsSlot_96 : decode cX2_tellsSlot 96 = .ok (.getfield 31, 3) := by decide +kernel
theorem dX2_tellsSlot_99 : decode cX2_tellsSlot 99 = .ok (.iload_n 1, 1) := by decide +kernel
theorem dX2_tellsSlot_100 : decode cX2_tellsSlot 100 = .ok (.baload, 1) := by decide +kernel
theorem dX2_tellsSlot_101 : decode cX2_tellsSlot 101 = .ok (.ifCond .eq 7, 3) := by decide +kernel
theorem dX2_tellsSlot_104 : decode cX2_tellsSlot 104 = .ok (.iconst 1, 1) := by decide +kernel
theorem dX2_tellsSlot_105 : decode cX2_tellsSlot 105 = .ok (.goto 4, 3) := by decide +kernel
theorem dX2_tellsSlot_108 : decode cX2_tellsSlot 108 = .ok (.iconst 0, 1) := by decide +kernel
theorem dX2_tellsSlot_109 : decode cX2_tellsSlot 109 = .ok (.ireturn, 1) := by decide +kernel
theorem dX3_init_0 : decode cX3_init 0 = .ok (.aload_n 0, 1) := by decide +kernel
theorem dX3_init_1 : decode cX3_init 1 = .ok (.invokespecial 3, 3) := by decide +kernel
theorem dX3_init_4 : decode cX3_init 4 = .ok (.aload_n 0, 1) := by decide +kernel
theorem dX3_init_5 : decode cX3_init 5 = .ok (.iconst (-1), 1) := by decide +kernel
theorem dX3_init_6 : decode cX3_init 6 = .ok (.putfield 9, 3) := by decide +kernel
theorem dX3_init_9 : decode cX3_init 9 = .ok (.aload_n 0, 1) := by decide +kernel
theorem dX3_init_10 : decode cX3_init 10 = .ok (.iconst (-1), 1) := by decide +kernel
theorem dX3_init_11 : decode cX3_init 11 = .ok (.putfield 15, 3) := by decide +kernel
theorem dX3_init_14 : decode cX3_init 14 = .ok (.aload_n 0, 1) := by decide +kernel
theorem dX3_init_15 : decode cX3_init 15 = .ok (.bipush 40, 2) := by decide +kernel
theorem dX3_init_17 : decode cX3_init 17 = .ok (.newarray .long, 2) := by decide +kernel
theorem dX3_init_19 : decode cX3_init 19 = .ok (.putfield 18, 3) := by decide +kernel
theorem dX3_init_22 : decode cX3_init 22 = .ok (.return_, 1) := by decide +kernel
theorem dX3_isRow_0 : decode cX3_isRow 0 = .ok (.aload_n 0, 1) := by decide +kernel
theorem dX3_isRow_1 : decode cX3_isRow 1 = .ok (.getfield 9, 3) := by decide +kernel
theorem dX3_isRow_4 : decode cX3_isRow 4 = .ok (.iconst (-1), 1) := by decide +kernel
theorem dX3_isRow_5 : decode cX3_isRow 5 = .ok (.if_icmp .eq 7, 3) := by decide +kernel
theorem dX3_isRow_8 : decode cX3_isRow 8 = .ok (.iconst 1, 1) := by decide +kernel
theorem dX3_isRow_9 : decode cX3_isRow 9 = .ok (.goto 4, 3) := by decide +kernel
theorem dX3_isRow_12 : decode cX3_isRow 12 = .ok (.iconst 0, 1) := by decide +kernel
theorem dX3_isRow_13 : decode cX3_isRow 13 = .ok (.ireturn, 1) := by decide +kernel
theorem dX3_isRule_0 : decode cX3_isRule 0 = .ok (.aload_n 0, 1) := by decide +kernel
theorem dX3_isRule_1 : decode cX3_isRule 1 = .ok (.getfield 15, 3) := by decide +kernel
theorem dX3_isRule_4 : decode cX3_isRule 4 = .ok (.iconst (-1), 1) := by decide +kernel
theorem dX3_isRule_5 : decode cX3_isRule 5 = .ok (.if_icmp .eq 7, 3) := by decide +kernel
theorem dX3_isRule_8 : decode cX3_isRule 8 = .ok (.iconst 1, 1) := by decide +kernel
theorem dX3_isRule_9 : decode cX3_isRule 9 = .ok (.goto 4, 3) := by decide +kernel
theorem dX3_isRule_12 : decode cX3_isRule 12 = .ok (.iconst 0, 1) := by decide +kernel
theorem dX3_isRule_13 : decode cX3_isRule 13 = .ok (.ireturn, 1) := by decide +kernel
theorem dX3_holdNothing_0 : decode cX3_holdNothing 0 = .ok (.aload_n 0, 1) := by decide +kernel
theorem dX3_holdNothing_1 : decode cX3_holdNothing 1 = .ok (.iconst (-1), 1) := by decide +kernel
theorem dX3_holdNothing_2 : decode cX3_holdNothing 2 = .ok (.putfield 9, 3) := by decide +kernel
theorem dX3_holdNothing_5 : decode cX3_holdNothing 5 = .ok (.aload_n 0, 1) := by decide +kernel
theorem dX3_holdNothing_6 : decode cX3_holdNothing 6 = .ok (.iconst (-1), 1) := by decide +kernel
theorem dX3_holdNothing_7 : decode cX3_holdNothing 7 = .ok (.putfield 15, 3) := by decide +kernel
theorem dX3_holdNothing_10 : decode cX3_holdNothing 10 = .ok (.aload_n 0, 1) := by decide +kernel
theorem dX3_holdNothing_11 : decode cX3_holdNothing 11 = .ok (.iconst 0, 1) := by decide +kernel
theorem dX3_holdNothing_12 : decode cX3_holdNothing 12 = .ok (.putfield 22, 3) := by decide +kernel
theorem dX3_holdNothing_15 : decode cX3_holdNothing 15 = .ok (.return_, 1) := by decide +kernel
theorem dX3_holdRule_0 : decode cX3_holdRule 0 = .ok (.aload_n 0, 1) := by decide +kernel
theorem dX3_holdRule_1 : decode cX3_holdRule 1 = .ok (.invokevirtual 25, 3) := by decide +kernel
theorem dX3_holdRule_4 : decode cX3_holdRule 4 = .ok (.aload_n 0, 1) := by decide +kernel
theorem dX3_holdRule_5 : decode cX3_holdRule 5 = .ok (.iload_n 1, 1) := by decide +kernel
theorem dX3_holdRule_6 : decode cX3_holdRule 6 = .ok (.putfield 15, 3) := by decide +kernel
theorem dX3_holdRule_9 : decode cX3_holdRule 9 = .ok (.return_, 1) := by decide +kernel
theorem dX3_holdRow_0 : decode cX3_holdRow 0 = .ok (.aload_n 0, 1) := by decide +kernel
theorem dX3_holdRow_1 : decode cX3_holdRow 1 = .ok (.invokevirtual 25, 3) := by decide +kernel
theorem dX3_holdRow_4 : decode cX3_holdRow 4 = .ok (.aload_n 0, 1) := by decide +kernel
theorem dX3_holdRow_5 : decode cX3_holdRow 5 = .ok (.iload_n 1, 1) := by decide +kernel
theorem dX3_holdRow_6 : decode cX3_holdRow 6 = .ok (.putfield 9, 3) := by decide +kernel
theorem dX3_holdRow_9 : decode cX3_holdRow 9 = .ok (.aload_n 0, 1) := by decide +kernel
theorem dX3_holdRow_10 : decode cX3_holdRow 10 = .ok (.iload_n 2, 1) := by decide +kernel
theorem dX3_holdRow_11 : decode cX3_holdRow 11 = .ok (.putfield 22, 3) := by decide +kernel
theorem dX3_holdRow_14 : decode cX3_holdRow 14 = .ok (.iconst 0, 1) := by decide +kernel
theorem dX3_holdRow_15 : decode cX3_holdRow 15 = .ok (.istore_n 3, 1) := by decide +kernel
theorem dX3_holdRow_16 : decode cX3_holdRow 16 = .ok (.iload_n 3, 1) := by decide +kernel
theorem dX3_holdRow_17 : decode cX3_holdRow 17 = .ok (.aload_n 0, 1) := by decide +kernel
theorem dX3_holdRow_18 : decode cX3_holdRow 18 = .ok (.getfield 18, 3) := by decide +kernel
theorem dX3_holdRow_21 : decode cX3_holdRow 21 = .ok (.arraylength, 1) := by decide +kernel
theorem dX3_holdRow_22 : decode cX3_holdRow 22 = .ok (.if_icmp .ge 16, 3) := by decide +kernel
theorem dX3_holdRow_25 : decode cX3_holdRow 25 = .ok (.aload_n 0, 1) := by decide +kernel
theorem dX3_holdRow_26 : decode cX3_holdRow 26 = .ok (.getfield 18, 3) := by decide +kernel
theorem dX3_holdRow_29 : decode cX3_holdRow 29 = .ok (.iload_n 3, 1) := by decide +kernel
theorem dX3_holdRow_30 : decode cX3_holdRow 30 = .ok (.lconst 0, 1) := by decide +kernel
theorem dX3_holdRow_31 : decode cX3_holdRow 31 = .ok (.lastore, 1) := by decide +kernel
theorem dX3_holdRow_32 : decode cX3_holdRow 32 = .ok (.iinc 3 1, 3) := by decide +kernel
theorem dX3_holdRow_35 : decode cX3_holdRow 35 = .ok (.goto (-19), 3) := by decide +kernel
theorem dX3_holdRow_38 : decode cX3_holdRow 38 = .ok (.return_, 1) := by decide +kernel
theorem dX3_hasElement_0 : decode cX3_hasElement 0 = .ok (.iload_n 1, 1) := by decide +kernel
theorem dX3_hasElement_1 : decode cX3_hasElement 1 = .ok (.iconst 0, 1) := by decide +kernel
theorem dX3_hasElement_2 : decode cX3_hasElement 2 = .ok (.aload_n 0, 1) := by decide +kernel
theorem dX3_hasElement_3 : decode cX3_hasElement 3 = .ok (.getfield 22, 3) := by decide +kernel
theorem dX3_hasElement_6 : decode cX3_hasElement 6 = .ok (.iconst 1, 1) := by decide +kernel
theorem dX3_hasElement_7 : decode cX3_hasElement 7 = .ok (.isub, 1) := by decide +kernel
theorem dX3_hasElement_8 : decode cX3_hasElement 8 = .ok (.invokestatic 28, 3) := by decide +kernel
theorem dX3_hasElement_11 : decode cX3_hasElement 11 = .ok (.ifCond .eq 16, 3) := by decide +kernel
theorem dX3_hasElement_14 : decode cX3_hasElement 14 = .ok (.iload_n 1, 1) := by decide +kernel
theorem dX3_hasElement_15 : decode cX3_hasElement 15 = .ok (.aload_n 0, 1) := by decide +kernel
theorem dX3_hasElement_16 : decode cX3_hasElement 16 = .ok (.getfield 18, 3) := by decide +kernel
theorem dX3_hasElement_19 : decode cX3_hasElement 19 = .ok (.arraylength, 1) := by decide +kernel
theorem dX3_hasElement_20 : decode cX3_hasElement 20 = .ok (.if_icmp .ge 7, 3) := by decide +kernel
theorem dX3_hasElement_23 : decode cX3_hasElement 23 = .ok (.iconst 1, 1) := by decide +kernel
theorem dX3_hasElement_24 : decode cX3_hasElement 24 = .ok (.goto 4, 3) := by decide +kernel
theorem dX3_hasElement_27 : decode cX3_hasElement 27 = .ok (.iconst 0, 1) := by decide +kernel
theorem dX3_hasElement_28 : decode cX3_hasElement 28 = .ok (.ireturn, 1) := by decide +kernel
theorem dX3_hasElements_0 : decode cX3_hasElements 0 = .ok (.iload_n 1, 1) := by decide +kernel
theorem dX3_hasElements_1 : decode cX3_hasElements 1 = .ok (.ifCond .lt 29, 3) := by decide +kernel
theorem dX3_hasElements_4 : decode cX3_hasElements 4 = .ok (.iload_n 2, 1) := by decide +kernel
theorem dX3_hasElements_5 : decode cX3_hasElements 5 = .ok (.ifCond .lt 25, 3) := by decide +kernel
theorem dX3_hasElements_8 : decode cX3_hasElements 8 = .ok (.iload_n 1, 1) := by decide +kernel
theorem dX3_hasElements_9 : decode cX3_hasElements 9 = .ok (.aload_n 0, 1) := by decide +kernel
theorem dX3_hasElements_10 : decode cX3_hasElements 10 = .ok (.getfield 22, 3) := by decide +kernel
theorem dX3_hasElements_13 : decode cX3_hasElements 13 = .ok (.if_icmp .gt 17, 3) := by decide +kernel
theorem dX3_hasElements_16 : decode cX3_hasElements 16 = .ok (.iload_n 2, 1) := by decide +kernel
theorem dX3_hasElements_17 : decode cX3_hasElements 17 = .ok (.aload_n 0, 1) := by decide +kernel
theorem dX3_hasElements_18 : decode cX3_hasElements 18 = .ok (.getfield 22, 3) := by decide +kernel
theorem dX3_hasElements_21 : decode cX3_hasElements 21 = .ok (.iload_n 1, 1) := by decide +kernel
theorem dX3_hasElements_22 : decode cX3_hasElements 22 = .ok (.isub, 1) := by decide +kernel
theorem dX3_hasElements_23 : decode cX3_hasElements 23 = .ok (.if_icmp .gt 7, 3) := by decide +kernel
theorem dX3_hasElements_26 : decode cX3_hasElements 26 = .ok (.iconst 1, 1) := by decide +kernel
theorem dX3_hasElements_27 : decode cX3_hasElements 27 = .ok (.goto 4, 3) := by decide +kernel
theorem dX3_hasElements_30 : decode cX3_hasElements 30 = .ok (.iconst 0, 1) := by decide +kernel
theorem dX3_hasElements_31 : decode cX3_hasElements 31 = .ok (.ireturn, 1) := by decide +kernel
theorem dX3_elementAt_0 : decode cX3_elementAt 0 = .ok (.aload_n 0, 1) := by decide +kernel
theorem dX3_elementAt_1 : decode cX3_elementAt 1 = .ok (.iload_n 1, 1) := by decide +kernel
theorem dX3_elementAt_2 : decode cX3_elementAt 2 = .ok (.invokevirtual 32, 3) := by decide +kernel
theorem dX3_elementAt_5 : decode cX3_elementAt 5 = .ok (.ifCond .eq 12, 3) := by decide +kernel
theorem dX3_elementAt_8 : decode cX3_elementAt 8 = .ok (.aload_n 0, 1) := by decide +kernel
theorem dX3_elementAt_9 : decode cX3_elementAt 9 = .ok (.getfield 18, 3) := by decide +kernel
theorem dX3_elementAt_12 : decode cX3_elementAt 12 = .ok (.iload_n 1, 1) := by decide +kernel
theorem dX3_elementAt_13 : decode cX3_elementAt 13 = .ok (.laload, 1) := by decide +kernel
theorem dX3_elementAt_14 : decode cX3_elementAt 14 = .ok (.goto 4, 3) := by decide +kernel
theorem dX3_elementAt_17 : decode cX3_elementAt 17 = .ok (.lconst 0, 1) := by decide +kernel
theorem dX3_elementAt_18 : decode cX3_elementAt 18 = .ok (.lreturn, 1) := by decide +kernel
theorem dX3_putElement_0 : decode cX3_putElement 0 = .ok (.aload_n 0, 1) := by decide +kernel
theorem dX3_putElement_1 : decode cX3_putElement 1 = .ok (.iload_n 1, 1) := by decide +kernel
theorem dX3_putElement_2 : decode cX3_putElement 2 = .ok (.invokevirtual 32, 3) := by decide +kernel
theorem dX3_putElement_5 : decode cX3_putElement 5 = .ok (.ifCond .eq 14, 3) := by decide +kernel
theorem dX3_putElement_8 : decode cX3_putElement 8 = .ok (.aload_n 0, 1) := by decide +kernel
theorem dX3_putElement_9 : decode cX3_putElement 9 = .ok (.getfield 18, 3) := by decide +kernel
theorem dX3_putElement_12 : decode cX3_putElement 12 = .ok (.iload_n 1, 1) := by decide +kernel
theorem dX3_putElement_13 : decode cX3_putElement 13 = .ok (.aload_n 0, 1) := by decide +kernel
theorem dX3_putElement_14 : decode cX3_putElement 14 = .ok (.lload_n 2, 1) := by decide +kernel
theorem dX3_putElement_15 : decode cX3_putElement 15 = .ok (.invokevirtual 36, 3) := by decide +kernel
theorem dX3_putElement_18 : decode cX3_putElement 18 = .ok (.lastore, 1) := by decide +kernel
theorem dX3_putElement_19 : decode cX3_putElement 19 = .ok (.return_, 1) := by decide +kernel
theorem dX3_lowestBits_0 : decode cX3_lowestBits 0 = .ok (.aload_n 0, 1) := by decide +kernel
theorem dX3_lowestBits_1 : decode cX3_lowestBits 1 = .ok (.getfield 9, 3) := by decide +kernel
theorem dX3_lowestBits_4 : decode cX3_lowestBits 4 = .ok (.tableswitch 62 0 4 #[36, 41, 46, 62, 50], 36) := by decide +kernel
theorem dX3_lowestBits_40 : decode cX3_lowestBits 40 = .ok (.lload_n 1, 1) := by decide +kernel
theorem dX3_lowestBits_41 : decode cX3_lowestBits 41 = .ok (.l2i, 1) := by decide +kernel
theorem dX3_lowestBits_42 : decode cX3_lowestBits 42 = .ok (.i2b, 1) := by decide +kernel
theorem dX3_lowestBits_43 : decode cX3_lowestBits 43 = .ok (.i2l, 1) := by decide +kernel
theorem dX3_lowestBits_44 : decode cX3_lowestBits 44 = .ok (.lreturn, 1) := by decide +kernel
theorem dX3_lowestBits_45 : decode cX3_lowestBits 45 = .ok (.lload_n 1, 1) := by decide +kernel
theorem dX3_lowestBits_46 : decode cX3_lowestBits 46 = .ok (.l2i, 1) := by decide +kernel
theorem dX3_lowestBits_47 : decode cX3_lowestBits 47 = .ok (.i2s, 1) := by decide +kernel
theorem dX3_lowestBits_48 : decode cX3_lowestBits 48 = .ok (.i2l, 1) := by decide +kernel
theorem dX3_lowestBits_49 : decode cX3_lowestBits 49 = .ok (.lreturn, 1) := by decide +kernel
theorem dX3_lowestBits_50 : decode cX3_lowestBits 50 = .ok (.lload_n 1, 1) := by decide +kernel
theorem dX3_lowestBits_51 : decode cX3_lowestBits 51 = .ok (.l2i, 1) := by decide +kernel
theorem dX3_lowestBits_52 : decode cX3_lowestBits 52 = .ok (.i2l, 1) := by decide +kernel
theorem dX3_lowestBits_53 : decode cX3_lowestBits 53 = .ok (.lreturn, 1) := by decide +kernel
theorem dX3_lowestBits_54 : decode cX3_lowestBits 54 = .ok (.lload_n 1, 1) := by decide +kernel
theorem dX3_lowestBits_55 : decode cX3_lowestBits 55 = .ok (.lconst 0, 1) := by decide +kernel
theorem dX3_lowestBits_56 : decode cX3_lowestBits 56 = .ok (.lcmp, 1) := by decide +kernel
theorem dX3_lowestBits_57 : decode cX3_lowestBits 57 = .ok (.ifCond .ne 7, 3) := by decide +kernel
theorem dX3_lowestBits_60 : decode cX3_lowestBits 60 = .ok (.lconst 0, 1) := by decide +kernel
theorem dX3_lowestBits_61 : decode cX3_lowestBits 61 = .ok (.goto 4, 3) := by decide +kernel
theorem dX3_lowestBits_64 : decode cX3_lowestBits 64 = .ok (.lconst 1, 1) := by decide +kernel
theorem dX3_lowestBits_65 : decode cX3_lowestBits 65 = .ok (.lreturn, 1) := by decide +kernel
theorem dX3_lowestBits_66 : decode cX3_lowestBits 66 = .ok (.lload_n 1, 1) := by decide +kernel
theorem dX3_lowestBits_67 : decode cX3_lowestBits 67 = .ok (.lreturn, 1) := by decide +kernel
theorem dX4_init_0 : decode cX4_init 0 = .ok (.aload_n 0, 1) := by decide +kernel
theorem dX4_init_1 : decode cX4_init 1 = .ok (.invokespecial 3, 3) := by decide +kernel
theorem dX4_init_4 : decode cX4_init 4 = .ok (.aload_n 0, 1) := by decide +kernel
theorem dX4_init_5 : decode cX4_init 5 = .ok (.iconst 4, 1) := by decide +kernel
theorem dX4_init_6 : decode cX4_init 6 = .ok (.anewarray 9, 3) := by decide +kernel
theorem dX4_init_9 : decode cX4_init 9 = .ok (.putfield 11, 3) := by decide +kernel
theorem dX4_init_12 : decode cX4_init 12 = .ok (.aload_n 0, 1) := by decide +kernel
theorem dX4_init_13 : decode cX4_init 13 = .ok (.bipush 64, 2) := by decide +kernel
theorem dX4_init_15 : decode cX4_init 15 = .ok (.newarray .int, 2) := by decide +kernel
theorem dX4_init_17 : decode cX4_init 17 = .ok (.putfield 17, 3) := by decide +kernel
theorem dX4_init_20 : decode cX4_init 20 = .ok (.aload_n 0, 1) := by decide +kernel
theorem dX4_init_21 : decode cX4_init 21 = .ok (.bipush 50, 2) := by decide +kernel
theorem dX4_init_23 : decode cX4_init 23 = .ok (.putfield 21, 3) := by decide +kernel
theorem dX4_init_26 : decode cX4_init 26 = .ok (.aload_n 0, 1) := by decide +kernel
theorem dX4_init_27 : decode cX4_init 27 = .ok (.iconst (-1), 1) := by decide +kernel
theorem dX4_init_28 : decode cX4_init 28 = .ok (.putfield 25, 3) := by decide +kernel
theorem dX4_init_31 : decode cX4_init 31 = .ok (.aload_n 0, 1) := by decide +kernel
theorem dX4_init_32 : decode cX4_init 32 = .ok (.new 28, 3) := by decide +kernel
theorem dX4_init_35 : decode cX4_init 35 = .ok (.dup, 1) := by decide +kernel
theorem dX4_init_36 : decode cX4_init 36 = .ok (.invokespecial 30, 3) := by decide +kernel
theorem dX4_init_39 : decode cX4_init 39 = .ok (.putfield 31, 3) := by decide +kernel
theorem dX4_init_42 : decode cX4_init 42 = .ok (.aload_n 0, 1) := by decide +kernel
theorem dX4_init_43 : decode cX4_init 43 = .ok (.new 35, 3) := by decide +kernel
theorem dX4_init_46 : decode cX4_init 46 = .ok (.dup, 1) := by decide +kernel
theorem dX4_init_47 : decode cX4_init 47 = .ok (.invokespecial 37, 3) := by decide +kernel
theorem dX4_init_50 : decode cX4_init 50 = .ok (.putfield 38, 3) := by decide +kernel
theorem dX4_init_53 : decode cX4_init 53 = .ok (.iconst 0, 1) := by decide +kernel
theorem dX4_init_54 : decode cX4_init 54 = .ok (.istore_n 1, 1) := by decide +kernel
theorem dX4_init_55 : decode cX4_init 55 = .ok (.iload_n 1, 1) := by decide +kernel
theorem dX4_init_56 : decode cX4_init 56 = .ok (.aload_n 0, 1) := by decide +kernel
theorem dX4_init_57 : decode cX4_init 57 = .ok (.getfield 11, 3) := by decide +kernel
theorem dX4_init_60 : decode cX4_init 60 = .ok (.arraylength, 1) := by decide +kernel
theorem dX4_init_61 : decode cX4_init 61 = .ok (.if_icmp .ge 22, 3) := by decide +kernel
theorem dX4_init_64 : decode cX4_init 64 = .ok (.aload_n 0, 1) := by decide +kernel
theorem dX4_init_65 : decode cX4_init 65 = .ok (.getfield 11, 3) := by decide +kernel
theorem dX4_init_68 : decode cX4_init 68 = .ok (.iload_n 1, 1) := by decide +kernel
theorem dX4_init_69 : decode cX4_init 69 = .ok (.new 9, 3) := by decide +kernel
theorem dX4_init_72 : decode cX4_init 72 = .ok (.dup, 1) := by decide +kernel
theorem dX4_init_73 : decode cX4_init 73 = .ok (.invokespecial 42, 3) := by decide +kernel
theorem dX4_init_76 : decode cX4_init 76 = .ok (.aastore, 1) := by decide +kernel
theorem dX4_init_77 : decode cX4_init 77 = .ok (.iinc 1 1, 3) := by decide +kernel
theorem dX4_init_80 : decode cX4_init 80 = .ok (.goto (-25), 3) := by decide +kernel
theorem dX4_init_83 : decode cX4_init 83 = .ok (.return_, 1) := by decide +kernel
theorem dX4_takeFrom_0 : decode cX4_takeFrom 0 = .ok (.aload_n 0, 1) := by decide +kernel
theorem dX4_takeFrom_1 : decode cX4_takeFrom 1 = .ok (.aload_n 1, 1) := by decide +kernel
theorem dX4_takeFrom_2 : decode cX4_takeFrom 2 = .ok (.getfield 43, 3) := by decide +kernel
theorem dX4_takeFrom_5 : decode cX4_takeFrom 5 = .ok (.putfield 43, 3) := by decide +kernel
theorem dX4_takeFrom_8 : decode cX4_takeFrom 8 = .ok (.iconst 1, 1) := by decide +kernel
theorem dX4_takeFrom_9 : decode cX4_takeFrom 9 = .ok (.istore_n 2, 1) := by decide +kernel
theorem dX4_takeFrom_10 : decode cX4_takeFrom 10 = .ok (.iload_n 2, 1) := by decide +kernel
theorem dX4_takeFrom_11 : decode cX4_takeFrom 11 = .ok (.aload_n 0, 1) := by decide +kernel
theorem dX4_takeFrom_12 : decode cX4_takeFrom 12 = .ok (.getfield 43, 3) := by decide +kernel
theorem dX4_takeFrom_15 : decode cX4_takeFrom 15 = .ok (.if_icmp .gt 37, 3) := by decide +kernel
theorem dX4_takeFrom_18 : decode cX4_takeFrom 18 = .ok (.aload_n 0, 1) := by decide +kernel
theorem dX4_takeFrom_19 : decode cX4_takeFrom 19 = .ok (.iload_n 2, 1) := by decide +kernel
theorem dX4_takeFrom_20 : decode cX4_takeFrom 20 = .ok (.invokevirtual 46, 3) := by decide +kernel
theorem dX4_takeFrom_23 : decode cX4_takeFrom 23 = .ok (.astore_n 3, 1) := by decide +kernel
theorem dX4_takeFrom_24 : decode cX4_takeFrom 24 = .ok (.aload_n 1, 1) := by decide +kernel
theorem dX4_takeFrom_25 : decode cX4_takeFrom 25 = .ok (.iload_n 2, 1) := by decide +kernel
theorem dX4_takeFrom_26 : decode cX4_takeFrom 26 = .ok (.invokevirtual 46, 3) := by decide +kernel
theorem dX4_takeFrom_29 : decode cX4_takeFrom 29 = .ok (.astore 4, 2) := by decide +kernel
theorem dX4_takeFrom_31 : decode cX4_takeFrom 31 = .ok (.aload_n 3, 1) := by decide +kernel
theorem dX4_takeFrom_32 : decode cX4_takeFrom 32 = .ok (.ifnull 14, 3) := by decide +kernel
theorem dX4_takeFrom_35 : decode cX4_takeFrom 35 = .ok (.aload 4, 2) := by decide +kernel
theorem dX4_takeFrom_37 : decode cX4_takeFrom 37 = .ok (.ifnull 9, 3) := by decide +kernel
theorem dX4_takeFrom_40 : decode cX4_takeFrom 40 = .ok (.aload_n 3, 1) := by decide +kernel
theorem dX4_takeFrom_41 : decode cX4_takeFrom 41 = .ok (.aload 4, 2) := by decide +kernel
theorem dX4_takeFrom_43 : decode cX4_takeFrom 43 = .ok (.invokevirtual 50, 3) := by decide +kernel
theorem dX4_takeFrom_46 : decode cX4_takeFrom 46 = .ok (.iinc 2 1, 3) := by decide +kernel
theorem dX4_takeFrom_49 : decode cX4_takeFrom 49 = .ok (.goto (-39), 3) := by decide +kernel
theorem dX4_takeFrom_52 : decode cX4_takeFrom 52 = .ok (.aload_n 1, 1) := by decide +kernel
theorem dX4_takeFrom_53 : decode cX4_takeFrom 53 = .ok (.getfield 17, 3) := by decide +kernel
theorem dX4_takeFrom_56 : decode cX4_takeFrom 56 = .ok (.iconst 0, 1) := by decide +kernel
theorem dX4_takeFrom_57 : decode cX4_takeFrom 57 = .ok (.aload_n 0, 1) := by decide +kernel
theorem dX4_takeFrom_58 : decode cX4_takeFrom 58 = .ok (.getfield 17, 3) := by decide +kernel
theorem dX4_takeFrom_61 : decode cX4_takeFrom 61 = .ok (.iconst 0, 1) := by decide +kernel
theorem dX4_takeFrom_62 : decode cX4_takeFrom 62 = .ok (.bipush 64, 2) := by decide +kernel
theorem dX4_takeFrom_64 : decode cX4_takeFrom 64 = .ok (.invokestatic 54, 3) := by decide +kernel
theorem dX4_takeFrom_67 : decode cX4_takeFrom 67 = .ok (.aload_n 0, 1) := by decide +kernel
theorem dX4_takeFrom_68 : decode cX4_takeFrom 68 = .ok (.aload_n 1, 1) := by decide +kernel
theorem dX4_takeFrom_69 : decode cX4_takeFrom 69 = .ok (.getfield 21, 3) := by decide +kernel
theorem dX4_takeFrom_72 : decode cX4_takeFrom 72 = .ok (.putfield 21, 3) := by decide +kernel
theorem dX4_takeFrom_75 : decode cX4_takeFrom 75 = .ok (.aload_n 0, 1) := by decide +kernel
theorem dX4_takeFrom_76 : decode cX4_takeFrom 76 = .ok (.aload_n 1, 1) := by decide +kernel
theorem dX4_takeFrom_77 : decode cX4_takeFrom 77 = .ok (.getfield 60, 3) := by decide +kernel
theorem dX4_takeFrom_80 : decode cX4_takeFrom 80 = .ok (.putfield 60, 3) := by decide +kernel
theorem dX4_takeFrom_83 : decode cX4_takeFrom 83 = .ok (.aload_n 0, 1) := by decide +kernel
theorem dX4_takeFrom_84 : decode cX4_takeFrom 84 = .ok (.aload_n 1, 1) := by decide +kernel
theorem dX4_takeFrom_85 : decode cX4_takeFrom 85 = .ok (.getfield 63, 3) := by decide +kernel
theorem dX4_takeFrom_88 : decode cX4_takeFrom 88 = .ok (.putfield 63, 3) := by decide +kernel
theorem dX4_takeFrom_91 : decode cX4_takeFrom 91 = .ok (.aload_n 0, 1) := by decide +kernel
theorem dX4_takeFrom_92 : decode cX4_takeFrom 92 = .ok (.aload_n 1, 1) := by decide +kernel
theorem dX4_takeFrom_93 : decode cX4_takeFrom 93 = .ok (.getfield 66, 3) := by decide +kernel
theorem dX4_takeFrom_96 : decode cX4_takeFrom 96 = .ok (.putfield 66, 3) := by decide +kernel
theorem dX4_takeFrom_99 : decode cX4_takeFrom 99 = .ok (.aload_n 0, 1) := by decide +kernel
theorem dX4_takeFrom_100 : decode cX4_takeFrom 100 = .ok (.aload_n 1, 1) := by decide +kernel
theorem dX4_takeFrom_101 : decode cX4_takeFrom 101 = .ok (.getfield 69, 3) := by decide +kernel
theorem dX4_takeFrom_104 : decode cX4_takeFrom 104 = .ok (.putfield 69, 3) := by decide +kernel
theorem dX4_takeFrom_107 : decode cX4_takeFrom 107 = .ok (.aload_n 0, 1) := by decide +kernel
theorem dX4_takeFrom_108 : decode cX4_takeFrom 108 = .ok (.aload_n 1, 1) := by decide +kernel
theorem dX4_takeFrom_109 : decode cX4_takeFrom 109 = .ok (.getfield 72, 3) := by decide +kernel
theorem dX4_takeFrom_112 : decode cX4_takeFrom 112 = .ok (.putfield 72, 3) := by decide +kernel
theorem dX4_takeFrom_115 : decode cX4_takeFrom 115 = .ok (.aload_n 0, 1) := by decide +kernel
theorem dX4_takeFrom_116 : decode cX4_takeFrom 116 = .ok (.aload_n 1, 1) := by decide +kernel
theorem dX4_takeFrom_117 : decode cX4_takeFrom 117 = .ok (.getfield 25, 3) := by decide +kernel
theorem dX4_takeFrom_120 : decode cX4_takeFrom 120 = .ok (.putfield 25, 3) := by decide +kernel
theorem dX4_takeFrom_123 : decode cX4_takeFrom 123 = .ok (.aload_n 0, 1) := by decide +kernel
theorem dX4_takeFrom_124 : decode cX4_takeFrom 124 = .ok (.aload_n 1, 1) := by decide +kernel
theorem dX4_takeFrom_125 : decode cX4_takeFrom 125 = .ok (.getfield 75, 3) := by decide +kernel
theorem dX4_takeFrom_128 : decode cX4_takeFrom 128 = .ok (.putfield 75, 3) := by decide +kernel
theorem dX4_takeFrom_131 : decode cX4_takeFrom 131 = .ok (.aload_n 0, 1) := by decide +kernel
theorem dX4_takeFrom_132 : decode cX4_takeFrom 132 = .ok (.aload_n 1, 1) := by decide +kernel
theorem dX4_takeFrom_133 : decode cX4_takeFrom 133 = .ok (.getfield 78, 3) := by decide +kernel
theorem dX4_takeFrom_136 : decode cX4_takeFrom 136 = .ok (.putfield 78, 3) := by decide +kernel
theorem dX4_takeFrom_139 : decode cX4_takeFrom 139 = .ok (.aload_n 0, 1) := by decide +kernel
theorem dX4_takeFrom_140 : decode cX4_takeFrom 140 = .ok (.aload_n 1, 1) := by decide +kernel
theorem dX4_takeFrom_141 : decode cX4_takeFrom 141 = .ok (.getfield 81, 3) := by decide +kernel
theorem dX4_takeFrom_144 : decode cX4_takeFrom 144 = .ok (.putfield 81, 3) := by decide +kernel
theorem dX4_takeFrom_147 : decode cX4_takeFrom 147 = .ok (.aload_n 0, 1) := by decide +kernel
theorem dX4_takeFrom_148 : decode cX4_takeFrom 148 = .ok (.aload_n 1, 1) := by decide +kernel
theorem dX4_takeFrom_149 : decode cX4_takeFrom 149 = .ok (.getfield 84, 3) := by decide +kernel
theorem dX4_takeFrom_152 : decode cX4_takeFrom 152 = .ok (.putfield 84, 3) := by decide +kernel
theorem dX4_takeFrom_155 : decode cX4_takeFrom 155 = .ok (.aload_n 0, 1) := by decide +kernel
theorem dX4_takeFrom_156 : decode cX4_takeFrom 156 = .ok (.getfield 31, 3) := by decide +kernel
theorem dX4_takeFrom_159 : decode cX4_takeFrom 159 = .ok (.aload_n 1, 1) := by decide +kernel
theorem dX4_takeFrom_160 : decode cX4_takeFrom 160 = .ok (.getfield 31, 3) := by decide +kernel
theorem dX4_takeFrom_163 : decode cX4_takeFrom 163 = .ok (.invokevirtual 87, 3) := by decide +kernel
theorem dX4_takeFrom_166 : decode cX4_takeFrom 166 = .ok (.aload_n 0, 1) := by decide +kernel
theorem dX4_takeFrom_167 : decode cX4_takeFrom 167 = .ok (.getfield 38, 3) := by decide +kernel
theorem dX4_takeFrom_170 : decode cX4_takeFrom 170 = .ok (.aload_n 1, 1) := by decide +kernel
theorem dX4_takeFrom_171 : decode cX4_takeFrom 171 = .ok (.getfield 38, 3) := by decide +kernel
theorem dX4_takeFrom_174 : decode cX4_takeFrom 174 = .ok (.invokevirtual 90, 3) := by decide +kernel
theorem dX4_takeFrom_177 : decode cX4_takeFrom 177 = .ok (.return_, 1) := by decide +kernel
theorem dX4_levelAt_0 : decode cX4_levelAt 0 = .ok (.iload_n 1, 1) := by decide +kernel
theorem dX4_levelAt_1 : decode cX4_levelAt 1 = .ok (.iconst 1, 1) := by decide +kernel
theorem dX4_levelAt_2 : decode cX4_levelAt 2 = .ok (.if_icmp .lt 31, 3) := by decide +kernel
theorem dX4_levelAt_5 : decode cX4_levelAt 5 = .ok (.iload_n 1, 1) := by decide +kernel
theorem dX4_levelAt_6 : decode cX4_levelAt 6 = .ok (.aload_n 0, 1) := by decide +kernel
theorem dX4_levelAt_7 : decode cX4_levelAt 7 = .ok (.getfield 43, 3) := by decide +kernel
theorem dX4_levelAt_10 : decode cX4_levelAt 10 = .ok (.if_icmp .gt 23, 3) := by decide +kernel
theorem dX4_levelAt_13 : decode cX4_levelAt 13 = .ok (.iload_n 1, 1) := by decide +kernel
theorem dX4_levelAt_14 : decode cX4_levelAt 14 = .ok (.aload_n 0, 1) := by decide +kernel
theorem dX4_levelAt_15 : decode cX4_levelAt 15 = .ok (.getfield 11, 3) := by decide +kernel
theorem dX4_levelAt_18 : decode cX4_levelAt 18 = .ok (.arraylength, 1) := by decide +kernel
theorem dX4_levelAt_19 : decode cX4_levelAt 19 = .ok (.if_icmp .gt 14, 3) := by decide +kernel
theorem dX4_levelAt_22 : decode cX4_levelAt 22 = .ok (.aload_n 0, 1) := by decide +kernel
theorem dX4_levelAt_23 : decode cX4_levelAt 23 = .ok (.getfield 11, 3) := by decide +kernel
theorem dX4_levelAt_26 : decode cX4_levelAt 26 = .ok (.iload_n 1, 1) := by decide +kernel
theorem dX4_levelAt_27 : decode cX4_levelAt 27 = .ok (.iconst 1, 1) := by decide +kernel
theorem dX4_levelAt_28 : decode cX4_levelAt 28 = .ok (.isub, 1) := by decide +kernel
theorem dX4_levelAt_29 : decode cX4_levelAt 29 = .ok (.aaload, 1) := by decide +kernel
theorem dX4_levelAt_30 : decode cX4_levelAt 30 = .ok (.goto 4, 3) := by decide +kernel
theorem dX4_levelAt_33 : decode cX4_levelAt 33 = .ok (.aconst_null, 1) := by decide +kernel
theorem dX4_levelAt_34 : decode cX4_levelAt 34 = .ok (.areturn, 1) := by decide +kernel
theorem dX4_inMemory_0 : decode cX4_inMemory 0 = .ok (.iload_n 1, 1) := by decide +kernel
theorem dX4_inMemory_1 : decode cX4_inMemory 1 = .ok (.ifCond .lt 21, 3) := by decide +kernel
theorem dX4_inMemory_4 : decode cX4_inMemory 4 = .ok (.iload_n 1, 1) := by decide +kernel
theorem dX4_inMemory_5 : decode cX4_inMemory 5 = .ok (.aload_n 0, 1) := by decide +kernel
theorem dX4_inMemory_6 : decode cX4_inMemory 6 = .ok (.getfield 17, 3) := by decide +kernel
theorem dX4_inMemory_9 : decode cX4_inMemory 9 = .ok (.arraylength, 1) := by decide +kernel
theorem dX4_inMemory_10 : decode cX4_inMemory 10 = .ok (.if_icmp .ge 12, 3) := by decide +kernel
theorem dX4_inMemory_13 : decode cX4_inMemory 13 = .ok (.aload_n 0, 1) := by decide +kernel
theorem dX4_inMemory_14 : decode cX4_inMemory 14 = .ok (.getfield 17, 3) := by decide +kernel
theorem dX4_inMemory_17 : decode cX4_inMemory 17 = .ok (.iload_n 1, 1) := by decide +kernel
theorem dX4_inMemory_18 : decode cX4_inMemory 18 = .ok (.iaload, 1) := by decide +kernel
theorem dX4_inMemory_19 : decode cX4_inMemory 19 = .ok (.goto 4, 3) := by decide +kernel
theorem dX4_inMemory_22 : decode cX4_inMemory 22 = .ok (.iconst 0, 1) := by decide +kernel
theorem dX4_inMemory_23 : decode cX4_inMemory 23 = .ok (.ireturn, 1) := by decide +kernel
theorem dX4_putInMemory_0 : decode cX4_putInMemory 0 = .ok (.iload_n 1, 1) := by decide +kernel
theorem dX4_putInMemory_1 : decode cX4_putInMemory 1 = .ok (.ifCond .lt 29, 3) := by decide +kernel
theorem dX4_putInMemory_4 : decode cX4_putInMemory 4 = .ok (.iload_n 1, 1) := by decide +kernel
theorem dX4_putInMemory_5 : decode cX4_putInMemory 5 = .ok (.aload_n 0, 1) := by decide +kernel
theorem dX4_putInMemory_6 : decode cX4_putInMemory 6 = .ok (.getfield 17, 3) := by decide +kernel
theorem dX4_putInMemory_9 : decode cX4_putInMemory 9 = .ok (.arraylength, 1) := by decide +kernel
theorem dX4_putInMemory_10 : decode cX4_putInMemory 10 = .ok (.if_icmp .ge 20, 3) := by decide +kernel
theorem dX4_putInMemory_13 : decode cX4_putInMemory 13 = .ok (.aload_n 0, 1) := by decide +kernel
theorem dX4_putInMemory_14 : decode cX4_putInMemory 14 = .ok (.getfield 17, 3) := by decide +kernel
theorem dX4_putInMemory_17 : decode cX4_putInMemory 17 = .ok (.iload_n 1, 1) := by decide +kernel
theorem dX4_putInMemory_18 : decode cX4_putInMemory 18 = .ok (.iload_n 2, 1) := by decide +kernel
theorem dX4_putInMemory_19 : decode cX4_putInMemory 19 = .ok (.iastore, 1) := by decide +kernel
theorem dX4_putInMemory_20 : decode cX4_putInMemory 20 = .ok (.aload_n 0, 1) := by decide +kernel
theorem dX4_putInMemory_21 : decode cX4_putInMemory 21 = .ok (.dup, 1) := by decide +kernel
theorem dX4_putInMemory_22 : decode cX4_putInMemory 22 = .ok (.getfield 78, 3) := by decide +kernel
theorem dX4_putInMemory_25 : decode cX4_putInMemory 25 = .ok (.iconst 1, 1) := by decide +kernel
theorem dX4_putInMemory_26 : decode cX4_putInMemory 26 = .ok (.iadd, 1) := by decide +kernel
theorem dX4_putInMemory_27 : decode cX4_putInMemory 27 = .ok (.putfield 78, 3) := by decide +kernel
theorem dX4_putInMemory_30 : decode cX4_putInMemory 30 = .ok (.return_, 1) := by decide +kernel
theorem dX4_access_0 : decode cX4_access 0 = .ok (.aload_n 0, 1) := by decide +kernel
theorem dX4_access_1 : decode cX4_access 1 = .ok (.dup, 1) := by decide +kernel
theorem dX4_access_2 : decode cX4_access 2 = .ok (.getfield 69, 3) := by decide +kernel
theorem dX4_access_5 : decode cX4_access 5 = .ok (.iconst 1, 1) := by decide +kernel
theorem dX4_access_6 : decode cX4_access 6 = .ok (.iadd, 1) := by decide +kernel
theorem dX4_access_7 : decode cX4_access 7 = .ok (.putfield 69, 3) := by decide +kernel
theorem dX4_access_10 : decode cX4_access 10 = .ok (.aload_n 0, 1) := by decide +kernel
theorem dX4_access_11 : decode cX4_access 11 = .ok (.iload_n 1, 1) := by decide +kernel
theorem dX4_access_12 : decode cX4_access 12 = .ok (.invokevirtual 93, 3) := by decide +kernel
theorem dX4_access_15 : decode cX4_access 15 = .ok (.istore 4, 2) := by decide +kernel
theorem dX4_access_17 : decode cX4_access 17 = .ok (.aload_n 0, 1) := by decide +kernel
theorem dX4_access_18 : decode cX4_access 18 = .ok (.iload_n 1, 1) := by decide +kernel
theorem dX4_access_19 : decode cX4_access 19 = .ok (.invokevirtual 97, 3) := by decide +kernel
theorem dX4_access_22 : decode cX4_access 22 = .ok (.istore 5, 2) := by decide +kernel
theorem dX4_access_24 : decode cX4_access 24 = .ok (.aload_n 0, 1) := by decide +kernel
theorem dX4_access_25 : decode cX4_access 25 = .ok (.invokevirtual 101, 3) := by decide +kernel
theorem dX4_access_28 : decode cX4_access 28 = .ok (.istore 6, 2) := by decide +kernel
theorem dX4_access_30 : decode cX4_access 30 = .ok (.iload 6, 2) := by decide +kernel
theorem dX4_access_32 : decode cX4_access 32 = .ok (.iconst 1, 1) := by decide +kernel
theorem dX4_access_33 : decode cX4_access 33 = .ok (.if_icmp .lt 22, 3) := by decide +kernel
theorem dX4_access_36 : decode cX4_access 36 = .ok (.aload_n 0, 1) := by decide +kernel
theorem dX4_access_37 : decode cX4_access 37 = .ok (.iload 6, 2) := by decide +kernel
theorem dX4_access_39 : decode cX4_access 39 = .ok (.iload_n 1, 1) := by decide +kernel
theorem dX4_access_40 : decode cX4_access 40 = .ok (.aload_n 0, 1) := by decide +kernel
theorem dX4_access_41 : decode cX4_access 41 = .ok (.getfield 105, 3) := by decide +kernel
theorem dX4_access_44 : decode cX4_access 44 = .ok (.iload 5, 2) := by decide +kernel
theorem dX4_access_46 : decode cX4_access 46 = .ok (.invokestatic 108, 3) := by decide +kernel
theorem dX4_access_49 : decode cX4_access 49 = .ok (.iinc 6 (-1), 3) := by decide +kernel
theorem dX4_access_52 : decode cX4_access 52 = .ok (.goto (-22), 3) := by decide +kernel
theorem dX4_access_55 : decode cX4_access 55 = .ok (.iload_n 2, 1) := by decide +kernel
theorem dX4_access_56 : decode cX4_access 56 = .ok (.ifCond .eq 9, 3) := by decide +kernel
theorem dX4_access_59 : decode cX4_access 59 = .ok (.aload_n 0, 1) := by decide +kernel
theorem dX4_access_60 : decode cX4_access 60 = .ok (.iload_n 1, 1) := by decide +kernel
theorem dX4_access_61 : decode cX4_access 61 = .ok (.iload_n 3, 1) := by decide +kernel
theorem dX4_access_62 : decode cX4_access 62 = .ok (.invokevirtual 112, 3) := by decide +kernel
theorem dX4_access_65 : decode cX4_access 65 = .ok (.aload_n 0, 1) := by decide +kernel
theorem dX4_access_66 : decode cX4_access 66 = .ok (.getfield 116, 3) := by decide +kernel
theorem dX4_access_69 : decode cX4_access 69 = .ok (.ifCond .ne 11, 3) := by decide +kernel
theorem dX4_access_72 : decode cX4_access 72 = .ok (.aload_n 0, 1) := by decide +kernel
theorem dX4_access_73 : decode cX4_access 73 = .ok (.iload_n 1, 1) := by decide +kernel
theorem dX4_access_74 : decode cX4_access 74 = .ok (.invokevirtual 119, 3) := by decide +kernel
theorem dX4_access_77 : decode cX4_access 77 = .ok (.goto 4, 3) := by decide +kernel
theorem dX4_access_80 : decode cX4_access 80 = .ok (.iconst (-1), 1) := by decide +kernel
theorem dX4_access_81 : decode cX4_access 81 = .ok (.istore 6, 2) := by decide +kernel
theorem dX4_access_83 : decode cX4_access 83 = .ok (.iload_n 1, 1) := by decide +kernel
theorem dX4_access_84 : decode cX4_access 84 = .ok (.iconst 1, 1) := by decide +kernel
theorem dX4_access_85 : decode cX4_access 85 = .ok (.iadd, 1) := by decide +kernel
theorem dX4_access_86 : decode cX4_access 86 = .ok (.istore 7, 2) := by decide +kernel
theorem dX4_access_88 : decode cX4_access 88 = .ok (.iload 7, 2) := by decide +kernel
theorem dX4_access_90 : decode cX4_access 90 = .ok (.iload 6, 2) := by decide +kernel
theorem dX4_access_92 : decode cX4_access 92 = .ok (.if_icmp .gt 45, 3) := by decide +kernel
theorem dX4_access_95 : decode cX4_access 95 = .ok (.aload_n 0, 1) := by decide +kernel
theorem dX4_access_96 : decode cX4_access 96 = .ok (.iload 7, 2) := by decide +kernel
theorem dX4_access_98 : decode cX4_access 98 = .ok (.invokevirtual 122, 3) := by decide +kernel
theorem dX4_access_101 : decode cX4_access 101 = .ok (.ifCond .ne 30, 3) := by decide +kernel
theorem dX4_access_104 : decode cX4_access 104 = .ok (.aload_n 0, 1) := by decide +kernel
theorem dX4_access_105 : decode cX4_access 105 = .ok (.aload_n 0, 1) := by decide +kernel
theorem dX4_access_106 : decode cX4_access 106 = .ok (.getfield 43, 3) := by decide +kernel
theorem dX4_access_109 : decode cX4_access 109 = .ok (.iload 7, 2) := by decide +kernel
theorem dX4_access_111 : decode cX4_access 111 = .ok (.aload_n 0, 1) := by decide +kernel
theorem dX4_access_112 : decode cX4_access 112 = .ok (.iload 7, 2) := by decide +kernel
theorem dX4_access_114 : decode cX4_access 114 = .ok (.invokevirtual 125, 3) := by decide +kernel
theorem dX4_access_117 : decode cX4_access 117 = .ok (.iconst 0, 1) := by decide +kernel
theorem dX4_access_118 : decode cX4_access 118 = .ok (.invokestatic 108, 3) := by decide +kernel
theorem dX4_access_121 : decode cX4_access 121 = .ok (.aload_n 0, 1) := by decide +kernel
theorem dX4_access_122 : decode cX4_access 122 = .ok (.dup, 1) := by decide +kernel
theorem dX4_access_123 : decode cX4_access 123 = .ok (.getfield 75, 3) := by decide +kernel
theorem dX4_access_126 : decode cX4_access 126 = .ok (.iconst 1, 1) := by decide +kernel
theorem dX4_access_127 : decode cX4_access 127 = .ok (.iadd, 1) := by decide +kernel
theorem dX4_access_128 : decode cX4_access 128 = .ok (.putfield 75, 3) := by decide +kernel
theorem dX4_access_131 : decode cX4_access 131 = .ok (.iinc 7 1, 3) := by decide +kernel
theorem dX4_access_134 : decode cX4_access 134 = .ok (.goto (-46), 3) := by decide +kernel
theorem dX4_access_137 : decode cX4_access 137 = .ok (.aload_n 0, 1) := by decide +kernel
theorem dX4_access_138 : decode cX4_access 138 = .ok (.dup, 1) := by decide +kernel
theorem dX4_access_139 : decode cX4_access 139 = .ok (.getfield 81, 3) := by decide +kernel
theorem dX4_access_142 : decode cX4_access 142 = .ok (.iload 4, 2) := by decide +kernel
theorem dX4_access_144 : decode cX4_access 144 = .ok (.iadd, 1) := by decide +kernel
theorem dX4_access_145 : decode cX4_access 145 = .ok (.putfield 81, 3) := by decide +kernel
theorem dX4_access_148 : decode cX4_access 148 = .ok (.aload_n 0, 1) := by decide +kernel
theorem dX4_access_149 : decode cX4_access 149 = .ok (.getfield 38, 3) := by decide +kernel
theorem dX4_access_152 : decode cX4_access 152 = .ok (.aload_n 0, 1) := by decide +kernel
theorem dX4_access_153 : decode cX4_access 153 = .ok (.getfield 69, 3) := by decide +kernel
theorem dX4_access_156 : decode cX4_access 156 = .ok (.iload_n 1, 1) := by decide +kernel
theorem dX4_access_157 : decode cX4_access 157 = .ok (.iload_n 2, 1) := by decide +kernel
theorem dX4_access_158 : decode cX4_access 158 = .ok (.iload 4, 2) := by decide +kernel
theorem dX4_access_160 : decode cX4_access 160 = .ok (.aload_n 0, 1) := by decide +kernel
theorem dX4_access_161 : decode cX4_access 161 = .ok (.getfield 116, 3) := by decide +kernel
theorem dX4_access_164 : decode cX4_access 164 = .ok (.invokevirtual 128, 3) := by decide +kernel
theorem dX4_access_167 : decode cX4_access 167 = .ok (.iload 4, 2) := by decide +kernel
theorem dX4_access_169 : decode cX4_access 169 = .ok (.ireturn, 1) := by decide +kernel
theorem dX4_lookFor_0 : decode cX4_lookFor 0 = .ok (.iconst 0, 1) := by decide +kernel
theorem dX4_lookFor_1 : decode cX4_lookFor 1 = .ok (.istore_n 2, 1) := by decide +kernel
theorem dX4_lookFor_2 : decode cX4_lookFor 2 = .ok (.iconst 1, 1) := by decide +kernel
theorem dX4_lookFor_3 : decode cX4_lookFor 3 = .ok (.istore_n 3, 1) := by decide +kernel
theorem dX4_lookFor_4 : decode cX4_lookFor 4 = .ok (.iload_n 3, 1) := by decide +kernel
theorem dX4_lookFor_5 : decode cX4_lookFor 5 = .ok (.aload_n 0, 1) := by decide +kernel
theorem dX4_lookFor_6 : decode cX4_lookFor 6 = .ok (.getfield 43, 3) := by decide +kernel
theorem dX4_lookFor_9 : decode cX4_lookFor 9 = .ok (.if_icmp .gt 94, 3) := by decide +kernel
theorem dX4_lookFor_12 : decode cX4_lookFor 12 = .ok (.aload_n 0, 1) := by decide +kernel
theorem dX4_lookFor_13 : decode cX4_lookFor 13 = .ok (.iload_n 3, 1) := by decide +kernel
theorem dX4_lookFor_14 : decode cX4_lookFor 14 = .ok (.invokevirtual 46, 3) := by decide +kernel
theorem dX4_lookFor_17 : decode cX4_lookFor 17 = .ok (.astore 4, 2) := by decide +kernel
theorem dX4_lookFor_19 : decode cX4_lookFor 19 = .ok (.aload 4, 2) := by decide +kernel
theorem dX4_lookFor_21 : decode cX4_lookFor 21 = .ok (.ifnull 76, 3) := by decide +kernel
theorem dX4_lookFor_24 : decode cX4_lookFor 24 = .ok (.iload_n 2, 1) := by decide +kernel
theorem dX4_lookFor_25 : decode cX4_lookFor 25 = .ok (.aload 4, 2) := by decide +kernel
theorem dX4_lookFor_27 : decode cX4_lookFor 27 = .ok (.getfield 132, 3) := by decide +kernel
theorem dX4_lookFor_30 : decode cX4_lookFor 30 = .ok (.iadd, 1) := by decide +kernel
theorem dX4_lookFor_31 : decode cX4_lookFor 31 = .ok (.istore_n 2, 1) := by decide +kernel
theorem dX4_lookFor_32 : decode cX4_lookFor 32 = .ok (.aload 4, 2) := by decide +kernel
theorem dX4_lookFor_34 : decode cX4_lookFor 34 = .ok (.iload_n 1, 1) := by decide +kernel
theorem dX4_lookFor_35 : decode cX4_lookFor 35 = .ok (.invokevirtual 135, 3) := by decide +kernel
theorem dX4_lookFor_38 : decode cX4_lookFor 38 = .ok (.istore 5, 2) := by decide +kernel
theorem dX4_lookFor_40 : decode cX4_lookFor 40 = .ok (.iload 5, 2) := by decide +kernel
theorem dX4_lookFor_42 : decode cX4_lookFor 42 = .ok (.iconst (-1), 1) := by decide +kernel
theorem dX4_lookFor_43 : decode cX4_lookFor 43 = .ok (.if_icmp .eq 43, 3) := by decide +kernel
theorem dX4_lookFor_46 : decode cX4_lookFor 46 = .ok (.aload 4, 2) := by decide +kernel
theorem dX4_lookFor_48 : decode cX4_lookFor 48 = .ok (.dup, 1) := by decide +kernel
theorem dX4_lookFor_49 : decode cX4_lookFor 49 = .ok (.getfield 138, 3) := by decide +kernel
theorem dX4_lookFor_52 : decode cX4_lookFor 52 = .ok (.iconst 1, 1) := by decide +kernel
theorem dX4_lookFor_53 : decode cX4_lookFor 53 = .ok (.iadd, 1) := by decide +kernel
theorem dX4_lookFor_54 : decode cX4_lookFor 54 = .ok (.putfield 138, 3) := by decide +kernel
theorem dX4_lookFor_57 : decode cX4_lookFor 57 = .ok (.aload 4, 2) := by decide +kernel
theorem dX4_lookFor_59 : decode cX4_lookFor 59 = .ok (.iload 5, 2) := by decide +kernel
theorem dX4_lookFor_61 : decode cX4_lookFor 61 = .ok (.aload_n 0, 1) := by decide +kernel
theorem dX4_lookFor_62 : decode cX4_lookFor 62 = .ok (.getfield 69, 3) := by decide +kernel
theorem dX4_lookFor_65 : decode cX4_lookFor 65 = .ok (.invokevirtual 141, 3) := by decide +kernel
theorem dX4_lookFor_68 : decode cX4_lookFor 68 = .ok (.aload_n 0, 1) := by decide +kernel
theorem dX4_lookFor_69 : decode cX4_lookFor 69 = .ok (.iload_n 3, 1) := by decide +kernel
theorem dX4_lookFor_70 : decode cX4_lookFor 70 = .ok (.putfield 116, 3) := by decide +kernel
theorem dX4_lookFor_73 : decode cX4_lookFor 73 = .ok (.aload_n 0, 1) := by decide +kernel
theorem dX4_lookFor_74 : decode cX4_lookFor 74 = .ok (.aload 4, 2) := by decide +kernel
theorem dX4_lookFor_76 : decode cX4_lookFor 76 = .ok (.iload 5, 2) := by decide +kernel
theorem dX4_lookFor_78 : decode cX4_lookFor 78 = .ok (.invokevirtual 144, 3) := by decide +kernel
theorem dX4_lookFor_81 : decode cX4_lookFor 81 = .ok (.putfield 105, 3) := by decide +kernel
theorem dX4_lookFor_84 : decode cX4_lookFor 84 = .ok (.iload_n 2, 1) := by decide +kernel
theorem dX4_lookFor_85 : decode cX4_lookFor 85 = .ok (.ireturn, 1) := by decide +kernel
theorem dX4_lookFor_86 : decode cX4_lookFor 86 = .ok (.aload 4, 2) := by decide +kernel
theorem dX4_lookFor_88 : decode cX4_lookFor 88 = .ok (.dup, 1) := by decide +kernel
theorem dX4_lookFor_89 : decode cX4_lookFor 89 = .ok (.getfield 147, 3) := by decide +kernel
theorem dX4_lookFor_92 : decode cX4_lookFor 92 = .ok (.iconst 1, 1) := by decide +kernel
theorem dX4_lookFor_93 : decode cX4_lookFor 93 = .ok (.iadd, 1) := by decide +kernel
theorem dX4_lookFor_94 : decode cX4_lookFor 94 = .ok (.putfield 147, 3) := by decide +kernel
theorem dX4_lookFor_97 : decode cX4_lookFor 97 = .ok (.iinc 3 1, 3) := by decide +kernel
theorem dX4_lookFor_100 : decode cX4_lookFor 100 = .ok (.goto (-96), 3) := by decide +kernel
theorem dX4_lookFor_103 : decode cX4_lookFor 103 = .ok (.aload_n 0, 1) := by decide +kernel
theorem dX4_lookFor_104 : decode cX4_lookFor 104 = .ok (.iconst 0, 1) := by decide +kernel
theorem dX4_lookFor_105 : decode cX4_lookFor 105 = .ok (.putfield 116, 3) := by decide +kernel
theorem dX4_lookFor_108 : decode cX4_lookFor 108 = .ok (.aload_n 0, 1) := by decide +kernel
theorem dX4_lookFor_109 : decode cX4_lookFor 109 = .ok (.aload_n 0, 1) := by decide +kernel
theorem dX4_lookFor_110 : decode cX4_lookFor 110 = .ok (.iload_n 1, 1) := by decide +kernel
theorem dX4_lookFor_111 : decode cX4_lookFor 111 = .ok (.invokevirtual 125, 3) := by decide +kernel
theorem dX4_lookFor_114 : decode cX4_lookFor 114 = .ok (.putfield 105, 3) := by decide +kernel
theorem dX4_lookFor_117 : decode cX4_lookFor 117 = .ok (.iload_n 2, 1) := by decide +kernel
theorem dX4_lookFor_118 : decode cX4_lookFor 118 = .ok (.aload_n 0, 1) := by decide +kernel
theorem dX4_lookFor_119 : decode cX4_lookFor 119 = .ok (.getfield 21, 3) := by decide +kernel
theorem dX4_lookFor_122 : decode cX4_lookFor 122 = .ok (.iadd, 1) := by decide +kernel
theorem dX4_lookFor_123 : decode cX4_lookFor 123 = .ok (.ireturn, 1) := by decide +kernel
theorem dX4_leaveToComeNear_0 : decode cX4_leaveToComeNear 0 = .ok (.aload_n 0, 1) := by decide +kernel
theorem dX4_leaveToComeNear_1 : decode cX4_leaveToComeNear 1 = .ok (.aload_n 0, 1) := by decide +kernel
theorem dX4_leaveToComeNear_2 : decode cX4_leaveToComeNear 2 = .ok (.getfield 116, 3) := by decide +kernel
theorem dX4_leaveToComeNear_5 : decode cX4_leaveToComeNear 5 = .ok (.invokevirtual 46, 3) := by decide +kernel
theorem dX4_leaveToComeNear_8 : decode cX4_leaveToComeNear 8 = .ok (.astore_n 2, 1) := by decide +kernel
theorem dX4_leaveToComeNear_9 : decode cX4_leaveToComeNear 9 = .ok (.aload_n 0, 1) := by decide +kernel
theorem dX4_leaveToComeNear_10 : decode cX4_leaveToComeNear 10 = .ok (.getfield 60, 3) := by decide +kernel
theorem dX4_leaveToComeNear_13 : decode cX4_leaveToComeNear 13 = .ok (.iconst 2, 1) := by decide +kernel
theorem dX4_leaveToComeNear_14 : decode cX4_leaveToComeNear 14 = .ok (.if_icmp .ne 15, 3) := by decide +kernel
theorem dX4_leaveToComeNear_17 : decode cX4_leaveToComeNear 17 = .ok (.aload_n 0, 1) := by decide +kernel
theorem dX4_leaveToComeNear_18 : decode cX4_leaveToComeNear 18 = .ok (.getfield 116, 3) := by decide +kernel
theorem dX4_leaveToComeNear_21 : decode cX4_leaveToComeNear 21 = .ok (.iconst 1, 1) := by decide +kernel
theorem dX4_leaveToComeNear_22 : decode cX4_leaveToComeNear 22 = .ok (.if_icmp .eq 7, 3) := by decide +kernel
theorem dX4_leaveToComeNear_25 : decode cX4_leaveToComeNear 25 = .ok (.aload_n 2, 1) := by decide +kernel
theorem dX4_leaveToComeNear_26 : decode cX4_leaveToComeNear 26 = .ok (.ifnonnull 5, 3) := by decide +kernel
theorem dX4_leaveToComeNear_29 : decode cX4_leaveToComeNear 29 = .ok (.iconst 0, 1) := by decide +kernel
theorem dX4_leaveToComeNear_30 : decode cX4_leaveToComeNear 30 = .ok (.ireturn, 1) := by decide +kernel
theorem dX4_leaveToComeNear_31 : decode cX4_leaveToComeNear 31 = .ok (.aload_n 2, 1) := by decide +kernel
theorem dX4_leaveToComeNear_32 : decode cX4_leaveToComeNear 32 = .ok (.iload_n 1, 1) := by decide +kernel
theorem dX4_leaveToComeNear_33 : decode cX4_leaveToComeNear 33 = .ok (.invokevirtual 135, 3) := by decide +kernel
theorem dX4_leaveToComeNear_36 : decode cX4_leaveToComeNear 36 = .ok (.istore_n 3, 1) := by decide +kernel
theorem dX4_leaveToComeNear_37 : decode cX4_leaveToComeNear 37 = .ok (.aload_n 2, 1) := by decide +kernel
theorem dX4_leaveToComeNear_38 : decode cX4_leaveToComeNear 38 = .ok (.iload_n 3, 1) := by decide +kernel
theorem dX4_leaveToComeNear_39 : decode cX4_leaveToComeNear 39 = .ok (.invokevirtual 150, 3) := by decide +kernel
theorem dX4_leaveToComeNear_42 : decode cX4_leaveToComeNear 42 = .ok (.istore 4, 2) := by decide +kernel
theorem dX4_leaveToComeNear_44 : decode cX4_leaveToComeNear 44 = .ok (.aload_n 2, 1) := by decide +kernel
theorem dX4_leaveToComeNear_45 : decode cX4_leaveToComeNear 45 = .ok (.iload_n 3, 1) := by decide +kernel
theorem dX4_leaveToComeNear_46 : decode cX4_leaveToComeNear 46 = .ok (.invokevirtual 153, 3) := by decide +kernel
theorem dX4_leaveToComeNear_49 : decode cX4_leaveToComeNear 49 = .ok (.pop, 1) := by decide +kernel
theorem dX4_leaveToComeNear_50 : decode cX4_leaveToComeNear 50 = .ok (.iload 4, 2) := by decide +kernel
theorem dX4_leaveToComeNear_52 : decode cX4_leaveToComeNear 52 = .ok (.ireturn, 1) := by decide +kernel
theorem dX4_farthestToHold_0 : decode cX4_farthestToHold 0 = .ok (.aload_n 0, 1) := by decide +kernel
theorem dX4_farthestToHold_1 : decode cX4_farthestToHold 1 = .ok (.getfield 116, 3) := by decide +kernel
theorem dX4_farthestToHold_4 : decode cX4_farthestToHold 4 = .ok (.ifCond .ne 10, 3) := by decide +kernel
theorem dX4_farthestToHold_7 : decode cX4_farthestToHold 7 = .ok (.aload_n 0, 1) := by decide +kernel
theorem dX4_farthestToHold_8 : decode cX4_farthestToHold 8 = .ok (.getfield 43, 3) := by decide +kernel
theorem dX4_farthestToHold_11 : decode cX4_farthestToHold 11 = .ok (.goto 9, 3) := by decide +kernel
theorem dX4_farthestToHold_14 : decode cX4_farthestToHold 14 = .ok (.aload_n 0, 1) := by decide +kernel
theorem dX4_farthestToHold_15 : decode cX4_farthestToHold 15 = .ok (.getfield 116, 3) := by decide +kernel
theorem dX4_farthestToHold_18 : decode cX4_farthestToHold 18 = .ok (.iconst 1, 1) := by decide +kernel
theorem dX4_farthestToHold_19 : decode cX4_farthestToHold 19 = .ok (.isub, 1) := by decide +kernel
theorem dX4_farthestToHold_20 : decode cX4_farthestToHold 20 = .ok (.istore_n 1, 1) := by decide +kernel
theorem dX4_farthestToHold_21 : decode cX4_farthestToHold 21 = .ok (.aload_n 0, 1) := by decide +kernel
theorem dX4_farthestToHold_22 : decode cX4_farthestToHold 22 = .ok (.getfield 60, 3) := by decide +kernel
theorem dX4_farthestToHold_25 : decode cX4_farthestToHold 25 = .ok (.iconst 2, 1) := by decide +kernel
theorem dX4_farthestToHold_26 : decode cX4_farthestToHold 26 = .ok (.if_icmp .ne 11, 3) := by decide +kernel
theorem dX4_farthestToHold_29 : decode cX4_farthestToHold 29 = .ok (.iload_n 1, 1) := by decide +kernel
theorem dX4_farthestToHold_30 : decode cX4_farthestToHold 30 = .ok (.iconst 1, 1) := by decide +kernel
theorem dX4_farthestToHold_31 : decode cX4_farthestToHold 31 = .ok (.invokestatic 156, 3) := by decide +kernel
theorem dX4_farthestToHold_34 : decode cX4_farthestToHold 34 = .ok (.goto 4, 3) := by decide +kernel
theorem dX4_farthestToHold_37 : decode cX4_farthestToHold 37 = .ok (.iload_n 1, 1) := by decide +kernel
theorem dX4_farthestToHold_38 : decode cX4_farthestToHold 38 = .ok (.ireturn, 1) := by decide +kernel
theorem dX4_putValue_0 : decode cX4_putValue 0 = .ok (.aload_n 0, 1) := by decide +kernel
theorem dX4_putValue_1 : decode cX4_putValue 1 = .ok (.iconst 1, 1) := by decide +kernel
theorem dX4_putValue_2 : decode cX4_putValue 2 = .ok (.invokevirtual 46, 3) := by decide +kernel
theorem dX4_putValue_5 : decode cX4_putValue 5 = .ok (.astore_n 3, 1) := by decide +kernel
theorem dX4_putValue_6 : decode cX4_putValue 6 = .ok (.aload_n 3, 1) := by decide +kernel
theorem dX4_putValue_7 : decode cX4_putValue 7 = .ok (.ifnull 23, 3) := by decide +kernel
theorem dX4_putValue_10 : decode cX4_putValue 10 = .ok (.aload_n 0, 1) := by decide +kernel
theorem dX4_putValue_11 : decode cX4_putValue 11 = .ok (.getfield 63, 3) := by decide +kernel
theorem dX4_putValue_14 : decode cX4_putValue 14 = .ok (.iconst 1, 1) := by decide +kernel
theorem dX4_putValue_15 : decode cX4_putValue 15 = .ok (.if_icmp .eq 15, 3) := by decide +kernel
theorem dX4_putValue_18 : decode cX4_putValue 18 = .ok (.aload_n 3, 1) := by decide +kernel
theorem dX4_putValue_19 : decode cX4_putValue 19 = .ok (.aload_n 3, 1) := by decide +kernel
theorem dX4_putValue_20 : decode cX4_putValue 20 = .ok (.iload_n 1, 1) := by decide +kernel
theorem dX4_putValue_21 : decode cX4_putValue 21 = .ok (.invokevirtual 135, 3) := by decide +kernel
theorem dX4_putValue_24 : decode cX4_putValue 24 = .ok (.iload_n 2, 1) := by decide +kernel
theorem dX4_putValue_25 : decode cX4_putValue 25 = .ok (.iconst 1, 1) := by decide +kernel
theorem dX4_putValue_26 : decode cX4_putValue 26 = .ok (.invokevirtual 162, 3) := by decide +kernel
theorem dX4_putValue_29 : decode cX4_putValue 29 = .ok (.return_, 1) := by decide +kernel
theorem dX4_putValue_30 : decode cX4_putValue 30 = .ok (.iconst 1, 1) := by decide +kernel
theorem dX4_putValue_31 : decode cX4_putValue 31 = .ok (.istore 4, 2) := by decide +kernel
theorem dX4_putValue_33 : decode cX4_putValue 33 = .ok (.iload 4, 2) := by decide +kernel
theorem dX4_putValue_35 : decode cX4_putValue 35 = .ok (.aload_n 0, 1) := by decide +kernel
theorem dX4_putValue_36 : decode cX4_putValue 36 = .ok (.getfield 43, 3) := by decide +kernel
theorem dX4_putValue_39 : decode cX4_putValue 39 = .ok (.if_icmp .gt 35, 3) := by decide +kernel
theorem dX4_putValue_42 : decode cX4_putValue 42 = .ok (.aload_n 0, 1) := by decide +kernel
theorem dX4_putValue_43 : decode cX4_putValue 43 = .ok (.iload 4, 2) := by decide +kernel
theorem dX4_putValue_45 : decode cX4_putValue 45 = .ok (.invokevirtual 46, 3) := by decide +kernel
theorem dX4_putValue_48 : decode cX4_putValue 48 = .ok (.astore 5, 2) := by decide +kernel
theorem dX4_putValue_50 : decode cX4_putValue 50 = .ok (.aload 5, 2) := by decide +kernel
theorem dX4_putValue_52 : decode cX4_putValue 52 = .ok (.ifnull 16, 3) := by decide +kernel
theorem dX4_putValue_55 : decode cX4_putValue 55 = .ok (.aload 5, 2) := by decide +kernel
theorem dX4_putValue_57 : decode cX4_putValue 57 = .ok (.aload 5, 2) := by decide +kernel
theorem dX4_putValue_59 : decode cX4_putValue 59 = .ok (.iload_n 1, 1) := by decide +kernel
theorem dX4_putValue_60 : decode cX4_putValue 60 = .ok (.invokevirtual 135, 3) := by decide +kernel
theorem dX4_putValue_63 : decode cX4_putValue 63 = .ok (.iload_n 2, 1) := by decide +kernel
theorem dX4_putValue_64 : decode cX4_putValue 64 = .ok (.iconst 0, 1) := by decide +kernel
theorem dX4_putValue_65 : decode cX4_putValue 65 = .ok (.invokevirtual 162, 3) := by decide +kernel
theorem dX4_putValue_68 : decode cX4_putValue 68 = .ok (.iinc 4 1, 3) := by decide +kernel
theorem dX4_putValue_71 : decode cX4_putValue 71 = .ok (.goto (-38), 3) := by decide +kernel
theorem dX4_putValue_74 : decode cX4_putValue 74 = .ok (.aload_n 0, 1) := by decide +kernel
theorem dX4_putValue_75 : decode cX4_putValue 75 = .ok (.iload_n 1, 1) := by decide +kernel
theorem dX4_putValue_76 : decode cX4_putValue 76 = .ok (.iload_n 2, 1) := by decide +kernel
theorem dX4_putValue_77 : decode cX4_putValue 77 = .ok (.invokevirtual 166, 3) := by decide +kernel
theorem dX4_putValue_80 : decode cX4_putValue 80 = .ok (.return_, 1) := by decide +kernel
theorem dX4_runOn_0 : decode cX4_runOn 0 = .ok (.aload_n 0, 1) := by decide +kernel
theorem dX4_runOn_1 : decode cX4_runOn 1 = .ok (.aload_n 0, 1) := by decide +kernel
theorem dX4_runOn_2 : decode cX4_runOn 2 = .ok (.getfield 72, 3) := by decide +kernel
theorem dX4_runOn_5 : decode cX4_runOn 5 = .ok (.ifCond .le 22, 3) := by decide +kernel
theorem dX4_runOn_8 : decode cX4_runOn 8 = .ok (.iload_n 1, 1) := by decide +kernel
theorem dX4_runOn_9 : decode cX4_runOn 9 = .ok (.aload_n 0, 1) := by decide +kernel
theorem dX4_runOn_10 : decode cX4_runOn 10 = .ok (.getfield 25, 3) := by decide +kernel
theorem dX4_runOn_13 : decode cX4_runOn 13 = .ok (.iconst 1, 1) := by decide +kernel
theorem dX4_runOn_14 : decode cX4_runOn 14 = .ok (.iadd, 1) := by decide +kernel
theorem dX4_runOn_15 : decode cX4_runOn 15 = .ok (.if_icmp .ne 12, 3) := by decide +kernel
theorem dX4_runOn_18 : decode cX4_runOn 18 = .ok (.aload_n 0, 1) := by decide +kernel
theorem dX4_runOn_19 : decode cX4_runOn 19 = .ok (.getfield 72, 3) := by decide +kernel
theorem dX4_runOn_22 : decode cX4_runOn 22 = .ok (.iconst 1, 1) := by decide +kernel
theorem dX4_runOn_23 : decode cX4_runOn 23 = .ok (.iadd, 1) := by decide +kernel
theorem dX4_runOn_24 : decode cX4_runOn 24 = .ok (.goto 4, 3) := by decide +kernel
theorem dX4_runOn_27 : decode cX4_runOn 27 = .ok (.iconst 1, 1) := by decide +kernel
theorem dX4_runOn_28 : decode cX4_runOn 28 = .ok (.putfield 72, 3) := by decide +kernel
theorem dX4_runOn_31 : decode cX4_runOn 31 = .ok (.aload_n 0, 1) := by decide +kernel
theorem dX4_runOn_32 : decode cX4_runOn 32 = .ok (.iload_n 1, 1) := by decide +kernel
theorem dX4_runOn_33 : decode cX4_runOn 33 = .ok (.putfield 25, 3) := by decide +kernel
theorem dX4_runOn_36 : decode cX4_runOn 36 = .ok (.aload_n 0, 1) := by decide +kernel
theorem dX4_runOn_37 : decode cX4_runOn 37 = .ok (.getfield 72, 3) := by decide +kernel
theorem dX4_runOn_40 : decode cX4_runOn 40 = .ok (.iconst 2, 1) := by decide +kernel
theorem dX4_runOn_41 : decode cX4_runOn 41 = .ok (.if_icmp .lt 10, 3) := by decide +kernel
theorem dX4_runOn_44 : decode cX4_runOn 44 = .ok (.aload_n 0, 1) := by decide +kernel
theorem dX4_runOn_45 : decode cX4_runOn 45 = .ok (.getfield 43, 3) := by decide +kernel
theorem dX4_runOn_48 : decode cX4_runOn 48 = .ok (.ifCond .ne 7, 3) := by decide +kernel
theorem dX4_runOn_51 : decode cX4_runOn 51 = .ok (.iconst (-1), 1) := by decide +kernel
theorem dX4_runOn_52 : decode cX4_runOn 52 = .ok (.goto 14, 3) := by decide +kernel
theorem dX4_runOn_55 : decode cX4_runOn 55 = .ok (.iload_n 1, 1) := by decide +kernel
theorem dX4_runOn_56 : decode cX4_runOn 56 = .ok (.aload_n 0, 1) := by decide +kernel
theorem dX4_runOn_57 : decode cX4_runOn 57 = .ok (.getfield 66, 3) := by decide +kernel
theorem dX4_runOn_60 : decode cX4_runOn 60 = .ok (.iadd, 1) := by decide +kernel
theorem dX4_runOn_61 : decode cX4_runOn 61 = .ok (.bipush 63, 2) := by decide +kernel
theorem dX4_runOn_63 : decode cX4_runOn 63 = .ok (.invokestatic 156, 3) := by decide +kernel
theorem dX4_runOn_66 : decode cX4_runOn 66 = .ok (.ireturn, 1) := by decide +kernel
theorem dX4_placeInto_0 : decode cX4_placeInto 0 = .ok (.aload_n 0, 1) := by decide +kernel
theorem dX4_placeInto_1 : decode cX4_placeInto 1 = .ok (.iload_n 1, 1) := by decide +kernel
theorem dX4_placeInto_2 : decode cX4_placeInto 2 = .ok (.invokevirtual 46, 3) := by decide +kernel
theorem dX4_placeInto_5 : decode cX4_placeInto 5 = .ok (.astore 5, 2) := by decide +kernel
theorem dX4_placeInto_7 : decode cX4_placeInto 7 = .ok (.aload 5, 2) := by decide +kernel
theorem dX4_placeInto_9 : decode cX4_placeInto 9 = .ok (.ifnonnull 4, 3) := by decide +kernel
theorem dX4_placeInto_12 : decode cX4_placeInto 12 = .ok (.return_, 1) := by decide +kernel
theorem dX4_placeInto_13 : decode cX4_placeInto 13 = .ok (.aload 5, 2) := by decide +kernel
theorem dX4_placeInto_15 : decode cX4_placeInto 15 = .ok (.invokevirtual 169, 3) := by decide +kernel
theorem dX4_placeInto_18 : decode cX4_placeInto 18 = .ok (.istore 6, 2) := by decide +kernel
theorem dX4_placeInto_20 : decode cX4_placeInto 20 = .ok (.iload 6, 2) := by decide +kernel
theorem dX4_placeInto_22 : decode cX4_placeInto 22 = .ok (.iconst (-1), 1) := by decide +kernel
theorem dX4_placeInto_23 : decode cX4_placeInto 23 = .ok (.if_icmp .ne 77, 3) := by decide +kernel
theorem dX4_placeInto_26 : decode cX4_placeInto 26 = .ok (.aload_n 0, 1) := by decide +kernel
theorem dX4_placeInto_27 : decode cX4_placeInto 27 = .ok (.aload 5, 2) := by decide +kernel
theorem dX4_placeInto_29 : decode cX4_placeInto 29 = .ok (.invokevirtual 172, 3) := by decide +kernel
theorem dX4_placeInto_32 : decode cX4_placeInto 32 = .ok (.istore 6, 2) := by decide +kernel
theorem dX4_placeInto_34 : decode cX4_placeInto 34 = .ok (.aload_n 0, 1) := by decide +kernel
theorem dX4_placeInto_35 : decode cX4_placeInto 35 = .ok (.getfield 60, 3) := by decide +kernel
theorem dX4_placeInto_38 : decode cX4_placeInto 38 = .ok (.iconst 2, 1) := by decide +kernel
theorem dX4_placeInto_39 : decode cX4_placeInto 39 = .ok (.if_icmp .ne 42, 3) := by decide +kernel
theorem dX4_placeInto_42 : decode cX4_placeInto 42 = .ok (.iload_n 1, 1) := by decide +kernel
theorem dX4_placeInto_43 : decode cX4_placeInto 43 = .ok (.aload_n 0, 1) := by decide +kernel
theorem dX4_placeInto_44 : decode cX4_placeInto 44 = .ok (.getfield 43, 3) := by decide +kernel
theorem dX4_placeInto_47 : decode cX4_placeInto 47 = .ok (.if_icmp .ge 34, 3) := by decide +kernel
theorem dX4_placeInto_50 : decode cX4_placeInto 50 = .ok (.aload_n 0, 1) := by decide +kernel
theorem dX4_placeInto_51 : decode cX4_placeInto 51 = .ok (.iload_n 1, 1) := by decide +kernel
theorem dX4_placeInto_52 : decode cX4_placeInto 52 = .ok (.iconst 1, 1) := by decide +kernel
theorem dX4_placeInto_53 : decode cX4_placeInto 53 = .ok (.iadd, 1) := by decide +kernel
theorem dX4_placeInto_54 : decode cX4_placeInto 54 = .ok (.aload 5, 2) := by decide +kernel
theorem dX4_placeInto_56 : decode cX4_placeInto 56 = .ok (.iload 6, 2) := by decide +kernel
theorem dX4_placeInto_58 : decode cX4_placeInto 58 = .ok (.invokevirtual 176, 3) := by decide +kernel
theorem dX4_placeInto_61 : decode cX4_placeInto 61 = .ok (.aload 5, 2) := by decide +kernel
theorem dX4_placeInto_63 : decode cX4_placeInto 63 = .ok (.iload 6, 2) := by decide +kernel
theorem dX4_placeInto_65 : decode cX4_placeInto 65 = .ok (.invokevirtual 144, 3) := by decide +kernel
theorem dX4_placeInto_68 : decode cX4_placeInto 68 = .ok (.aload 5, 2) := by decide +kernel
theorem dX4_placeInto_70 : decode cX4_placeInto 70 = .ok (.iload 6, 2) := by decide +kernel
theorem dX4_placeInto_72 : decode cX4_placeInto 72 = .ok (.invokevirtual 150, 3) := by decide +kernel
theorem dX4_placeInto_75 : decode cX4_placeInto 75 = .ok (.invokestatic 108, 3) := by decide +kernel
theorem dX4_placeInto_78 : decode cX4_placeInto 78 = .ok (.goto 15, 3) := by decide +kernel
theorem dX4_placeInto_81 : decode cX4_placeInto 81 = .ok (.aload_n 0, 1) := by decide +kernel
theorem dX4_placeInto_82 : decode cX4_placeInto 82 = .ok (.iload_n 1, 1) := by decide +kernel
theorem dX4_placeInto_83 : decode cX4_placeInto 83 = .ok (.aload 5, 2) := by decide +kernel
theorem dX4_placeInto_85 : decode cX4_placeInto 85 = .ok (.iload 6, 2) := by decide +kernel
theorem dX4_placeInto_87 : decode cX4_placeInto 87 = .ok (.invokevirtual 176, 3) := by decide +kernel
theorem dX4_placeInto_90 : decode cX4_placeInto 90 = .ok (.invokevirtual 179, 3) := by decide +kernel
theorem dX4_placeInto_93 : decode cX4_placeInto 93 = .ok (.aload 5, 2) := by decide +kernel
theorem dX4_placeInto_95 : decode cX4_placeInto 95 = .ok (.iload 6, 2) := by decide +kernel
theorem dX4_placeInto_97 : decode cX4_placeInto 97 = .ok (.invokevirtual 182, 3) := by decide +kernel
theorem dX4_placeInto_100 : decode cX4_placeInto 100 = .ok (.aload 5, 2) := by decide +kernel
theorem dX4_placeInto_102 : decode cX4_placeInto 102 = .ok (.iload 6, 2) := by decide +kernel
theorem dX4_placeInto_104 : decode cX4_placeInto 104 = .ok (.iload_n 2, 1) := by decide +kernel
theorem dX4_placeInto_105 : decode cX4_placeInto 105 = .ok (.aload_n 0, 1) := by decide +kernel
theorem dX4_placeInto_106 : decode cX4_placeInto 106 = .ok (.getfield 84, 3) := by decide +kernel
theorem dX4_placeInto_109 : decode cX4_placeInto 109 = .ok (.aload_n 0, 1) := by decide +kernel
theorem dX4_placeInto_110 : decode cX4_placeInto 110 = .ok (.getfield 69, 3) := by decide +kernel
theorem dX4_placeInto_113 : decode cX4_placeInto 113 = .ok (.invokevirtual 186, 3) := by decide +kernel
theorem dX4_placeInto_116 : decode cX4_placeInto 116 = .ok (.aload 5, 2) := by decide +kernel
theorem dX4_placeInto_118 : decode cX4_placeInto 118 = .ok (.iload 6, 2) := by decide +kernel
theorem dX4_placeInto_120 : decode cX4_placeInto 120 = .ok (.iload_n 3, 1) := by decide +kernel
theorem dX4_placeInto_121 : decode cX4_placeInto 121 = .ok (.iload 4, 2) := by decide +kernel
theorem dX4_placeInto_123 : decode cX4_placeInto 123 = .ok (.invokevirtual 162, 3) := by decide +kernel
theorem dX4_placeInto_126 : decode cX4_placeInto 126 = .ok (.aload_n 0, 1) := by decide +kernel
theorem dX4_placeInto_127 : decode cX4_placeInto 127 = .ok (.dup, 1) := by decide +kernel
theorem dX4_placeInto_128 : decode cX4_placeInto 128 = .ok (.getfield 84, 3) := by decide +kernel
theorem dX4_placeInto_131 : decode cX4_placeInto 131 = .ok (.iconst 1, 1) := by decide +kernel
theorem dX4_placeInto_132 : decode cX4_placeInto 132 = .ok (.iadd, 1) := by decide +kernel
theorem dX4_placeInto_133 : decode cX4_placeInto 133 = .ok (.putfield 84, 3) := by decide +kernel
theorem dX4_placeInto_136 : decode cX4_placeInto 136 = .ok (.return_, 1) := by decide +kernel
theorem dX4_victimOf_0 : decode cX4_victimOf 0 = .ok (.aload_n 1, 1) := by decide +kernel
theorem dX4_victimOf_1 : decode cX4_victimOf 1 = .ok (.getfield 190, 3) := by decide +kernel
theorem dX4_victimOf_4 : decode cX4_victimOf 4 = .ok (.bipush 7, 2) := by decide +kernel
theorem dX4_victimOf_6 : decode cX4_victimOf 6 = .ok (.if_icmp .ne 8, 3) := by decide +kernel
theorem dX4_victimOf_9 : decode cX4_victimOf 9 = .ok (.aload_n 1, 1) := by decide +kernel
theorem dX4_victimOf_10 : decode cX4_victimOf 10 = .ok (.invokevirtual 193, 3) := by decide +kernel
theorem dX4_victimOf_13 : decode cX4_victimOf 13 = .ok (.ireturn, 1) := by decide +kernel
theorem dX4_victimOf_14 : decode cX4_victimOf 14 = .ok (.aload_n 1, 1) := by decide +kernel
theorem dX4_victimOf_15 : decode cX4_victimOf 15 = .ok (.getfield 190, 3) := by decide +kernel
theorem dX4_victimOf_18 : decode cX4_victimOf 18 = .ok (.bipush 8, 2) := by decide +kernel
theorem dX4_victimOf_20 : decode cX4_victimOf 20 = .ok (.if_icmp .ne 25, 3) := by decide +kernel
theorem dX4_victimOf_23 : decode cX4_victimOf 23 = .ok (.aload_n 1, 1) := by decide +kernel
theorem dX4_victimOf_24 : decode cX4_victimOf 24 = .ok (.dup, 1) := by decide +kernel
theorem dX4_victimOf_25 : decode cX4_victimOf 25 = .ok (.getfield 196, 3) := by decide +kernel
theorem dX4_victimOf_28 : decode cX4_victimOf 28 = .ok (.iconst 1, 1) := by decide +kernel
theorem dX4_victimOf_29 : decode cX4_victimOf 29 = .ok (.iadd, 1) := by decide +kernel
theorem dX4_victimOf_30 : decode cX4_victimOf 30 = .ok (.putfield 196, 3) := by decide +kernel
theorem dX4_victimOf_33 : decode cX4_victimOf 33 = .ok (.aload_n 0, 1) := by decide +kernel
theorem dX4_victimOf_34 : decode cX4_victimOf 34 = .ok (.getfield 31, 3) := by decide +kernel
theorem dX4_victimOf_37 : decode cX4_victimOf 37 = .ok (.aload_n 1, 1) := by decide +kernel
theorem dX4_victimOf_38 : decode cX4_victimOf 38 = .ok (.getfield 199, 3) := by decide +kernel
theorem dX4_victimOf_41 : decode cX4_victimOf 41 = .ok (.invokevirtual 202, 3) := by decide +kernel
theorem dX4_victimOf_44 : decode cX4_victimOf 44 = .ok (.ireturn, 1) := by decide +kernel
theorem dX4_victimOf_45 : decode cX4_victimOf 45 = .ok (.aload_n 1, 1) := by decide +kernel
theorem dX4_victimOf_46 : decode cX4_victimOf 46 = .ok (.invokevirtual 205, 3) := by decide +kernel
theorem dX4_victimOf_49 : decode cX4_victimOf 49 = .ok (.ireturn, 1) := by decide +kernel
theorem dX4_flushVictim_0 : decode cX4_flushVictim 0 = .ok (.aload_n 0, 1) := by decide +kernel
theorem dX4_flushVictim_1 : decode cX4_flushVictim 1 = .ok (.getfield 60, 3) := by decide +kernel
theorem dX4_flushVictim_4 : decode cX4_flushVictim 4 = .ok (.iconst 1, 1) := by decide +kernel
theorem dX4_flushVictim_5 : decode cX4_flushVictim 5 = .ok (.if_icmp .ne 7, 3) := by decide +kernel
theorem dX4_flushVictim_8 : decode cX4_flushVictim 8 = .ok (.iconst 1, 1) := by decide +kernel
theorem dX4_flushVictim_9 : decode cX4_flushVictim 9 = .ok (.goto 4, 3) := by decide +kernel
theorem dX4_flushVictim_12 : decode cX4_flushVictim 12 = .ok (.iload_n 1, 1) := by decide +kernel
theorem dX4_flushVictim_13 : decode cX4_flushVictim 13 = .ok (.istore_n 3, 1) := by decide +kernel
theorem dX4_flushVictim_14 : decode cX4_flushVictim 14 = .ok (.aload_n 0, 1) := by decide +kernel
theorem dX4_flushVictim_15 : decode cX4_flushVictim 15 = .ok (.iload_n 3, 1) := by decide +kernel
theorem dX4_flushVictim_16 : decode cX4_flushVictim 16 = .ok (.iload_n 1, 1) := by decide +kernel
theorem dX4_flushVictim_17 : decode cX4_flushVictim 17 = .ok (.iload_n 2, 1) := by decide +kernel
theorem dX4_flushVictim_18 : decode cX4_flushVictim 18 = .ok (.invokevirtual 208, 3) := by decide +kernel
theorem dX4_flushVictim_21 : decode cX4_flushVictim 21 = .ok (.astore 4, 2) := by decide +kernel
theorem dX4_flushVictim_23 : decode cX4_flushVictim 23 = .ok (.aload 4, 2) := by decide +kernel
theorem dX4_flushVictim_25 : decode cX4_flushVictim 25 = .ok (.ifnull 20, 3) := by decide +kernel
theorem dX4_flushVictim_28 : decode cX4_flushVictim 28 = .ok (.aload_n 0, 1) := by decide +kernel
theorem dX4_flushVictim_29 : decode cX4_flushVictim 29 = .ok (.iload_n 1, 1) := by decide +kernel
theorem dX4_flushVictim_30 : decode cX4_flushVictim 30 = .ok (.iload_n 2, 1) := by decide +kernel
theorem dX4_flushVictim_31 : decode cX4_flushVictim 31 = .ok (.aload 4, 2) := by decide +kernel
theorem dX4_flushVictim_33 : decode cX4_flushVictim 33 = .ok (.aload 4, 2) := by decide +kernel
theorem dX4_flushVictim_35 : decode cX4_flushVictim 35 = .ok (.iload_n 2, 1) := by decide +kernel
theorem dX4_flushVictim_36 : decode cX4_flushVictim 36 = .ok (.invokevirtual 135, 3) := by decide +kernel
theorem dX4_flushVictim_39 : decode cX4_flushVictim 39 = .ok (.invokevirtual 144, 3) := by decide +kernel
theorem dX4_flushVictim_42 : decode cX4_flushVictim 42 = .ok (.invokevirtual 212, 3) := by decide +kernel
theorem dX4_flushVictim_45 : decode cX4_flushVictim 45 = .ok (.iload_n 3, 1) := by decide +kernel
theorem dX4_flushVictim_46 : decode cX4_flushVictim 46 = .ok (.istore 5, 2) := by decide +kernel
theorem dX4_flushVictim_48 : decode cX4_flushVictim 48 = .ok (.iload 5, 2) := by decide +kernel
theorem dX4_flushVictim_50 : decode cX4_flushVictim 50 = .ok (.iload_n 1, 1) := by decide +kernel
theorem dX4_flushVictim_51 : decode cX4_flushVictim 51 = .ok (.if_icmp .ge 33, 3) := by decide +kernel
theorem dX4_flushVictim_54 : decode cX4_flushVictim 54 = .ok (.aload_n 0, 1) := by decide +kernel
theorem dX4_flushVictim_55 : decode cX4_flushVictim 55 = .ok (.iload 5, 2) := by decide +kernel
theorem dX4_flushVictim_57 : decode cX4_flushVictim 57 = .ok (.invokevirtual 46, 3) := by decide +kernel
theorem dX4_flushVictim_60 : decode cX4_flushVictim 60 = .ok (.astore 6, 2) := by decide +kernel
theorem dX4_flushVictim_62 : decode cX4_flushVictim 62 = .ok (.aload 6, 2) := by decide +kernel
theorem dX4_flushVictim_64 : decode cX4_flushVictim 64 = .ok (.ifnull 14, 3) := by decide +kernel
theorem dX4_flushVictim_67 : decode cX4_flushVictim 67 = .ok (.aload 6, 2) := by decide +kernel
theorem dX4_flushVictim_69 : decode cX4_flushVictim 69 = .ok (.aload 6, 2) := by decide +kernel
theorem dX4_flushVictim_71 : decode cX4_flushVictim 71 = .ok (.iload_n 2, 1) := by decide +kernel
theorem dX4_flushVictim_72 : decode cX4_flushVictim 72 = .ok (.invokevirtual 135, 3) := by decide +kernel
theorem dX4_flushVictim_75 : decode cX4_flushVictim 75 = .ok (.invokevirtual 182, 3) := by decide +kernel
theorem dX4_flushVictim_78 : decode cX4_flushVictim 78 = .ok (.iinc 5 1, 3) := by decide +kernel
theorem dX4_flushVictim_81 : decode cX4_flushVictim 81 = .ok (.goto (-33), 3) := by decide +kernel
theorem dX4_flushVictim_84 : decode cX4_flushVictim 84 = .ok (.return_, 1) := by decide +kernel
theorem dX4_nearestDirty_0 : decode cX4_nearestDirty 0 = .ok (.iload_n 1, 1) := by decide +kernel
theorem dX4_nearestDirty_1 : decode cX4_nearestDirty 1 = .ok (.istore 4, 2) := by decide +kernel
theorem dX4_nearestDirty_3 : decode cX4_nearestDirty 3 = .ok (.iload 4, 2) := by decide +kernel
theorem dX4_nearestDirty_5 : decode cX4_nearestDirty 5 = .ok (.iload_n 2, 1) := by decide +kernel
theorem dX4_nearestDirty_6 : decode cX4_nearestDirty 6 = .ok (.if_icmp .gt 39, 3) := by decide +kernel
theorem dX4_nearestDirty_9 : decode cX4_nearestDirty 9 = .ok (.aload_n 0, 1) := by decide +kernel
theorem dX4_nearestDirty_10 : decode cX4_nearestDirty 10 = .ok (.iload 4, 2) := by decide +kernel
theorem dX4_nearestDirty_12 : decode cX4_nearestDirty 12 = .ok (.invokevirtual 46, 3) := by decide +kernel
theorem dX4_nearestDirty_15 : decode cX4_nearestDirty 15 = .ok (.astore 5, 2) := by decide +kernel
theorem dX4_nearestDirty_17 : decode cX4_nearestDirty 17 = .ok (.aload 5, 2) := by decide +kernel
theorem dX4_nearestDirty_19 : decode cX4_nearestDirty 19 = .ok (.ifnull 20, 3) := by decide +kernel
theorem dX4_nearestDirty_22 : decode cX4_nearestDirty 22 = .ok (.aload 5, 2) := by decide +kernel
theorem dX4_nearestDirty_24 : decode cX4_nearestDirty 24 = .ok (.aload 5, 2) := by decide +kernel
theorem dX4_nearestDirty_26 : decode cX4_nearestDirty 26 = .ok (.iload_n 3, 1) := by decide +kernel
theorem dX4_nearestDirty_27 : decode cX4_nearestDirty 27 = .ok (.invokevirtual 135, 3) := by decide +kernel
theorem dX4_nearestDirty_30 : decode cX4_nearestDirty 30 = .ok (.invokevirtual 150, 3) := by decide +kernel
theorem dX4_nearestDirty_33 : decode cX4_nearestDirty 33 = .ok (.ifCond .eq 6, 3) := by decide +kernel
theorem dX4_nearestDirty_36 : decode cX4_nearestDirty 36 = .ok (.aload 5, 2) := by decide +kernel
theorem dX4_nearestDirty_38 : decode cX4_nearestDirty 38 = .ok (.areturn, 1) := by decide +kernel
theorem dX4_nearestDirty_39 : decode cX4_nearestDirty 39 = .ok (.iinc 4 1, 3) := by decide +kernel
theorem dX4_nearestDirty_42 : decode cX4_nearestDirty 42 = .ok (.goto (-39), 3) := by decide +kernel
theorem dX4_nearestDirty_45 : decode cX4_nearestDirty 45 = .ok (.aconst_null, 1) := by decide +kernel
theorem dX4_nearestDirty_46 : decode cX4_nearestDirty 46 = .ok (.areturn, 1) := by decide +kernel
theorem dX4_flush_0 : decode cX4_flush 0 = .ok (.aload_n 0, 1) := by decide +kernel
theorem dX4_flush_1 : decode cX4_flush 1 = .ok (.iload_n 1, 1) := by decide +kernel
theorem dX4_flush_2 : decode cX4_flush 2 = .ok (.invokevirtual 46, 3) := by decide +kernel
theorem dX4_flush_5 : decode cX4_flush 5 = .ok (.astore 4, 2) := by decide +kernel
theorem dX4_flush_7 : decode cX4_flush 7 = .ok (.aload 4, 2) := by decide +kernel
theorem dX4_flush_9 : decode cX4_flush 9 = .ok (.ifnull 14, 3) := by decide +kernel
theorem dX4_flush_12 : decode cX4_flush 12 = .ok (.aload 4, 2) := by decide +kernel
theorem dX4_flush_14 : decode cX4_flush 14 = .ok (.dup, 1) := by decide +kernel
theorem dX4_flush_15 : decode cX4_flush 15 = .ok (.getfield 216, 3) := by decide +kernel
theorem dX4_flush_18 : decode cX4_flush 18 = .ok (.iconst 1, 1) := by decide +kernel
theorem dX4_flush_19 : decode cX4_flush 19 = .ok (.iadd, 1) := by decide +kernel
theorem dX4_flush_20 : decode cX4_flush 20 = .ok (.putfield 216, 3) := by decide +kernel
theorem dX4_flush_23 : decode cX4_flush 23 = .ok (.iload_n 1, 1) := by decide +kernel
theorem dX4_flush_24 : decode cX4_flush 24 = .ok (.iconst 1, 1) := by decide +kernel
theorem dX4_flush_25 : decode cX4_flush 25 = .ok (.iadd, 1) := by decide +kernel
theorem dX4_flush_26 : decode cX4_flush 26 = .ok (.istore 5, 2) := by decide +kernel
theorem dX4_flush_28 : decode cX4_flush 28 = .ok (.iload 5, 2) := by decide +kernel
theorem dX4_flush_30 : decode cX4_flush 30 = .ok (.aload_n 0, 1) := by decide +kernel
theorem dX4_flush_31 : decode cX4_flush 31 = .ok (.getfield 43, 3) := by decide +kernel
theorem dX4_flush_34 : decode cX4_flush 34 = .ok (.if_icmp .gt 46, 3) := by decide +kernel
theorem dX4_flush_37 : decode cX4_flush 37 = .ok (.aload_n 0, 1) := by decide +kernel
theorem dX4_flush_38 : decode cX4_flush 38 = .ok (.iload 5, 2) := by decide +kernel
theorem dX4_flush_40 : decode cX4_flush 40 = .ok (.invokevirtual 46, 3) := by decide +kernel
theorem dX4_flush_43 : decode cX4_flush 43 = .ok (.astore 6, 2) := by decide +kernel
theorem dX4_flush_45 : decode cX4_flush 45 = .ok (.aload 6, 2) := by decide +kernel
theorem dX4_flush_47 : decode cX4_flush 47 = .ok (.ifnull 27, 3) := by decide +kernel
theorem dX4_flush_50 : decode cX4_flush 50 = .ok (.aload 6, 2) := by decide +kernel
theorem dX4_flush_52 : decode cX4_flush 52 = .ok (.iload_n 2, 1) := by decide +kernel
theorem dX4_flush_53 : decode cX4_flush 53 = .ok (.invokevirtual 135, 3) := by decide +kernel
theorem dX4_flush_56 : decode cX4_flush 56 = .ok (.iconst (-1), 1) := by decide +kernel
theorem dX4_flush_57 : decode cX4_flush 57 = .ok (.if_icmp .eq 17, 3) := by decide +kernel
theorem dX4_flush_60 : decode cX4_flush 60 = .ok (.aload 6, 2) := by decide +kernel
theorem dX4_flush_62 : decode cX4_flush 62 = .ok (.aload 6, 2) := by decide +kernel
theorem dX4_flush_64 : decode cX4_flush 64 = .ok (.iload_n 2, 1) := by decide +kernel
theorem dX4_flush_65 : decode cX4_flush 65 = .ok (.invokevirtual 135, 3) := by decide +kernel
theorem dX4_flush_68 : decode cX4_flush 68 = .ok (.iload_n 3, 1) := by decide +kernel
theorem dX4_flush_69 : decode cX4_flush 69 = .ok (.iconst 1, 1) := by decide +kernel
theorem dX4_flush_70 : decode cX4_flush 70 = .ok (.invokevirtual 162, 3) := by decide +kernel
theorem dX4_flush_73 : decode cX4_flush 73 = .ok (.return_, 1) := by decide +kernel
theorem dX4_flush_74 : decode cX4_flush 74 = .ok (.iinc 5 1, 3) := by decide +kernel
theorem dX4_flush_77 : decode cX4_flush 77 = .ok (.goto (-49), 3) := by decide +kernel
theorem dX4_flush_80 : decode cX4_flush 80 = .ok (.aload_n 0, 1) := by decide +kernel
theorem dX4_flush_81 : decode cX4_flush 81 = .ok (.iload_n 2, 1) := by decide +kernel
theorem dX4_flush_82 : decode cX4_flush 82 = .ok (.iload_n 3, 1) := by decide +kernel
theorem dX4_flush_83 : decode cX4_flush 83 = .ok (.invokevirtual 166, 3) := by decide +kernel
theorem dX4_flush_86 : decode cX4_flush 86 = .ok (.return_, 1) := by decide +kernel
theorem dX4_sweepLevel_0 : decode cX4_sweepLevel 0 = .ok (.aload_n 0, 1) := by decide +kernel
theorem dX4_sweepLevel_1 : decode cX4_sweepLevel 1 = .ok (.iload_n 1, 1) := by decide +kernel
theorem dX4_sweepLevel_2 : decode cX4_sweepLevel 2 = .ok (.invokevirtual 46, 3) := by decide +kernel
theorem dX4_sweepLevel_5 : decode cX4_sweepLevel 5 = .ok (.astore_n 2, 1) := by decide +kernel
theorem dX4_sweepLevel_6 : decode cX4_sweepLevel 6 = .ok (.aload_n 2, 1) := by decide +kernel
theorem dX4_sweepLevel_7 : decode cX4_sweepLevel 7 = .ok (.ifnonnull 5, 3) := by decide +kernel
theorem dX4_sweepLevel_10 : decode cX4_sweepLevel 10 = .ok (.iconst 0, 1) := by decide +kernel
theorem dX4_sweepLevel_11 : decode cX4_sweepLevel 11 = .ok (.ireturn, 1) := by decide +kernel
theorem dX4_sweepLevel_12 : decode cX4_sweepLevel 12 = .ok (.iconst 0, 1) := by decide +kernel
theorem dX4_sweepLevel_13 : decode cX4_sweepLevel 13 = .ok (.istore_n 3, 1) := by decide +kernel
theorem dX4_sweepLevel_14 : decode cX4_sweepLevel 14 = .ok (.iconst 0, 1) := by decide +kernel
theorem dX4_sweepLevel_15 : decode cX4_sweepLevel 15 = .ok (.istore 4, 2) := by decide +kernel
theorem dX4_sweepLevel_17 : decode cX4_sweepLevel 17 = .ok (.iload 4, 2) := by decide +kernel
theorem dX4_sweepLevel_19 : decode cX4_sweepLevel 19 = .ok (.aload_n 2, 1) := by decide +kernel
theorem dX4_sweepLevel_20 : decode cX4_sweepLevel 20 = .ok (.getfield 199, 3) := by decide +kernel
theorem dX4_sweepLevel_23 : decode cX4_sweepLevel 23 = .ok (.if_icmp .ge 51, 3) := by decide +kernel
theorem dX4_sweepLevel_26 : decode cX4_sweepLevel 26 = .ok (.aload_n 2, 1) := by decide +kernel
theorem dX4_sweepLevel_27 : decode cX4_sweepLevel 27 = .ok (.iload 4, 2) := by decide +kernel
theorem dX4_sweepLevel_29 : decode cX4_sweepLevel 29 = .ok (.invokevirtual 150, 3) := by decide +kernel
theorem dX4_sweepLevel_32 : decode cX4_sweepLevel 32 = .ok (.ifCond .eq 36, 3) := by decide +kernel
theorem dX4_sweepLevel_35 : decode cX4_sweepLevel 35 = .ok (.aload_n 0, 1) := by decide +kernel
theorem dX4_sweepLevel_36 : decode cX4_sweepLevel 36 = .ok (.iload_n 1, 1) := by decide +kernel
theorem dX4_sweepLevel_37 : decode cX4_sweepLevel 37 = .ok (.aload_n 2, 1) := by decide +kernel
theorem dX4_sweepLevel_38 : decode cX4_sweepLevel 38 = .ok (.iload 4, 2) := by decide +kernel
theorem dX4_sweepLevel_40 : decode cX4_sweepLevel 40 = .ok (.invokevirtual 176, 3) := by decide +kernel
theorem dX4_sweepLevel_43 : decode cX4_sweepLevel 43 = .ok (.aload_n 2, 1) := by decide +kernel
theorem dX4_sweepLevel_44 : decode cX4_sweepLevel 44 = .ok (.iload 4, 2) := by decide +kernel
theorem dX4_sweepLevel_46 : decode cX4_sweepLevel 46 = .ok (.invokevirtual 144, 3) := by decide +kernel
theorem dX4_sweepLevel_49 : decode cX4_sweepLevel 49 = .ok (.invokevirtual 212, 3) := by decide +kernel
theorem dX4_sweepLevel_52 : decode cX4_sweepLevel 52 = .ok (.aload_n 2, 1) := by decide +kernel
theorem dX4_sweepLevel_53 : decode cX4_sweepLevel 53 = .ok (.iload 4, 2) := by decide +kernel
theorem dX4_sweepLevel_55 : decode cX4_sweepLevel 55 = .ok (.aload_n 2, 1) := by decide +kernel
theorem dX4_sweepLevel_56 : decode cX4_sweepLevel 56 = .ok (.iload 4, 2) := by decide +kernel
theorem dX4_sweepLevel_58 : decode cX4_sweepLevel 58 = .ok (.invokevirtual 144, 3) := by decide +kernel
theorem dX4_sweepLevel_61 : decode cX4_sweepLevel 61 = .ok (.iconst 0, 1) := by decide +kernel
theorem dX4_sweepLevel_62 : decode cX4_sweepLevel 62 = .ok (.invokevirtual 162, 3) := by decide +kernel
theorem dX4_sweepLevel_65 : decode cX4_sweepLevel 65 = .ok (.iinc 3 1, 3) := by decide +kernel
theorem dX4_sweepLevel_68 : decode cX4_sweepLevel 68 = .ok (.iinc 4 1, 3) := by decide +kernel
theorem dX4_sweepLevel_71 : decode cX4_sweepLevel 71 = .ok (.goto (-54), 3) := by decide +kernel
theorem dX4_sweepLevel_74 : decode cX4_sweepLevel 74 = .ok (.iload_n 3, 1) := by decide +kernel
theorem dX4_sweepLevel_75 : decode cX4_sweepLevel 75 = .ok (.ireturn, 1) := by decide +kernel
theorem dX4_sweepOut_0 : decode cX4_sweepOut 0 = .ok (.iconst 1, 1) := by decide +kernel
theorem dX4_sweepOut_1 : decode cX4_sweepOut 1 = .ok (.istore_n 1, 1) := by decide +kernel
theorem dX4_sweepOut_2 : decode cX4_sweepOut 2 = .ok (.iload_n 1, 1) := by decide +kernel
theorem dX4_sweepOut_3 : decode cX4_sweepOut 3 = .ok (.aload_n 0, 1) := by decide +kernel
theorem dX4_sweepOut_4 : decode cX4_sweepOut 4 = .ok (.getfield 43, 3) := by decide +kernel
theorem dX4_sweepOut_7 : decode cX4_sweepOut 7 = .ok (.if_icmp .gt 15, 3) := by decide +kernel
theorem dX4_sweepOut_10 : decode cX4_sweepOut 10 = .ok (.aload_n 0, 1) := by decide +kernel
theorem dX4_sweepOut_11 : decode cX4_sweepOut 11 = .ok (.iload_n 1, 1) := by decide +kernel
theorem dX4_sweepOut_12 : decode cX4_sweepOut 12 = .ok (.invokevirtual 219, 3) := by decide +kernel
theorem dX4_sweepOut_15 : decode cX4_sweepOut 15 = .ok (.pop, 1) := by decide +kernel
theorem dX4_sweepOut_16 : decode cX4_sweepOut 16 = .ok (.iinc 1 1, 3) := by decide +kernel
theorem dX4_sweepOut_19 : decode cX4_sweepOut 19 = .ok (.goto (-17), 3) := by decide +kernel
theorem dX4_sweepOut_22 : decode cX4_sweepOut 22 = .ok (.iconst 1, 1) := by decide +kernel
theorem dX4_sweepOut_23 : decode cX4_sweepOut 23 = .ok (.istore_n 1, 1) := by decide +kernel
theorem dX4_sweepOut_24 : decode cX4_sweepOut 24 = .ok (.iload_n 1, 1) := by decide +kernel
theorem dX4_sweepOut_25 : decode cX4_sweepOut 25 = .ok (.aload_n 0, 1) := by decide +kernel
theorem dX4_sweepOut_26 : decode cX4_sweepOut 26 = .ok (.getfield 43, 3) := by decide +kernel
theorem dX4_sweepOut_29 : decode cX4_sweepOut 29 = .ok (.if_icmp .gt 23, 3) := by decide +kernel
theorem dX4_sweepOut_32 : decode cX4_sweepOut 32 = .ok (.aload_n 0, 1) := by decide +kernel
theorem dX4_sweepOut_33 : decode cX4_sweepOut 33 = .ok (.iload_n 1, 1) := by decide +kernel
theorem dX4_sweepOut_34 : decode cX4_sweepOut 34 = .ok (.invokevirtual 46, 3) := by decide +kernel
theorem dX4_sweepOut_37 : decode cX4_sweepOut 37 = .ok (.astore_n 2, 1) := by decide +kernel
theorem dX4_sweepOut_38 : decode cX4_sweepOut 38 = .ok (.aload_n 2, 1) := by decide +kernel
theorem dX4_sweepOut_39 : decode cX4_sweepOut 39 = .ok (.ifnull 7, 3) := by decide +kernel
theorem dX4_sweepOut_42 : decode cX4_sweepOut 42 = .ok (.aload_n 2, 1) := by decide +kernel
theorem dX4_sweepOut_43 : decode cX4_sweepOut 43 = .ok (.invokevirtual 222, 3) := by decide +kernel
theorem dX4_sweepOut_46 : decode cX4_sweepOut 46 = .ok (.iinc 1 1, 3) := by decide +kernel
theorem dX4_sweepOut_49 : decode cX4_sweepOut 49 = .ok (.goto (-25), 3) := by decide +kernel
theorem dX4_sweepOut_52 : decode cX4_sweepOut 52 = .ok (.aload_n 0, 1) := by decide +kernel
theorem dX4_sweepOut_53 : decode cX4_sweepOut 53 = .ok (.iconst 0, 1) := by decide +kernel
theorem dX4_sweepOut_54 : decode cX4_sweepOut 54 = .ok (.putfield 72, 3) := by decide +kernel
theorem dX4_sweepOut_57 : decode cX4_sweepOut 57 = .ok (.return_, 1) := by decide +kernel
theorem dX4_levelsWith_0 : decode cX4_levelsWith 0 = .ok (.iconst 0, 1) := by decide +kernel
theorem dX4_levelsWith_1 : decode cX4_levelsWith 1 = .ok (.istore_n 2, 1) := by decide +kernel
theorem dX4_levelsWith_2 : decode cX4_levelsWith 2 = .ok (.iconst 1, 1) := by decide +kernel
theorem dX4_levelsWith_3 : decode cX4_levelsWith 3 = .ok (.istore_n 3, 1) := by decide +kernel
theorem dX4_levelsWith_4 : decode cX4_levelsWith 4 = .ok (.iload_n 3, 1) := by decide +kernel
theorem dX4_levelsWith_5 : decode cX4_levelsWith 5 = .ok (.aload_n 0, 1) := by decide +kernel
theorem dX4_levelsWith_6 : decode cX4_levelsWith 6 = .ok (.getfield 43, 3) := by decide +kernel
theorem dX4_levelsWith_9 : decode cX4_levelsWith 9 = .ok (.if_icmp .gt 39, 3) := by decide +kernel
theorem dX4_levelsWith_12 : decode cX4_levelsWith 12 = .ok (.aload_n 0, 1) := by decide +kernel
theorem dX4_levelsWith_13 : decode cX4_levelsWith 13 = .ok (.iload_n 3, 1) := by decide +kernel
theorem dX4_levelsWith_14 : decode cX4_levelsWith 14 = .ok (.invokevirtual 46, 3) := by decide +kernel
theorem dX4_levelsWith_17 : decode cX4_levelsWith 17 = .ok (.astore 4, 2) := by decide +kernel
theorem dX4_levelsWith_19 : decode cX4_levelsWith 19 = .ok (.aload 4, 2) := by decide +kernel
theorem dX4_levelsWith_21 : decode cX4_levelsWith 21 = .ok (.ifnull 21, 3) := by decide +kernel
theorem dX4_levelsWith_24 : decode cX4_levelsWith 24 = .ok (.aload 4, 2) := by decide +kernel
theorem dX4_levelsWith_26 : decode cX4_levelsWith 26 = .ok (.iload_n 1, 1) := by decide +kernel
theorem dX4_levelsWith_27 : decode cX4_levelsWith 27 = .ok (.invokevirtual 135, 3) := by decide +kernel
theorem dX4_levelsWith_30 : decode cX4_levelsWith 30 = .ok (.iconst (-1), 1) := by decide +kernel
theorem dX4_levelsWith_31 : decode cX4_levelsWith 31 = .ok (.if_icmp .eq 11, 3) := by decide +kernel
theorem dX4_levelsWith_34 : decode cX4_levelsWith 34 = .ok (.iload_n 2, 1) := by decide +kernel
theorem dX4_levelsWith_35 : decode cX4_levelsWith 35 = .ok (.iconst 1, 1) := by decide +kernel
theorem dX4_levelsWith_36 : decode cX4_levelsWith 36 = .ok (.iload_n 3, 1) := by decide +kernel
theorem dX4_levelsWith_37 : decode cX4_levelsWith 37 = .ok (.iconst 1, 1) := by decide +kernel
theorem dX4_levelsWith_38 : decode cX4_levelsWith 38 = .ok (.isub, 1) := by decide +kernel
theorem dX4_levelsWith_39 : decode cX4_levelsWith 39 = .ok (.ishl, 1) := by decide +kernel
theorem dX4_levelsWith_40 : decode cX4_levelsWith 40 = .ok (.ior, 1) := by decide +kernel
theorem dX4_levelsWith_41 : decode cX4_levelsWith 41 = .ok (.istore_n 2, 1) := by decide +kernel
theorem dX4_levelsWith_42 : decode cX4_levelsWith 42 = .ok (.iinc 3 1, 3) := by decide +kernel
theorem dX4_levelsWith_45 : decode cX4_levelsWith 45 = .ok (.goto (-41), 3) := by decide +kernel
theorem dX4_levelsWith_48 : decode cX4_levelsWith 48 = .ok (.iload_n 2, 1) := by decide +kernel
theorem dX4_levelsWith_49 : decode cX4_levelsWith 49 = .ok (.ireturn, 1) := by decide +kernel
theorem dX4_pagesIn_0 : decode cX4_pagesIn 0 = .ok (.lconst 0, 1) := by decide +kernel
theorem dX4_pagesIn_1 : decode cX4_pagesIn 1 = .ok (.lstore_n 2, 1) := by decide +kernel
theorem dX4_pagesIn_2 : decode cX4_pagesIn 2 = .ok (.iconst 0, 1) := by decide +kernel
theorem dX4_pagesIn_3 : decode cX4_pagesIn 3 = .ok (.istore 4, 2) := by decide +kernel
theorem dX4_pagesIn_5 : decode cX4_pagesIn 5 = .ok (.iload 4, 2) := by decide +kernel
theorem dX4_pagesIn_7 : decode cX4_pagesIn 7 = .ok (.bipush 64, 2) := by decide +kernel
theorem dX4_pagesIn_9 : decode cX4_pagesIn 9 = .ok (.if_icmp .ge 48, 3) := by decide +kernel
theorem dX4_pagesIn_12 : decode cX4_pagesIn 12 = .ok (.aload_n 0, 1) := by decide +kernel
theorem dX4_pagesIn_13 : decode cX4_pagesIn 13 = .ok (.iload 4, 2) := by decide +kernel
theorem dX4_pagesIn_15 : decode cX4_pagesIn 15 = .ok (.invokevirtual 122, 3) := by decide +kernel
theorem dX4_pagesIn_18 : decode cX4_pagesIn 18 = .ok (.istore 5, 2) := by decide +kernel
theorem dX4_pagesIn_20 : decode cX4_pagesIn 20 = .ok (.iload_n 1, 1) := by decide +kernel
theorem dX4_pagesIn_21 : decode cX4_pagesIn 21 = .ok (.ifCond .ne 11, 3) := by decide +kernel
theorem dX4_pagesIn_24 : decode cX4_pagesIn 24 = .ok (.iload 5, 2) := by decide +kernel
theorem dX4_pagesIn_26 : decode cX4_pagesIn 26 = .ok (.ifCond .eq 25, 3) := by decide +kernel
theorem dX4_pagesIn_29 : decode cX4_pagesIn 29 = .ok (.goto 15, 3) := by decide +kernel
theorem dX4_pagesIn_32 : decode cX4_pagesIn 32 = .ok (.iload 5, 2) := by decide +kernel
theorem dX4_pagesIn_34 : decode cX4_pagesIn 34 = .ok (.iload_n 1, 1) := by decide +kernel
theorem dX4_pagesIn_35 : decode cX4_pagesIn 35 = .ok (.iconst 1, 1) := by decide +kernel
theorem dX4_pagesIn_36 : decode cX4_pagesIn 36 = .ok (.isub, 1) := by decide +kernel
theorem dX4_pagesIn_37 : decode cX4_pagesIn 37 = .ok (.iushr, 1) := by decide +kernel
theorem dX4_pagesIn_38 : decode cX4_pagesIn 38 = .ok (.iconst 1, 1) := by decide +kernel
theorem dX4_pagesIn_39 : decode cX4_pagesIn 39 = .ok (.iand, 1) := by decide +kernel
theorem dX4_pagesIn_40 : decode cX4_pagesIn 40 = .ok (.iconst 1, 1) := by decide +kernel
theorem dX4_pagesIn_41 : decode cX4_pagesIn 41 = .ok (.if_icmp .ne 10, 3) := by decide +kernel
theorem dX4_pagesIn_44 : decode cX4_pagesIn 44 = .ok (.lload_n 2, 1) := by decide +kernel
theorem dX4_pagesIn_45 : decode cX4_pagesIn 45 = .ok (.lconst 1, 1) := by decide +kernel
theorem dX4_pagesIn_46 : decode cX4_pagesIn 46 = .ok (.iload 4, 2) := by decide +kernel
theorem dX4_pagesIn_48 : decode cX4_pagesIn 48 = .ok (.lshl, 1) := by decide +kernel
theorem dX4_pagesIn_49 : decode cX4_pagesIn 49 = .ok (.lor, 1) := by decide +kernel
theorem dX4_pagesIn_50 : decode cX4_pagesIn 50 = .ok (.lstore_n 2, 1) := by decide +kernel
theorem dX4_pagesIn_51 : decode cX4_pagesIn 51 = .ok (.iinc 4 1, 3) := by decide +kernel
theorem dX4_pagesIn_54 : decode cX4_pagesIn 54 = .ok (.goto (-49), 3) := by decide +kernel
theorem dX4_pagesIn_57 : decode cX4_pagesIn 57 = .ok (.lload_n 2, 1) := by decide +kernel
theorem dX4_pagesIn_58 : decode cX4_pagesIn 58 = .ok (.lreturn, 1) := by decide +kernel
theorem dX4_flushedInAll_0 : decode cX4_flushedInAll 0 = .ok (.iconst 0, 1) := by decide +kernel
theorem dX4_flushedInAll_1 : decode cX4_flushedInAll 1 = .ok (.istore_n 1, 1) := by decide +kernel
theorem dX4_flushedInAll_2 : decode cX4_flushedInAll 2 = .ok (.iconst 1, 1) := by decide +kernel
theorem dX4_flushedInAll_3 : decode cX4_flushedInAll 3 = .ok (.istore_n 2, 1) := by decide +kernel
theorem dX4_flushedInAll_4 : decode cX4_flushedInAll 4 = .ok (.iload_n 2, 1) := by decide +kernel
theorem dX4_flushedInAll_5 : decode cX4_flushedInAll 5 = .ok (.aload_n 0, 1) := by decide +kernel
theorem dX4_flushedInAll_6 : decode cX4_flushedInAll 6 = .ok (.getfield 43, 3) := by decide +kernel
theorem dX4_flushedInAll_9 : decode cX4_flushedInAll 9 = .ok (.if_icmp .gt 30, 3) := by decide +kernel
theorem dX4_flushedInAll_12 : decode cX4_flushedInAll 12 = .ok (.aload_n 0, 1) := by decide +kernel
theorem dX4_flushedInAll_13 : decode cX4_flushedInAll 13 = .ok (.iload_n 2, 1) := by decide +kernel
theorem dX4_flushedInAll_14 : decode cX4_flushedInAll 14 = .ok (.invokevirtual 46, 3) := by decide +kernel
theorem dX4_flushedInAll_17 : decode cX4_flushedInAll 17 = .ok (.astore_n 3, 1) := by decide +kernel
theorem dX4_flushedInAll_18 : decode cX4_flushedInAll 18 = .ok (.iload_n 1, 1) := by decide +kernel
theorem dX4_flushedInAll_19 : decode cX4_flushedInAll 19 = .ok (.aload_n 3, 1) := by decide +kernel
theorem dX4_flushedInAll_20 : decode cX4_flushedInAll 20 = .ok (.ifnonnull 7, 3) := by decide +kernel
theorem dX4_flushedInAll_23 : decode cX4_flushedInAll 23 = .ok (.iconst 0, 1) := by decide +kernel
theorem dX4_flushedInAll_24 : decode cX4_flushedInAll 24 = .ok (.goto 7, 3) := by decide +kernel
theorem dX4_flushedInAll_27 : decode cX4_flushedInAll 27 = .ok (.aload_n 3, 1) := by decide +kernel
theorem dX4_flushedInAll_28 : decode cX4_flushedInAll 28 = .ok (.getfield 216, 3) := by decide +kernel
theorem dX4_flushedInAll_31 : decode cX4_flushedInAll 31 = .ok (.iadd, 1) := by decide +kernel
theorem dX4_flushedInAll_32 : decode cX4_flushedInAll 32 = .ok (.istore_n 1, 1) := by decide +kernel
theorem dX4_flushedInAll_33 : decode cX4_flushedInAll 33 = .ok (.iinc 2 1, 3) := by decide +kernel
theorem dX4_flushedInAll_36 : decode cX4_flushedInAll 36 = .ok (.goto (-32), 3) := by decide +kernel
theorem dX4_flushedInAll_39 : decode cX4_flushedInAll 39 = .ok (.iload_n 1, 1) := by decide +kernel
theorem dX4_flushedInAll_40 : decode cX4_flushedInAll 40 = .ok (.ireturn, 1) := by decide +kernel
theorem dX4_differs_0 : decode cX4_differs 0 = .ok (.iload_n 2, 1) := by decide +kernel
theorem dX4_differs_1 : decode cX4_differs 1 = .ok (.iconst 2, 1) := by decide +kernel
theorem dX4_differs_2 : decode cX4_differs 2 = .ok (.if_icmp .ne 21, 3) := by decide +kernel
theorem dX4_differs_5 : decode cX4_differs 5 = .ok (.aload_n 0, 1) := by decide +kernel
theorem dX4_differs_6 : decode cX4_differs 6 = .ok (.iload_n 1, 1) := by decide +kernel
theorem dX4_differs_7 : decode cX4_differs 7 = .ok (.invokevirtual 122, 3) := by decide +kernel
theorem dX4_differs_10 : decode cX4_differs 10 = .ok (.invokestatic 225, 3) := by decide +kernel
theorem dX4_differs_13 : decode cX4_differs 13 = .ok (.iconst 1, 1) := by decide +kernel
theorem dX4_differs_14 : decode cX4_differs 14 = .ok (.if_icmp .le 7, 3) := by decide +kernel
theorem dX4_differs_17 : decode cX4_differs 17 = .ok (.iconst 1, 1) := by decide +kernel
theorem dX4_differs_18 : decode cX4_differs 18 = .ok (.goto 4, 3) := by decide +kernel
theorem dX4_differs_21 : decode cX4_differs 21 = .ok (.iconst 0, 1) := by decide +kernel
theorem dX4_differs_22 : decode cX4_differs 22 = .ok (.ireturn, 1) := by decide +kernel
theorem dX4_differs_23 : decode cX4_differs 23 = .ok (.iload_n 2, 1) := by decide +kernel
theorem dX4_differs_24 : decode cX4_differs 24 = .ok (.iconst 1, 1) := by decide +kernel
theorem dX4_differs_25 : decode cX4_differs 25 = .ok (.if_icmp .ne 22, 3) := by decide +kernel
theorem dX4_differs_28 : decode cX4_differs 28 = .ok (.aload_n 0, 1) := by decide +kernel
theorem dX4_differs_29 : decode cX4_differs 29 = .ok (.iconst 1, 1) := by decide +kernel
theorem dX4_differs_30 : decode cX4_differs 30 = .ok (.aload_n 0, 1) := by decide +kernel
theorem dX4_differs_31 : decode cX4_differs 31 = .ok (.getfield 43, 3) := by decide +kernel
theorem dX4_differs_34 : decode cX4_differs 34 = .ok (.iload_n 1, 1) := by decide +kernel
theorem dX4_differs_35 : decode cX4_differs 35 = .ok (.invokevirtual 208, 3) := by decide +kernel
theorem dX4_differs_38 : decode cX4_differs 38 = .ok (.ifnull 7, 3) := by decide +kernel
theorem dX4_differs_41 : decode cX4_differs 41 = .ok (.iconst 1, 1) := by decide +kernel
theorem dX4_differs_42 : decode cX4_differs 42 = .ok (.goto 4, 3) := by decide +kernel
theorem dX4_differs_45 : decode cX4_differs 45 = .ok (.iconst 0, 1) := by decide +kernel
theorem dX4_differs_46 : decode cX4_differs 46 = .ok (.ireturn, 1) := by decide +kernel
theorem dX4_differs_47 : decode cX4_differs 47 = .ok (.aload_n 0, 1) := by decide +kernel
theorem dX4_differs_48 : decode cX4_differs 48 = .ok (.iload_n 1, 1) := by decide +kernel
theorem dX4_differs_49 : decode cX4_differs 49 = .ok (.invokevirtual 230, 3) := by decide +kernel
theorem dX4_differs_52 : decode cX4_differs 52 = .ok (.astore_n 3, 1) := by decide +kernel
theorem dX4_differs_53 : decode cX4_differs 53 = .ok (.aload_n 3, 1) := by decide +kernel
theorem dX4_differs_54 : decode cX4_differs 54 = .ok (.ifnull 24, 3) := by decide +kernel
theorem dX4_differs_57 : decode cX4_differs 57 = .ok (.aload_n 3, 1) := by decide +kernel
theorem dX4_differs_58 : decode cX4_differs 58 = .ok (.aload_n 3, 1) := by decide +kernel
theorem dX4_differs_59 : decode cX4_differs 59 = .ok (.iload_n 1, 1) := by decide +kernel
theorem dX4_differs_60 : decode cX4_differs 60 = .ok (.invokevirtual 135, 3) := by decide +kernel
theorem dX4_differs_63 : decode cX4_differs 63 = .ok (.invokevirtual 144, 3) := by decide +kernel
theorem dX4_differs_66 : decode cX4_differs 66 = .ok (.aload_n 0, 1) := by decide +kernel
theorem dX4_differs_67 : decode cX4_differs 67 = .ok (.iload_n 1, 1) := by decide +kernel
theorem dX4_differs_68 : decode cX4_differs 68 = .ok (.invokevirtual 125, 3) := by decide +kernel
theorem dX4_differs_71 : decode cX4_differs 71 = .ok (.if_icmp .eq 7, 3) := by decide +kernel
theorem dX4_differs_74 : decode cX4_differs 74 = .ok (.iconst 1, 1) := by decide +kernel
theorem dX4_differs_75 : decode cX4_differs 75 = .ok (.goto 4, 3) := by decide +kernel
theorem dX4_differs_78 : decode cX4_differs 78 = .ok (.iconst 0, 1) := by decide +kernel
theorem dX4_differs_79 : decode cX4_differs 79 = .ok (.ireturn, 1) := by decide +kernel
theorem dX4_nearestWith_0 : decode cX4_nearestWith 0 = .ok (.iconst 1, 1) := by decide +kernel
theorem dX4_nearestWith_1 : decode cX4_nearestWith 1 = .ok (.istore_n 2, 1) := by decide +kernel
theorem dX4_nearestWith_2 : decode cX4_nearestWith 2 = .ok (.iload_n 2, 1) := by decide +kernel
theorem dX4_nearestWith_3 : decode cX4_nearestWith 3 = .ok (.aload_n 0, 1) := by decide +kernel
theorem dX4_nearestWith_4 : decode cX4_nearestWith 4 = .ok (.getfield 43, 3) := by decide +kernel
theorem dX4_nearestWith_7 : decode cX4_nearestWith 7 = .ok (.if_icmp .gt 30, 3) := by decide +kernel
theorem dX4_nearestWith_10 : decode cX4_nearestWith 10 = .ok (.aload_n 0, 1) := by decide +kernel
theorem dX4_nearestWith_11 : decode cX4_nearestWith 11 = .ok (.iload_n 2, 1) := by decide +kernel
theorem dX4_nearestWith_12 : decode cX4_nearestWith 12 = .ok (.invokevirtual 46, 3) := by decide +kernel
theorem dX4_nearestWith_15 : decode cX4_nearestWith 15 = .ok (.astore_n 3, 1) := by decide +kernel
theorem dX4_nearestWith_16 : decode cX4_nearestWith 16 = .ok (.aload_n 3, 1) := by decide +kernel
theorem dX4_nearestWith_17 : decode cX4_nearestWith 17 = .ok (.ifnull 14, 3) := by decide +kernel
theorem dX4_nearestWith_20 : decode cX4_nearestWith 20 = .ok (.aload_n 3, 1) := by decide +kernel
theorem dX4_nearestWith_21 : decode cX4_nearestWith 21 = .ok (.iload_n 1, 1) := by decide +kernel
theorem dX4_nearestWith_22 : decode cX4_nearestWith 22 = .ok (.invokevirtual 135, 3) := by decide +kernel
theorem dX4_nearestWith_25 : decode cX4_nearestWith 25 = .ok (.iconst (-1), 1) := by decide +kernel
theorem dX4_nearestWith_26 : decode cX4_nearestWith 26 = .ok (.if_icmp .eq 5, 3) := by decide +kernel
theorem dX4_nearestWith_29 : decode cX4_nearestWith 29 = .ok (.aload_n 3, 1) := by decide +kernel
theorem dX4_nearestWith_30 : decode cX4_nearestWith 30 = .ok (.areturn, 1) := by decide +kernel
theorem dX4_nearestWith_31 : decode cX4_nearestWith 31 = .ok (.iinc 2 1, 3) := by decide +kernel
theorem dX4_nearestWith_34 : decode cX4_nearestWith 34 = .ok (.goto (-32), 3) := by decide +kernel
theorem dX4_nearestWith_37 : decode cX4_nearestWith 37 = .ok (.aconst_null, 1) := by decide +kernel
theorem dX4_nearestWith_38 : decode cX4_nearestWith 38 = .ok (.areturn, 1) := by decide +kernel
theorem dX4_keepsMode_0 : decode cX4_keepsMode 0 = .ok (.iconst 0, 1) := by decide +kernel
theorem dX4_keepsMode_1 : decode cX4_keepsMode 1 = .ok (.istore_n 1, 1) := by decide +kernel
theorem dX4_keepsMode_2 : decode cX4_keepsMode 2 = .ok (.iload_n 1, 1) := by decide +kernel
theorem dX4_keepsMode_3 : decode cX4_keepsMode 3 = .ok (.bipush 64, 2) := by decide +kernel
theorem dX4_keepsMode_5 : decode cX4_keepsMode 5 = .ok (.if_icmp .ge 66, 3) := by decide +kernel
theorem dX4_keepsMode_8 : decode cX4_keepsMode 8 = .ok (.aload_n 0, 1) := by decide +kernel
theorem dX4_keepsMode_9 : decode cX4_keepsMode 9 = .ok (.iload_n 1, 1) := by decide +kernel
theorem dX4_keepsMode_10 : decode cX4_keepsMode 10 = .ok (.invokevirtual 122, 3) := by decide +kernel
theorem dX4_keepsMode_13 : decode cX4_keepsMode 13 = .ok (.istore_n 2, 1) := by decide +kernel
theorem dX4_keepsMode_14 : decode cX4_keepsMode 14 = .ok (.aload_n 0, 1) := by decide +kernel
theorem dX4_keepsMode_15 : decode cX4_keepsMode 15 = .ok (.getfield 60, 3) := by decide +kernel
theorem dX4_keepsMode_18 : decode cX4_keepsMode 18 = .ok (.iconst 1, 1) := by decide +kernel
theorem dX4_keepsMode_19 : decode cX4_keepsMode 19 = .ok (.if_icmp .ne 28, 3) := by decide +kernel
theorem dX4_keepsMode_22 : decode cX4_keepsMode 22 = .ok (.iload_n 2, 1) := by decide +kernel
theorem dX4_keepsMode_23 : decode cX4_keepsMode 23 = .ok (.ifCond .eq 24, 3) := by decide +kernel
theorem dX4_keepsMode_26 : decode cX4_keepsMode 26 = .ok (.iload_n 2, 1) := by decide +kernel
theorem dX4_keepsMode_27 : decode cX4_keepsMode 27 = .ok (.iconst 1, 1) := by decide +kernel
theorem dX4_keepsMode_28 : decode cX4_keepsMode 28 = .ok (.ishl, 1) := by decide +kernel
theorem dX4_keepsMode_29 : decode cX4_keepsMode 29 = .ok (.iload_n 2, 1) := by decide +kernel
theorem dX4_keepsMode_30 : decode cX4_keepsMode 30 = .ok (.iconst (-1), 1) := by decide +kernel
theorem dX4_keepsMode_31 : decode cX4_keepsMode 31 = .ok (.ixor, 1) := by decide +kernel
theorem dX4_keepsMode_32 : decode cX4_keepsMode 32 = .ok (.iand, 1) := by decide +kernel
theorem dX4_keepsMode_33 : decode cX4_keepsMode 33 = .ok (.iconst 1, 1) := by decide +kernel
theorem dX4_keepsMode_34 : decode cX4_keepsMode 34 = .ok (.aload_n 0, 1) := by decide +kernel
theorem dX4_keepsMode_35 : decode cX4_keepsMode 35 = .ok (.getfield 43, 3) := by decide +kernel
theorem dX4_keepsMode_38 : decode cX4_keepsMode 38 = .ok (.ishl, 1) := by decide +kernel
theorem dX4_keepsMode_39 : decode cX4_keepsMode 39 = .ok (.iconst 1, 1) := by decide +kernel
theorem dX4_keepsMode_40 : decode cX4_keepsMode 40 = .ok (.isub, 1) := by decide +kernel
theorem dX4_keepsMode_41 : decode cX4_keepsMode 41 = .ok (.iand, 1) := by decide +kernel
theorem dX4_keepsMode_42 : decode cX4_keepsMode 42 = .ok (.ifCond .eq 5, 3) := by decide +kernel
theorem dX4_keepsMode_45 : decode cX4_keepsMode 45 = .ok (.iconst 0, 1) := by decide +kernel
theorem dX4_keepsMode_46 : decode cX4_keepsMode 46 = .ok (.ireturn, 1) := by decide +kernel
theorem dX4_keepsMode_47 : decode cX4_keepsMode 47 = .ok (.aload_n 0, 1) := by decide +kernel
theorem dX4_keepsMode_48 : decode cX4_keepsMode 48 = .ok (.getfield 60, 3) := by decide +kernel
theorem dX4_keepsMode_51 : decode cX4_keepsMode 51 = .ok (.iconst 2, 1) := by decide +kernel
theorem dX4_keepsMode_52 : decode cX4_keepsMode 52 = .ok (.if_icmp .ne 13, 3) := by decide +kernel
theorem dX4_keepsMode_55 : decode cX4_keepsMode 55 = .ok (.iload_n 2, 1) := by decide +kernel
theorem dX4_keepsMode_56 : decode cX4_keepsMode 56 = .ok (.invokestatic 225, 3) := by decide +kernel
theorem dX4_keepsMode_59 : decode cX4_keepsMode 59 = .ok (.iconst 1, 1) := by decide +kernel
theorem dX4_keepsMode_60 : decode cX4_keepsMode 60 = .ok (.if_icmp .le 5, 3) := by decide +kernel
theorem dX4_keepsMode_63 : decode cX4_keepsMode 63 = .ok (.iconst 0, 1) := by decide +kernel
theorem dX4_keepsMode_64 : decode cX4_keepsMode 64 = .ok (.ireturn, 1) := by decide +kernel
theorem dX4_keepsMode_65 : decode cX4_keepsMode 65 = .ok (.iinc 1 1, 3) := by decide +kernel
theorem dX4_keepsMode_68 : decode cX4_keepsMode 68 = .ok (.goto (-66), 3) := by decide +kernel
theorem dX4_keepsMode_71 : decode cX4_keepsMode 71 = .ok (.iconst 1, 1) := by decide +kernel
theorem dX4_keepsMode_72 : decode cX4_keepsMode 72 = .ok (.ireturn, 1) := by decide +kernel
theorem dX5_init_0 : decode cX5_init 0 = .ok (.aload_n 0, 1) := by decide +kernel
theorem dX5_init_1 : decode cX5_init 1 = .ok (.invokespecial 3, 3) := by decide +kernel
theorem dX5_init_4 : decode cX5_init 4 = .ok (.aload_n 0, 1) := by decide +kernel
theorem dX5_init_5 : decode cX5_init 5 = .ok (.sipush 250, 3) := by decide +kernel
theorem dX5_init_8 : decode cX5_init 8 = .ok (.newarray .int, 2) := by decide +kernel
theorem dX5_init_10 : decode cX5_init 10 = .ok (.putfield 11, 3) := by decide +kernel
theorem dX5_init_13 : decode cX5_init 13 = .ok (.aload_n 0, 1) := by decide +kernel
theorem dX5_init_14 : decode cX5_init 14 = .ok (.bipush 30, 2) := by decide +kernel
theorem dX5_init_16 : decode cX5_init 16 = .ok (.newarray .int, 2) := by decide +kernel
theorem dX5_init_18 : decode cX5_init 18 = .ok (.putfield 15, 3) := by decide +kernel
theorem dX5_init_21 : decode cX5_init 21 = .ok (.aload_n 0, 1) := by decide +kernel
theorem dX5_init_22 : decode cX5_init 22 = .ok (.bipush 30, 2) := by decide +kernel
theorem dX5_init_24 : decode cX5_init 24 = .ok (.newarray .int, 2) := by decide +kernel
theorem dX5_init_26 : decode cX5_init 26 = .ok (.putfield 18, 3) := by decide +kernel
theorem dX5_init_29 : decode cX5_init 29 = .ok (.aload_n 0, 1) := by decide +kernel
theorem dX5_init_30 : decode cX5_init 30 = .ok (.bipush 30, 2) := by decide +kernel
theorem dX5_init_32 : decode cX5_init 32 = .ok (.newarray .int, 2) := by decide +kernel
theorem dX5_init_34 : decode cX5_init 34 = .ok (.putfield 21, 3) := by decide +kernel
theorem dX5_init_37 : decode cX5_init 37 = .ok (.return_, 1) := by decide +kernel
theorem dX5_isFull_0 : decode cX5_isFull 0 = .ok (.aload_n 0, 1) := by decide +kernel
theorem dX5_isFull_1 : decode cX5_isFull 1 = .ok (.getfield 24, 3) := by decide +kernel
theorem dX5_isFull_4 : decode cX5_isFull 4 = .ok (.aload_n 0, 1) := by decide +kernel
theorem dX5_isFull_5 : decode cX5_isFull 5 = .ok (.getfield 11, 3) := by decide +kernel
theorem dX5_isFull_8 : decode cX5_isFull 8 = .ok (.arraylength, 1) := by decide +kernel
theorem dX5_isFull_9 : decode cX5_isFull 9 = .ok (.if_icmp .lt 7, 3) := by decide +kernel
theorem dX5_isFull_12 : decode cX5_isFull 12 = .ok (.iconst 1, 1) := by decide +kernel
theorem dX5_isFull_13 : decode cX5_isFull 13 = .ok (.goto 4, 3) := by decide +kernel
theorem dX5_isFull_16 : decode cX5_isFull 16 = .ok (.iconst 0, 1) := by decide +kernel
theorem dX5_isFull_17 : decode cX5_isFull 17 = .ok (.ireturn, 1) := by decide +kernel
theorem dX5_append_0 : decode cX5_append 0 = .ok (.aload_n 0, 1) := by decide +kernel
theorem dX5_append_1 : decode cX5_append 1 = .ok (.getfield 24, 3) := by decide +kernel
theorem dX5_append_4 : decode cX5_append 4 = .ok (.iconst 0, 1) := by decide +kernel
theorem dX5_append_5 : decode cX5_append 5 = .ok (.aload_n 0, 1) := by decide +kernel
theorem dX5_append_6 : decode cX5_append 6 = .ok (.getfield 11, 3) := by decide +kernel
theorem dX5_append_9 : decode cX5_append 9 = .ok (.arraylength, 1) := by decide +kernel
theorem dX5_append_10 : decode cX5_append 10 = .ok (.iconst 1, 1) := by decide +kernel
theorem dX5_append_11 : decode cX5_append 11 = .ok (.isub, 1) := by decide +kernel
theorem dX5_append_12 : decode cX5_append 12 = .ok (.invokestatic 28, 3) := by decide +kernel
theorem dX5_append_15 : decode cX5_append 15 = .ok (.ifCond .eq 23, 3) := by decide +kernel
theorem dX5_append_18 : decode cX5_append 18 = .ok (.aload_n 0, 1) := by decide +kernel
theorem dX5_append_19 : decode cX5_append 19 = .ok (.getfield 11, 3) := by decide +kernel
theorem dX5_append_22 : decode cX5_append 22 = .ok (.aload_n 0, 1) := by decide +kernel
theorem dX5_append_23 : decode cX5_append 23 = .ok (.getfield 24, 3) := by decide +kernel
theorem dX5_append_26 : decode cX5_append 26 = .ok (.iload_n 1, 1) := by decide +kernel
theorem dX5_append_27 : decode cX5_append 27 = .ok (.iastore, 1) := by decide +kernel
theorem dX5_append_28 : decode cX5_append 28 = .ok (.aload_n 0, 1) := by decide +kernel
theorem dX5_append_29 : decode cX5_append 29 = .ok (.dup, 1) := by decide +kernel
theorem dX5_append_30 : decode cX5_append 30 = .ok (.getfield 24, 3) := by decide +kernel
theorem dX5_append_33 : decode cX5_append 33 = .ok (.iconst 1, 1) := by decide +kernel
theorem dX5_append_34 : decode cX5_append 34 = .ok (.iadd, 1) := by decide +kernel
theorem dX5_append_35 : decode cX5_append 35 = .ok (.putfield 24, 3) := by decide +kernel
theorem dX5_append_38 : decode cX5_append 38 = .ok (.return_, 1) := by decide +kernel
theorem dX5_letterOf_0 : decode cX5_letterOf 0 = .ok (.iload_n 1, 1) := by decide +kernel
theorem dX5_letterOf_1 : decode cX5_letterOf 1 = .ok (.iconst 0, 1) := by decide +kernel
theorem dX5_letterOf_2 : decode cX5_letterOf 2 = .ok (.aload_n 0, 1) := by decide +kernel
theorem dX5_letterOf_3 : decode cX5_letterOf 3 = .ok (.getfield 15, 3) := by decide +kernel
theorem dX5_letterOf_6 : decode cX5_letterOf 6 = .ok (.arraylength, 1) := by decide +kernel
theorem dX5_letterOf_7 : decode cX5_letterOf 7 = .ok (.iconst 1, 1) := by decide +kernel
theorem dX5_letterOf_8 : decode cX5_letterOf 8 = .ok (.isub, 1) := by decide +kernel
theorem dX5_letterOf_9 : decode cX5_letterOf 9 = .ok (.invokestatic 28, 3) := by decide +kernel
theorem dX5_letterOf_12 : decode cX5_letterOf 12 = .ok (.ifCond .eq 12, 3) := by decide +kernel
theorem dX5_letterOf_15 : decode cX5_letterOf 15 = .ok (.aload_n 0, 1) := by decide +kernel
theorem dX5_letterOf_16 : decode cX5_letterOf 16 = .ok (.getfield 15, 3) := by decide +kernel
theorem dX5_letterOf_19 : decode cX5_letterOf 19 = .ok (.iload_n 1, 1) := by decide +kernel
theorem dX5_letterOf_20 : decode cX5_letterOf 20 = .ok (.iaload, 1) := by decide +kernel
theorem dX5_letterOf_21 : decode cX5_letterOf 21 = .ok (.goto 4, 3) := by decide +kernel
theorem dX5_letterOf_24 : decode cX5_letterOf 24 = .ok (.iconst (-1), 1) := by decide +kernel
theorem dX5_letterOf_25 : decode cX5_letterOf 25 = .ok (.ireturn, 1) := by decide +kernel
theorem dX5_numberOf_0 : decode cX5_numberOf 0 = .ok (.iload_n 1, 1) := by decide +kernel
theorem dX5_numberOf_1 : decode cX5_numberOf 1 = .ok (.iconst 0, 1) := by decide +kernel
theorem dX5_numberOf_2 : decode cX5_numberOf 2 = .ok (.aload_n 0, 1) := by decide +kernel
theorem dX5_numberOf_3 : decode cX5_numberOf 3 = .ok (.getfield 18, 3) := by decide +kernel
theorem dX5_numberOf_6 : decode cX5_numberOf 6 = .ok (.arraylength, 1) := by decide +kernel
theorem dX5_numberOf_7 : decode cX5_numberOf 7 = .ok (.iconst 1, 1) := by decide +kernel
theorem dX5_numberOf_8 : decode cX5_numberOf 8 = .ok (.isub, 1) := by decide +kernel
theorem dX5_numberOf_9 : decode cX5_numberOf 9 = .ok (.invokestatic 28, 3) := by decide +kernel
theorem dX5_numberOf_12 : decode cX5_numberOf 12 = .ok (.ifCond .eq 12, 3) := by decide +kernel
theorem dX5_numberOf_15 : decode cX5_numberOf 15 = .ok (.aload_n 0, 1) := by decide +kernel
theorem dX5_numberOf_16 : decode cX5_numberOf 16 = .ok (.getfield 18, 3) := by decide +kernel
theorem dX5_numberOf_19 : decode cX5_numberOf 19 = .ok (.iload_n 1, 1) := by decide +kernel
theorem dX5_numberOf_20 : decode cX5_numberOf 20 = .ok (.iaload, 1) := by decide +kernel
theorem dX5_numberOf_21 : decode cX5_numberOf 21 = .ok (.goto 4, 3) := by decide +kernel
theorem dX5_numberOf_24 : decode cX5_numberOf 24 = .ok (.iconst (-1), 1) := by decide +kernel
theorem dX5_numberOf_25 : decode cX5_numberOf 25 = .ok (.ireturn, 1) := by decide +kernel
theorem dX5_valueOf_0 : decode cX5_valueOf 0 = .ok (.iload_n 1, 1) := by decide +kernel
theorem dX5_valueOf_1 : decode cX5_valueOf 1 = .ok (.iconst 0, 1) := by decide +kernel
theorem dX5_valueOf_2 : decode cX5_valueOf 2 = .ok (.aload_n 0, 1) := by decide +kernel
theorem dX5_valueOf_3 : decode cX5_valueOf 3 = .ok (.getfield 21, 3) := by decide +kernel
theorem dX5_valueOf_6 : decode cX5_valueOf 6 = .ok (.arraylength, 1) := by decide +kernel
theorem dX5_valueOf_7 : decode cX5_valueOf 7 = .ok (.iconst 1, 1) := by decide +kernel
theorem dX5_valueOf_8 : decode cX5_valueOf 8 = .ok (.isub, 1) := by decide +kernel
theorem dX5_valueOf_9 : decode cX5_valueOf 9 = .ok (.invokestatic 28, 3) := by decide +kernel
theorem dX5_valueOf_12 : decode cX5_valueOf 12 = .ok (.ifCond .eq 12, 3) := by decide +kernel
theorem dX5_valueOf_15 : decode cX5_valueOf 15 = .ok (.aload_n 0, 1) := by decide +kernel
theorem dX5_valueOf_16 : decode cX5_valueOf 16 = .ok (.getfield 21, 3) := by decide +kernel
theorem dX5_valueOf_19 : decode cX5_valueOf 19 = .ok (.iload_n 1, 1) := by decide +kernel
theorem dX5_valueOf_20 : decode cX5_valueOf 20 = .ok (.iaload, 1) := by decide +kernel
theorem dX5_valueOf_21 : decode cX5_valueOf 21 = .ok (.goto 4, 3) := by decide +kernel
theorem dX5_valueOf_24 : decode cX5_valueOf 24 = .ok (.iconst (-1), 1) := by decide +kernel
theorem dX5_valueOf_25 : decode cX5_valueOf 25 = .ok (.ireturn, 1) := by decide +kernel
theorem dX5_findFault_0 : decode cX5_findFault 0 = .ok (.aload_n 0, 1) := by decide +kernel
theorem dX5_findFault_1 : decode cX5_findFault 1 = .ok (.iconst 0, 1) := by decide +kernel
theorem dX5_findFault_2 : decode cX5_findFault 2 = .ok (.putfield 32, 3) := by decide +kernel
theorem dX5_findFault_5 : decode cX5_findFault 5 = .ok (.aload_n 0, 1) := by decide +kernel
theorem dX5_findFault_6 : decode cX5_findFault 6 = .ok (.iconst 0, 1) := by decide +kernel
theorem dX5_findFault_7 : decode cX5_findFault 7 = .ok (.putfield 35, 3) := by decide +kernel
theorem dX5_findFault_10 : decode cX5_findFault 10 = .ok (.iconst 1, 1) := by decide +kernel
theorem dX5_findFault_11 : decode cX5_findFault 11 = .ok (.istore_n 2, 1) := by decide +kernel
theorem dX5_findFault_12 : decode cX5_findFault 12 = .ok (.iload_n 2, 1) := by decide +kernel
theorem dX5_findFault_13 : decode cX5_findFault 13 = .ok (.bipush 30, 2) := by decide +kernel
theorem dX5_findFault_15 : decode cX5_findFault 15 = .ok (.if_icmp .gt 70, 3) := by decide +kernel
theorem dX5_findFault_18 : decode cX5_findFault 18 = .ok (.aload_n 0, 1) := by decide +kernel
theorem dX5_findFault_19 : decode cX5_findFault 19 = .ok (.iload_n 1, 1) := by decide +kernel
theorem dX5_findFault_20 : decode cX5_findFault 20 = .ok (.invokevirtual 38, 3) := by decide +kernel
theorem dX5_findFault_23 : decode cX5_findFault 23 = .ok (.ifCond .ne 8, 3) := by decide +kernel
theorem dX5_findFault_26 : decode cX5_findFault 26 = .ok (.aload_n 0, 1) := by decide +kernel
theorem dX5_findFault_27 : decode cX5_findFault 27 = .ok (.getfield 32, 3) := by decide +kernel
theorem dX5_findFault_30 : decode cX5_findFault 30 = .ok (.ireturn, 1) := by decide +kernel
theorem dX5_findFault_31 : decode cX5_findFault 31 = .ok (.aload_n 0, 1) := by decide +kernel
theorem dX5_findFault_32 : decode cX5_findFault 32 = .ok (.iload_n 2, 1) := by decide +kernel
theorem dX5_findFault_33 : decode cX5_findFault 33 = .ok (.putfield 35, 3) := by decide +kernel
theorem dX5_findFault_36 : decode cX5_findFault 36 = .ok (.aload_n 0, 1) := by decide +kernel
theorem dX5_findFault_37 : decode cX5_findFault 37 = .ok (.getfield 32, 3) := by decide +kernel
theorem dX5_findFault_40 : decode cX5_findFault 40 = .ok (.aload_n 0, 1) := by decide +kernel
theorem dX5_findFault_41 : decode cX5_findFault 41 = .ok (.getfield 24, 3) := by decide +kernel
theorem dX5_findFault_44 : decode cX5_findFault 44 = .ok (.if_icmp .lt 5, 3) := by decide +kernel
theorem dX5_findFault_47 : decode cX5_findFault 47 = .ok (.iconst (-1), 1) := by decide +kernel
theorem dX5_findFault_48 : decode cX5_findFault 48 = .ok (.ireturn, 1) := by decide +kernel
theorem dX5_findFault_49 : decode cX5_findFault 49 = .ok (.aload_n 0, 1) := by decide +kernel
theorem dX5_findFault_50 : decode cX5_findFault 50 = .ok (.invokevirtual 42, 3) := by decide +kernel
theorem dX5_findFault_53 : decode cX5_findFault 53 = .ok (.bipush 32, 2) := by decide +kernel
theorem dX5_findFault_55 : decode cX5_findFault 55 = .ok (.if_icmp .ne 9, 3) := by decide +kernel
theorem dX5_findFault_58 : decode cX5_findFault 58 = .ok (.iload_n 2, 1) := by decide +kernel
theorem dX5_findFault_59 : decode cX5_findFault 59 = .ok (.bipush 30, 2) := by decide +kernel
theorem dX5_findFault_61 : decode cX5_findFault 61 = .ok (.if_icmp .ne 8, 3) := by decide +kernel
theorem dX5_findFault_64 : decode cX5_findFault 64 = .ok (.aload_n 0, 1) := by decide +kernel
theorem dX5_findFault_65 : decode cX5_findFault 65 = .ok (.getfield 32, 3) := by decide +kernel
theorem dX5_findFault_68 : decode cX5_findFault 68 = .ok (.ireturn, 1) := by decide +kernel
theorem dX5_findFault_69 : decode cX5_findFault 69 = .ok (.aload_n 0, 1) := by decide +kernel
theorem dX5_findFault_70 : decode cX5_findFault 70 = .ok (.dup, 1) := by decide +kernel
theorem dX5_findFault_71 : decode cX5_findFault 71 = .ok (.getfield 32, 3) := by decide +kernel
theorem dX5_findFault_74 : decode cX5_findFault 74 = .ok (.iconst 1, 1) := by decide +kernel
theorem dX5_findFault_75 : decode cX5_findFault 75 = .ok (.iadd, 1) := by decide +kernel
theorem dX5_findFault_76 : decode cX5_findFault 76 = .ok (.putfield 32, 3) := by decide +kernel
theorem dX5_findFault_79 : decode cX5_findFault 79 = .ok (.iinc 2 1, 3) := by decide +kernel
theorem dX5_findFault_82 : decode cX5_findFault 82 = .ok (.goto (-70), 3) := by decide +kernel
theorem dX5_findFault_85 : decode cX5_findFault 85 = .ok (.aload_n 0, 1) := by decide +kernel
theorem dX5_findFault_86 : decode cX5_findFault 86 = .ok (.getfield 32, 3) := by decide +kernel
theorem dX5_findFault_89 : decode cX5_findFault 89 = .ok (.ireturn, 1) := by decide +kernel
theorem dX5_byteHere_0 : decode cX5_byteHere 0 = .ok (.aload_n 0, 1) := by decide +kernel
theorem dX5_byteHere_1 : decode cX5_byteHere 1 = .ok (.getfield 32, 3) := by decide +kernel
theorem dX5_byteHere_4 : decode cX5_byteHere 4 = .ok (.aload_n 0, 1) := by decide +kernel
theorem dX5_byteHere_5 : decode cX5_byteHere 5 = .ok (.getfield 24, 3) := by decide +kernel
theorem dX5_byteHere_8 : decode cX5_byteHere 8 = .ok (.if_icmp .ge 33, 3) := by decide +kernel
theorem dX5_byteHere_11 : decode cX5_byteHere 11 = .ok (.aload_n 0, 1) := by decide +kernel
theorem dX5_byteHere_12 : decode cX5_byteHere 12 = .ok (.getfield 32, 3) := by decide +kernel
theorem dX5_byteHere_15 : decode cX5_byteHere 15 = .ok (.iconst 0, 1) := by decide +kernel
theorem dX5_byteHere_16 : decode cX5_byteHere 16 = .ok (.aload_n 0, 1) := by decide +kernel
theorem dX5_byteHere_17 : decode cX5_byteHere 17 = .ok (.getfield 11, 3) := by decide +kernel
theorem dX5_byteHere_20 : decode cX5_byteHere 20 = .ok (.arraylength, 1) := by decide +kernel
theorem dX5_byteHere_21 : decode cX5_byteHere 21 = .ok (.iconst 1, 1) := by decide +kernel
theorem dX5_byteHere_22 : decode cX5_byteHere 22 = .ok (.isub, 1) := by decide +kernel
theorem dX5_byteHere_23 : decode cX5_byteHere 23 = .ok (.invokestatic 28, 3) := by decide +kernel
theorem dX5_byteHere_26 : decode cX5_byteHere 26 = .ok (.ifCond .eq 15, 3) := by decide +kernel
theorem dX5_byteHere_29 : decode cX5_byteHere 29 = .ok (.aload_n 0, 1) := by decide +kernel
theorem dX5_byteHere_30 : decode cX5_byteHere 30 = .ok (.getfield 11, 3) := by decide +kernel
theorem dX5_byteHere_33 : decode cX5_byteHere 33 = .ok (.aload_n 0, 1) := by decide +kernel
theorem dX5_byteHere_34 : decode cX5_byteHere 34 = .ok (.getfield 32, 3) := by decide +kernel
theorem dX5_byteHere_37 : decode cX5_byteHere 37 = .ok (.iaload, 1) := by decide +kernel
theorem dX5_byteHere_38 : decode cX5_byteHere 38 = .ok (.goto 4, 3) := by decide +kernel
theorem dX5_byteHere_41 : decode cX5_byteHere 41 = .ok (.iconst (-1), 1) := by decide +kernel
theorem dX5_byteHere_42 : decode cX5_byteHere 42 = .ok (.ireturn, 1) := by decide +kernel
theorem dX5_readPart_0 : decode cX5_readPart 0 = .ok (.aload_n 0, 1) := by decide +kernel
theorem dX5_readPart_1 : decode cX5_readPart 1 = .ok (.invokevirtual 42, 3) := by decide +kernel
theorem dX5_readPart_4 : decode cX5_readPart 4 = .ok (.istore_n 2, 1) := by decide +kernel
theorem dX5_readPart_5 : decode cX5_readPart 5 = .ok (.iload_n 2, 1) := by decide +kernel
theorem dX5_readPart_6 : decode cX5_readPart 6 = .ok (.bipush 114, 2) := by decide +kernel
theorem dX5_readPart_8 : decode cX5_readPart 8 = .ok (.if_icmp .eq 23, 3) := by decide +kernel
theorem dX5_readPart_11 : decode cX5_readPart 11 = .ok (.iload_n 2, 1) := by decide +kernel
theorem dX5_readPart_12 : decode cX5_readPart 12 = .ok (.bipush 119, 2) := by decide +kernel
theorem dX5_readPart_14 : decode cX5_readPart 14 = .ok (.if_icmp .eq 17, 3) := by decide +kernel
theorem dX5_readPart_17 : decode cX5_readPart 17 = .ok (.iload_n 2, 1) := by decide +kernel
theorem dX5_readPart_18 : decode cX5_readPart 18 = .ok (.bipush 115, 2) := by decide +kernel
theorem dX5_readPart_20 : decode cX5_readPart 20 = .ok (.if_icmp .eq 11, 3) := by decide +kernel
theorem dX5_readPart_23 : decode cX5_readPart 23 = .ok (.iload_n 2, 1) := by decide +kernel
theorem dX5_readPart_24 : decode cX5_readPart 24 = .ok (.bipush 97, 2) := by decide +kernel
theorem dX5_readPart_26 : decode cX5_readPart 26 = .ok (.if_icmp .eq 5, 3) := by decide +kernel
theorem dX5_readPart_29 : decode cX5_readPart 29 = .ok (.iconst 0, 1) := by decide +kernel
theorem dX5_readPart_30 : decode cX5_readPart 30 = .ok (.ireturn, 1) := by decide +kernel
theorem dX5_readPart_31 : decode cX5_readPart 31 = .ok (.aload_n 0, 1) := by decide +kernel
theorem dX5_readPart_32 : decode cX5_readPart 32 = .ok (.dup, 1) := by decide +kernel
theorem dX5_readPart_33 : decode cX5_readPart 33 = .ok (.getfield 32, 3) := by decide +kernel
theorem dX5_readPart_36 : decode cX5_readPart 36 = .ok (.iconst 1, 1) := by decide +kernel
theorem dX5_readPart_37 : decode cX5_readPart 37 = .ok (.iadd, 1) := by decide +kernel
theorem dX5_readPart_38 : decode cX5_readPart 38 = .ok (.putfield 32, 3) := by decide +kernel
theorem dX5_readPart_41 : decode cX5_readPart 41 = .ok (.iload_n 2, 1) := by decide +kernel
theorem dX5_readPart_42 : decode cX5_readPart 42 = .ok (.bipush 115, 2) := by decide +kernel
theorem dX5_readPart_44 : decode cX5_readPart 44 = .ok (.if_icmp .ne 7, 3) := by decide +kernel
theorem dX5_readPart_47 : decode cX5_readPart 47 = .ok (.iconst 1, 1) := by decide +kernel
theorem dX5_readPart_48 : decode cX5_readPart 48 = .ok (.goto 4, 3) := by decide +kernel
theorem dX5_readPart_51 : decode cX5_readPart 51 = .ok (.iconst 0, 1) := by decide +kernel
theorem dX5_readPart_52 : decode cX5_readPart 52 = .ok (.istore_n 3, 1) := by decide +kernel
theorem dX5_readPart_53 : decode cX5_readPart 53 = .ok (.aload_n 0, 1) := by decide +kernel
theorem dX5_readPart_54 : decode cX5_readPart 54 = .ok (.iload_n 3, 1) := by decide +kernel
theorem dX5_readPart_55 : decode cX5_readPart 55 = .ok (.iload_n 2, 1) := by decide +kernel
theorem dX5_readPart_56 : decode cX5_readPart 56 = .ok (.iload_n 1, 1) := by decide +kernel
theorem dX5_readPart_57 : decode cX5_readPart 57 = .ok (.invokestatic 46, 3) := by decide +kernel
theorem dX5_readPart_60 : decode cX5_readPart 60 = .ok (.invokevirtual 50, 3) := by decide +kernel
theorem dX5_readPart_63 : decode cX5_readPart 63 = .ok (.ifCond .eq 15, 3) := by decide +kernel
theorem dX5_readPart_66 : decode cX5_readPart 66 = .ok (.aload_n 0, 1) := by decide +kernel
theorem dX5_readPart_67 : decode cX5_readPart 67 = .ok (.getfield 35, 3) := by decide +kernel
theorem dX5_readPart_70 : decode cX5_readPart 70 = .ok (.aload_n 0, 1) := by decide +kernel
theorem dX5_readPart_71 : decode cX5_readPart 71 = .ok (.getfield 15, 3) := by decide +kernel
theorem dX5_readPart_74 : decode cX5_readPart 74 = .ok (.arraylength, 1) := by decide +kernel
theorem dX5_readPart_75 : decode cX5_readPart 75 = .ok (.if_icmp .lt 5, 3) := by decide +kernel
theorem dX5_readPart_78 : decode cX5_readPart 78 = .ok (.iconst 0, 1) := by decide +kernel
theorem dX5_readPart_79 : decode cX5_readPart 79 = .ok (.ireturn, 1) := by decide +kernel
theorem dX5_readPart_80 : decode cX5_readPart 80 = .ok (.aload_n 0, 1) := by decide +kernel
theorem dX5_readPart_81 : decode cX5_readPart 81 = .ok (.getfield 15, 3) := by decide +kernel
theorem dX5_readPart_84 : decode cX5_readPart 84 = .ok (.aload_n 0, 1) := by decide +kernel
theorem dX5_readPart_85 : decode cX5_readPart 85 = .ok (.getfield 35, 3) := by decide +kernel
theorem dX5_readPart_88 : decode cX5_readPart 88 = .ok (.iload_n 2, 1) := by decide +kernel
theorem dX5_readPart_89 : decode cX5_readPart 89 = .ok (.iastore, 1) := by decide +kernel
theorem dX5_readPart_90 : decode cX5_readPart 90 = .ok (.aload_n 0, 1) := by decide +kernel
theorem dX5_readPart_91 : decode cX5_readPart 91 = .ok (.getfield 18, 3) := by decide +kernel
theorem dX5_readPart_94 : decode cX5_readPart 94 = .ok (.aload_n 0, 1) := by decide +kernel
theorem dX5_readPart_95 : decode cX5_readPart 95 = .ok (.getfield 35, 3) := by decide +kernel
theorem dX5_readPart_98 : decode cX5_readPart 98 = .ok (.aload_n 0, 1) := by decide +kernel
theorem dX5_readPart_99 : decode cX5_readPart 99 = .ok (.getfield 54, 3) := by decide +kernel
theorem dX5_readPart_102 : decode cX5_readPart 102 = .ok (.iastore, 1) := by decide +kernel
theorem dX5_readPart_103 : decode cX5_readPart 103 = .ok (.iload_n 2, 1) := by decide +kernel
theorem dX5_readPart_104 : decode cX5_readPart 104 = .ok (.bipush 119, 2) := by decide +kernel
theorem dX5_readPart_106 : decode cX5_readPart 106 = .ok (.if_icmp .ne 10, 3) := by decide +kernel
theorem dX5_readPart_109 : decode cX5_readPart 109 = .ok (.aload_n 0, 1) := by decide +kernel
theorem dX5_readPart_110 : decode cX5_readPart 110 = .ok (.invokevirtual 57, 3) := by decide +kernel
theorem dX5_readPart_113 : decode cX5_readPart 113 = .ok (.ifCond .eq 7, 3) := by decide +kernel
theorem dX5_readPart_116 : decode cX5_readPart 116 = .ok (.iconst 1, 1) := by decide +kernel
theorem dX5_readPart_117 : decode cX5_readPart 117 = .ok (.goto 4, 3) := by decide +kernel
theorem dX5_readPart_120 : decode cX5_readPart 120 = .ok (.iconst 0, 1) := by decide +kernel
theorem dX5_readPart_121 : decode cX5_readPart 121 = .ok (.ireturn, 1) := by decide +kernel
theorem dX5_mostBehind_0 : decode cX5_mostBehind 0 = .ok (.iload_n 0, 1) := by decide +kernel
theorem dX5_mostBehind_1 : decode cX5_mostBehind 1 = .ok (.bipush 115, 2) := by decide +kernel
theorem dX5_mostBehind_3 : decode cX5_mostBehind 3 = .ok (.if_icmp .ne 5, 3) := by decide +kernel
theorem dX5_mostBehind_6 : decode cX5_mostBehind 6 = .ok (.iload_n 1, 1) := by decide +kernel
theorem dX5_mostBehind_7 : decode cX5_mostBehind 7 = .ok (.ireturn, 1) := by decide +kernel
theorem dX5_mostBehind_8 : decode cX5_mostBehind 8 = .ok (.iload_n 0, 1) := by decide +kernel
theorem dX5_mostBehind_9 : decode cX5_mostBehind 9 = .ok (.bipush 97, 2) := by decide +kernel
theorem dX5_mostBehind_11 : decode cX5_mostBehind 11 = .ok (.if_icmp .ne 8, 3) := by decide +kernel
theorem dX5_mostBehind_14 : decode cX5_mostBehind 14 = .ok (.bipush 8, 2) := by decide +kernel
theorem dX5_mostBehind_16 : decode cX5_mostBehind 16 = .ok (.goto 5, 3) := by decide +kernel
theorem dX5_mostBehind_19 : decode cX5_mostBehind 19 = .ok (.bipush 63, 2) := by decide +kernel
theorem dX5_mostBehind_21 : decode cX5_mostBehind 21 = .ok (.ireturn, 1) := by decide +kernel
theorem dX5_readValue_0 : decode cX5_readValue 0 = .ok (.aload_n 0, 1) := by decide +kernel
theorem dX5_readValue_1 : decode cX5_readValue 1 = .ok (.invokevirtual 42, 3) := by decide +kernel
theorem dX5_readValue_4 : decode cX5_readValue 4 = .ok (.bipush 61, 2) := by decide +kernel
theorem dX5_readValue_6 : decode cX5_readValue 6 = .ok (.if_icmp .eq 5, 3) := by decide +kernel
theorem dX5_readValue_9 : decode cX5_readValue 9 = .ok (.iconst 0, 1) := by decide +kernel
theorem dX5_readValue_10 : decode cX5_readValue 10 = .ok (.ireturn, 1) := by decide +kernel
theorem dX5_readValue_11 : decode cX5_readValue 11 = .ok (.aload_n 0, 1) := by decide +kernel
theorem dX5_readValue_12 : decode cX5_readValue 12 = .ok (.dup, 1) := by decide +kernel
theorem dX5_readValue_13 : decode cX5_readValue 13 = .ok (.getfield 32, 3) := by decide +kernel
theorem dX5_readValue_16 : decode cX5_readValue 16 = .ok (.iconst 1, 1) := by decide +kernel
theorem dX5_readValue_17 : decode cX5_readValue 17 = .ok (.iadd, 1) := by decide +kernel
theorem dX5_readValue_18 : decode cX5_readValue 18 = .ok (.putfield 32, 3) := by decide +kernel
theorem dX5_readValue_21 : decode cX5_readValue 21 = .ok (.aload_n 0, 1) := by decide +kernel
theorem dX5_readValue_22 : decode cX5_readValue 22 = .ok (.iconst 0, 1) := by decide +kernel
theorem dX5_readValue_23 : decode cX5_readValue 23 = .ok (.sipush 999, 3) := by decide +kernel
theorem dX5_readValue_26 : decode cX5_readValue 26 = .ok (.invokevirtual 50, 3) := by decide +kernel
theorem dX5_readValue_29 : decode cX5_readValue 29 = .ok (.ifCond .eq 15, 3) := by decide +kernel
theorem dX5_readValue_32 : decode cX5_readValue 32 = .ok (.aload_n 0, 1) := by decide +kernel
theorem dX5_readValue_33 : decode cX5_readValue 33 = .ok (.getfield 35, 3) := by decide +kernel
theorem dX5_readValue_36 : decode cX5_readValue 36 = .ok (.aload_n 0, 1) := by decide +kernel
theorem dX5_readValue_37 : decode cX5_readValue 37 = .ok (.getfield 21, 3) := by decide +kernel
theorem dX5_readValue_40 : decode cX5_readValue 40 = .ok (.arraylength, 1) := by decide +kernel
theorem dX5_readValue_41 : decode cX5_readValue 41 = .ok (.if_icmp .lt 5, 3) := by decide +kernel
theorem dX5_readValue_44 : decode cX5_readValue 44 = .ok (.iconst 0, 1) := by decide +kernel
theorem dX5_readValue_45 : decode cX5_readValue 45 = .ok (.ireturn, 1) := by decide +kernel
theorem dX5_readValue_46 : decode cX5_readValue 46 = .ok (.aload_n 0, 1) := by decide +kernel
theorem dX5_readValue_47 : decode cX5_readValue 47 = .ok (.getfield 21, 3) := by decide +kernel
theorem dX5_readValue_50 : decode cX5_readValue 50 = .ok (.aload_n 0, 1) := by decide +kernel
theorem dX5_readValue_51 : decode cX5_readValue 51 = .ok (.getfield 35, 3) := by decide +kernel
theorem dX5_readValue_54 : decode cX5_readValue 54 = .ok (.aload_n 0, 1) := by decide +kernel
theorem dX5_readValue_55 : decode cX5_readValue 55 = .ok (.getfield 54, 3) := by decide +kernel
theorem dX5_readValue_58 : decode cX5_readValue 58 = .ok (.iastore, 1) := by decide +kernel
theorem dX5_readValue_59 : decode cX5_readValue 59 = .ok (.iconst 1, 1) := by decide +kernel
theorem dX5_readValue_60 : decode cX5_readValue 60 = .ok (.ireturn, 1) := by decide +kernel
theorem dX5_readNumber_0 : decode cX5_readNumber 0 = .ok (.aload_n 0, 1) := by decide +kernel
theorem dX5_readNumber_1 : decode cX5_readNumber 1 = .ok (.getfield 32, 3) := by decide +kernel
theorem dX5_readNumber_4 : decode cX5_readNumber 4 = .ok (.istore_n 3, 1) := by decide +kernel
theorem dX5_readNumber_5 : decode cX5_readNumber 5 = .ok (.aload_n 0, 1) := by decide +kernel
theorem dX5_readNumber_6 : decode cX5_readNumber 6 = .ok (.iconst 0, 1) := by decide +kernel
theorem dX5_readNumber_7 : decode cX5_readNumber 7 = .ok (.putfield 54, 3) := by decide +kernel
theorem dX5_readNumber_10 : decode cX5_readNumber 10 = .ok (.aload_n 0, 1) := by decide +kernel
theorem dX5_readNumber_11 : decode cX5_readNumber 11 = .ok (.getfield 32, 3) := by decide +kernel
theorem dX5_readNumber_14 : decode cX5_readNumber 14 = .ok (.iload_n 3, 1) := by decide +kernel
theorem dX5_readNumber_15 : decode cX5_readNumber 15 = .ok (.isub, 1) := by decide +kernel
theorem dX5_readNumber_16 : decode cX5_readNumber 16 = .ok (.iconst 3, 1) := by decide +kernel
theorem dX5_readNumber_17 : decode cX5_readNumber 17 = .ok (.if_icmp .ge 49, 3) := by decide +kernel
theorem dX5_readNumber_20 : decode cX5_readNumber 20 = .ok (.aload_n 0, 1) := by decide +kernel
theorem dX5_readNumber_21 : decode cX5_readNumber 21 = .ok (.invokevirtual 42, 3) := by decide +kernel
theorem dX5_readNumber_24 : decode cX5_readNumber 24 = .ok (.bipush 48, 2) := by decide +kernel
theorem dX5_readNumber_26 : decode cX5_readNumber 26 = .ok (.bipush 57, 2) := by decide +kernel
theorem dX5_readNumber_28 : decode cX5_readNumber 28 = .ok (.invokestatic 28, 3) := by decide +kernel
theorem dX5_readNumber_31 : decode cX5_readNumber 31 = .ok (.ifCond .eq 35, 3) := by decide +kernel
theorem dX5_readNumber_34 : decode cX5_readNumber 34 = .ok (.aload_n 0, 1) := by decide +kernel
theorem dX5_readNumber_35 : decode cX5_readNumber 35 = .ok (.aload_n 0, 1) := by decide +kernel
theorem dX5_readNumber_36 : decode cX5_readNumber 36 = .ok (.getfield 54, 3) := by decide +kernel
theorem dX5_readNumber_39 : decode cX5_readNumber 39 = .ok (.bipush 10, 2) := by decide +kernel
theorem dX5_readNumber_41 : decode cX5_readNumber 41 = .ok (.imul, 1) := by decide +kernel
theorem dX5_readNumber_42 : decode cX5_readNumber 42 = .ok (.aload_n 0, 1) := by decide +kernel
theorem dX5_readNumber_43 : decode cX5_readNumber 43 = .ok (.invokevirtual 42, 3) := by decide +kernel
theorem dX5_readNumber_46 : decode cX5_readNumber 46 = .ok (.iadd, 1) := by decide +kernel
theorem dX5_readNumber_47 : decode cX5_readNumber 47 = .ok (.bipush 48, 2) := by decide +kernel
theorem dX5_readNumber_49 : decode cX5_readNumber 49 = .ok (.isub, 1) := by decide +kernel
theorem dX5_readNumber_50 : decode cX5_readNumber 50 = .ok (.putfield 54, 3) := by decide +kernel
theorem dX5_readNumber_53 : decode cX5_readNumber 53 = .ok (.aload_n 0, 1) := by decide +kernel
theorem dX5_readNumber_54 : decode cX5_readNumber 54 = .ok (.dup, 1) := by decide +kernel
theorem dX5_readNumber_55 : decode cX5_readNumber 55 = .ok (.getfield 32, 3) := by decide +kernel
theorem dX5_readNumber_58 : decode cX5_readNumber 58 = .ok (.iconst 1, 1) := by decide +kernel
theorem dX5_readNumber_59 : decode cX5_readNumber 59 = .ok (.iadd, 1) := by decide +kernel
theorem dX5_readNumber_60 : decode cX5_readNumber 60 = .ok (.putfield 32, 3) := by decide +kernel
theorem dX5_readNumber_63 : decode cX5_readNumber 63 = .ok (.goto (-53), 3) := by decide +kernel
theorem dX5_readNumber_66 : decode cX5_readNumber 66 = .ok (.aload_n 0, 1) := by decide +kernel
theorem dX5_readNumber_67 : decode cX5_readNumber 67 = .ok (.getfield 32, 3) := by decide +kernel
theorem dX5_readNumber_70 : decode cX5_readNumber 70 = .ok (.iload_n 3, 1) := by decide +kernel
theorem dX5_readNumber_71 : decode cX5_readNumber 71 = .ok (.if_icmp .ne 5, 3) := by decide +kernel
theorem dX5_readNumber_74 : decode cX5_readNumber 74 = .ok (.iconst 0, 1) := by decide +kernel
theorem dX5_readNumber_75 : decode cX5_readNumber 75 = .ok (.ireturn, 1) := by decide +kernel
theorem dX5_readNumber_76 : decode cX5_readNumber 76 = .ok (.aload_n 0, 1) := by decide +kernel
theorem dX5_readNumber_77 : decode cX5_readNumber 77 = .ok (.getfield 54, 3) := by decide +kernel
theorem dX5_readNumber_80 : decode cX5_readNumber 80 = .ok (.iload_n 1, 1) := by decide +kernel
theorem dX5_readNumber_81 : decode cX5_readNumber 81 = .ok (.iload_n 2, 1) := by decide +kernel
theorem dX5_readNumber_82 : decode cX5_readNumber 82 = .ok (.invokestatic 28, 3) := by decide +kernel
theorem dX5_readNumber_85 : decode cX5_readNumber 85 = .ok (.ifCond .ne 10, 3) := by decide +kernel
theorem dX5_readNumber_88 : decode cX5_readNumber 88 = .ok (.aload_n 0, 1) := by decide +kernel
theorem dX5_readNumber_89 : decode cX5_readNumber 89 = .ok (.iload_n 3, 1) := by decide +kernel
theorem dX5_readNumber_90 : decode cX5_readNumber 90 = .ok (.putfield 32, 3) := by decide +kernel
theorem dX5_readNumber_93 : decode cX5_readNumber 93 = .ok (.iconst 0, 1) := by decide +kernel
theorem dX5_readNumber_94 : decode cX5_readNumber 94 = .ok (.ireturn, 1) := by decide +kernel
theorem dX5_readNumber_95 : decode cX5_readNumber 95 = .ok (.iconst 1, 1) := by decide +kernel
theorem dX5_readNumber_96 : decode cX5_readNumber 96 = .ok (.ireturn, 1) := by decide +kernel
theorem dX6_init_0 : decode cX6_init 0 = .ok (.aload_n 0, 1) := by decide +kernel
theorem dX6_init_1 : decode cX6_init 1 = .ok (.invokespecial 1, 3) := by decide +kernel
theorem dX6_init_4 : decode cX6_init 4 = .ok (.aload_n 0, 1) := by decide +kernel
theorem dX6_init_5 : decode cX6_init 5 = .ok (.new 7, 3) := by decide +kernel
theorem dX6_init_8 : decode cX6_init 8 = .ok (.dup, 1) := by decide +kernel
theorem dX6_init_9 : decode cX6_init 9 = .ok (.invokespecial 9, 3) := by decide +kernel
theorem dX6_init_12 : decode cX6_init 12 = .ok (.putfield 10, 3) := by decide +kernel
theorem dX6_init_15 : decode cX6_init 15 = .ok (.aload_n 0, 1) := by decide +kernel
theorem dX6_init_16 : decode cX6_init 16 = .ok (.new 7, 3) := by decide +kernel
theorem dX6_init_19 : decode cX6_init 19 = .ok (.dup, 1) := by decide +kernel
theorem dX6_init_20 : decode cX6_init 20 = .ok (.invokespecial 9, 3) := by decide +kernel
theorem dX6_init_23 : decode cX6_init 23 = .ok (.putfield 16, 3) := by decide +kernel
theorem dX6_init_26 : decode cX6_init 26 = .ok (.aload_n 0, 1) := by decide +kernel
theorem dX6_init_27 : decode cX6_init 27 = .ok (.new 7, 3) := by decide +kernel
theorem dX6_init_30 : decode cX6_init 30 = .ok (.dup, 1) := by decide +kernel
theorem dX6_init_31 : decode cX6_init 31 = .ok (.invokespecial 9, 3) := by decide +kernel
theorem dX6_init_34 : decode cX6_init 34 = .ok (.putfield 19, 3) := by decide +kernel
theorem dX6_init_37 : decode cX6_init 37 = .ok (.aload_n 0, 1) := by decide +kernel
theorem dX6_init_38 : decode cX6_init 38 = .ok (.new 22, 3) := by decide +kernel
theorem dX6_init_41 : decode cX6_init 41 = .ok (.dup, 1) := by decide +kernel
theorem dX6_init_42 : decode cX6_init 42 = .ok (.invokespecial 24, 3) := by decide +kernel
theorem dX6_init_45 : decode cX6_init 45 = .ok (.putfield 25, 3) := by decide +kernel
theorem dX6_init_48 : decode cX6_init 48 = .ok (.aload_n 0, 1) := by decide +kernel
theorem dX6_init_49 : decode cX6_init 49 = .ok (.bipush 8, 2) := by decide +kernel
theorem dX6_init_51 : decode cX6_init 51 = .ok (.anewarray 29, 3) := by decide +kernel
theorem dX6_init_54 : decode cX6_init 54 = .ok (.putfield 31, 3) := by decide +kernel
theorem dX6_init_57 : decode cX6_init 57 = .ok (.aload_n 0, 1) := by decide +kernel
theorem dX6_init_58 : decode cX6_init 58 = .ok (.iconst 5, 1) := by decide +kernel
theorem dX6_init_59 : decode cX6_init 59 = .ok (.newarray .int, 2) := by decide +kernel
theorem dX6_init_61 : decode cX6_init 61 = .ok (.putfield 35, 3) := by decide +kernel
theorem dX6_init_64 : decode cX6_init 64 = .ok (.aload_n 0, 1) := by decide +kernel
theorem dX6_init_65 : decode cX6_init 65 = .ok (.bipush 40, 2) := by decide +kernel
theorem dX6_init_67 : decode cX6_init 67 = .ok (.newarray .int, 2) := by decide +kernel
theorem dX6_init_69 : decode cX6_init 69 = .ok (.putfield 39, 3) := by decide +kernel
theorem dX6_init_72 : decode cX6_init 72 = .ok (.iconst 0, 1) := by decide +kernel
theorem dX6_init_73 : decode cX6_init 73 = .ok (.istore_n 1, 1) := by decide +kernel
theorem dX6_init_74 : decode cX6_init 74 = .ok (.iload_n 1, 1) := by decide +kernel
theorem dX6_init_75 : decode cX6_init 75 = .ok (.aload_n 0, 1) := by decide +kernel
theorem dX6_init_76 : decode cX6_init 76 = .ok (.getfield 31, 3) := by decide +kernel
theorem dX6_init_79 : decode cX6_init 79 = .ok (.arraylength, 1) := by decide +kernel
theorem dX6_init_80 : decode cX6_init 80 = .ok (.if_icmp .ge 22, 3) := by decide +kernel
theorem dX6_init_83 : decode cX6_init 83 = .ok (.aload_n 0, 1) := by decide +kernel
theorem dX6_init_84 : decode cX6_init 84 = .ok (.getfield 31, 3) := by decide +kernel
theorem dX6_init_87 : decode cX6_init 87 = .ok (.iload_n 1, 1) := by decide +kernel
theorem dX6_init_88 : decode cX6_init 88 = .ok (.new 29, 3) := by decide +kernel
theorem dX6_init_91 : decode cX6_init 91 = .ok (.dup, 1) := by decide +kernel
theorem dX6_init_92 : decode cX6_init 92 = .ok (.invokespecial 42, 3) := by decide +kernel
theorem dX6_init_95 : decode cX6_init 95 = .ok (.aastore, 1) := by decide +kernel
theorem dX6_init_96 : decode cX6_init 96 = .ok (.iinc 1 1, 3) := by decide +kernel
theorem dX6_init_99 : decode cX6_init 99 = .ok (.goto (-25), 3) := by decide +kernel
theorem dX6_init_102 : decode cX6_init 102 = .ok (.return_, 1) := by decide +kernel
theorem dX6_row_0 : decode cX6_row 0 = .ok (.aload_n 0, 1) := by decide +kernel
theorem dX6_row_1 : decode cX6_row 1 = .ok (.iload_n 1, 1) := by decide +kernel
theorem dX6_row_2 : decode cX6_row 2 = .ok (.invokevirtual 43, 3) := by decide +kernel
theorem dX6_row_5 : decode cX6_row 5 = .ok (.astore 4, 2) := by decide +kernel
theorem dX6_row_7 : decode cX6_row 7 = .ok (.aload 4, 2) := by decide +kernel
theorem dX6_row_9 : decode cX6_row 9 = .ok (.ifnull 22, 3) := by decide +kernel
theorem dX6_row_12 : decode cX6_row 12 = .ok (.iload_n 2, 1) := by decide +kernel
theorem dX6_row_13 : decode cX6_row 13 = .ok (.iconst 0, 1) := by decide +kernel
theorem dX6_row_14 : decode cX6_row 14 = .ok (.iconst 4, 1) := by decide +kernel
theorem dX6_row_15 : decode cX6_row 15 = .ok (.invokestatic 47, 3) := by decide +kernel
theorem dX6_row_18 : decode cX6_row 18 = .ok (.ifCond .eq 13, 3) := by decide +kernel
theorem dX6_row_21 : decode cX6_row 21 = .ok (.iload_n 3, 1) := by decide +kernel
theorem dX6_row_22 : decode cX6_row 22 = .ok (.iconst 0, 1) := by decide +kernel
theorem dX6_row_23 : decode cX6_row 23 = .ok (.bipush 40, 2) := by decide +kernel
theorem dX6_row_25 : decode cX6_row 25 = .ok (.invokestatic 47, 3) := by decide +kernel
theorem dX6_row_28 : decode cX6_row 28 = .ok (.ifCond .ne 10, 3) := by decide +kernel
theorem dX6_row_31 : decode cX6_row 31 = .ok (.aload_n 0, 1) := by decide +kernel
theorem dX6_row_32 : decode cX6_row 32 = .ok (.bipush (-52), 2) := by decide +kernel
theorem dX6_row_34 : decode cX6_row 34 = .ok (.invokevirtual 51, 3) := by decide +kernel
theorem dX6_row_37 : decode cX6_row 37 = .ok (.ireturn, 1) := by decide +kernel
theorem dX6_row_38 : decode cX6_row 38 = .ok (.aload 4, 2) := by decide +kernel
theorem dX6_row_40 : decode cX6_row 40 = .ok (.iload_n 2, 1) := by decide +kernel
theorem dX6_row_41 : decode cX6_row 41 = .ok (.iload_n 3, 1) := by decide +kernel
theorem dX6_row_42 : decode cX6_row 42 = .ok (.invokevirtual 55, 3) := by decide +kernel
theorem dX6_row_45 : decode cX6_row 45 = .ok (.iconst 1, 1) := by decide +kernel
theorem dX6_row_46 : decode cX6_row 46 = .ok (.ireturn, 1) := by decide +kernel
theorem dX6_set_0 : decode cX6_set 0 = .ok (.aload_n 0, 1) := by decide +kernel
theorem dX6_set_1 : decode cX6_set 1 = .ok (.iload_n 1, 1) := by decide +kernel
theorem dX6_set_2 : decode cX6_set 2 = .ok (.invokevirtual 43, 3) := by decide +kernel
theorem dX6_set_5 : decode cX6_set 5 = .ok (.astore 5, 2) := by decide +kernel
theorem dX6_set_7 : decode cX6_set 7 = .ok (.aload 5, 2) := by decide +kernel
theorem dX6_set_9 : decode cX6_set 9 = .ok (.invokestatic 59, 3) := by decide +kernel
theorem dX6_set_12 : decode cX6_set 12 = .ok (.istore 6, 2) := by decide +kernel
theorem dX6_set_14 : decode cX6_set 14 = .ok (.iload 6, 2) := by decide +kernel
theorem dX6_set_16 : decode cX6_set 16 = .ok (.ifCond .eq 10, 3) := by decide +kernel
theorem dX6_set_19 : decode cX6_set 19 = .ok (.aload_n 0, 1) := by decide +kernel
theorem dX6_set_20 : decode cX6_set 20 = .ok (.iload 6, 2) := by decide +kernel
theorem dX6_set_22 : decode cX6_set 22 = .ok (.invokevirtual 51, 3) := by decide +kernel
theorem dX6_set_25 : decode cX6_set 25 = .ok (.ireturn, 1) := by decide +kernel
theorem dX6_set_26 : decode cX6_set 26 = .ok (.aload 5, 2) := by decide +kernel
theorem dX6_set_28 : decode cX6_set 28 = .ok (.ifnull 12, 3) := by decide +kernel
theorem dX6_set_31 : decode cX6_set 31 = .ok (.aload 5, 2) := by decide +kernel
theorem dX6_set_33 : decode cX6_set 33 = .ok (.iload_n 2, 1) := by decide +kernel
theorem dX6_set_34 : decode cX6_set 34 = .ok (.invokevirtual 63, 3) := by decide +kernel
theorem dX6_set_37 : decode cX6_set 37 = .ok (.ifCond .ne 10, 3) := by decide +kernel
theorem dX6_set_40 : decode cX6_set 40 = .ok (.aload_n 0, 1) := by decide +kernel
theorem dX6_set_41 : decode cX6_set 41 = .ok (.bipush (-52), 2) := by decide +kernel
theorem dX6_set_43 : decode cX6_set 43 = .ok (.invokevirtual 51, 3) := by decide +kernel
theorem dX6_set_46 : decode cX6_set 46 = .ok (.ireturn, 1) := by decide +kernel
theorem dX6_set_47 : decode cX6_set 47 = .ok (.aload 5, 2) := by decide +kernel
theorem dX6_set_49 : decode cX6_set 49 = .ok (.iload_n 2, 1) := by decide +kernel
theorem dX6_set_50 : decode cX6_set 50 = .ok (.lload_n 3, 1) := by decide +kernel
theorem dX6_set_51 : decode cX6_set 51 = .ok (.invokevirtual 67, 3) := by decide +kernel
theorem dX6_set_54 : decode cX6_set 54 = .ok (.iconst 1, 1) := by decide +kernel
theorem dX6_set_55 : decode cX6_set 55 = .ok (.ireturn, 1) := by decide +kernel
theorem dX6_copy_0 : decode cX6_copy 0 = .ok (.aload_n 0, 1) := by decide +kernel
theorem dX6_copy_1 : decode cX6_copy 1 = .ok (.iload_n 1, 1) := by decide +kernel
theorem dX6_copy_2 : decode cX6_copy 2 = .ok (.invokevirtual 43, 3) := by decide +kernel
theorem dX6_copy_5 : decode cX6_copy 5 = .ok (.astore 6, 2) := by decide +kernel
theorem dX6_copy_7 : decode cX6_copy 7 = .ok (.aload_n 0, 1) := by decide +kernel
theorem dX6_copy_8 : decode cX6_copy 8 = .ok (.iload_n 2, 1) := by decide +kernel
theorem dX6_copy_9 : decode cX6_copy 9 = .ok (.invokevirtual 43, 3) := by decide +kernel
theorem dX6_copy_12 : decode cX6_copy 12 = .ok (.astore 7, 2) := by decide +kernel
theorem dX6_copy_14 : decode cX6_copy 14 = .ok (.aload 6, 2) := by decide +kernel
theorem dX6_copy_16 : decode cX6_copy 16 = .ok (.ifnull 8, 3) := by decide +kernel
theorem dX6_copy_19 : decode cX6_copy 19 = .ok (.aload 7, 2) := by decide +kernel
theorem dX6_copy_21 : decode cX6_copy 21 = .ok (.ifnonnull 10, 3) := by decide +kernel
theorem dX6_copy_24 : decode cX6_copy 24 = .ok (.aload_n 0, 1) := by decide +kernel
theorem dX6_copy_25 : decode cX6_copy 25 = .ok (.bipush (-52), 2) := by decide +kernel
theorem dX6_copy_27 : decode cX6_copy 27 = .ok (.invokevirtual 51, 3) := by decide +kernel
theorem dX6_copy_30 : decode cX6_copy 30 = .ok (.ireturn, 1) := by decide +kernel
theorem dX6_copy_31 : decode cX6_copy 31 = .ok (.aload 6, 2) := by decide +kernel
theorem dX6_copy_33 : decode cX6_copy 33 = .ok (.invokevirtual 71, 3) := by decide +kernel
theorem dX6_copy_36 : decode cX6_copy 36 = .ok (.ifCond .eq 28, 3) := by decide +kernel
theorem dX6_copy_39 : decode cX6_copy 39 = .ok (.aload 7, 2) := by decide +kernel
theorem dX6_copy_41 : decode cX6_copy 41 = .ok (.invokevirtual 71, 3) := by decide +kernel
theorem dX6_copy_44 : decode cX6_copy 44 = .ok (.ifCond .eq 20, 3) := by decide +kernel
theorem dX6_copy_47 : decode cX6_copy 47 = .ok (.aload 6, 2) := by decide +kernel
theorem dX6_copy_49 : decode cX6_copy 49 = .ok (.getfield 75, 3) := by decide +kernel
theorem dX6_copy_52 : decode cX6_copy 52 = .ok (.aload 7, 2) := by decide +kernel
theorem dX6_copy_54 : decode cX6_copy 54 = .ok (.getfield 75, 3) := by decide +kernel
theorem dX6_copy_57 : decode cX6_copy 57 = .ok (.if_icmp .eq 7, 3) := by decide +kernel
theorem dX6_copy_60 : decode cX6_copy 60 = .ok (.iconst 1, 1) := by decide +kernel
theorem dX6_copy_61 : decode cX6_copy 61 = .ok (.goto 4, 3) := by decide +kernel
theorem dX6_copy_64 : decode cX6_copy 64 = .ok (.iconst 0, 1) := by decide +kernel
theorem dX6_copy_65 : decode cX6_copy 65 = .ok (.istore 8, 2) := by decide +kernel
theorem dX6_copy_67 : decode cX6_copy 67 = .ok (.aload 6, 2) := by decide +kernel
theorem dX6_copy_69 : decode cX6_copy 69 = .ok (.invokevirtual 79, 3) := by decide +kernel
theorem dX6_copy_72 : decode cX6_copy 72 = .ok (.ifCond .ne 16, 3) := by decide +kernel
theorem dX6_copy_75 : decode cX6_copy 75 = .ok (.aload 7, 2) := by decide +kernel
theorem dX6_copy_77 : decode cX6_copy 77 = .ok (.invokevirtual 79, 3) := by decide +kernel
theorem dX6_copy_80 : decode cX6_copy 80 = .ok (.ifCond .ne 8, 3) := by decide +kernel
theorem dX6_copy_83 : decode cX6_copy 83 = .ok (.iload 8, 2) := by decide +kernel
theorem dX6_copy_85 : decode cX6_copy 85 = .ok (.ifCond .eq 10, 3) := by decide +kernel
theorem dX6_copy_88 : decode cX6_copy 88 = .ok (.aload_n 0, 1) := by decide +kernel
theorem dX6_copy_89 : decode cX6_copy 89 = .ok (.bipush (-53), 2) := by decide +kernel
theorem dX6_copy_91 : decode cX6_copy 91 = .ok (.invokevirtual 51, 3) := by decide +kernel
theorem dX6_copy_94 : decode cX6_copy 94 = .ok (.ireturn, 1) := by decide +kernel
theorem dX6_copy_95 : decode cX6_copy 95 = .ok (.aload 6, 2) := by decide +kernel
theorem dX6_copy_97 : decode cX6_copy 97 = .ok (.invokevirtual 71, 3) := by decide +kernel
theorem dX6_copy_100 : decode cX6_copy 100 = .ok (.ifCond .eq 11, 3) := by decide +kernel
theorem dX6_copy_103 : decode cX6_copy 103 = .ok (.aload 7, 2) := by decide +kernel
theorem dX6_copy_105 : decode cX6_copy 105 = .ok (.invokevirtual 71, 3) := by decide +kernel
theorem dX6_copy_108 : decode cX6_copy 108 = .ok (.ifCond .ne 10, 3) := by decide +kernel
theorem dX6_copy_111 : decode cX6_copy 111 = .ok (.aload_n 0, 1) := by decide +kernel
theorem dX6_copy_112 : decode cX6_copy 112 = .ok (.bipush (-54), 2) := by decide +kernel
theorem dX6_copy_114 : decode cX6_copy 114 = .ok (.invokevirtual 51, 3) := by decide +kernel
theorem dX6_copy_117 : decode cX6_copy 117 = .ok (.ireturn, 1) := by decide +kernel
theorem dX6_copy_118 : decode cX6_copy 118 = .ok (.aload 6, 2) := by decide +kernel
theorem dX6_copy_120 : decode cX6_copy 120 = .ok (.iload_n 3, 1) := by decide +kernel
theorem dX6_copy_121 : decode cX6_copy 121 = .ok (.iload 5, 2) := by decide +kernel
theorem dX6_copy_123 : decode cX6_copy 123 = .ok (.invokevirtual 82, 3) := by decide +kernel
theorem dX6_copy_126 : decode cX6_copy 126 = .ok (.ifCond .eq 15, 3) := by decide +kernel
theorem dX6_copy_129 : decode cX6_copy 129 = .ok (.aload 7, 2) := by decide +kernel
theorem dX6_copy_131 : decode cX6_copy 131 = .ok (.iload 4, 2) := by decide +kernel
theorem dX6_copy_133 : decode cX6_copy 133 = .ok (.iload 5, 2) := by decide +kernel
theorem dX6_copy_135 : decode cX6_copy 135 = .ok (.invokevirtual 82, 3) := by decide +kernel
theorem dX6_copy_138 : decode cX6_copy 138 = .ok (.ifCond .ne 10, 3) := by decide +kernel
theorem dX6_copy_141 : decode cX6_copy 141 = .ok (.aload_n 0, 1) := by decide +kernel
theorem dX6_copy_142 : decode cX6_copy 142 = .ok (.bipush (-52), 2) := by decide +kernel
theorem dX6_copy_144 : decode cX6_copy 144 = .ok (.invokevirtual 51, 3) := by decide +kernel
theorem dX6_copy_147 : decode cX6_copy 147 = .ok (.ireturn, 1) := by decide +kernel
theorem dX6_copy_148 : decode cX6_copy 148 = .ok (.aload 6, 2) := by decide +kernel
theorem dX6_copy_150 : decode cX6_copy 150 = .ok (.getfield 86, 3) := by decide +kernel
theorem dX6_copy_153 : decode cX6_copy 153 = .ok (.iload_n 3, 1) := by decide +kernel
theorem dX6_copy_154 : decode cX6_copy 154 = .ok (.aload 7, 2) := by decide +kernel
theorem dX6_copy_156 : decode cX6_copy 156 = .ok (.getfield 86, 3) := by decide +kernel
theorem dX6_copy_159 : decode cX6_copy 159 = .ok (.iload 4, 2) := by decide +kernel
theorem dX6_copy_161 : decode cX6_copy 161 = .ok (.iload 5, 2) := by decide +kernel
theorem dX6_copy_163 : decode cX6_copy 163 = .ok (.invokestatic 90, 3) := by decide +kernel
theorem dX6_copy_166 : decode cX6_copy 166 = .ok (.iload 5, 2) := by decide +kernel
theorem dX6_copy_168 : decode cX6_copy 168 = .ok (.ireturn, 1) := by decide +kernel
theorem dX6_element_0 : decode cX6_element 0 = .ok (.aload_n 0, 1) := by decide +kernel
theorem dX6_element_1 : decode cX6_element 1 = .ok (.iload_n 1, 1) := by decide +kernel
theorem dX6_element_2 : decode cX6_element 2 = .ok (.invokevirtual 43, 3) := by decide +kernel
theorem dX6_element_5 : decode cX6_element 5 = .ok (.astore_n 3, 1) := by decide +kernel
theorem dX6_element_6 : decode cX6_element 6 = .ok (.aload_n 3, 1) := by decide +kernel
theorem dX6_element_7 : decode cX6_element 7 = .ok (.ifnonnull 7, 3) := by decide +kernel
theorem dX6_element_10 : decode cX6_element 10 = .ok (.lconst 0, 1) := by decide +kernel
theorem dX6_element_11 : decode cX6_element 11 = .ok (.goto 8, 3) := by decide +kernel
theorem dX6_element_14 : decode cX6_element 14 = .ok (.aload_n 3, 1) := by decide +kernel
theorem dX6_element_15 : decode cX6_element 15 = .ok (.iload_n 2, 1) := by decide +kernel
theorem dX6_element_16 : decode cX6_element 16 = .ok (.invokevirtual 96, 3) := by decide +kernel
theorem dX6_element_19 : decode cX6_element 19 = .ok (.lreturn, 1) := by decide +kernel
theorem dX6_holds_0 : decode cX6_holds 0 = .ok (.aload_n 0, 1) := by decide +kernel
theorem dX6_holds_1 : decode cX6_holds 1 = .ok (.iload_n 1, 1) := by decide +kernel
theorem dX6_holds_2 : decode cX6_holds 2 = .ok (.invokevirtual 43, 3) := by decide +kernel
theorem dX6_holds_5 : decode cX6_holds 5 = .ok (.astore_n 2, 1) := by decide +kernel
theorem dX6_holds_6 : decode cX6_holds 6 = .ok (.aload_n 2, 1) := by decide +kernel
theorem dX6_holds_7 : decode cX6_holds 7 = .ok (.ifnonnull 5, 3) := by decide +kernel
theorem dX6_holds_10 : decode cX6_holds 10 = .ok (.iconst (-1), 1) := by decide +kernel
theorem dX6_holds_11 : decode cX6_holds 11 = .ok (.ireturn, 1) := by decide +kernel
theorem dX6_holds_12 : decode cX6_holds 12 = .ok (.aload_n 2, 1) := by decide +kernel
theorem dX6_holds_13 : decode cX6_holds 13 = .ok (.invokevirtual 79, 3) := by decide +kernel
theorem dX6_holds_16 : decode cX6_holds 16 = .ok (.ifCond .eq 13, 3) := by decide +kernel
theorem dX6_holds_19 : decode cX6_holds 19 = .ok (.bipush 10, 2) := by decide +kernel
theorem dX6_holds_21 : decode cX6_holds 21 = .ok (.aload_n 2, 1) := by decide +kernel
theorem dX6_holds_22 : decode cX6_holds 22 = .ok (.getfield 100, 3) := by decide +kernel
theorem dX6_holds_25 : decode cX6_holds 25 = .ok (.iadd, 1) := by decide +kernel
theorem dX6_holds_26 : decode cX6_holds 26 = .ok (.goto 7, 3) := by decide +kernel
theorem dX6_holds_29 : decode cX6_holds 29 = .ok (.aload_n 2, 1) := by decide +kernel
theorem dX6_holds_30 : decode cX6_holds 30 = .ok (.getfield 75, 3) := by decide +kernel
theorem dX6_holds_33 : decode cX6_holds 33 = .ok (.ireturn, 1) := by decide +kernel
theorem dX6_show_0 : decode cX6_show 0 = .ok (.aload_n 0, 1) := by decide +kernel
theorem dX6_show_1 : decode cX6_show 1 = .ok (.iload_n 1, 1) := by decide +kernel
theorem dX6_show_2 : decode cX6_show 2 = .ok (.invokevirtual 43, 3) := by decide +kernel
theorem dX6_show_5 : decode cX6_show 5 = .ok (.astore_n 3, 1) := by decide +kernel
theorem dX6_show_6 : decode cX6_show 6 = .ok (.aload_n 3, 1) := by decide +kernel
theorem dX6_show_7 : decode cX6_show 7 = .ok (.ifnull 23, 3) := by decide +kernel
theorem dX6_show_10 : decode cX6_show 10 = .ok (.iload_n 2, 1) := by decide +kernel
theorem dX6_show_11 : decode cX6_show 11 = .ok (.iconst (-1), 1) := by decide +kernel
theorem dX6_show_12 : decode cX6_show 12 = .ok (.if_icmp .eq 25, 3) := by decide +kernel
theorem dX6_show_15 : decode cX6_show 15 = .ok (.iload_n 2, 1) := by decide +kernel
theorem dX6_show_16 : decode cX6_show 16 = .ok (.iconst 1, 1) := by decide +kernel
theorem dX6_show_17 : decode cX6_show 17 = .ok (.aload_n 0, 1) := by decide +kernel
theorem dX6_show_18 : decode cX6_show 18 = .ok (.getfield 10, 3) := by decide +kernel
theorem dX6_show_21 : decode cX6_show 21 = .ok (.getfield 103, 3) := by decide +kernel
theorem dX6_show_24 : decode cX6_show 24 = .ok (.invokestatic 47, 3) := by decide +kernel
theorem dX6_show_27 : decode cX6_show 27 = .ok (.ifCond .ne 10, 3) := by decide +kernel
theorem dX6_show_30 : decode cX6_show 30 = .ok (.aload_n 0, 1) := by decide +kernel
theorem dX6_show_31 : decode cX6_show 31 = .ok (.bipush (-52), 2) := by decide +kernel
theorem dX6_show_33 : decode cX6_show 33 = .ok (.invokevirtual 51, 3) := by decide +kernel
theorem dX6_show_36 : decode cX6_show 36 = .ok (.ireturn, 1) := by decide +kernel
theorem dX6_show_37 : decode cX6_show 37 = .ok (.iload_n 2, 1) := by decide +kernel
theorem dX6_show_38 : decode cX6_show 38 = .ok (.iconst (-1), 1) := by decide +kernel
theorem dX6_show_39 : decode cX6_show 39 = .ok (.if_icmp .ne 10, 3) := by decide +kernel
theorem dX6_show_42 : decode cX6_show 42 = .ok (.aload_n 3, 1) := by decide +kernel
theorem dX6_show_43 : decode cX6_show 43 = .ok (.invokevirtual 106, 3) := by decide +kernel
theorem dX6_show_46 : decode cX6_show 46 = .ok (.goto 8, 3) := by decide +kernel
theorem dX6_show_49 : decode cX6_show 49 = .ok (.aload_n 3, 1) := by decide +kernel
theorem dX6_show_50 : decode cX6_show 50 = .ok (.iload_n 2, 1) := by decide +kernel
theorem dX6_show_51 : decode cX6_show 51 = .ok (.invokevirtual 109, 3) := by decide +kernel
theorem dX6_show_54 : decode cX6_show 54 = .ok (.iconst 1, 1) := by decide +kernel
theorem dX6_show_55 : decode cX6_show 55 = .ok (.ireturn, 1) := by decide +kernel
theorem dX6_says_0 : decode cX6_says 0 = .ok (.aload_n 0, 1) := by decide +kernel
theorem dX6_says_1 : decode cX6_says 1 = .ok (.iload_n 1, 1) := by decide +kernel
theorem dX6_says_2 : decode cX6_says 2 = .ok (.invokevirtual 43, 3) := by decide +kernel
theorem dX6_says_5 : decode cX6_says 5 = .ok (.astore_n 3, 1) := by decide +kernel
theorem dX6_says_6 : decode cX6_says 6 = .ok (.aload_n 3, 1) := by decide +kernel
theorem dX6_says_7 : decode cX6_says 7 = .ok (.ifnull 13, 3) := by decide +kernel
theorem dX6_says_10 : decode cX6_says 10 = .ok (.iload_n 2, 1) := by decide +kernel
theorem dX6_says_11 : decode cX6_says 11 = .ok (.iconst 0, 1) := by decide +kernel
theorem dX6_says_12 : decode cX6_says 12 = .ok (.bipush 8, 2) := by decide +kernel
theorem dX6_says_14 : decode cX6_says 14 = .ok (.invokestatic 47, 3) := by decide +kernel
theorem dX6_says_17 : decode cX6_says 17 = .ok (.ifCond .ne 10, 3) := by decide +kernel
theorem dX6_says_20 : decode cX6_says 20 = .ok (.aload_n 0, 1) := by decide +kernel
theorem dX6_says_21 : decode cX6_says 21 = .ok (.bipush (-52), 2) := by decide +kernel
theorem dX6_says_23 : decode cX6_says 23 = .ok (.invokevirtual 51, 3) := by decide +kernel
theorem dX6_says_26 : decode cX6_says 26 = .ok (.ireturn, 1) := by decide +kernel
theorem dX6_says_27 : decode cX6_says 27 = .ok (.aload_n 3, 1) := by decide +kernel
theorem dX6_says_28 : decode cX6_says 28 = .ok (.invokevirtual 71, 3) := by decide +kernel
theorem dX6_says_31 : decode cX6_says 31 = .ok (.ifCond .eq 10, 3) := by decide +kernel
theorem dX6_says_34 : decode cX6_says 34 = .ok (.aload_n 0, 1) := by decide +kernel
theorem dX6_says_35 : decode cX6_says 35 = .ok (.bipush (-53), 2) := by decide +kernel
theorem dX6_says_37 : decode cX6_says 37 = .ok (.invokevirtual 51, 3) := by decide +kernel
theorem dX6_says_40 : decode cX6_says 40 = .ok (.ireturn, 1) := by decide +kernel
theorem dX6_says_41 : decode cX6_says 41 = .ok (.aload_n 0, 1) := by decide +kernel
theorem dX6_says_42 : decode cX6_says 42 = .ok (.getfield 10, 3) := by decide +kernel
theorem dX6_says_45 : decode cX6_says 45 = .ok (.aload_n 3, 1) := by decide +kernel
theorem dX6_says_46 : decode cX6_says 46 = .ok (.getfield 100, 3) := by decide +kernel
theorem dX6_says_49 : decode cX6_says 49 = .ok (.invokevirtual 113, 3) := by decide +kernel
theorem dX6_says_52 : decode cX6_says 52 = .ok (.astore 4, 2) := by decide +kernel
theorem dX6_says_54 : decode cX6_says 54 = .ok (.aload 4, 2) := by decide +kernel
theorem dX6_says_56 : decode cX6_says 56 = .ok (.ifnonnull 10, 3) := by decide +kernel
theorem dX6_says_59 : decode cX6_says 59 = .ok (.aload_n 0, 1) := by decide +kernel
theorem dX6_says_60 : decode cX6_says 60 = .ok (.bipush (-54), 2) := by decide +kernel
theorem dX6_says_62 : decode cX6_says 62 = .ok (.invokevirtual 51, 3) := by decide +kernel
theorem dX6_says_65 : decode cX6_says 65 = .ok (.ireturn, 1) := by decide +kernel
theorem dX6_says_66 : decode cX6_says 66 = .ok (.aload 4, 2) := by decide +kernel
theorem dX6_says_68 : decode cX6_says 68 = .ok (.getfield 117, 3) := by decide +kernel
theorem dX6_says_71 : decode cX6_says 71 = .ok (.iload_n 2, 1) := by decide +kernel
theorem dX6_says_72 : decode cX6_says 72 = .ok (.invokestatic 122, 3) := by decide +kernel
theorem dX6_says_75 : decode cX6_says 75 = .ok (.ifCond .ne 10, 3) := by decide +kernel
theorem dX6_says_78 : decode cX6_says 78 = .ok (.aload_n 0, 1) := by decide +kernel
theorem dX6_says_79 : decode cX6_says 79 = .ok (.bipush (-53), 2) := by decide +kernel
theorem dX6_says_81 : decode cX6_says 81 = .ok (.invokevirtual 51, 3) := by decide +kernel
theorem dX6_says_84 : decode cX6_says 84 = .ok (.ireturn, 1) := by decide +kernel
theorem dX6_says_85 : decode cX6_says 85 = .ok (.aload 4, 2) := by decide +kernel
theorem dX6_says_87 : decode cX6_says 87 = .ok (.iload_n 2, 1) := by decide +kernel
theorem dX6_says_88 : decode cX6_says 88 = .ok (.invokevirtual 125, 3) := by decide +kernel
theorem dX6_says_91 : decode cX6_says 91 = .ok (.ireturn, 1) := by decide +kernel
theorem dX6_feed_0 : decode cX6_feed 0 = .ok (.iload_n 1, 1) := by decide +kernel
theorem dX6_feed_1 : decode cX6_feed 1 = .ok (.iconst 0, 1) := by decide +kernel
theorem dX6_feed_2 : decode cX6_feed 2 = .ok (.sipush 255, 3) := by decide +kernel
theorem dX6_feed_5 : decode cX6_feed 5 = .ok (.invokestatic 47, 3) := by decide +kernel
theorem dX6_feed_8 : decode cX6_feed 8 = .ok (.ifCond .ne 10, 3) := by decide +kernel
theorem dX6_feed_11 : decode cX6_feed 11 = .ok (.aload_n 0, 1) := by decide +kernel
theorem dX6_feed_12 : decode cX6_feed 12 = .ok (.bipush (-52), 2) := by decide +kernel
theorem dX6_feed_14 : decode cX6_feed 14 = .ok (.invokevirtual 51, 3) := by decide +kernel
theorem dX6_feed_17 : decode cX6_feed 17 = .ok (.ireturn, 1) := by decide +kernel
theorem dX6_feed_18 : decode cX6_feed 18 = .ok (.aload_n 0, 1) := by decide +kernel
theorem dX6_feed_19 : decode cX6_feed 19 = .ok (.getfield 25, 3) := by decide +kernel
theorem dX6_feed_22 : decode cX6_feed 22 = .ok (.invokevirtual 128, 3) := by decide +kernel
theorem dX6_feed_25 : decode cX6_feed 25 = .ok (.ifCond .eq 10, 3) := by decide +kernel
theorem dX6_feed_28 : decode cX6_feed 28 = .ok (.aload_n 0, 1) := by decide +kernel
theorem dX6_feed_29 : decode cX6_feed 29 = .ok (.bipush (-56), 2) := by decide +kernel
theorem dX6_feed_31 : decode cX6_feed 31 = .ok (.invokevirtual 51, 3) := by decide +kernel
theorem dX6_feed_34 : decode cX6_feed 34 = .ok (.ireturn, 1) := by decide +kernel
theorem dX6_feed_35 : decode cX6_feed 35 = .ok (.aload_n 0, 1) := by decide +kernel
theorem dX6_feed_36 : decode cX6_feed 36 = .ok (.getfield 25, 3) := by decide +kernel
theorem dX6_feed_39 : decode cX6_feed 39 = .ok (.iload_n 1, 1) := by decide +kernel
theorem dX6_feed_40 : decode cX6_feed 40 = .ok (.invokevirtual 131, 3) := by decide +kernel
theorem dX6_feed_43 : decode cX6_feed 43 = .ok (.aload_n 0, 1) := by decide +kernel
theorem dX6_feed_44 : decode cX6_feed 44 = .ok (.getfield 25, 3) := by decide +kernel
theorem dX6_feed_47 : decode cX6_feed 47 = .ok (.getfield 134, 3) := by decide +kernel
theorem dX6_feed_50 : decode cX6_feed 50 = .ok (.ireturn, 1) := by decide +kernel
theorem dX6_wipe_0 : decode cX6_wipe 0 = .ok (.aload_n 0, 1) := by decide +kernel
theorem dX6_wipe_1 : decode cX6_wipe 1 = .ok (.getfield 25, 3) := by decide +kernel
theorem dX6_wipe_4 : decode cX6_wipe 4 = .ok (.getfield 134, 3) := by decide +kernel
theorem dX6_wipe_7 : decode cX6_wipe 7 = .ok (.istore_n 1, 1) := by decide +kernel
theorem dX6_wipe_8 : decode cX6_wipe 8 = .ok (.aload_n 0, 1) := by decide +kernel
theorem dX6_wipe_9 : decode cX6_wipe 9 = .ok (.getfield 25, 3) := by decide +kernel
theorem dX6_wipe_12 : decode cX6_wipe 12 = .ok (.iconst 0, 1) := by decide +kernel
theorem dX6_wipe_13 : decode cX6_wipe 13 = .ok (.putfield 134, 3) := by decide +kernel
theorem dX6_wipe_16 : decode cX6_wipe 16 = .ok (.iload_n 1, 1) := by decide +kernel
theorem dX6_wipe_17 : decode cX6_wipe 17 = .ok (.ireturn, 1) := by decide +kernel
theorem dX6_traffic_0 : decode cX6_traffic 0 = .ok (.aload_n 0, 1) := by decide +kernel
theorem dX6_traffic_1 : decode cX6_traffic 1 = .ok (.getfield 25, 3) := by decide +kernel
theorem dX6_traffic_4 : decode cX6_traffic 4 = .ok (.aload_n 0, 1) := by decide +kernel
theorem dX6_traffic_5 : decode cX6_traffic 5 = .ok (.getfield 10, 3) := by decide +kernel
theorem dX6_traffic_8 : decode cX6_traffic 8 = .ok (.getfield 103, 3) := by decide +kernel
theorem dX6_traffic_11 : decode cX6_traffic 11 = .ok (.invokevirtual 137, 3) := by decide +kernel
theorem dX6_traffic_14 : decode cX6_traffic 14 = .ok (.istore_n 1, 1) := by decide +kernel
theorem dX6_traffic_15 : decode cX6_traffic 15 = .ok (.aload_n 0, 1) := by decide +kernel
theorem dX6_traffic_16 : decode cX6_traffic 16 = .ok (.getfield 25, 3) := by decide +kernel
theorem dX6_traffic_19 : decode cX6_traffic 19 = .ok (.iconst 0, 1) := by decide +kernel
theorem dX6_traffic_20 : decode cX6_traffic 20 = .ok (.putfield 134, 3) := by decide +kernel
theorem dX6_traffic_23 : decode cX6_traffic 23 = .ok (.iload_n 1, 1) := by decide +kernel
theorem dX6_traffic_24 : decode cX6_traffic 24 = .ok (.iconst (-1), 1) := by decide +kernel
theorem dX6_traffic_25 : decode cX6_traffic 25 = .ok (.if_icmp .eq 16, 3) := by decide +kernel
theorem dX6_traffic_28 : decode cX6_traffic 28 = .ok (.aload_n 0, 1) := by decide +kernel
theorem dX6_traffic_29 : decode cX6_traffic 29 = .ok (.bipush (-52), 2) := by decide +kernel
theorem dX6_traffic_31 : decode cX6_traffic 31 = .ok (.invokevirtual 51, 3) := by decide +kernel
theorem dX6_traffic_34 : decode cX6_traffic 34 = .ok (.pop, 1) := by decide +kernel
theorem dX6_traffic_35 : decode cX6_traffic 35 = .ok (.sipush (-800), 3) := by decide +kernel
theorem dX6_traffic_38 : decode cX6_traffic 38 = .ok (.iload_n 1, 1) := by decide +kernel
theorem dX6_traffic_39 : decode cX6_traffic 39 = .ok (.isub, 1) := by decide +kernel
theorem dX6_traffic_40 : decode cX6_traffic 40 = .ok (.ireturn, 1) := by decide +kernel
theorem dX6_traffic_41 : decode cX6_traffic 41 = .ok (.iconst 0, 1) := by decide +kernel
theorem dX6_traffic_42 : decode cX6_traffic 42 = .ok (.istore_n 2, 1) := by decide +kernel
theorem dX6_traffic_43 : decode cX6_traffic 43 = .ok (.iconst 0, 1) := by decide +kernel
theorem dX6_traffic_44 : decode cX6_traffic 44 = .ok (.istore_n 3, 1) := by decide +kernel
theorem dX6_traffic_45 : decode cX6_traffic 45 = .ok (.iload_n 3, 1) := by decide +kernel
theorem dX6_traffic_46 : decode cX6_traffic 46 = .ok (.aload_n 0, 1) := by decide +kernel
theorem dX6_traffic_47 : decode cX6_traffic 47 = .ok (.getfield 25, 3) := by decide +kernel
theorem dX6_traffic_50 : decode cX6_traffic 50 = .ok (.getfield 140, 3) := by decide +kernel
theorem dX6_traffic_53 : decode cX6_traffic 53 = .ok (.if_icmp .ge 17, 3) := by decide +kernel
theorem dX6_traffic_56 : decode cX6_traffic 56 = .ok (.iload_n 2, 1) := by decide +kernel
theorem dX6_traffic_57 : decode cX6_traffic 57 = .ok (.aload_n 0, 1) := by decide +kernel
theorem dX6_traffic_58 : decode cX6_traffic 58 = .ok (.iload_n 3, 1) := by decide +kernel
theorem dX6_traffic_59 : decode cX6_traffic 59 = .ok (.invokevirtual 143, 3) := by decide +kernel
theorem dX6_traffic_62 : decode cX6_traffic 62 = .ok (.iadd, 1) := by decide +kernel
theorem dX6_traffic_63 : decode cX6_traffic 63 = .ok (.istore_n 2, 1) := by decide +kernel
theorem dX6_traffic_64 : decode cX6_traffic 64 = .ok (.iinc 3 1, 3) := by decide +kernel
theorem dX6_traffic_67 : decode cX6_traffic 67 = .ok (.goto (-22), 3) := by decide +kernel
theorem dX6_traffic_70 : decode cX6_traffic 70 = .ok (.iload_n 2, 1) := by decide +kernel
theorem dX6_traffic_71 : decode cX6_traffic 71 = .ok (.ireturn, 1) := by decide +kernel
theorem dX6_doPart_0 : decode cX6_doPart 0 = .ok (.aload_n 0, 1) := by decide +kernel
theorem dX6_doPart_1 : decode cX6_doPart 1 = .ok (.getfield 25, 3) := by decide +kernel
theorem dX6_doPart_4 : decode cX6_doPart 4 = .ok (.iload_n 1, 1) := by decide +kernel
theorem dX6_doPart_5 : decode cX6_doPart 5 = .ok (.invokevirtual 146, 3) := by decide +kernel
theorem dX6_doPart_8 : decode cX6_doPart 8 = .ok (.istore_n 2, 1) := by decide +kernel
theorem dX6_doPart_9 : decode cX6_doPart 9 = .ok (.aload_n 0, 1) := by decide +kernel
theorem dX6_doPart_10 : decode cX6_doPart 10 = .ok (.getfield 25, 3) := by decide +kernel
theorem dX6_doPart_13 : decode cX6_doPart 13 = .ok (.iload_n 1, 1) := by decide +kernel
theorem dX6_doPart_14 : decode cX6_doPart 14 = .ok (.invokevirtual 149, 3) := by decide +kernel
theorem dX6_doPart_17 : decode cX6_doPart 17 = .ok (.istore_n 3, 1) := by decide +kernel
theorem dX6_doPart_18 : decode cX6_doPart 18 = .ok (.iload_n 2, 1) := by decide +kernel
theorem dX6_doPart_19 : decode cX6_doPart 19 = .ok (.bipush 114, 2) := by decide +kernel
theorem dX6_doPart_21 : decode cX6_doPart 21 = .ok (.if_icmp .ne 14, 3) := by decide +kernel
theorem dX6_doPart_24 : decode cX6_doPart 24 = .ok (.aload_n 0, 1) := by decide +kernel
theorem dX6_doPart_25 : decode cX6_doPart 25 = .ok (.getfield 10, 3) := by decide +kernel
theorem dX6_doPart_28 : decode cX6_doPart 28 = .ok (.iload_n 3, 1) := by decide +kernel
theorem dX6_doPart_29 : decode cX6_doPart 29 = .ok (.iconst 0, 1) := by decide +kernel
theorem dX6_doPart_30 : decode cX6_doPart 30 = .ok (.iconst 0, 1) := by decide +kernel
theorem dX6_doPart_31 : decode cX6_doPart 31 = .ok (.invokevirtual 152, 3) := by decide +kernel
theorem dX6_doPart_34 : decode cX6_doPart 34 = .ok (.ireturn, 1) := by decide +kernel
theorem dX6_doPart_35 : decode cX6_doPart 35 = .ok (.iload_n 2, 1) := by decide +kernel
theorem dX6_doPart_36 : decode cX6_doPart 36 = .ok (.bipush 119, 2) := by decide +kernel
theorem dX6_doPart_38 : decode cX6_doPart 38 = .ok (.if_icmp .ne 21, 3) := by decide +kernel
theorem dX6_doPart_41 : decode cX6_doPart 41 = .ok (.aload_n 0, 1) := by decide +kernel
theorem dX6_doPart_42 : decode cX6_doPart 42 = .ok (.getfield 10, 3) := by decide +kernel
theorem dX6_doPart_45 : decode cX6_doPart 45 = .ok (.iload_n 3, 1) := by decide +kernel
theorem dX6_doPart_46 : decode cX6_doPart 46 = .ok (.iconst 1, 1) := by decide +kernel
theorem dX6_doPart_47 : decode cX6_doPart 47 = .ok (.aload_n 0, 1) := by decide +kernel
theorem dX6_doPart_48 : decode cX6_doPart 48 = .ok (.getfield 25, 3) := by decide +kernel
theorem dX6_doPart_51 : decode cX6_doPart 51 = .ok (.iload_n 1, 1) := by decide +kernel
theorem dX6_doPart_52 : decode cX6_doPart 52 = .ok (.invokevirtual 156, 3) := by decide +kernel
theorem dX6_doPart_55 : decode cX6_doPart 55 = .ok (.invokevirtual 152, 3) := by decide +kernel
theorem dX6_doPart_58 : decode cX6_doPart 58 = .ok (.ireturn, 1) := by decide +kernel
theorem dX6_doPart_59 : decode cX6_doPart 59 = .ok (.iload_n 2, 1) := by decide +kernel
theorem dX6_doPart_60 : decode cX6_doPart 60 = .ok (.bipush 115, 2) := by decide +kernel
theorem dX6_doPart_62 : decode cX6_doPart 62 = .ok (.if_icmp .ne 12, 3) := by decide +kernel
theorem dX6_doPart_65 : decode cX6_doPart 65 = .ok (.aload_n 0, 1) := by decide +kernel
theorem dX6_doPart_66 : decode cX6_doPart 66 = .ok (.getfield 10, 3) := by decide +kernel
theorem dX6_doPart_69 : decode cX6_doPart 69 = .ok (.iload_n 3, 1) := by decide +kernel
theorem dX6_doPart_70 : decode cX6_doPart 70 = .ok (.invokevirtual 159, 3) := by decide +kernel
theorem dX6_doPart_73 : decode cX6_doPart 73 = .ok (.pop, 1) := by decide +kernel
theorem dX6_doPart_74 : decode cX6_doPart 74 = .ok (.iload_n 2, 1) := by decide +kernel
theorem dX6_doPart_75 : decode cX6_doPart 75 = .ok (.bipush 97, 2) := by decide +kernel
theorem dX6_doPart_77 : decode cX6_doPart 77 = .ok (.if_icmp .ne 11, 3) := by decide +kernel
theorem dX6_doPart_80 : decode cX6_doPart 80 = .ok (.aload_n 0, 1) := by decide +kernel
theorem dX6_doPart_81 : decode cX6_doPart 81 = .ok (.getfield 10, 3) := by decide +kernel
theorem dX6_doPart_84 : decode cX6_doPart 84 = .ok (.iload_n 3, 1) := by decide +kernel
theorem dX6_doPart_85 : decode cX6_doPart 85 = .ok (.putfield 162, 3) := by decide +kernel
theorem dX6_doPart_88 : decode cX6_doPart 88 = .ok (.iconst 0, 1) := by decide +kernel
theorem dX6_doPart_89 : decode cX6_doPart 89 = .ok (.ireturn, 1) := by decide +kernel
theorem dX6_level_0 : decode cX6_level 0 = .ok (.iload_n 1, 1) := by decide +kernel
theorem dX6_level_1 : decode cX6_level 1 = .ok (.iconst 1, 1) := by decide +kernel
theorem dX6_level_2 : decode cX6_level 2 = .ok (.bipush 16, 2) := by decide +kernel
theorem dX6_level_4 : decode cX6_level 4 = .ok (.invokestatic 47, 3) := by decide +kernel
theorem dX6_level_7 : decode cX6_level 7 = .ok (.ifCond .eq 23, 3) := by decide +kernel
theorem dX6_level_10 : decode cX6_level 10 = .ok (.iload_n 2, 1) := by decide +kernel
theorem dX6_level_11 : decode cX6_level 11 = .ok (.iconst 0, 1) := by decide +kernel
theorem dX6_level_12 : decode cX6_level 12 = .ok (.bipush 99, 2) := by decide +kernel
theorem dX6_level_14 : decode cX6_level 14 = .ok (.invokestatic 47, 3) := by decide +kernel
theorem dX6_level_17 : decode cX6_level 17 = .ok (.ifCond .eq 13, 3) := by decide +kernel
theorem dX6_level_20 : decode cX6_level 20 = .ok (.iload_n 3, 1) := by decide +kernel
theorem dX6_level_21 : decode cX6_level 21 = .ok (.iconst 3, 1) := by decide +kernel
theorem dX6_level_22 : decode cX6_level 22 = .ok (.bipush 8, 2) := by decide +kernel
theorem dX6_level_24 : decode cX6_level 24 = .ok (.invokestatic 47, 3) := by decide +kernel
theorem dX6_level_27 : decode cX6_level 27 = .ok (.ifCond .ne 10, 3) := by decide +kernel
theorem dX6_level_30 : decode cX6_level 30 = .ok (.aload_n 0, 1) := by decide +kernel
theorem dX6_level_31 : decode cX6_level 31 = .ok (.bipush (-52), 2) := by decide +kernel
theorem dX6_level_33 : decode cX6_level 33 = .ok (.invokevirtual 51, 3) := by decide +kernel
theorem dX6_level_36 : decode cX6_level 36 = .ok (.ireturn, 1) := by decide +kernel
theorem dX6_level_37 : decode cX6_level 37 = .ok (.aload_n 0, 1) := by decide +kernel
theorem dX6_level_38 : decode cX6_level 38 = .ok (.getfield 10, 3) := by decide +kernel
theorem dX6_level_41 : decode cX6_level 41 = .ok (.getfield 103, 3) := by decide +kernel
theorem dX6_level_44 : decode cX6_level 44 = .ok (.iconst 4, 1) := by decide +kernel
theorem dX6_level_45 : decode cX6_level 45 = .ok (.if_icmp .lt 10, 3) := by decide +kernel
theorem dX6_level_48 : decode cX6_level 48 = .ok (.aload_n 0, 1) := by decide +kernel
theorem dX6_level_49 : decode cX6_level 49 = .ok (.bipush (-56), 2) := by decide +kernel
theorem dX6_level_51 : decode cX6_level 51 = .ok (.invokevirtual 51, 3) := by decide +kernel
theorem dX6_level_54 : decode cX6_level 54 = .ok (.ireturn, 1) := by decide +kernel
theorem dX6_level_55 : decode cX6_level 55 = .ok (.aload_n 0, 1) := by decide +kernel
theorem dX6_level_56 : decode cX6_level 56 = .ok (.getfield 10, 3) := by decide +kernel
theorem dX6_level_59 : decode cX6_level 59 = .ok (.invokevirtual 165, 3) := by decide +kernel
theorem dX6_level_62 : decode cX6_level 62 = .ok (.aload_n 0, 1) := by decide +kernel
theorem dX6_level_63 : decode cX6_level 63 = .ok (.getfield 10, 3) := by decide +kernel
theorem dX6_level_66 : decode cX6_level 66 = .ok (.dup, 1) := by decide +kernel
theorem dX6_level_67 : decode cX6_level 67 = .ok (.getfield 103, 3) := by decide +kernel
theorem dX6_level_70 : decode cX6_level 70 = .ok (.iconst 1, 1) := by decide +kernel
theorem dX6_level_71 : decode cX6_level 71 = .ok (.iadd, 1) := by decide +kernel
theorem dX6_level_72 : decode cX6_level 72 = .ok (.putfield 103, 3) := by decide +kernel
theorem dX6_level_75 : decode cX6_level 75 = .ok (.aload_n 0, 1) := by decide +kernel
theorem dX6_level_76 : decode cX6_level 76 = .ok (.getfield 10, 3) := by decide +kernel
theorem dX6_level_79 : decode cX6_level 79 = .ok (.aload_n 0, 1) := by decide +kernel
theorem dX6_level_80 : decode cX6_level 80 = .ok (.getfield 10, 3) := by decide +kernel
theorem dX6_level_83 : decode cX6_level 83 = .ok (.getfield 103, 3) := by decide +kernel
theorem dX6_level_86 : decode cX6_level 86 = .ok (.invokevirtual 113, 3) := by decide +kernel
theorem dX6_level_89 : decode cX6_level 89 = .ok (.astore 4, 2) := by decide +kernel
theorem dX6_level_91 : decode cX6_level 91 = .ok (.aload 4, 2) := by decide +kernel
theorem dX6_level_93 : decode cX6_level 93 = .ok (.ifnull 11, 3) := by decide +kernel
theorem dX6_level_96 : decode cX6_level 96 = .ok (.aload 4, 2) := by decide +kernel
theorem dX6_level_98 : decode cX6_level 98 = .ok (.iload_n 1, 1) := by decide +kernel
theorem dX6_level_99 : decode cX6_level 99 = .ok (.iload_n 2, 1) := by decide +kernel
theorem dX6_level_100 : decode cX6_level 100 = .ok (.iload_n 3, 1) := by decide +kernel
theorem dX6_level_101 : decode cX6_level 101 = .ok (.invokevirtual 168, 3) := by decide +kernel
theorem dX6_level_104 : decode cX6_level 104 = .ok (.aload_n 0, 1) := by decide +kernel
theorem dX6_level_105 : decode cX6_level 105 = .ok (.getfield 10, 3) := by decide +kernel
theorem dX6_level_108 : decode cX6_level 108 = .ok (.getfield 103, 3) := by decide +kernel
theorem dX6_level_111 : decode cX6_level 111 = .ok (.ireturn, 1) := by decide +kernel
theorem dX6_drop_0 : decode cX6_drop 0 = .ok (.aload_n 0, 1) := by decide +kernel
theorem dX6_drop_1 : decode cX6_drop 1 = .ok (.getfield 10, 3) := by decide +kernel
theorem dX6_drop_4 : decode cX6_drop 4 = .ok (.getfield 103, 3) := by decide +kernel
theorem dX6_drop_7 : decode cX6_drop 7 = .ok (.ifCond .gt 10, 3) := by decide +kernel
theorem dX6_drop_10 : decode cX6_drop 10 = .ok (.aload_n 0, 1) := by decide +kernel
theorem dX6_drop_11 : decode cX6_drop 11 = .ok (.bipush (-55), 2) := by decide +kernel
theorem dX6_drop_13 : decode cX6_drop 13 = .ok (.invokevirtual 51, 3) := by decide +kernel
theorem dX6_drop_16 : decode cX6_drop 16 = .ok (.ireturn, 1) := by decide +kernel
theorem dX6_drop_17 : decode cX6_drop 17 = .ok (.aload_n 0, 1) := by decide +kernel
theorem dX6_drop_18 : decode cX6_drop 18 = .ok (.getfield 10, 3) := by decide +kernel
theorem dX6_drop_21 : decode cX6_drop 21 = .ok (.invokevirtual 165, 3) := by decide +kernel
theorem dX6_drop_24 : decode cX6_drop 24 = .ok (.aload_n 0, 1) := by decide +kernel
theorem dX6_drop_25 : decode cX6_drop 25 = .ok (.getfield 10, 3) := by decide +kernel
theorem dX6_drop_28 : decode cX6_drop 28 = .ok (.dup, 1) := by decide +kernel
theorem dX6_drop_29 : decode cX6_drop 29 = .ok (.getfield 103, 3) := by decide +kernel
theorem dX6_drop_32 : decode cX6_drop 32 = .ok (.iconst 1, 1) := by decide +kernel
theorem dX6_drop_33 : decode cX6_drop 33 = .ok (.isub, 1) := by decide +kernel
theorem dX6_drop_34 : decode cX6_drop 34 = .ok (.putfield 103, 3) := by decide +kernel
theorem dX6_drop_37 : decode cX6_drop 37 = .ok (.aload_n 0, 1) := by decide +kernel
theorem dX6_drop_38 : decode cX6_drop 38 = .ok (.invokevirtual 172, 3) := by decide +kernel
theorem dX6_drop_41 : decode cX6_drop 41 = .ok (.aload_n 0, 1) := by decide +kernel
theorem dX6_drop_42 : decode cX6_drop 42 = .ok (.getfield 10, 3) := by decide +kernel
theorem dX6_drop_45 : decode cX6_drop 45 = .ok (.getfield 103, 3) := by decide +kernel
theorem dX6_drop_48 : decode cX6_drop 48 = .ok (.ireturn, 1) := by decide +kernel
theorem dX6_forgetRules_0 : decode cX6_forgetRules 0 = .ok (.iconst 0, 1) := by decide +kernel
theorem dX6_forgetRules_1 : decode cX6_forgetRules 1 = .ok (.istore_n 1, 1) := by decide +kernel
theorem dX6_forgetRules_2 : decode cX6_forgetRules 2 = .ok (.iload_n 1, 1) := by decide +kernel
theorem dX6_forgetRules_3 : decode cX6_forgetRules 3 = .ok (.bipush 8, 2) := by decide +kernel
theorem dX6_forgetRules_5 : decode cX6_forgetRules 5 = .ok (.if_icmp .ge 37, 3) := by decide +kernel
theorem dX6_forgetRules_8 : decode cX6_forgetRules 8 = .ok (.aload_n 0, 1) := by decide +kernel
theorem dX6_forgetRules_9 : decode cX6_forgetRules 9 = .ok (.iload_n 1, 1) := by decide +kernel
theorem dX6_forgetRules_10 : decode cX6_forgetRules 10 = .ok (.invokevirtual 43, 3) := by decide +kernel
theorem dX6_forgetRules_13 : decode cX6_forgetRules 13 = .ok (.astore_n 2, 1) := by decide +kernel
theorem dX6_forgetRules_14 : decode cX6_forgetRules 14 = .ok (.aload_n 2, 1) := by decide +kernel
theorem dX6_forgetRules_15 : decode cX6_forgetRules 15 = .ok (.ifnull 21, 3) := by decide +kernel
theorem dX6_forgetRules_18 : decode cX6_forgetRules 18 = .ok (.aload_n 2, 1) := by decide +kernel
theorem dX6_forgetRules_19 : decode cX6_forgetRules 19 = .ok (.getfield 100, 3) := by decide +kernel
theorem dX6_forgetRules_22 : decode cX6_forgetRules 22 = .ok (.aload_n 0, 1) := by decide +kernel
theorem dX6_forgetRules_23 : decode cX6_forgetRules 23 = .ok (.getfield 10, 3) := by decide +kernel
theorem dX6_forgetRules_26 : decode cX6_forgetRules 26 = .ok (.getfield 103, 3) := by decide +kernel
theorem dX6_forgetRules_29 : decode cX6_forgetRules 29 = .ok (.if_icmp .le 7, 3) := by decide +kernel
theorem dX6_forgetRules_32 : decode cX6_forgetRules 32 = .ok (.aload_n 2, 1) := by decide +kernel
theorem dX6_forgetRules_33 : decode cX6_forgetRules 33 = .ok (.invokevirtual 106, 3) := by decide +kernel
theorem dX6_forgetRules_36 : decode cX6_forgetRules 36 = .ok (.iinc 1 1, 3) := by decide +kernel
