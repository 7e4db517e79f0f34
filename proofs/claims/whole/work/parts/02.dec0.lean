theorem dX0_init_0 : decode cX0_init 0 = .ok (.aload_n 0, 1) := by decide +kernel
theorem dX0_init_1 : decode cX0_init 1 = .ok (.invokespecial 3, 3) := by decide +kernel
theorem dX0_init_4 : decode cX0_init 4 = .ok (.aload_n 0, 1) := by decide +kernel
theorem dX0_init_5 : decode cX0_init 5 = .ok (.bipush 6, 2) := by decide +kernel
theorem dX0_init_7 : decode cX0_init 7 = .ok (.newarray .int, 2) := by decide +kernel
theorem dX0_init_9 : decode cX0_init 9 = .ok (.putfield 9, 3) := by decide +kernel
theorem dX0_init_12 : decode cX0_init 12 = .ok (.aload_n 0, 1) := by decide +kernel
theorem dX0_init_13 : decode cX0_init 13 = .ok (.iconst 4, 1) := by decide +kernel
theorem dX0_init_14 : decode cX0_init 14 = .ok (.newarray .int, 2) := by decide +kernel
theorem dX0_init_16 : decode cX0_init 16 = .ok (.putfield 15, 3) := by decide +kernel
theorem dX0_init_19 : decode cX0_init 19 = .ok (.aload_n 0, 1) := by decide +kernel
theorem dX0_init_20 : decode cX0_init 20 = .ok (.getfield 9, 3) := by decide +kernel
theorem dX0_init_23 : decode cX0_init 23 = .ok (.bipush (-2), 2) := by decide +kernel
theorem dX0_init_25 : decode cX0_init 25 = .ok (.invokestatic 18, 3) := by decide +kernel
theorem dX0_init_28 : decode cX0_init 28 = .ok (.return_, 1) := by decide +kernel
theorem dX0_isIn_0 : decode cX0_isIn 0 = .ok (.iconst 0, 1) := by decide +kernel
theorem dX0_isIn_1 : decode cX0_isIn 1 = .ok (.istore_n 2, 1) := by decide +kernel
theorem dX0_isIn_2 : decode cX0_isIn 2 = .ok (.iload_n 2, 1) := by decide +kernel
theorem dX0_isIn_3 : decode cX0_isIn 3 = .ok (.bipush 6, 2) := by decide +kernel
theorem dX0_isIn_5 : decode cX0_isIn 5 = .ok (.if_icmp .ge 21, 3) := by decide +kernel
theorem dX0_isIn_8 : decode cX0_isIn 8 = .ok (.aload_n 0, 1) := by decide +kernel
theorem dX0_isIn_9 : decode cX0_isIn 9 = .ok (.getfield 9, 3) := by decide +kernel
theorem dX0_isIn_12 : decode cX0_isIn 12 = .ok (.iload_n 2, 1) := by decide +kernel
theorem dX0_isIn_13 : decode cX0_isIn 13 = .ok (.iaload, 1) := by decide +kernel
theorem dX0_isIn_14 : decode cX0_isIn 14 = .ok (.iload_n 1, 1) := by decide +kernel
theorem dX0_isIn_15 : decode cX0_isIn 15 = .ok (.if_icmp .ne 5, 3) := by decide +kernel
theorem dX0_isIn_18 : decode cX0_isIn 18 = .ok (.iconst 1, 1) := by decide +kernel
theorem dX0_isIn_19 : decode cX0_isIn 19 = .ok (.ireturn, 1) := by decide +kernel
theorem dX0_isIn_20 : decode cX0_isIn 20 = .ok (.iinc 2 1, 3) := by decide +kernel
theorem dX0_isIn_23 : decode cX0_isIn 23 = .ok (.goto (-21), 3) := by decide +kernel
theorem dX0_isIn_26 : decode cX0_isIn 26 = .ok (.iconst 0, 1) := by decide +kernel
theorem dX0_isIn_27 : decode cX0_isIn 27 = .ok (.ireturn, 1) := by decide +kernel
theorem dX0_takeAllOut_0 : decode cX0_takeAllOut 0 = .ok (.iconst 0, 1) := by decide +kernel
theorem dX0_takeAllOut_1 : decode cX0_takeAllOut 1 = .ok (.istore_n 1, 1) := by decide +kernel
theorem dX0_takeAllOut_2 : decode cX0_takeAllOut 2 = .ok (.iconst 0, 1) := by decide +kernel
theorem dX0_takeAllOut_3 : decode cX0_takeAllOut 3 = .ok (.istore_n 2, 1) := by decide +kernel
theorem dX0_takeAllOut_4 : decode cX0_takeAllOut 4 = .ok (.iload_n 2, 1) := by decide +kernel
theorem dX0_takeAllOut_5 : decode cX0_takeAllOut 5 = .ok (.bipush 6, 2) := by decide +kernel
theorem dX0_takeAllOut_7 : decode cX0_takeAllOut 7 = .ok (.if_icmp .ge 31, 3) := by decide +kernel
theorem dX0_takeAllOut_10 : decode cX0_takeAllOut 10 = .ok (.aload_n 0, 1) := by decide +kernel
theorem dX0_takeAllOut_11 : decode cX0_takeAllOut 11 = .ok (.getfield 9, 3) := by decide +kernel
theorem dX0_takeAllOut_14 : decode cX0_takeAllOut 14 = .ok (.iload_n 2, 1) := by decide +kernel
theorem dX0_takeAllOut_15 : decode cX0_takeAllOut 15 = .ok (.iaload, 1) := by decide +kernel
theorem dX0_takeAllOut_16 : decode cX0_takeAllOut 16 = .ok (.bipush (-2), 2) := by decide +kernel
theorem dX0_takeAllOut_18 : decode cX0_takeAllOut 18 = .ok (.if_icmp .eq 6, 3) := by decide +kernel
theorem dX0_takeAllOut_21 : decode cX0_takeAllOut 21 = .ok (.iinc 1 1, 3) := by decide +kernel
theorem dX0_takeAllOut_24 : decode cX0_takeAllOut 24 = .ok (.aload_n 0, 1) := by decide +kernel
theorem dX0_takeAllOut_25 : decode cX0_takeAllOut 25 = .ok (.getfield 9, 3) := by decide +kernel
theorem dX0_takeAllOut_28 : decode cX0_takeAllOut 28 = .ok (.iload_n 2, 1) := by decide +kernel
theorem dX0_takeAllOut_29 : decode cX0_takeAllOut 29 = .ok (.bipush (-2), 2) := by decide +kernel
theorem dX0_takeAllOut_31 : decode cX0_takeAllOut 31 = .ok (.iastore, 1) := by decide +kernel
theorem dX0_takeAllOut_32 : decode cX0_takeAllOut 32 = .ok (.iinc 2 1, 3) := by decide +kernel
theorem dX0_takeAllOut_35 : decode cX0_takeAllOut 35 = .ok (.goto (-31), 3) := by decide +kernel
theorem dX0_takeAllOut_38 : decode cX0_takeAllOut 38 = .ok (.iload_n 1, 1) := by decide +kernel
theorem dX0_takeAllOut_39 : decode cX0_takeAllOut 39 = .ok (.ireturn, 1) := by decide +kernel
theorem dX0_becomeLike_0 : decode cX0_becomeLike 0 = .ok (.aload_n 1, 1) := by decide +kernel
theorem dX0_becomeLike_1 : decode cX0_becomeLike 1 = .ok (.getfield 9, 3) := by decide +kernel
theorem dX0_becomeLike_4 : decode cX0_becomeLike 4 = .ok (.iconst 0, 1) := by decide +kernel
theorem dX0_becomeLike_5 : decode cX0_becomeLike 5 = .ok (.aload_n 0, 1) := by decide +kernel
theorem dX0_becomeLike_6 : decode cX0_becomeLike 6 = .ok (.getfield 9, 3) := by decide +kernel
theorem dX0_becomeLike_9 : decode cX0_becomeLike 9 = .ok (.iconst 0, 1) := by decide +kernel
theorem dX0_becomeLike_10 : decode cX0_becomeLike 10 = .ok (.bipush 6, 2) := by decide +kernel
theorem dX0_becomeLike_12 : decode cX0_becomeLike 12 = .ok (.invokestatic 24, 3) := by decide +kernel
theorem dX0_becomeLike_15 : decode cX0_becomeLike 15 = .ok (.aload_n 1, 1) := by decide +kernel
theorem dX0_becomeLike_16 : decode cX0_becomeLike 16 = .ok (.getfield 15, 3) := by decide +kernel
theorem dX0_becomeLike_19 : decode cX0_becomeLike 19 = .ok (.iconst 0, 1) := by decide +kernel
theorem dX0_becomeLike_20 : decode cX0_becomeLike 20 = .ok (.aload_n 0, 1) := by decide +kernel
theorem dX0_becomeLike_21 : decode cX0_becomeLike 21 = .ok (.getfield 15, 3) := by decide +kernel
theorem dX0_becomeLike_24 : decode cX0_becomeLike 24 = .ok (.iconst 0, 1) := by decide +kernel
theorem dX0_becomeLike_25 : decode cX0_becomeLike 25 = .ok (.aload_n 0, 1) := by decide +kernel
theorem dX0_becomeLike_26 : decode cX0_becomeLike 26 = .ok (.getfield 15, 3) := by decide +kernel
theorem dX0_becomeLike_29 : decode cX0_becomeLike 29 = .ok (.arraylength, 1) := by decide +kernel
theorem dX0_becomeLike_30 : decode cX0_becomeLike 30 = .ok (.invokestatic 24, 3) := by decide +kernel
theorem dX0_becomeLike_33 : decode cX0_becomeLike 33 = .ok (.return_, 1) := by decide +kernel
theorem dX1_init_0 : decode cX1_init 0 = .ok (.aload_n 0, 1) := by decide +kernel
theorem dX1_init_1 : decode cX1_init 1 = .ok (.invokespecial 3, 3) := by decide +kernel
theorem dX1_init_4 : decode cX1_init 4 = .ok (.aload_n 0, 1) := by decide +kernel
theorem dX1_init_5 : decode cX1_init 5 = .ok (.bipush 40, 2) := by decide +kernel
theorem dX1_init_7 : decode cX1_init 7 = .ok (.newarray .int, 2) := by decide +kernel
theorem dX1_init_9 : decode cX1_init 9 = .ok (.putfield 9, 3) := by decide +kernel
theorem dX1_init_12 : decode cX1_init 12 = .ok (.aload_n 0, 1) := by decide +kernel
theorem dX1_init_13 : decode cX1_init 13 = .ok (.bipush 40, 2) := by decide +kernel
theorem dX1_init_15 : decode cX1_init 15 = .ok (.newarray .int, 2) := by decide +kernel
theorem dX1_init_17 : decode cX1_init 17 = .ok (.putfield 15, 3) := by decide +kernel
theorem dX1_init_20 : decode cX1_init 20 = .ok (.aload_n 0, 1) := by decide +kernel
theorem dX1_init_21 : decode cX1_init 21 = .ok (.bipush 40, 2) := by decide +kernel
theorem dX1_init_23 : decode cX1_init 23 = .ok (.newarray .int, 2) := by decide +kernel
theorem dX1_init_25 : decode cX1_init 25 = .ok (.putfield 18, 3) := by decide +kernel
theorem dX1_init_28 : decode cX1_init 28 = .ok (.aload_n 0, 1) := by decide +kernel
theorem dX1_init_29 : decode cX1_init 29 = .ok (.bipush 40, 2) := by decide +kernel
theorem dX1_init_31 : decode cX1_init 31 = .ok (.newarray .int, 2) := by decide +kernel
theorem dX1_init_33 : decode cX1_init 33 = .ok (.putfield 21, 3) := by decide +kernel
theorem dX1_init_36 : decode cX1_init 36 = .ok (.return_, 1) := by decide +kernel
theorem dX1_note_0 : decode cX1_note 0 = .ok (.aload_n 0, 1) := by decide +kernel
theorem dX1_note_1 : decode cX1_note 1 = .ok (.getfield 24, 3) := by decide +kernel
theorem dX1_note_4 : decode cX1_note 4 = .ok (.bipush 40, 2) := by decide +kernel
theorem dX1_note_6 : decode cX1_note 6 = .ok (.if_icmp .lt 7, 3) := by decide +kernel
theorem dX1_note_9 : decode cX1_note 9 = .ok (.aload_n 0, 1) := by decide +kernel
theorem dX1_note_10 : decode cX1_note 10 = .ok (.invokevirtual 28, 3) := by decide +kernel
theorem dX1_note_13 : decode cX1_note 13 = .ok (.aload_n 0, 1) := by decide +kernel
theorem dX1_note_14 : decode cX1_note 14 = .ok (.getfield 9, 3) := by decide +kernel
theorem dX1_note_17 : decode cX1_note 17 = .ok (.aload_n 0, 1) := by decide +kernel
theorem dX1_note_18 : decode cX1_note 18 = .ok (.getfield 24, 3) := by decide +kernel
theorem dX1_note_21 : decode cX1_note 21 = .ok (.iload_n 1, 1) := by decide +kernel
theorem dX1_note_22 : decode cX1_note 22 = .ok (.iastore, 1) := by decide +kernel
theorem dX1_note_23 : decode cX1_note 23 = .ok (.aload_n 0, 1) := by decide +kernel
theorem dX1_note_24 : decode cX1_note 24 = .ok (.getfield 15, 3) := by decide +kernel
theorem dX1_note_27 : decode cX1_note 27 = .ok (.aload_n 0, 1) := by decide +kernel
theorem dX1_note_28 : decode cX1_note 28 = .ok (.getfield 24, 3) := by decide +kernel
theorem dX1_note_31 : decode cX1_note 31 = .ok (.iload_n 2, 1) := by decide +kernel
theorem dX1_note_32 : decode cX1_note 32 = .ok (.iastore, 1) := by decide +kernel
theorem dX1_note_33 : decode cX1_note 33 = .ok (.aload_n 0, 1) := by decide +kernel
theorem dX1_note_34 : decode cX1_note 34 = .ok (.getfield 18, 3) := by decide +kernel
theorem dX1_note_37 : decode cX1_note 37 = .ok (.aload_n 0, 1) := by decide +kernel
theorem dX1_note_38 : decode cX1_note 38 = .ok (.getfield 24, 3) := by decide +kernel
theorem dX1_note_41 : decode cX1_note 41 = .ok (.iload_n 3, 1) := by decide +kernel
theorem dX1_note_42 : decode cX1_note 42 = .ok (.iastore, 1) := by decide +kernel
theorem dX1_note_43 : decode cX1_note 43 = .ok (.aload_n 0, 1) := by decide +kernel
theorem dX1_note_44 : decode cX1_note 44 = .ok (.getfield 21, 3) := by decide +kernel
theorem dX1_note_47 : decode cX1_note 47 = .ok (.aload_n 0, 1) := by decide +kernel
theorem dX1_note_48 : decode cX1_note 48 = .ok (.getfield 24, 3) := by decide +kernel
theorem dX1_note_51 : decode cX1_note 51 = .ok (.iload 4, 2) := by decide +kernel
theorem dX1_note_53 : decode cX1_note 53 = .ok (.iastore, 1) := by decide +kernel
theorem dX1_note_54 : decode cX1_note 54 = .ok (.aload_n 0, 1) := by decide +kernel
theorem dX1_note_55 : decode cX1_note 55 = .ok (.dup, 1) := by decide +kernel
theorem dX1_note_56 : decode cX1_note 56 = .ok (.getfield 24, 3) := by decide +kernel
theorem dX1_note_59 : decode cX1_note 59 = .ok (.iconst 1, 1) := by decide +kernel
theorem dX1_note_60 : decode cX1_note 60 = .ok (.iadd, 1) := by decide +kernel
theorem dX1_note_61 : decode cX1_note 61 = .ok (.putfield 24, 3) := by decide +kernel
theorem dX1_note_64 : decode cX1_note 64 = .ok (.aload_n 0, 1) := by decide +kernel
theorem dX1_note_65 : decode cX1_note 65 = .ok (.iconst 0, 1) := by decide +kernel
theorem dX1_note_66 : decode cX1_note 66 = .ok (.putfield 31, 3) := by decide +kernel
theorem dX1_note_69 : decode cX1_note 69 = .ok (.return_, 1) := by decide +kernel
theorem dX1_forgetOldest_0 : decode cX1_forgetOldest 0 = .ok (.aload_n 0, 1) := by decide +kernel
theorem dX1_forgetOldest_1 : decode cX1_forgetOldest 1 = .ok (.bipush 39, 2) := by decide +kernel
theorem dX1_forgetOldest_3 : decode cX1_forgetOldest 3 = .ok (.putfield 24, 3) := by decide +kernel
theorem dX1_forgetOldest_6 : decode cX1_forgetOldest 6 = .ok (.aload_n 0, 1) := by decide +kernel
theorem dX1_forgetOldest_7 : decode cX1_forgetOldest 7 = .ok (.getfield 9, 3) := by decide +kernel
theorem dX1_forgetOldest_10 : decode cX1_forgetOldest 10 = .ok (.iconst 1, 1) := by decide +kernel
theorem dX1_forgetOldest_11 : decode cX1_forgetOldest 11 = .ok (.aload_n 0, 1) := by decide +kernel
theorem dX1_forgetOldest_12 : decode cX1_forgetOldest 12 = .ok (.getfield 9, 3) := by decide +kernel
theorem dX1_forgetOldest_15 : decode cX1_forgetOldest 15 = .ok (.iconst 0, 1) := by decide +kernel
theorem dX1_forgetOldest_16 : decode cX1_forgetOldest 16 = .ok (.aload_n 0, 1) := by decide +kernel
theorem dX1_forgetOldest_17 : decode cX1_forgetOldest 17 = .ok (.getfield 24, 3) := by decide +kernel
theorem dX1_forgetOldest_20 : decode cX1_forgetOldest 20 = .ok (.invokestatic 34, 3) := by decide +kernel
theorem dX1_forgetOldest_23 : decode cX1_forgetOldest 23 = .ok (.aload_n 0, 1) := by decide +kernel
theorem dX1_forgetOldest_24 : decode cX1_forgetOldest 24 = .ok (.getfield 15, 3) := by decide +kernel
theorem dX1_forgetOldest_27 : decode cX1_forgetOldest 27 = .ok (.iconst 1, 1) := by decide +kernel
theorem dX1_forgetOldest_28 : decode cX1_forgetOldest 28 = .ok (.aload_n 0, 1) := by decide +kernel
theorem dX1_forgetOldest_29 : decode cX1_forgetOldest 29 = .ok (.getfield 15, 3) := by decide +kernel
theorem dX1_forgetOldest_32 : decode cX1_forgetOldest 32 = .ok (.iconst 0, 1) := by decide +kernel
theorem dX1_forgetOldest_33 : decode cX1_forgetOldest 33 = .ok (.aload_n 0, 1) := by decide +kernel
theorem dX1_forgetOldest_34 : decode cX1_forgetOldest 34 = .ok (.getfield 24, 3) := by decide +kernel
theorem dX1_forgetOldest_37 : decode cX1_forgetOldest 37 = .ok (.invokestatic 34, 3) := by decide +kernel
theorem dX1_forgetOldest_40 : decode cX1_forgetOldest 40 = .ok (.aload_n 0, 1) := by decide +kernel
theorem dX1_forgetOldest_41 : decode cX1_forgetOldest 41 = .ok (.getfield 18, 3) := by decide +kernel
theorem dX1_forgetOldest_44 : decode cX1_forgetOldest 44 = .ok (.iconst 1, 1) := by decide +kernel
theorem dX1_forgetOldest_45 : decode cX1_forgetOldest 45 = .ok (.aload_n 0, 1) := by decide +kernel
theorem dX1_forgetOldest_46 : decode cX1_forgetOldest 46 = .ok (.getfield 18, 3) := by decide +kernel
theorem dX1_forgetOldest_49 : decode cX1_forgetOldest 49 = .ok (.iconst 0, 1) := by decide +kernel
theorem dX1_forgetOldest_50 : decode cX1_forgetOldest 50 = .ok (.aload_n 0, 1) := by decide +kernel
theorem dX1_forgetOldest_51 : decode cX1_forgetOldest 51 = .ok (.getfield 24, 3) := by decide +kernel
theorem dX1_forgetOldest_54 : decode cX1_forgetOldest 54 = .ok (.invokestatic 34, 3) := by decide +kernel
theorem dX1_forgetOldest_57 : decode cX1_forgetOldest 57 = .ok (.aload_n 0, 1) := by decide +kernel
theorem dX1_forgetOldest_58 : decode cX1_forgetOldest 58 = .ok (.getfield 21, 3) := by decide +kernel
theorem dX1_forgetOldest_61 : decode cX1_forgetOldest 61 = .ok (.iconst 1, 1) := by decide +kernel
theorem dX1_forgetOldest_62 : decode cX1_forgetOldest 62 = .ok (.aload_n 0, 1) := by decide +kernel
theorem dX1_forgetOldest_63 : decode cX1_forgetOldest 63 = .ok (.getfield 21, 3) := by decide +kernel
theorem dX1_forgetOldest_66 : decode cX1_forgetOldest 66 = .ok (.iconst 0, 1) := by decide +kernel
theorem dX1_forgetOldest_67 : decode cX1_forgetOldest 67 = .ok (.aload_n 0, 1) := by decide +kernel
theorem dX1_forgetOldest_68 : decode cX1_forgetOldest 68 = .ok (.getfield 24, 3) := by decide +kernel
theorem dX1_forgetOldest_71 : decode cX1_forgetOldest 71 = .ok (.invokestatic 34, 3) := by decide +kernel
theorem dX1_forgetOldest_74 : decode cX1_forgetOldest 74 = .ok (.return_, 1) := by decide +kernel
theorem dX2_init_0 : decode cX2_init 0 = .ok (.aload_n 0, 1) := by decide +kernel
theorem dX2_init_1 : decode cX2_init 1 = .ok (.invokespecial 3, 3) := by decide +kernel
theorem dX2_init_4 : decode cX2_init 4 = .ok (.aload_n 0, 1) := by decide +kernel
theorem dX2_init_5 : decode cX2_init 5 = .ok (.bipush 50, 2) := by decide +kernel
theorem dX2_init_7 : decode cX2_init 7 = .ok (.newarray .int, 2) := by decide +kernel
theorem dX2_init_9 : decode cX2_init 9 = .ok (.putfield 9, 3) := by decide +kernel
theorem dX2_init_12 : decode cX2_init 12 = .ok (.aload_n 0, 1) := by decide +kernel
theorem dX2_init_13 : decode cX2_init 13 = .ok (.bipush 24, 2) := by decide +kernel
theorem dX2_init_15 : decode cX2_init 15 = .ok (.newarray .int, 2) := by decide +kernel
theorem dX2_init_17 : decode cX2_init 17 = .ok (.putfield 15, 3) := by decide +kernel
theorem dX2_init_20 : decode cX2_init 20 = .ok (.return_, 1) := by decide +kernel
theorem dX2_isKind_0 : decode cX2_isKind 0 = .ok (.iload_n 0, 1) := by decide +kernel
theorem dX2_isKind_1 : decode cX2_isKind 1 = .ok (.ifCond .lt 15, 3) := by decide +kernel
theorem dX2_isKind_4 : decode cX2_isKind 4 = .ok (.iload_n 0, 1) := by decide +kernel
theorem dX2_isKind_5 : decode cX2_isKind 5 = .ok (.getstatic 18, 3) := by decide +kernel
theorem dX2_isKind_8 : decode cX2_isKind 8 = .ok (.arraylength, 1) := by decide +kernel
theorem dX2_isKind_9 : decode cX2_isKind 9 = .ok (.if_icmp .ge 7, 3) := by decide +kernel
theorem dX2_isKind_12 : decode cX2_isKind 12 = .ok (.iconst 1, 1) := by decide +kernel
theorem dX2_isKind_13 : decode cX2_isKind 13 = .ok (.goto 4, 3) := by decide +kernel
theorem dX2_isKind_16 : decode cX2_isKind 16 = .ok (.iconst 0, 1) := by decide +kernel
theorem dX2_isKind_17 : decode cX2_isKind 17 = .ok (.ireturn, 1) := by decide +kernel
theorem dX2_isUnder_0 : decode cX2_isUnder 0 = .ok (.iload_n 1, 1) := by decide +kernel
theorem dX2_isUnder_1 : decode cX2_isUnder 1 = .ok (.ifCond .lt 11, 3) := by decide +kernel
theorem dX2_isUnder_4 : decode cX2_isUnder 4 = .ok (.iload_n 1, 1) := by decide +kernel
theorem dX2_isUnder_5 : decode cX2_isUnder 5 = .ok (.aload_n 0, 1) := by decide +kernel
theorem dX2_isUnder_6 : decode cX2_isUnder 6 = .ok (.getfield 21, 3) := by decide +kernel
theorem dX2_isUnder_9 : decode cX2_isUnder 9 = .ok (.if_icmp .lt 5, 3) := by decide +kernel
theorem dX2_isUnder_12 : decode cX2_isUnder 12 = .ok (.iconst 0, 1) := by decide +kernel
theorem dX2_isUnder_13 : decode cX2_isUnder 13 = .ok (.ireturn, 1) := by decide +kernel
theorem dX2_isUnder_14 : decode cX2_isUnder 14 = .ok (.aload_n 0, 1) := by decide +kernel
theorem dX2_isUnder_15 : decode cX2_isUnder 15 = .ok (.getfield 9, 3) := by decide +kernel
theorem dX2_isUnder_18 : decode cX2_isUnder 18 = .ok (.iload_n 1, 1) := by decide +kernel
theorem dX2_isUnder_19 : decode cX2_isUnder 19 = .ok (.iaload, 1) := by decide +kernel
theorem dX2_isUnder_20 : decode cX2_isUnder 20 = .ok (.istore_n 3, 1) := by decide +kernel
theorem dX2_isUnder_21 : decode cX2_isUnder 21 = .ok (.iconst 0, 1) := by decide +kernel
theorem dX2_isUnder_22 : decode cX2_isUnder 22 = .ok (.istore 4, 2) := by decide +kernel
theorem dX2_isUnder_24 : decode cX2_isUnder 24 = .ok (.iload 4, 2) := by decide +kernel
theorem dX2_isUnder_26 : decode cX2_isUnder 26 = .ok (.getstatic 18, 3) := by decide +kernel
theorem dX2_isUnder_29 : decode cX2_isUnder 29 = .ok (.arraylength, 1) := by decide +kernel
theorem dX2_isUnder_30 : decode cX2_isUnder 30 = .ok (.if_icmp .ge 27, 3) := by decide +kernel
theorem dX2_isUnder_33 : decode cX2_isUnder 33 = .ok (.iload_n 3, 1) := by decide +kernel
theorem dX2_isUnder_34 : decode cX2_isUnder 34 = .ok (.invokestatic 25, 3) := by decide +kernel
theorem dX2_isUnder_37 : decode cX2_isUnder 37 = .ok (.ifCond .eq 20, 3) := by decide +kernel
theorem dX2_isUnder_40 : decode cX2_isUnder 40 = .ok (.iload_n 3, 1) := by decide +kernel
theorem dX2_isUnder_41 : decode cX2_isUnder 41 = .ok (.iload_n 2, 1) := by decide +kernel
theorem dX2_isUnder_42 : decode cX2_isUnder 42 = .ok (.if_icmp .eq 15, 3) := by decide +kernel
theorem dX2_isUnder_45 : decode cX2_isUnder 45 = .ok (.getstatic 18, 3) := by decide +kernel
theorem dX2_isUnder_48 : decode cX2_isUnder 48 = .ok (.iload_n 3, 1) := by decide +kernel
theorem dX2_isUnder_49 : decode cX2_isUnder 49 = .ok (.iaload, 1) := by decide +kernel
theorem dX2_isUnder_50 : decode cX2_isUnder 50 = .ok (.istore_n 3, 1) := by decide +kernel
theorem dX2_isUnder_51 : decode cX2_isUnder 51 = .ok (.iinc 4 1, 3) := by decide +kernel
theorem dX2_isUnder_54 : decode cX2_isUnder 54 = .ok (.goto (-30), 3) := by decide +kernel
theorem dX2_isUnder_57 : decode cX2_isUnder 57 = .ok (.iload_n 3, 1) := by decide +kernel
theorem dX2_isUnder_58 : decode cX2_isUnder 58 = .ok (.iload_n 2, 1) := by decide +kernel
theorem dX2_isUnder_59 : decode cX2_isUnder 59 = .ok (.if_icmp .ne 7, 3) := by decide +kernel
theorem dX2_isUnder_62 : decode cX2_isUnder 62 = .ok (.iconst 1, 1) := by decide +kernel
theorem dX2_isUnder_63 : decode cX2_isUnder 63 = .ok (.goto 4, 3) := by decide +kernel
theorem dX2_isUnder_66 : decode cX2_isUnder 66 = .ok (.iconst 0, 1) := by decide +kernel
theorem dX2_isUnder_67 : decode cX2_isUnder 67 = .ok (.ireturn, 1) := by decide +kernel
theorem dX2_acts_0 : decode cX2_acts 0 = .ok (.aload_n 0, 1) := by decide +kernel
theorem dX2_acts_1 : decode cX2_acts 1 = .ok (.iconst 0, 1) := by decide +kernel
theorem dX2_acts_2 : decode cX2_acts 2 = .ok (.putfield 29, 3) := by decide +kernel
theorem dX2_acts_5 : decode cX2_acts 5 = .ok (.iload_n 1, 1) := by decide +kernel
theorem dX2_acts_6 : decode cX2_acts 6 = .ok (.ifCond .lt 20, 3) := by decide +kernel
theorem dX2_acts_9 : decode cX2_acts 9 = .ok (.iload_n 1, 1) := by decide +kernel
theorem dX2_acts_10 : decode cX2_acts 10 = .ok (.aload_n 0, 1) := by decide +kernel
theorem dX2_acts_11 : decode cX2_acts 11 = .ok (.getfield 21, 3) := by decide +kernel
theorem dX2_acts_14 : decode cX2_acts 14 = .ok (.if_icmp .ge 12, 3) := by decide +kernel
theorem dX2_acts_17 : decode cX2_acts 17 = .ok (.iload_n 2, 1) := by decide +kernel
theorem dX2_acts_18 : decode cX2_acts 18 = .ok (.ifCond .lt 8, 3) := by decide +kernel
theorem dX2_acts_21 : decode cX2_acts 21 = .ok (.iload_n 2, 1) := by decide +kernel
theorem dX2_acts_22 : decode cX2_acts 22 = .ok (.iconst 4, 1) := by decide +kernel
theorem dX2_acts_23 : decode cX2_acts 23 = .ok (.if_icmp .lt 5, 3) := by decide +kernel
theorem dX2_acts_26 : decode cX2_acts 26 = .ok (.iconst 0, 1) := by decide +kernel
theorem dX2_acts_27 : decode cX2_acts 27 = .ok (.ireturn, 1) := by decide +kernel
theorem dX2_acts_28 : decode cX2_acts 28 = .ok (.aload_n 0, 1) := by decide +kernel
theorem dX2_acts_29 : decode cX2_acts 29 = .ok (.iload_n 1, 1) := by decide +kernel
theorem dX2_acts_30 : decode cX2_acts 30 = .ok (.putfield 32, 3) := by decide +kernel
theorem dX2_acts_33 : decode cX2_acts 33 = .ok (.aload_n 0, 1) := by decide +kernel
theorem dX2_acts_34 : decode cX2_acts 34 = .ok (.iload_n 2, 1) := by decide +kernel
theorem dX2_acts_35 : decode cX2_acts 35 = .ok (.iload_n 3, 1) := by decide +kernel
theorem dX2_acts_36 : decode cX2_acts 36 = .ok (.iconst 0, 1) := by decide +kernel
theorem dX2_acts_37 : decode cX2_acts 37 = .ok (.invokevirtual 35, 3) := by decide +kernel
theorem dX2_acts_40 : decode cX2_acts 40 = .ok (.ireturn, 1) := by decide +kernel
theorem dX2_note_0 : decode cX2_note 0 = .ok (.aload_n 0, 1) := by decide +kernel
theorem dX2_note_1 : decode cX2_note 1 = .ok (.getfield 29, 3) := by decide +kernel
theorem dX2_note_4 : decode cX2_note 4 = .ok (.bipush 24, 2) := by decide +kernel
theorem dX2_note_6 : decode cX2_note 6 = .ok (.if_icmp .ge 13, 3) := by decide +kernel
theorem dX2_note_9 : decode cX2_note 9 = .ok (.aload_n 0, 1) := by decide +kernel
theorem dX2_note_10 : decode cX2_note 10 = .ok (.getfield 15, 3) := by decide +kernel
theorem dX2_note_13 : decode cX2_note 13 = .ok (.aload_n 0, 1) := by decide +kernel
theorem dX2_note_14 : decode cX2_note 14 = .ok (.getfield 29, 3) := by decide +kernel
theorem dX2_note_17 : decode cX2_note 17 = .ok (.iload_n 1, 1) := by decide +kernel
theorem dX2_note_18 : decode cX2_note 18 = .ok (.iastore, 1) := by decide +kernel
theorem dX2_note_19 : decode cX2_note 19 = .ok (.aload_n 0, 1) := by decide +kernel
theorem dX2_note_20 : decode cX2_note 20 = .ok (.dup, 1) := by decide +kernel
theorem dX2_note_21 : decode cX2_note 21 = .ok (.getfield 29, 3) := by decide +kernel
theorem dX2_note_24 : decode cX2_note 24 = .ok (.iconst 1, 1) := by decide +kernel
theorem dX2_note_25 : decode cX2_note 25 = .ok (.iadd, 1) := by decide +kernel
theorem dX2_note_26 : decode cX2_note 26 = .ok (.putfield 29, 3) := by decide +kernel
theorem dX2_note_29 : decode cX2_note 29 = .ok (.return_, 1) := by decide +kernel
theorem dX2_own_0 : decode cX2_own 0 = .ok (.aload_n 0, 1) := by decide +kernel
theorem dX2_own_1 : decode cX2_own 1 = .ok (.aload_n 0, 1) := by decide +kernel
theorem dX2_own_2 : decode cX2_own 2 = .ok (.getfield 9, 3) := by decide +kernel
theorem dX2_own_5 : decode cX2_own 5 = .ok (.aload_n 0, 1) := by decide +kernel
theorem dX2_own_6 : decode cX2_own 6 = .ok (.getfield 32, 3) := by decide +kernel
theorem dX2_own_9 : decode cX2_own 9 = .ok (.iaload, 1) := by decide +kernel
theorem dX2_own_10 : decode cX2_own 10 = .ok (.iload_n 1, 1) := by decide +kernel
theorem dX2_own_11 : decode cX2_own 11 = .ok (.iload_n 2, 1) := by decide +kernel
theorem dX2_own_12 : decode cX2_own 12 = .ok (.iload_n 3, 1) := by decide +kernel
theorem dX2_own_13 : decode cX2_own 13 = .ok (.invokevirtual 39, 3) := by decide +kernel
theorem dX2_own_16 : decode cX2_own 16 = .ok (.ireturn, 1) := by decide +kernel
theorem dX2_runs_0 : decode cX2_runs 0 = .ok (.iload_n 1, 1) := by decide +kernel
theorem dX2_runs_1 : decode cX2_runs 1 = .ok (.istore 5, 2) := by decide +kernel
theorem dX2_runs_3 : decode cX2_runs 3 = .ok (.iconst 0, 1) := by decide +kernel
theorem dX2_runs_4 : decode cX2_runs 4 = .ok (.istore 6, 2) := by decide +kernel
theorem dX2_runs_6 : decode cX2_runs 6 = .ok (.iload 6, 2) := by decide +kernel
theorem dX2_runs_8 : decode cX2_runs 8 = .ok (.getstatic 18, 3) := by decide +kernel
theorem dX2_runs_11 : decode cX2_runs 11 = .ok (.arraylength, 1) := by decide +kernel
theorem dX2_runs_12 : decode cX2_runs 12 = .ok (.if_icmp .ge 38, 3) := by decide +kernel
theorem dX2_runs_15 : decode cX2_runs 15 = .ok (.iload 5, 2) := by decide +kernel
theorem dX2_runs_17 : decode cX2_runs 17 = .ok (.invokestatic 25, 3) := by decide +kernel
theorem dX2_runs_20 : decode cX2_runs 20 = .ok (.ifCond .eq 30, 3) := by decide +kernel
theorem dX2_runs_23 : decode cX2_runs 23 = .ok (.getstatic 43, 3) := by decide +kernel
theorem dX2_runs_26 : decode cX2_runs 26 = .ok (.iconst 4, 1) := by decide +kernel
theorem dX2_runs_27 : decode cX2_runs 27 = .ok (.iload 5, 2) := by decide +kernel
theorem dX2_runs_29 : decode cX2_runs 29 = .ok (.imul, 1) := by decide +kernel
theorem dX2_runs_30 : decode cX2_runs 30 = .ok (.iload_n 2, 1) := by decide +kernel
theorem dX2_runs_31 : decode cX2_runs 31 = .ok (.iadd, 1) := by decide +kernel
theorem dX2_runs_32 : decode cX2_runs 32 = .ok (.iaload, 1) := by decide +kernel
theorem dX2_runs_33 : decode cX2_runs 33 = .ok (.ifCond .ne 17, 3) := by decide +kernel
theorem dX2_runs_36 : decode cX2_runs 36 = .ok (.getstatic 18, 3) := by decide +kernel
theorem dX2_runs_39 : decode cX2_runs 39 = .ok (.iload 5, 2) := by decide +kernel
theorem dX2_runs_41 : decode cX2_runs 41 = .ok (.iaload, 1) := by decide +kernel
theorem dX2_runs_42 : decode cX2_runs 42 = .ok (.istore 5, 2) := by decide +kernel
theorem dX2_runs_44 : decode cX2_runs 44 = .ok (.iinc 6 1, 3) := by decide +kernel
theorem dX2_runs_47 : decode cX2_runs 47 = .ok (.goto (-41), 3) := by decide +kernel
theorem dX2_runs_50 : decode cX2_runs 50 = .ok (.iload 5, 2) := by decide +kernel
theorem dX2_runs_52 : decode cX2_runs 52 = .ok (.invokestatic 25, 3) := by decide +kernel
theorem dX2_runs_55 : decode cX2_runs 55 = .ok (.ifCond .eq 10, 3) := by decide +kernel
theorem dX2_runs_58 : decode cX2_runs 58 = .ok (.iload 4, 2) := by decide +kernel
theorem dX2_runs_60 : decode cX2_runs 60 = .ok (.bipush 40, 2) := by decide +kernel
theorem dX2_runs_62 : decode cX2_runs 62 = .ok (.if_icmp .le 5, 3) := by decide +kernel
theorem dX2_runs_65 : decode cX2_runs 65 = .ok (.iconst 0, 1) := by decide +kernel
theorem dX2_runs_66 : decode cX2_runs 66 = .ok (.ireturn, 1) := by decide +kernel
theorem dX2_runs_67 : decode cX2_runs 67 = .ok (.getstatic 43, 3) := by decide +kernel
theorem dX2_runs_70 : decode cX2_runs 70 = .ok (.iconst 4, 1) := by decide +kernel
theorem dX2_runs_71 : decode cX2_runs 71 = .ok (.iload 5, 2) := by decide +kernel
theorem dX2_runs_73 : decode cX2_runs 73 = .ok (.imul, 1) := by decide +kernel
theorem dX2_runs_74 : decode cX2_runs 74 = .ok (.iload_n 2, 1) := by decide +kernel
theorem dX2_runs_75 : decode cX2_runs 75 = .ok (.iadd, 1) := by decide +kernel
theorem dX2_runs_76 : decode cX2_runs 76 = .ok (.iaload, 1) := by decide +kernel
theorem dX2_runs_77 : decode cX2_runs 77 = .ok (.istore 6, 2) := by decide +kernel
theorem dX2_runs_79 : decode cX2_runs 79 = .ok (.aload_n 0, 1) := by decide +kernel
theorem dX2_runs_80 : decode cX2_runs 80 = .ok (.iload 6, 2) := by decide +kernel
theorem dX2_runs_82 : decode cX2_runs 82 = .ok (.invokevirtual 46, 3) := by decide +kernel
theorem dX2_runs_85 : decode cX2_runs 85 = .ok (.iload 5, 2) := by decide +kernel
theorem dX2_runs_87 : decode cX2_runs 87 = .ok (.ifCond .ne 17, 3) := by decide +kernel
theorem dX2_runs_90 : decode cX2_runs 90 = .ok (.aload_n 0, 1) := by decide +kernel
theorem dX2_runs_91 : decode cX2_runs 91 = .ok (.iload 6, 2) := by decide +kernel
theorem dX2_runs_93 : decode cX2_runs 93 = .ok (.iload_n 3, 1) := by decide +kernel
theorem dX2_runs_94 : decode cX2_runs 94 = .ok (.iload 4, 2) := by decide +kernel
theorem dX2_runs_96 : decode cX2_runs 96 = .ok (.iconst 1, 1) := by decide +kernel
theorem dX2_runs_97 : decode cX2_runs 97 = .ok (.iadd, 1) := by decide +kernel
theorem dX2_runs_98 : decode cX2_runs 98 = .ok (.invokevirtual 50, 3) := by decide +kernel
theorem dX2_runs_101 : decode cX2_runs 101 = .ok (.goto 20, 3) := by decide +kernel
theorem dX2_runs_104 : decode cX2_runs 104 = .ok (.aload_n 0, 1) := by decide +kernel
theorem dX2_runs_105 : decode cX2_runs 105 = .ok (.iload 6, 2) := by decide +kernel
theorem dX2_runs_107 : decode cX2_runs 107 = .ok (.getstatic 18, 3) := by decide +kernel
theorem dX2_runs_110 : decode cX2_runs 110 = .ok (.iload 5, 2) := by decide +kernel
theorem dX2_runs_112 : decode cX2_runs 112 = .ok (.iaload, 1) := by decide +kernel
theorem dX2_runs_113 : decode cX2_runs 113 = .ok (.iload_n 3, 1) := by decide +kernel
theorem dX2_runs_114 : decode cX2_runs 114 = .ok (.iload 4, 2) := by decide +kernel
theorem dX2_runs_116 : decode cX2_runs 116 = .ok (.iconst 1, 1) := by decide +kernel
theorem dX2_runs_117 : decode cX2_runs 117 = .ok (.iadd, 1) := by decide +kernel
theorem dX2_runs_118 : decode cX2_runs 118 = .ok (.invokevirtual 53, 3) := by decide +kernel
theorem dX2_runs_121 : decode cX2_runs 121 = .ok (.ireturn, 1) := by decide +kernel
theorem dX2_ofHole_0 : decode cX2_ofHole 0 = .ok (.iload_n 1, 1) := by decide +kernel
theorem dX2_ofHole_1 : decode cX2_ofHole 1 = .ok (.lookupswitch 83 #[(1, 43), (2, 67), (10, 50), (11, 60)], 43) := by decide +kernel
theorem dX2_ofHole_44 : decode cX2_ofHole 44 = .ok (.iload_n 2, 1) := by decide +kernel
theorem dX2_ofHole_45 : decode cX2_ofHole 45 = .ok (.aload_n 0, 1) := by decide +kernel
theorem dX2_ofHole_46 : decode cX2_ofHole 46 = .ok (.getfield 32, 3) := by decide +kernel
theorem dX2_ofHole_49 : decode cX2_ofHole 49 = .ok (.iadd, 1) := by decide +kernel
theorem dX2_ofHole_50 : decode cX2_ofHole 50 = .ok (.ireturn, 1) := by decide +kernel
theorem dX2_ofHole_51 : decode cX2_ofHole 51 = .ok (.aload_n 0, 1) := by decide +kernel
theorem dX2_ofHole_52 : decode cX2_ofHole 52 = .ok (.iconst 0, 1) := by decide +kernel
theorem dX2_ofHole_53 : decode cX2_ofHole 53 = .ok (.iload_n 2, 1) := by decide +kernel
theorem dX2_ofHole_54 : decode cX2_ofHole 54 = .ok (.iload_n 3, 1) := by decide +kernel
theorem dX2_ofHole_55 : decode cX2_ofHole 55 = .ok (.invokevirtual 35, 3) := by decide +kernel
theorem dX2_ofHole_58 : decode cX2_ofHole 58 = .ok (.iconst 2, 1) := by decide +kernel
theorem dX2_ofHole_59 : decode cX2_ofHole 59 = .ok (.imul, 1) := by decide +kernel
theorem dX2_ofHole_60 : decode cX2_ofHole 60 = .ok (.ireturn, 1) := by decide +kernel
theorem dX2_ofHole_61 : decode cX2_ofHole 61 = .ok (.iload_n 2, 1) := by decide +kernel
theorem dX2_ofHole_62 : decode cX2_ofHole 62 = .ok (.aload_n 0, 1) := by decide +kernel
theorem dX2_ofHole_63 : decode cX2_ofHole 63 = .ok (.getfield 32, 3) := by decide +kernel
theorem dX2_ofHole_66 : decode cX2_ofHole 66 = .ok (.ixor, 1) := by decide +kernel
theorem dX2_ofHole_67 : decode cX2_ofHole 67 = .ok (.ireturn, 1) := by decide +kernel
theorem dX2_ofHole_68 : decode cX2_ofHole 68 = .ok (.aload_n 0, 1) := by decide +kernel
theorem dX2_ofHole_69 : decode cX2_ofHole 69 = .ok (.iconst 1, 1) := by decide +kernel
theorem dX2_ofHole_70 : decode cX2_ofHole 70 = .ok (.iload_n 2, 1) := by decide +kernel
theorem dX2_ofHole_71 : decode cX2_ofHole 71 = .ok (.iload_n 3, 1) := by decide +kernel
theorem dX2_ofHole_72 : decode cX2_ofHole 72 = .ok (.invokevirtual 35, 3) := by decide +kernel
theorem dX2_ofHole_75 : decode cX2_ofHole 75 = .ok (.aload_n 0, 1) := by decide +kernel
theorem dX2_ofHole_76 : decode cX2_ofHole 76 = .ok (.iconst 2, 1) := by decide +kernel
theorem dX2_ofHole_77 : decode cX2_ofHole 77 = .ok (.iconst 1, 1) := by decide +kernel
theorem dX2_ofHole_78 : decode cX2_ofHole 78 = .ok (.iload_n 3, 1) := by decide +kernel
theorem dX2_ofHole_79 : decode cX2_ofHole 79 = .ok (.invokevirtual 35, 3) := by decide +kernel
theorem dX2_ofHole_82 : decode cX2_ofHole 82 = .ok (.isub, 1) := by decide +kernel
theorem dX2_ofHole_83 : decode cX2_ofHole 83 = .ok (.ireturn, 1) := by decide +kernel
theorem dX2_ofHole_84 : decode cX2_ofHole 84 = .ok (.iconst 0, 1) := by decide +kernel
theorem dX2_ofHole_85 : decode cX2_ofHole 85 = .ok (.ireturn, 1) := by decide +kernel
theorem dX2_ofUnder_0 : decode cX2_ofUnder 0 = .ok (.iload_n 1, 1) := by decide +kernel
theorem dX2_ofUnder_1 : decode cX2_ofUnder 1 = .ok (.lookupswitch 204 #[(20, 83), (30, 95), (40, 106), (41, 118), (50, 130), (60, 149), (70, 161), (80, 173), (81, 192)], 83) := by decide +kernel
theorem dX2_ofUnder_84 : decode cX2_ofUnder 84 = .ok (.aload_n 0, 1) := by decide +kernel
theorem dX2_ofUnder_85 : decode cX2_ofUnder 85 = .ok (.iload_n 2, 1) := by decide +kernel
theorem dX2_ofUnder_86 : decode cX2_ofUnder 86 = .ok (.iconst 0, 1) := by decide +kernel
theorem dX2_ofUnder_87 : decode cX2_ofUnder 87 = .ok (.iload_n 3, 1) := by decide +kernel
theorem dX2_ofUnder_88 : decode cX2_ofUnder 88 = .ok (.iload 4, 2) := by decide +kernel
theorem dX2_ofUnder_90 : decode cX2_ofUnder 90 = .ok (.invokevirtual 39, 3) := by decide +kernel
theorem dX2_ofUnder_93 : decode cX2_ofUnder 93 = .ok (.iconst 3, 1) := by decide +kernel
theorem dX2_ofUnder_94 : decode cX2_ofUnder 94 = .ok (.iadd, 1) := by decide +kernel
theorem dX2_ofUnder_95 : decode cX2_ofUnder 95 = .ok (.ireturn, 1) := by decide +kernel
theorem dX2_ofUnder_96 : decode cX2_ofUnder 96 = .ok (.aload_n 0, 1) := by decide +kernel
theorem dX2_ofUnder_97 : decode cX2_ofUnder 97 = .ok (.iload_n 2, 1) := by decide +kernel
theorem dX2_ofUnder_98 : decode cX2_ofUnder 98 = .ok (.iconst 1, 1) := by decide +kernel
theorem dX2_ofUnder_99 : decode cX2_ofUnder 99 = .ok (.iload_n 3, 1) := by decide +kernel
theorem dX2_ofUnder_100 : decode cX2_ofUnder 100 = .ok (.iload 4, 2) := by decide +kernel
theorem dX2_ofUnder_102 : decode cX2_ofUnder 102 = .ok (.invokevirtual 39, 3) := by decide +kernel
theorem dX2_ofUnder_105 : decode cX2_ofUnder 105 = .ok (.ineg, 1) := by decide +kernel
theorem dX2_ofUnder_106 : decode cX2_ofUnder 106 = .ok (.ireturn, 1) := by decide +kernel
theorem dX2_ofUnder_107 : decode cX2_ofUnder 107 = .ok (.aload_n 0, 1) := by decide +kernel
theorem dX2_ofUnder_108 : decode cX2_ofUnder 108 = .ok (.iload_n 2, 1) := by decide +kernel
theorem dX2_ofUnder_109 : decode cX2_ofUnder 109 = .ok (.iconst 2, 1) := by decide +kernel
theorem dX2_ofUnder_110 : decode cX2_ofUnder 110 = .ok (.iload_n 3, 1) := by decide +kernel
theorem dX2_ofUnder_111 : decode cX2_ofUnder 111 = .ok (.iload 4, 2) := by decide +kernel
theorem dX2_ofUnder_113 : decode cX2_ofUnder 113 = .ok (.invokevirtual 39, 3) := by decide +kernel
theorem dX2_ofUnder_116 : decode cX2_ofUnder 116 = .ok (.iconst 3, 1) := by decide +kernel
theorem dX2_ofUnder_117 : decode cX2_ofUnder 117 = .ok (.imul, 1) := by decide +kernel
theorem dX2_ofUnder_118 : decode cX2_ofUnder 118 = .ok (.ireturn, 1) := by decide +kernel
theorem dX2_ofUnder_119 : decode cX2_ofUnder 119 = .ok (.aload_n 0, 1) := by decide +kernel
theorem dX2_ofUnder_120 : decode cX2_ofUnder 120 = .ok (.iload_n 2, 1) := by decide +kernel
theorem dX2_ofUnder_121 : decode cX2_ofUnder 121 = .ok (.iconst 1, 1) := by decide +kernel
theorem dX2_ofUnder_122 : decode cX2_ofUnder 122 = .ok (.iload_n 3, 1) := by decide +kernel
theorem dX2_ofUnder_123 : decode cX2_ofUnder 123 = .ok (.iconst 1, 1) := by decide +kernel
theorem dX2_ofUnder_124 : decode cX2_ofUnder 124 = .ok (.iadd, 1) := by decide +kernel
theorem dX2_ofUnder_125 : decode cX2_ofUnder 125 = .ok (.iload 4, 2) := by decide +kernel
theorem dX2_ofUnder_127 : decode cX2_ofUnder 127 = .ok (.invokevirtual 39, 3) := by decide +kernel
theorem dX2_ofUnder_130 : decode cX2_ofUnder 130 = .ok (.ireturn, 1) := by decide +kernel
theorem dX2_ofUnder_131 : decode cX2_ofUnder 131 = .ok (.aload_n 0, 1) := by decide +kernel
theorem dX2_ofUnder_132 : decode cX2_ofUnder 132 = .ok (.iload_n 2, 1) := by decide +kernel
theorem dX2_ofUnder_133 : decode cX2_ofUnder 133 = .ok (.iconst 2, 1) := by decide +kernel
theorem dX2_ofUnder_134 : decode cX2_ofUnder 134 = .ok (.iload_n 3, 1) := by decide +kernel
theorem dX2_ofUnder_135 : decode cX2_ofUnder 135 = .ok (.iload 4, 2) := by decide +kernel
theorem dX2_ofUnder_137 : decode cX2_ofUnder 137 = .ok (.invokevirtual 39, 3) := by decide +kernel
theorem dX2_ofUnder_140 : decode cX2_ofUnder 140 = .ok (.aload_n 0, 1) := by decide +kernel
theorem dX2_ofUnder_141 : decode cX2_ofUnder 141 = .ok (.iconst 0, 1) := by decide +kernel
theorem dX2_ofUnder_142 : decode cX2_ofUnder 142 = .ok (.iconst 2, 1) := by decide +kernel
theorem dX2_ofUnder_143 : decode cX2_ofUnder 143 = .ok (.iload 4, 2) := by decide +kernel
theorem dX2_ofUnder_145 : decode cX2_ofUnder 145 = .ok (.invokevirtual 35, 3) := by decide +kernel
theorem dX2_ofUnder_148 : decode cX2_ofUnder 148 = .ok (.isub, 1) := by decide +kernel
theorem dX2_ofUnder_149 : decode cX2_ofUnder 149 = .ok (.ireturn, 1) := by decide +kernel
theorem dX2_ofUnder_150 : decode cX2_ofUnder 150 = .ok (.aload_n 0, 1) := by decide +kernel
theorem dX2_ofUnder_151 : decode cX2_ofUnder 151 = .ok (.iload_n 2, 1) := by decide +kernel
theorem dX2_ofUnder_152 : decode cX2_ofUnder 152 = .ok (.iconst 3, 1) := by decide +kernel
theorem dX2_ofUnder_153 : decode cX2_ofUnder 153 = .ok (.iload_n 3, 1) := by decide +kernel
theorem dX2_ofUnder_154 : decode cX2_ofUnder 154 = .ok (.iload 4, 2) := by decide +kernel
theorem dX2_ofUnder_156 : decode cX2_ofUnder 156 = .ok (.invokevirtual 39, 3) := by decide +kernel
theorem dX2_ofUnder_159 : decode cX2_ofUnder 159 = .ok (.iconst 5, 1) := by decide +kernel
theorem dX2_ofUnder_160 : decode cX2_ofUnder 160 = .ok (.ixor, 1) := by decide +kernel
theorem dX2_ofUnder_161 : decode cX2_ofUnder 161 = .ok (.ireturn, 1) := by decide +kernel
theorem dX2_ofUnder_162 : decode cX2_ofUnder 162 = .ok (.aload_n 0, 1) := by decide +kernel
theorem dX2_ofUnder_163 : decode cX2_ofUnder 163 = .ok (.iload_n 2, 1) := by decide +kernel
theorem dX2_ofUnder_164 : decode cX2_ofUnder 164 = .ok (.iconst 0, 1) := by decide +kernel
theorem dX2_ofUnder_165 : decode cX2_ofUnder 165 = .ok (.iload_n 3, 1) := by decide +kernel
theorem dX2_ofUnder_166 : decode cX2_ofUnder 166 = .ok (.iload 4, 2) := by decide +kernel
theorem dX2_ofUnder_168 : decode cX2_ofUnder 168 = .ok (.invokevirtual 39, 3) := by decide +kernel
theorem dX2_ofUnder_171 : decode cX2_ofUnder 171 = .ok (.iconst 2, 1) := by decide +kernel
theorem dX2_ofUnder_172 : decode cX2_ofUnder 172 = .ok (.imul, 1) := by decide +kernel
theorem dX2_ofUnder_173 : decode cX2_ofUnder 173 = .ok (.ireturn, 1) := by decide +kernel
theorem dX2_ofUnder_174 : decode cX2_ofUnder 174 = .ok (.aload_n 0, 1) := by decide +kernel
theorem dX2_ofUnder_175 : decode cX2_ofUnder 175 = .ok (.iload_n 2, 1) := by decide +kernel
theorem dX2_ofUnder_176 : decode cX2_ofUnder 176 = .ok (.iconst 1, 1) := by decide +kernel
theorem dX2_ofUnder_177 : decode cX2_ofUnder 177 = .ok (.iload_n 3, 1) := by decide +kernel
theorem dX2_ofUnder_178 : decode cX2_ofUnder 178 = .ok (.iload 4, 2) := by decide +kernel
theorem dX2_ofUnder_180 : decode cX2_ofUnder 180 = .ok (.invokevirtual 39, 3) := by decide +kernel
theorem dX2_ofUnder_183 : decode cX2_ofUnder 183 = .ok (.aload_n 0, 1) := by decide +kernel
theorem dX2_ofUnder_184 : decode cX2_ofUnder 184 = .ok (.iconst 2, 1) := by decide +kernel
theorem dX2_ofUnder_185 : decode cX2_ofUnder 185 = .ok (.iconst 2, 1) := by decide +kernel
theorem dX2_ofUnder_186 : decode cX2_ofUnder 186 = .ok (.iload 4, 2) := by decide +kernel
theorem dX2_ofUnder_188 : decode cX2_ofUnder 188 = .ok (.invokevirtual 35, 3) := by decide +kernel
theorem dX2_ofUnder_191 : decode cX2_ofUnder 191 = .ok (.iadd, 1) := by decide +kernel
theorem dX2_ofUnder_192 : decode cX2_ofUnder 192 = .ok (.ireturn, 1) := by decide +kernel
theorem dX2_ofUnder_193 : decode cX2_ofUnder 193 = .ok (.aload_n 0, 1) := by decide +kernel
theorem dX2_ofUnder_194 : decode cX2_ofUnder 194 = .ok (.iload_n 2, 1) := by decide +kernel
theorem dX2_ofUnder_195 : decode cX2_ofUnder 195 = .ok (.iconst 3, 1) := by decide +kernel
theorem dX2_ofUnder_196 : decode cX2_ofUnder 196 = .ok (.iload_n 3, 1) := by decide +kernel
theorem dX2_ofUnder_197 : decode cX2_ofUnder 197 = .ok (.iload 4, 2) := by decide +kernel
theorem dX2_ofUnder_199 : decode cX2_ofUnder 199 = .ok (.invokevirtual 39, 3) := by decide +kernel
theorem dX2_ofUnder_202 : decode cX2_ofUnder 202 = .ok (.iconst 1, 1) := by decide +kernel
theorem dX2_ofUnder_203 : decode cX2_ofUnder 203 = .ok (.isub, 1) := by decide +kernel
theorem dX2_ofUnder_204 : decode cX2_ofUnder 204 = .ok (.ireturn, 1) := by decide +kernel
theorem dX2_ofUnder_205 : decode cX2_ofUnder 205 = .ok (.iconst 0, 1) := by decide +kernel
theorem dX2_ofUnder_206 : decode cX2_ofUnder 206 = .ok (.ireturn, 1) := by decide +kernel
theorem dX3_init_0 : decode cX3_init 0 = .ok (.aload_n 0, 1) := by decide +kernel
theorem dX3_init_1 : decode cX3_init 1 = .ok (.invokespecial 3, 3) := by decide +kernel
theorem dX3_init_4 : decode cX3_init 4 = .ok (.aload_n 0, 1) := by decide +kernel
theorem dX3_init_5 : decode cX3_init 5 = .ok (.bipush 121, 2) := by decide +kernel
theorem dX3_init_7 : decode cX3_init 7 = .ok (.newarray .int, 2) := by decide +kernel
theorem dX3_init_9 : decode cX3_init 9 = .ok (.putfield 9, 3) := by decide +kernel
theorem dX3_init_12 : decode cX3_init 12 = .ok (.aload_n 0, 1) := by decide +kernel
theorem dX3_init_13 : decode cX3_init 13 = .ok (.bipush 121, 2) := by decide +kernel
theorem dX3_init_15 : decode cX3_init 15 = .ok (.newarray .int, 2) := by decide +kernel
theorem dX3_init_17 : decode cX3_init 17 = .ok (.putfield 15, 3) := by decide +kernel
theorem dX3_init_20 : decode cX3_init 20 = .ok (.aload_n 0, 1) := by decide +kernel
theorem dX3_init_21 : decode cX3_init 21 = .ok (.bipush 40, 2) := by decide +kernel
theorem dX3_init_23 : decode cX3_init 23 = .ok (.newarray .int, 2) := by decide +kernel
theorem dX3_init_25 : decode cX3_init 25 = .ok (.putfield 18, 3) := by decide +kernel
theorem dX3_init_28 : decode cX3_init 28 = .ok (.aload_n 0, 1) := by decide +kernel
theorem dX3_init_29 : decode cX3_init 29 = .ok (.bipush 6, 2) := by decide +kernel
theorem dX3_init_31 : decode cX3_init 31 = .ok (.newarray .int, 2) := by decide +kernel
theorem dX3_init_33 : decode cX3_init 33 = .ok (.putfield 21, 3) := by decide +kernel
theorem dX3_init_36 : decode cX3_init 36 = .ok (.aload_n 0, 1) := by decide +kernel
theorem dX3_init_37 : decode cX3_init 37 = .ok (.bipush 120, 2) := by decide +kernel
theorem dX3_init_39 : decode cX3_init 39 = .ok (.newarray .int, 2) := by decide +kernel
theorem dX3_init_41 : decode cX3_init 41 = .ok (.putfield 24, 3) := by decide +kernel
theorem dX3_init_44 : decode cX3_init 44 = .ok (.return_, 1) := by decide +kernel
theorem dX3_isTold_0 : decode cX3_isTold 0 = .ok (.aload_n 0, 1) := by decide +kernel
theorem dX3_isTold_1 : decode cX3_isTold 1 = .ok (.getfield 27, 3) := by decide +kernel
theorem dX3_isTold_4 : decode cX3_isTold 4 = .ok (.ifCond .le 7, 3) := by decide +kernel
theorem dX3_isTold_7 : decode cX3_isTold 7 = .ok (.iconst 1, 1) := by decide +kernel
theorem dX3_isTold_8 : decode cX3_isTold 8 = .ok (.goto 4, 3) := by decide +kernel
theorem dX3_isTold_11 : decode cX3_isTold 11 = .ok (.iconst 0, 1) := by decide +kernel
theorem dX3_isTold_12 : decode cX3_isTold 12 = .ok (.ireturn, 1) := by decide +kernel
theorem dX3_faultOfText_0 : decode cX3_faultOfText 0 = .ok (.aload_n 0, 1) := by decide +kernel
theorem dX3_faultOfText_1 : decode cX3_faultOfText 1 = .ok (.iconst 0, 1) := by decide +kernel
theorem dX3_faultOfText_2 : decode cX3_faultOfText 2 = .ok (.putfield 31, 3) := by decide +kernel
theorem dX3_faultOfText_5 : decode cX3_faultOfText 5 = .ok (.aload_n 0, 1) := by decide +kernel
theorem dX3_faultOfText_6 : decode cX3_faultOfText 6 = .ok (.iconst 0, 1) := by decide +kernel
theorem dX3_faultOfText_7 : decode cX3_faultOfText 7 = .ok (.putfield 27, 3) := by decide +kernel
theorem dX3_faultOfText_10 : decode cX3_faultOfText 10 = .ok (.iconst 1, 1) := by decide +kernel
theorem dX3_faultOfText_11 : decode cX3_faultOfText 11 = .ok (.istore_n 1, 1) := by decide +kernel
theorem dX3_faultOfText_12 : decode cX3_faultOfText 12 = .ok (.iconst 0, 1) := by decide +kernel
theorem dX3_faultOfText_13 : decode cX3_faultOfText 13 = .ok (.istore_n 2, 1) := by decide +kernel
theorem dX3_faultOfText_14 : decode cX3_faultOfText 14 = .ok (.iload_n 2, 1) := by decide +kernel
theorem dX3_faultOfText_15 : decode cX3_faultOfText 15 = .ok (.aload_n 0, 1) := by decide +kernel
theorem dX3_faultOfText_16 : decode cX3_faultOfText 16 = .ok (.getfield 34, 3) := by decide +kernel
theorem dX3_faultOfText_19 : decode cX3_faultOfText 19 = .ok (.if_icmp .gt 54, 3) := by decide +kernel
theorem dX3_faultOfText_22 : decode cX3_faultOfText 22 = .ok (.iload_n 1, 1) := by decide +kernel
theorem dX3_faultOfText_23 : decode cX3_faultOfText 23 = .ok (.ifCond .eq 50, 3) := by decide +kernel
theorem dX3_faultOfText_26 : decode cX3_faultOfText 26 = .ok (.aload_n 0, 1) := by decide +kernel
theorem dX3_faultOfText_27 : decode cX3_faultOfText 27 = .ok (.invokevirtual 37, 3) := by decide +kernel
theorem dX3_faultOfText_30 : decode cX3_faultOfText 30 = .ok (.ifCond .ne 8, 3) := by decide +kernel
theorem dX3_faultOfText_33 : decode cX3_faultOfText 33 = .ok (.aload_n 0, 1) := by decide +kernel
theorem dX3_faultOfText_34 : decode cX3_faultOfText 34 = .ok (.getfield 31, 3) := by decide +kernel
theorem dX3_faultOfText_37 : decode cX3_faultOfText 37 = .ok (.ireturn, 1) := by decide +kernel
theorem dX3_faultOfText_38 : decode cX3_faultOfText 38 = .ok (.aload_n 0, 1) := by decide +kernel
theorem dX3_faultOfText_39 : decode cX3_faultOfText 39 = .ok (.invokevirtual 41, 3) := by decide +kernel
theorem dX3_faultOfText_42 : decode cX3_faultOfText 42 = .ok (.bipush 59, 2) := by decide +kernel
theorem dX3_faultOfText_44 : decode cX3_faultOfText 44 = .ok (.if_icmp .ne 7, 3) := by decide +kernel
theorem dX3_faultOfText_47 : decode cX3_faultOfText 47 = .ok (.iconst 1, 1) := by decide +kernel
theorem dX3_faultOfText_48 : decode cX3_faultOfText 48 = .ok (.goto 4, 3) := by decide +kernel
theorem dX3_faultOfText_51 : decode cX3_faultOfText 51 = .ok (.iconst 0, 1) := by decide +kernel
theorem dX3_faultOfText_52 : decode cX3_faultOfText 52 = .ok (.istore_n 1, 1) := by decide +kernel
theorem dX3_faultOfText_53 : decode cX3_faultOfText 53 = .ok (.iload_n 1, 1) := by decide +kernel
theorem dX3_faultOfText_54 : decode cX3_faultOfText 54 = .ok (.ifCond .eq 13, 3) := by decide +kernel
theorem dX3_faultOfText_57 : decode cX3_faultOfText 57 = .ok (.aload_n 0, 1) := by decide +kernel
theorem dX3_faultOfText_58 : decode cX3_faultOfText 58 = .ok (.dup, 1) := by decide +kernel
theorem dX3_faultOfText_59 : decode cX3_faultOfText 59 = .ok (.getfield 31, 3) := by decide +kernel
theorem dX3_faultOfText_62 : decode cX3_faultOfText 62 = .ok (.iconst 1, 1) := by decide +kernel
theorem dX3_faultOfText_63 : decode cX3_faultOfText 63 = .ok (.iadd, 1) := by decide +kernel
theorem dX3_faultOfText_64 : decode cX3_faultOfText 64 = .ok (.putfield 31, 3) := by decide +kernel
theorem dX3_faultOfText_67 : decode cX3_faultOfText 67 = .ok (.iinc 2 1, 3) := by decide +kernel
theorem dX3_faultOfText_70 : decode cX3_faultOfText 70 = .ok (.goto (-56), 3) := by decide +kernel
theorem dX3_faultOfText_73 : decode cX3_faultOfText 73 = .ok (.aload_n 0, 1) := by decide +kernel
theorem dX3_faultOfText_74 : decode cX3_faultOfText 74 = .ok (.getfield 31, 3) := by decide +kernel
theorem dX3_faultOfText_77 : decode cX3_faultOfText 77 = .ok (.aload_n 0, 1) := by decide +kernel
theorem dX3_faultOfText_78 : decode cX3_faultOfText 78 = .ok (.getfield 34, 3) := by decide +kernel
theorem dX3_faultOfText_81 : decode cX3_faultOfText 81 = .ok (.if_icmp .ge 10, 3) := by decide +kernel
theorem dX3_faultOfText_84 : decode cX3_faultOfText 84 = .ok (.aload_n 0, 1) := by decide +kernel
theorem dX3_faultOfText_85 : decode cX3_faultOfText 85 = .ok (.getfield 31, 3) := by decide +kernel
theorem dX3_faultOfText_88 : decode cX3_faultOfText 88 = .ok (.goto 4, 3) := by decide +kernel
theorem dX3_faultOfText_91 : decode cX3_faultOfText 91 = .ok (.iconst (-1), 1) := by decide +kernel
theorem dX3_faultOfText_92 : decode cX3_faultOfText 92 = .ok (.ireturn, 1) := by decide +kernel
theorem dX3_here_0 : decode cX3_here 0 = .ok (.aload_n 0, 1) := by decide +kernel
theorem dX3_here_1 : decode cX3_here 1 = .ok (.getfield 31, 3) := by decide +kernel
theorem dX3_here_4 : decode cX3_here 4 = .ok (.ifCond .lt 38, 3) := by decide +kernel
theorem dX3_here_7 : decode cX3_here 7 = .ok (.aload_n 0, 1) := by decide +kernel
theorem dX3_here_8 : decode cX3_here 8 = .ok (.getfield 31, 3) := by decide +kernel
theorem dX3_here_11 : decode cX3_here 11 = .ok (.aload_n 0, 1) := by decide +kernel
theorem dX3_here_12 : decode cX3_here 12 = .ok (.getfield 34, 3) := by decide +kernel
theorem dX3_here_15 : decode cX3_here 15 = .ok (.if_icmp .ge 27, 3) := by decide +kernel
theorem dX3_here_18 : decode cX3_here 18 = .ok (.aload_n 0, 1) := by decide +kernel
theorem dX3_here_19 : decode cX3_here 19 = .ok (.getfield 31, 3) := by decide +kernel
theorem dX3_here_22 : decode cX3_here 22 = .ok (.aload_n 0, 1) := by decide +kernel
theorem dX3_here_23 : decode cX3_here 23 = .ok (.getfield 24, 3) := by decide +kernel
theorem dX3_here_26 : decode cX3_here 26 = .ok (.arraylength, 1) := by decide +kernel
theorem dX3_here_27 : decode cX3_here 27 = .ok (.if_icmp .ge 15, 3) := by decide +kernel
theorem dX3_here_30 : decode cX3_here 30 = .ok (.aload_n 0, 1) := by decide +kernel
theorem dX3_here_31 : decode cX3_here 31 = .ok (.getfield 24, 3) := by decide +kernel
theorem dX3_here_34 : decode cX3_here 34 = .ok (.aload_n 0, 1) := by decide +kernel
theorem dX3_here_35 : decode cX3_here 35 = .ok (.getfield 31, 3) := by decide +kernel
theorem dX3_here_38 : decode cX3_here 38 = .ok (.iaload, 1) := by decide +kernel
theorem dX3_here_39 : decode cX3_here 39 = .ok (.goto 4, 3) := by decide +kernel
theorem dX3_here_42 : decode cX3_here 42 = .ok (.iconst (-1), 1) := by decide +kernel
theorem dX3_here_43 : decode cX3_here 43 = .ok (.ireturn, 1) := by decide +kernel
theorem dX3_add_0 : decode cX3_add 0 = .ok (.aload_n 0, 1) := by decide +kernel
theorem dX3_add_1 : decode cX3_add 1 = .ok (.getfield 27, 3) := by decide +kernel
theorem dX3_add_4 : decode cX3_add 4 = .ok (.aload_n 0, 1) := by decide +kernel
theorem dX3_add_5 : decode cX3_add 5 = .ok (.getfield 9, 3) := by decide +kernel
theorem dX3_add_8 : decode cX3_add 8 = .ok (.arraylength, 1) := by decide +kernel
theorem dX3_add_9 : decode cX3_add 9 = .ok (.if_icmp .lt 4, 3) := by decide +kernel
theorem dX3_add_12 : decode cX3_add 12 = .ok (.return_, 1) := by decide +kernel
theorem dX3_add_13 : decode cX3_add 13 = .ok (.aload_n 0, 1) := by decide +kernel
theorem dX3_add_14 : decode cX3_add 14 = .ok (.getfield 9, 3) := by decide +kernel
theorem dX3_add_17 : decode cX3_add 17 = .ok (.aload_n 0, 1) := by decide +kernel
theorem dX3_add_18 : decode cX3_add 18 = .ok (.getfield 27, 3) := by decide +kernel
theorem dX3_add_21 : decode cX3_add 21 = .ok (.iload_n 1, 1) := by decide +kernel
theorem dX3_add_22 : decode cX3_add 22 = .ok (.iastore, 1) := by decide +kernel
theorem dX3_add_23 : decode cX3_add 23 = .ok (.aload_n 0, 1) := by decide +kernel
theorem dX3_add_24 : decode cX3_add 24 = .ok (.getfield 15, 3) := by decide +kernel
theorem dX3_add_27 : decode cX3_add 27 = .ok (.aload_n 0, 1) := by decide +kernel
theorem dX3_add_28 : decode cX3_add 28 = .ok (.getfield 27, 3) := by decide +kernel
theorem dX3_add_31 : decode cX3_add 31 = .ok (.iload_n 2, 1) := by decide +kernel
theorem dX3_add_32 : decode cX3_add 32 = .ok (.iastore, 1) := by decide +kernel
theorem dX3_add_33 : decode cX3_add 33 = .ok (.aload_n 0, 1) := by decide +kernel
theorem dX3_add_34 : decode cX3_add 34 = .ok (.dup, 1) := by decide +kernel
theorem dX3_add_35 : decode cX3_add 35 = .ok (.getfield 27, 3) := by decide +kernel
theorem dX3_add_38 : decode cX3_add 38 = .ok (.iconst 1, 1) := by decide +kernel
theorem dX3_add_39 : decode cX3_add 39 = .ok (.iadd, 1) := by decide +kernel
theorem dX3_add_40 : decode cX3_add 40 = .ok (.putfield 27, 3) := by decide +kernel
theorem dX3_add_43 : decode cX3_add 43 = .ok (.return_, 1) := by decide +kernel
theorem dX3_readsLine_0 : decode cX3_readsLine 0 = .ok (.aload_n 0, 1) := by decide +kernel
theorem dX3_readsLine_1 : decode cX3_readsLine 1 = .ok (.iconst 0, 1) := by decide +kernel
theorem dX3_readsLine_2 : decode cX3_readsLine 2 = .ok (.iconst 0, 1) := by decide +kernel
theorem dX3_readsLine_3 : decode cX3_readsLine 3 = .ok (.invokevirtual 45, 3) := by decide +kernel
theorem dX3_readsLine_6 : decode cX3_readsLine 6 = .ok (.ifCond .ne 5, 3) := by decide +kernel
theorem dX3_readsLine_9 : decode cX3_readsLine 9 = .ok (.iconst 0, 1) := by decide +kernel
theorem dX3_readsLine_10 : decode cX3_readsLine 10 = .ok (.ireturn, 1) := by decide +kernel
theorem dX3_readsLine_11 : decode cX3_readsLine 11 = .ok (.aload_n 0, 1) := by decide +kernel
theorem dX3_readsLine_12 : decode cX3_readsLine 12 = .ok (.getfield 27, 3) := by decide +kernel
theorem dX3_readsLine_15 : decode cX3_readsLine 15 = .ok (.istore_n 1, 1) := by decide +kernel
theorem dX3_readsLine_16 : decode cX3_readsLine 16 = .ok (.aload_n 0, 1) := by decide +kernel
theorem dX3_readsLine_17 : decode cX3_readsLine 17 = .ok (.invokevirtual 41, 3) := by decide +kernel
theorem dX3_readsLine_20 : decode cX3_readsLine 20 = .ok (.bipush 63, 2) := by decide +kernel
theorem dX3_readsLine_22 : decode cX3_readsLine 22 = .ok (.if_icmp .ne 7, 3) := by decide +kernel
theorem dX3_readsLine_25 : decode cX3_readsLine 25 = .ok (.iconst 1, 1) := by decide +kernel
theorem dX3_readsLine_26 : decode cX3_readsLine 26 = .ok (.goto 4, 3) := by decide +kernel
theorem dX3_readsLine_29 : decode cX3_readsLine 29 = .ok (.iconst 0, 1) := by decide +kernel
theorem dX3_readsLine_30 : decode cX3_readsLine 30 = .ok (.istore_n 2, 1) := by decide +kernel
theorem dX3_readsLine_31 : decode cX3_readsLine 31 = .ok (.iload_n 2, 1) := by decide +kernel
theorem dX3_readsLine_32 : decode cX3_readsLine 32 = .ok (.ifCond .eq 31, 3) := by decide +kernel
theorem dX3_readsLine_35 : decode cX3_readsLine 35 = .ok (.aload_n 0, 1) := by decide +kernel
theorem dX3_readsLine_36 : decode cX3_readsLine 36 = .ok (.dup, 1) := by decide +kernel
theorem dX3_readsLine_37 : decode cX3_readsLine 37 = .ok (.getfield 31, 3) := by decide +kernel
theorem dX3_readsLine_40 : decode cX3_readsLine 40 = .ok (.iconst 1, 1) := by decide +kernel
theorem dX3_readsLine_41 : decode cX3_readsLine 41 = .ok (.iadd, 1) := by decide +kernel
theorem dX3_readsLine_42 : decode cX3_readsLine 42 = .ok (.putfield 31, 3) := by decide +kernel
theorem dX3_readsLine_45 : decode cX3_readsLine 45 = .ok (.aload_n 0, 1) := by decide +kernel
theorem dX3_readsLine_46 : decode cX3_readsLine 46 = .ok (.bipush 63, 2) := by decide +kernel
theorem dX3_readsLine_48 : decode cX3_readsLine 48 = .ok (.iconst 0, 1) := by decide +kernel
theorem dX3_readsLine_49 : decode cX3_readsLine 49 = .ok (.invokevirtual 49, 3) := by decide +kernel
theorem dX3_readsLine_52 : decode cX3_readsLine 52 = .ok (.aload_n 0, 1) := by decide +kernel
theorem dX3_readsLine_53 : decode cX3_readsLine 53 = .ok (.iconst 0, 1) := by decide +kernel
theorem dX3_readsLine_54 : decode cX3_readsLine 54 = .ok (.iconst 0, 1) := by decide +kernel
theorem dX3_readsLine_55 : decode cX3_readsLine 55 = .ok (.invokevirtual 45, 3) := by decide +kernel
theorem dX3_readsLine_58 : decode cX3_readsLine 58 = .ok (.ifCond .ne 5, 3) := by decide +kernel
theorem dX3_readsLine_61 : decode cX3_readsLine 61 = .ok (.iconst 0, 1) := by decide +kernel
theorem dX3_readsLine_62 : decode cX3_readsLine 62 = .ok (.ireturn, 1) := by decide +kernel
theorem dX3_readsLine_63 : decode cX3_readsLine 63 = .ok (.aload_n 0, 1) := by decide +kernel
theorem dX3_readsLine_64 : decode cX3_readsLine 64 = .ok (.bipush 59, 2) := by decide +kernel
theorem dX3_readsLine_66 : decode cX3_readsLine 66 = .ok (.iconst 0, 1) := by decide +kernel
theorem dX3_readsLine_67 : decode cX3_readsLine 67 = .ok (.invokevirtual 49, 3) := by decide +kernel
theorem dX3_readsLine_70 : decode cX3_readsLine 70 = .ok (.iload_n 2, 1) := by decide +kernel
theorem dX3_readsLine_71 : decode cX3_readsLine 71 = .ok (.ifCond .eq 22, 3) := by decide +kernel
theorem dX3_readsLine_74 : decode cX3_readsLine 74 = .ok (.iload_n 1, 1) := by decide +kernel
theorem dX3_readsLine_75 : decode cX3_readsLine 75 = .ok (.aload_n 0, 1) := by decide +kernel
theorem dX3_readsLine_76 : decode cX3_readsLine 76 = .ok (.getfield 15, 3) := by decide +kernel
theorem dX3_readsLine_79 : decode cX3_readsLine 79 = .ok (.arraylength, 1) := by decide +kernel
theorem dX3_readsLine_80 : decode cX3_readsLine 80 = .ok (.if_icmp .ge 13, 3) := by decide +kernel
theorem dX3_readsLine_83 : decode cX3_readsLine 83 = .ok (.aload_n 0, 1) := by decide +kernel
theorem dX3_readsLine_84 : decode cX3_readsLine 84 = .ok (.getfield 15, 3) := by decide +kernel
theorem dX3_readsLine_87 : decode cX3_readsLine 87 = .ok (.iload_n 1, 1) := by decide +kernel
theorem dX3_readsLine_88 : decode cX3_readsLine 88 = .ok (.aload_n 0, 1) := by decide +kernel
theorem dX3_readsLine_89 : decode cX3_readsLine 89 = .ok (.getfield 27, 3) := by decide +kernel
theorem dX3_readsLine_92 : decode cX3_readsLine 92 = .ok (.iastore, 1) := by decide +kernel
theorem dX3_readsLine_93 : decode cX3_readsLine 93 = .ok (.iconst 1, 1) := by decide +kernel
theorem dX3_readsLine_94 : decode cX3_readsLine 94 = .ok (.ireturn, 1) := by decide +kernel
theorem dX3_levelOf_0 : decode cX3_levelOf 0 = .ok (.iload_n 0, 1) := by decide +kernel
theorem dX3_levelOf_1 : decode cX3_levelOf 1 = .ok (.lookupswitch 101 #[(37, 99), (38, 93), (42, 99), (43, 97), (45, 97), (47, 99), (60, 95), (61, 95), (62, 95), (124, 91)], 91) := by decide +kernel
theorem dX3_levelOf_92 : decode cX3_levelOf 92 = .ok (.iconst 0, 1) := by decide +kernel
theorem dX3_levelOf_93 : decode cX3_levelOf 93 = .ok (.ireturn, 1) := by decide +kernel
theorem dX3_levelOf_94 : decode cX3_levelOf 94 = .ok (.iconst 1, 1) := by decide +kernel
theorem dX3_levelOf_95 : decode cX3_levelOf 95 = .ok (.ireturn, 1) := by decide +kernel
theorem dX3_levelOf_96 : decode cX3_levelOf 96 = .ok (.iconst 2, 1) := by decide +kernel
theorem dX3_levelOf_97 : decode cX3_levelOf 97 = .ok (.ireturn, 1) := by decide +kernel
theorem dX3_levelOf_98 : decode cX3_levelOf 98 = .ok (.iconst 3, 1) := by decide +kernel
theorem dX3_levelOf_99 : decode cX3_levelOf 99 = .ok (.ireturn, 1) := by decide +kernel
theorem dX3_levelOf_100 : decode cX3_levelOf 100 = .ok (.iconst 4, 1) := by decide +kernel
theorem dX3_levelOf_101 : decode cX3_levelOf 101 = .ok (.ireturn, 1) := by decide +kernel
theorem dX3_levelOf_102 : decode cX3_levelOf 102 = .ok (.iconst (-1), 1) := by decide +kernel
theorem dX3_levelOf_103 : decode cX3_levelOf 103 = .ok (.ireturn, 1) := by decide +kernel
theorem dX3_readsPart_0 : decode cX3_readsPart 0 = .ok (.iload_n 1, 1) := by decide +kernel
theorem dX3_readsPart_1 : decode cX3_readsPart 1 = .ok (.iconst 5, 1) := by decide +kernel
theorem dX3_readsPart_2 : decode cX3_readsPart 2 = .ok (.if_icmp .lt 9, 3) := by decide +kernel
theorem dX3_readsPart_5 : decode cX3_readsPart 5 = .ok (.aload_n 0, 1) := by decide +kernel
theorem dX3_readsPart_6 : decode cX3_readsPart 6 = .ok (.iload_n 2, 1) := by decide +kernel
theorem dX3_readsPart_7 : decode cX3_readsPart 7 = .ok (.invokevirtual 53, 3) := by decide +kernel
theorem dX3_readsPart_10 : decode cX3_readsPart 10 = .ok (.ireturn, 1) := by decide +kernel
theorem dX3_readsPart_11 : decode cX3_readsPart 11 = .ok (.aload_n 0, 1) := by decide +kernel
theorem dX3_readsPart_12 : decode cX3_readsPart 12 = .ok (.iload_n 1, 1) := by decide +kernel
theorem dX3_readsPart_13 : decode cX3_readsPart 13 = .ok (.iconst 1, 1) := by decide +kernel
theorem dX3_readsPart_14 : decode cX3_readsPart 14 = .ok (.iadd, 1) := by decide +kernel
theorem dX3_readsPart_15 : decode cX3_readsPart 15 = .ok (.iload_n 2, 1) := by decide +kernel
theorem dX3_readsPart_16 : decode cX3_readsPart 16 = .ok (.invokevirtual 45, 3) := by decide +kernel
theorem dX3_readsPart_19 : decode cX3_readsPart 19 = .ok (.ifCond .ne 5, 3) := by decide +kernel
theorem dX3_readsPart_22 : decode cX3_readsPart 22 = .ok (.iconst 0, 1) := by decide +kernel
theorem dX3_readsPart_23 : decode cX3_readsPart 23 = .ok (.ireturn, 1) := by decide +kernel
theorem dX3_readsPart_24 : decode cX3_readsPart 24 = .ok (.iconst 0, 1) := by decide +kernel
theorem dX3_readsPart_25 : decode cX3_readsPart 25 = .ok (.istore_n 3, 1) := by decide +kernel
theorem dX3_readsPart_26 : decode cX3_readsPart 26 = .ok (.iload_n 3, 1) := by decide +kernel
theorem dX3_readsPart_27 : decode cX3_readsPart 27 = .ok (.aload_n 0, 1) := by decide +kernel
theorem dX3_readsPart_28 : decode cX3_readsPart 28 = .ok (.getfield 34, 3) := by decide +kernel
theorem dX3_readsPart_31 : decode cX3_readsPart 31 = .ok (.if_icmp .ge 64, 3) := by decide +kernel
theorem dX3_readsPart_34 : decode cX3_readsPart 34 = .ok (.aload_n 0, 1) := by decide +kernel
theorem dX3_readsPart_35 : decode cX3_readsPart 35 = .ok (.invokevirtual 41, 3) := by decide +kernel
theorem dX3_readsPart_38 : decode cX3_readsPart 38 = .ok (.invokestatic 57, 3) := by decide +kernel
theorem dX3_readsPart_41 : decode cX3_readsPart 41 = .ok (.iload_n 1, 1) := by decide +kernel
theorem dX3_readsPart_42 : decode cX3_readsPart 42 = .ok (.if_icmp .ne 53, 3) := by decide +kernel
theorem dX3_readsPart_45 : decode cX3_readsPart 45 = .ok (.aload_n 0, 1) := by decide +kernel
theorem dX3_readsPart_46 : decode cX3_readsPart 46 = .ok (.invokevirtual 41, 3) := by decide +kernel
theorem dX3_readsPart_49 : decode cX3_readsPart 49 = .ok (.istore 4, 2) := by decide +kernel
theorem dX3_readsPart_51 : decode cX3_readsPart 51 = .ok (.aload_n 0, 1) := by decide +kernel
theorem dX3_readsPart_52 : decode cX3_readsPart 52 = .ok (.dup, 1) := by decide +kernel
theorem dX3_readsPart_53 : decode cX3_readsPart 53 = .ok (.getfield 31, 3) := by decide +kernel
theorem dX3_readsPart_56 : decode cX3_readsPart 56 = .ok (.iconst 1, 1) := by decide +kernel
theorem dX3_readsPart_57 : decode cX3_readsPart 57 = .ok (.iadd, 1) := by decide +kernel
theorem dX3_readsPart_58 : decode cX3_readsPart 58 = .ok (.putfield 31, 3) := by decide +kernel
theorem dX3_readsPart_61 : decode cX3_readsPart 61 = .ok (.aload_n 0, 1) := by decide +kernel
theorem dX3_readsPart_62 : decode cX3_readsPart 62 = .ok (.iload_n 1, 1) := by decide +kernel
theorem dX3_readsPart_63 : decode cX3_readsPart 63 = .ok (.iconst 1, 1) := by decide +kernel
theorem dX3_readsPart_64 : decode cX3_readsPart 64 = .ok (.iadd, 1) := by decide +kernel
theorem dX3_readsPart_65 : decode cX3_readsPart 65 = .ok (.iload_n 2, 1) := by decide +kernel
theorem dX3_readsPart_66 : decode cX3_readsPart 66 = .ok (.invokevirtual 45, 3) := by decide +kernel
theorem dX3_readsPart_69 : decode cX3_readsPart 69 = .ok (.ifCond .ne 5, 3) := by decide +kernel
theorem dX3_readsPart_72 : decode cX3_readsPart 72 = .ok (.iconst 0, 1) := by decide +kernel
theorem dX3_readsPart_73 : decode cX3_readsPart 73 = .ok (.ireturn, 1) := by decide +kernel
theorem dX3_readsPart_74 : decode cX3_readsPart 74 = .ok (.aload_n 0, 1) := by decide +kernel
theorem dX3_readsPart_75 : decode cX3_readsPart 75 = .ok (.iload 4, 2) := by decide +kernel
theorem dX3_readsPart_77 : decode cX3_readsPart 77 = .ok (.iconst 0, 1) := by decide +kernel
theorem dX3_readsPart_78 : decode cX3_readsPart 78 = .ok (.invokevirtual 49, 3) := by decide +kernel
theorem dX3_readsPart_81 : decode cX3_readsPart 81 = .ok (.iload_n 1, 1) := by decide +kernel
theorem dX3_readsPart_82 : decode cX3_readsPart 82 = .ok (.iconst 2, 1) := by decide +kernel
theorem dX3_readsPart_83 : decode cX3_readsPart 83 = .ok (.if_icmp .ne 6, 3) := by decide +kernel
theorem dX3_readsPart_86 : decode cX3_readsPart 86 = .ok (.goto 9, 3) := by decide +kernel
theorem dX3_readsPart_89 : decode cX3_readsPart 89 = .ok (.iinc 3 1, 3) := by decide +kernel
theorem dX3_readsPart_92 : decode cX3_readsPart 92 = .ok (.goto (-66), 3) := by decide +kernel
theorem dX3_readsPart_95 : decode cX3_readsPart 95 = .ok (.iconst 1, 1) := by decide +kernel
theorem dX3_readsPart_96 : decode cX3_readsPart 96 = .ok (.ireturn, 1) := by decide +kernel
theorem dX3_readsOperand_0 : decode cX3_readsOperand 0 = .ok (.aload_n 0, 1) := by decide +kernel
theorem dX3_readsOperand_1 : decode cX3_readsOperand 1 = .ok (.invokevirtual 41, 3) := by decide +kernel
theorem dX3_readsOperand_4 : decode cX3_readsOperand 4 = .ok (.istore_n 2, 1) := by decide +kernel
theorem dX3_readsOperand_5 : decode cX3_readsOperand 5 = .ok (.iload_n 2, 1) := by decide +kernel
theorem dX3_readsOperand_6 : decode cX3_readsOperand 6 = .ok (.invokestatic 61, 3) := by decide +kernel
theorem dX3_readsOperand_9 : decode cX3_readsOperand 9 = .ok (.ifCond .eq 8, 3) := by decide +kernel
theorem dX3_readsOperand_12 : decode cX3_readsOperand 12 = .ok (.aload_n 0, 1) := by decide +kernel
theorem dX3_readsOperand_13 : decode cX3_readsOperand 13 = .ok (.invokevirtual 64, 3) := by decide +kernel
theorem dX3_readsOperand_16 : decode cX3_readsOperand 16 = .ok (.ireturn, 1) := by decide +kernel
theorem dX3_readsOperand_17 : decode cX3_readsOperand 17 = .ok (.iload_n 2, 1) := by decide +kernel
theorem dX3_readsOperand_18 : decode cX3_readsOperand 18 = .ok (.invokestatic 67, 3) := by decide +kernel
theorem dX3_readsOperand_21 : decode cX3_readsOperand 21 = .ok (.istore_n 3, 1) := by decide +kernel
theorem dX3_readsOperand_22 : decode cX3_readsOperand 22 = .ok (.iload_n 3, 1) := by decide +kernel
theorem dX3_readsOperand_23 : decode cX3_readsOperand 23 = .ok (.ifCond .lt 22, 3) := by decide +kernel
theorem dX3_readsOperand_26 : decode cX3_readsOperand 26 = .ok (.aload_n 0, 1) := by decide +kernel
theorem dX3_readsOperand_27 : decode cX3_readsOperand 27 = .ok (.dup, 1) := by decide +kernel
theorem dX3_readsOperand_28 : decode cX3_readsOperand 28 = .ok (.getfield 31, 3) := by decide +kernel
theorem dX3_readsOperand_31 : decode cX3_readsOperand 31 = .ok (.iconst 1, 1) := by decide +kernel
theorem dX3_readsOperand_32 : decode cX3_readsOperand 32 = .ok (.iadd, 1) := by decide +kernel
theorem dX3_readsOperand_33 : decode cX3_readsOperand 33 = .ok (.putfield 31, 3) := by decide +kernel
theorem dX3_readsOperand_36 : decode cX3_readsOperand 36 = .ok (.aload_n 0, 1) := by decide +kernel
theorem dX3_readsOperand_37 : decode cX3_readsOperand 37 = .ok (.bipush 97, 2) := by decide +kernel
theorem dX3_readsOperand_39 : decode cX3_readsOperand 39 = .ok (.iload_n 3, 1) := by decide +kernel
theorem dX3_readsOperand_40 : decode cX3_readsOperand 40 = .ok (.invokevirtual 49, 3) := by decide +kernel
theorem dX3_readsOperand_43 : decode cX3_readsOperand 43 = .ok (.iconst 1, 1) := by decide +kernel
theorem dX3_readsOperand_44 : decode cX3_readsOperand 44 = .ok (.ireturn, 1) := by decide +kernel
theorem dX3_readsOperand_45 : decode cX3_readsOperand 45 = .ok (.iload_n 2, 1) := by decide +kernel
theorem dX3_readsOperand_46 : decode cX3_readsOperand 46 = .ok (.bipush 40, 2) := by decide +kernel
theorem dX3_readsOperand_48 : decode cX3_readsOperand 48 = .ok (.if_icmp .eq 15, 3) := by decide +kernel
theorem dX3_readsOperand_51 : decode cX3_readsOperand 51 = .ok (.iload_n 2, 1) := by decide +kernel
theorem dX3_readsOperand_52 : decode cX3_readsOperand 52 = .ok (.bipush 33, 2) := by decide +kernel
theorem dX3_readsOperand_54 : decode cX3_readsOperand 54 = .ok (.if_icmp .eq 9, 3) := by decide +kernel
theorem dX3_readsOperand_57 : decode cX3_readsOperand 57 = .ok (.iload_n 2, 1) := by decide +kernel
theorem dX3_readsOperand_58 : decode cX3_readsOperand 58 = .ok (.bipush 45, 2) := by decide +kernel
theorem dX3_readsOperand_60 : decode cX3_readsOperand 60 = .ok (.if_icmp .ne 9, 3) := by decide +kernel
theorem dX3_readsOperand_63 : decode cX3_readsOperand 63 = .ok (.iload_n 1, 1) := by decide +kernel
theorem dX3_readsOperand_64 : decode cX3_readsOperand 64 = .ok (.bipush 6, 2) := by decide +kernel
theorem dX3_readsOperand_66 : decode cX3_readsOperand 66 = .ok (.if_icmp .lt 5, 3) := by decide +kernel
theorem dX3_readsOperand_69 : decode cX3_readsOperand 69 = .ok (.iconst 0, 1) := by decide +kernel
theorem dX3_readsOperand_70 : decode cX3_readsOperand 70 = .ok (.ireturn, 1) := by decide +kernel
theorem dX3_readsOperand_71 : decode cX3_readsOperand 71 = .ok (.aload_n 0, 1) := by decide +kernel
theorem dX3_readsOperand_72 : decode cX3_readsOperand 72 = .ok (.dup, 1) := by decide +kernel
theorem dX3_readsOperand_73 : decode cX3_readsOperand 73 = .ok (.getfield 31, 3) := by decide +kernel
theorem dX3_readsOperand_76 : decode cX3_readsOperand 76 = .ok (.iconst 1, 1) := by decide +kernel
theorem dX3_readsOperand_77 : decode cX3_readsOperand 77 = .ok (.iadd, 1) := by decide +kernel
theorem dX3_readsOperand_78 : decode cX3_readsOperand 78 = .ok (.putfield 31, 3) := by decide +kernel
theorem dX3_readsOperand_81 : decode cX3_readsOperand 81 = .ok (.iload_n 2, 1) := by decide +kernel
theorem dX3_readsOperand_82 : decode cX3_readsOperand 82 = .ok (.bipush 40, 2) := by decide +kernel
theorem dX3_readsOperand_84 : decode cX3_readsOperand 84 = .ok (.if_icmp .ne 27, 3) := by decide +kernel
theorem dX3_readsOperand_87 : decode cX3_readsOperand 87 = .ok (.aload_n 0, 1) := by decide +kernel
theorem dX3_readsOperand_88 : decode cX3_readsOperand 88 = .ok (.iconst 0, 1) := by decide +kernel
theorem dX3_readsOperand_89 : decode cX3_readsOperand 89 = .ok (.iload_n 1, 1) := by decide +kernel
theorem dX3_readsOperand_90 : decode cX3_readsOperand 90 = .ok (.iconst 1, 1) := by decide +kernel
theorem dX3_readsOperand_91 : decode cX3_readsOperand 91 = .ok (.iadd, 1) := by decide +kernel
theorem dX3_readsOperand_92 : decode cX3_readsOperand 92 = .ok (.invokevirtual 45, 3) := by decide +kernel
theorem dX3_readsOperand_95 : decode cX3_readsOperand 95 = .ok (.ifCond .eq 14, 3) := by decide +kernel
theorem dX3_readsOperand_98 : decode cX3_readsOperand 98 = .ok (.aload_n 0, 1) := by decide +kernel
theorem dX3_readsOperand_99 : decode cX3_readsOperand 99 = .ok (.invokevirtual 70, 3) := by decide +kernel
theorem dX3_readsOperand_102 : decode cX3_readsOperand 102 = .ok (.ifCond .eq 7, 3) := by decide +kernel
theorem dX3_readsOperand_105 : decode cX3_readsOperand 105 = .ok (.iconst 1, 1) := by decide +kernel
theorem dX3_readsOperand_106 : decode cX3_readsOperand 106 = .ok (.goto 4, 3) := by decide +kernel
theorem dX3_readsOperand_109 : decode cX3_readsOperand 109 = .ok (.iconst 0, 1) := by decide +kernel
theorem dX3_readsOperand_110 : decode cX3_readsOperand 110 = .ok (.ireturn, 1) := by decide +kernel
theorem dX3_readsOperand_111 : decode cX3_readsOperand 111 = .ok (.aload_n 0, 1) := by decide +kernel
theorem dX3_readsOperand_112 : decode cX3_readsOperand 112 = .ok (.iload_n 1, 1) := by decide +kernel
theorem dX3_readsOperand_113 : decode cX3_readsOperand 113 = .ok (.iconst 1, 1) := by decide +kernel
theorem dX3_readsOperand_114 : decode cX3_readsOperand 114 = .ok (.iadd, 1) := by decide +kernel
theorem dX3_readsOperand_115 : decode cX3_readsOperand 115 = .ok (.invokevirtual 53, 3) := by decide +kernel
theorem dX3_readsOperand_118 : decode cX3_readsOperand 118 = .ok (.ifCond .ne 5, 3) := by decide +kernel
theorem dX3_readsOperand_121 : decode cX3_readsOperand 121 = .ok (.iconst 0, 1) := by decide +kernel
theorem dX3_readsOperand_122 : decode cX3_readsOperand 122 = .ok (.ireturn, 1) := by decide +kernel
theorem dX3_readsOperand_123 : decode cX3_readsOperand 123 = .ok (.aload_n 0, 1) := by decide +kernel
theorem dX3_readsOperand_124 : decode cX3_readsOperand 124 = .ok (.iload_n 2, 1) := by decide +kernel
theorem dX3_readsOperand_125 : decode cX3_readsOperand 125 = .ok (.bipush 33, 2) := by decide +kernel
theorem dX3_readsOperand_127 : decode cX3_readsOperand 127 = .ok (.if_icmp .ne 8, 3) := by decide +kernel
theorem dX3_readsOperand_130 : decode cX3_readsOperand 130 = .ok (.bipush 33, 2) := by decide +kernel
theorem dX3_readsOperand_132 : decode cX3_readsOperand 132 = .ok (.goto 5, 3) := by decide +kernel
theorem dX3_readsOperand_135 : decode cX3_readsOperand 135 = .ok (.bipush 126, 2) := by decide +kernel
theorem dX3_readsOperand_137 : decode cX3_readsOperand 137 = .ok (.iconst 0, 1) := by decide +kernel
theorem dX3_readsOperand_138 : decode cX3_readsOperand 138 = .ok (.invokevirtual 49, 3) := by decide +kernel
theorem dX3_readsOperand_141 : decode cX3_readsOperand 141 = .ok (.iconst 1, 1) := by decide +kernel
theorem dX3_readsOperand_142 : decode cX3_readsOperand 142 = .ok (.ireturn, 1) := by decide +kernel
theorem dX3_closes_0 : decode cX3_closes 0 = .ok (.aload_n 0, 1) := by decide +kernel
theorem dX3_closes_1 : decode cX3_closes 1 = .ok (.invokevirtual 41, 3) := by decide +kernel
theorem dX3_closes_4 : decode cX3_closes 4 = .ok (.bipush 41, 2) := by decide +kernel
theorem dX3_closes_6 : decode cX3_closes 6 = .ok (.if_icmp .eq 5, 3) := by decide +kernel
theorem dX3_closes_9 : decode cX3_closes 9 = .ok (.iconst 0, 1) := by decide +kernel
theorem dX3_closes_10 : decode cX3_closes 10 = .ok (.ireturn, 1) := by decide +kernel
theorem dX3_closes_11 : decode cX3_closes 11 = .ok (.aload_n 0, 1) := by decide +kernel
theorem dX3_closes_12 : decode cX3_closes 12 = .ok (.dup, 1) := by decide +kernel
theorem dX3_closes_13 : decode cX3_closes 13 = .ok (.getfield 31, 3) := by decide +kernel
theorem dX3_closes_16 : decode cX3_closes 16 = .ok (.iconst 1, 1) := by decide +kernel
theorem dX3_closes_17 : decode cX3_closes 17 = .ok (.iadd, 1) := by decide +kernel
theorem dX3_closes_18 : decode cX3_closes 18 = .ok (.putfield 31, 3) := by decide +kernel
theorem dX3_closes_21 : decode cX3_closes 21 = .ok (.iconst 1, 1) := by decide +kernel
theorem dX3_closes_22 : decode cX3_closes 22 = .ok (.ireturn, 1) := by decide +kernel
theorem dX3_isDigit_0 : decode cX3_isDigit 0 = .ok (.iload_n 0, 1) := by decide +kernel
theorem dX3_isDigit_1 : decode cX3_isDigit 1 = .ok (.bipush 48, 2) := by decide +kernel
theorem dX3_isDigit_3 : decode cX3_isDigit 3 = .ok (.if_icmp .lt 13, 3) := by decide +kernel
theorem dX3_isDigit_6 : decode cX3_isDigit 6 = .ok (.iload_n 0, 1) := by decide +kernel
theorem dX3_isDigit_7 : decode cX3_isDigit 7 = .ok (.bipush 57, 2) := by decide +kernel
theorem dX3_isDigit_9 : decode cX3_isDigit 9 = .ok (.if_icmp .gt 7, 3) := by decide +kernel
theorem dX3_isDigit_12 : decode cX3_isDigit 12 = .ok (.iconst 1, 1) := by decide +kernel
theorem dX3_isDigit_13 : decode cX3_isDigit 13 = .ok (.goto 4, 3) := by decide +kernel
theorem dX3_isDigit_16 : decode cX3_isDigit 16 = .ok (.iconst 0, 1) := by decide +kernel
theorem dX3_isDigit_17 : decode cX3_isDigit 17 = .ok (.ireturn, 1) := by decide +kernel
theorem dX3_readsNumber_0 : decode cX3_readsNumber 0 = .ok (.iconst 0, 1) := by decide +kernel
theorem dX3_readsNumber_1 : decode cX3_readsNumber 1 = .ok (.istore_n 1, 1) := by decide +kernel
theorem dX3_readsNumber_2 : decode cX3_readsNumber 2 = .ok (.iconst 0, 1) := by decide +kernel
theorem dX3_readsNumber_3 : decode cX3_readsNumber 3 = .ok (.istore_n 2, 1) := by decide +kernel
theorem dX3_readsNumber_4 : decode cX3_readsNumber 4 = .ok (.iload_n 2, 1) := by decide +kernel
theorem dX3_readsNumber_5 : decode cX3_readsNumber 5 = .ok (.iconst 4, 1) := by decide +kernel
theorem dX3_readsNumber_6 : decode cX3_readsNumber 6 = .ok (.if_icmp .ge 42, 3) := by decide +kernel
theorem dX3_readsNumber_9 : decode cX3_readsNumber 9 = .ok (.aload_n 0, 1) := by decide +kernel
theorem dX3_readsNumber_10 : decode cX3_readsNumber 10 = .ok (.invokevirtual 41, 3) := by decide +kernel
theorem dX3_readsNumber_13 : decode cX3_readsNumber 13 = .ok (.invokestatic 61, 3) := by decide +kernel
theorem dX3_readsNumber_16 : decode cX3_readsNumber 16 = .ok (.ifCond .eq 32, 3) := by decide +kernel
theorem dX3_readsNumber_19 : decode cX3_readsNumber 19 = .ok (.bipush 10, 2) := by decide +kernel
theorem dX3_readsNumber_21 : decode cX3_readsNumber 21 = .ok (.iload_n 1, 1) := by decide +kernel
theorem dX3_readsNumber_22 : decode cX3_readsNumber 22 = .ok (.imul, 1) := by decide +kernel
theorem dX3_readsNumber_23 : decode cX3_readsNumber 23 = .ok (.aload_n 0, 1) := by decide +kernel
theorem dX3_readsNumber_24 : decode cX3_readsNumber 24 = .ok (.invokevirtual 41, 3) := by decide +kernel
theorem dX3_readsNumber_27 : decode cX3_readsNumber 27 = .ok (.iadd, 1) := by decide +kernel
theorem dX3_readsNumber_28 : decode cX3_readsNumber 28 = .ok (.bipush 48, 2) := by decide +kernel
theorem dX3_readsNumber_30 : decode cX3_readsNumber 30 = .ok (.isub, 1) := by decide +kernel
theorem dX3_readsNumber_31 : decode cX3_readsNumber 31 = .ok (.istore_n 1, 1) := by decide +kernel
theorem dX3_readsNumber_32 : decode cX3_readsNumber 32 = .ok (.aload_n 0, 1) := by decide +kernel
theorem dX3_readsNumber_33 : decode cX3_readsNumber 33 = .ok (.dup, 1) := by decide +kernel
theorem dX3_readsNumber_34 : decode cX3_readsNumber 34 = .ok (.getfield 31, 3) := by decide +kernel
theorem dX3_readsNumber_37 : decode cX3_readsNumber 37 = .ok (.iconst 1, 1) := by decide +kernel
theorem dX3_readsNumber_38 : decode cX3_readsNumber 38 = .ok (.iadd, 1) := by decide +kernel
theorem dX3_readsNumber_39 : decode cX3_readsNumber 39 = .ok (.putfield 31, 3) := by decide +kernel
theorem dX3_readsNumber_42 : decode cX3_readsNumber 42 = .ok (.iinc 2 1, 3) := by decide +kernel
theorem dX3_readsNumber_45 : decode cX3_readsNumber 45 = .ok (.goto (-41), 3) := by decide +kernel
theorem dX3_readsNumber_48 : decode cX3_readsNumber 48 = .ok (.aload_n 0, 1) := by decide +kernel
theorem dX3_readsNumber_49 : decode cX3_readsNumber 49 = .ok (.bipush 48, 2) := by decide +kernel
theorem dX3_readsNumber_51 : decode cX3_readsNumber 51 = .ok (.iload_n 1, 1) := by decide +kernel
theorem dX3_readsNumber_52 : decode cX3_readsNumber 52 = .ok (.invokevirtual 49, 3) := by decide +kernel
theorem dX3_readsNumber_55 : decode cX3_readsNumber 55 = .ok (.iconst 1, 1) := by decide +kernel
theorem dX3_readsNumber_56 : decode cX3_readsNumber 56 = .ok (.ireturn, 1) := by decide +kernel
theorem dX3_nameOf_0 : decode cX3_nameOf 0 = .ok (.iload_n 0, 1) := by decide +kernel
theorem dX3_nameOf_1 : decode cX3_nameOf 1 = .ok (.tableswitch 95 99 115 #[93, 95, 95, 95, 95, 83, 95, 95, 95, 85, 95, 91, 87, 95, 95, 95, 89], 83) := by decide +kernel
theorem dX3_nameOf_84 : decode cX3_nameOf 84 = .ok (.iconst 0, 1) := by decide +kernel
theorem dX3_nameOf_85 : decode cX3_nameOf 85 = .ok (.ireturn, 1) := by decide +kernel
theorem dX3_nameOf_86 : decode cX3_nameOf 86 = .ok (.iconst 1, 1) := by decide +kernel
theorem dX3_nameOf_87 : decode cX3_nameOf 87 = .ok (.ireturn, 1) := by decide +kernel
theorem dX3_nameOf_88 : decode cX3_nameOf 88 = .ok (.iconst 2, 1) := by decide +kernel
theorem dX3_nameOf_89 : decode cX3_nameOf 89 = .ok (.ireturn, 1) := by decide +kernel
theorem dX3_nameOf_90 : decode cX3_nameOf 90 = .ok (.iconst 3, 1) := by decide +kernel
theorem dX3_nameOf_91 : decode cX3_nameOf 91 = .ok (.ireturn, 1) := by decide +kernel
theorem dX3_nameOf_92 : decode cX3_nameOf 92 = .ok (.iconst 4, 1) := by decide +kernel
theorem dX3_nameOf_93 : decode cX3_nameOf 93 = .ok (.ireturn, 1) := by decide +kernel
theorem dX3_nameOf_94 : decode cX3_nameOf 94 = .ok (.iconst 5, 1) := by decide +kernel
theorem dX3_nameOf_95 : decode cX3_nameOf 95 = .ok (.ireturn, 1) := by decide +kernel
theorem dX3_nameOf_96 : decode cX3_nameOf 96 = .ok (.iconst (-1), 1) := by decide +kernel
theorem dX3_nameOf_97 : decode cX3_nameOf 97 = .ok (.ireturn, 1) := by decide +kernel
theorem dX3_name_0 : decode cX3_name 0 = .ok (.aload_n 0, 1) := by decide +kernel
theorem dX3_name_1 : decode cX3_name 1 = .ok (.getfield 21, 3) := by decide +kernel
theorem dX3_name_4 : decode cX3_name 4 = .ok (.iconst 0, 1) := by decide +kernel
theorem dX3_name_5 : decode cX3_name 5 = .ok (.iload_n 1, 1) := by decide +kernel
theorem dX3_name_6 : decode cX3_name 6 = .ok (.iastore, 1) := by decide +kernel
theorem dX3_name_7 : decode cX3_name 7 = .ok (.aload_n 0, 1) := by decide +kernel
theorem dX3_name_8 : decode cX3_name 8 = .ok (.getfield 21, 3) := by decide +kernel
theorem dX3_name_11 : decode cX3_name 11 = .ok (.iconst 1, 1) := by decide +kernel
theorem dX3_name_12 : decode cX3_name 12 = .ok (.iload_n 2, 1) := by decide +kernel
theorem dX3_name_13 : decode cX3_name 13 = .ok (.iastore, 1) := by decide +kernel
theorem dX3_name_14 : decode cX3_name 14 = .ok (.aload_n 0, 1) := by decide +kernel
theorem dX3_name_15 : decode cX3_name 15 = .ok (.getfield 21, 3) := by decide +kernel
theorem dX3_name_18 : decode cX3_name 18 = .ok (.iconst 2, 1) := by decide +kernel
theorem dX3_name_19 : decode cX3_name 19 = .ok (.iload_n 3, 1) := by decide +kernel
theorem dX3_name_20 : decode cX3_name 20 = .ok (.iastore, 1) := by decide +kernel
theorem dX3_name_21 : decode cX3_name 21 = .ok (.aload_n 0, 1) := by decide +kernel
theorem dX3_name_22 : decode cX3_name 22 = .ok (.getfield 21, 3) := by decide +kernel
theorem dX3_name_25 : decode cX3_name 25 = .ok (.iconst 3, 1) := by decide +kernel
theorem dX3_name_26 : decode cX3_name 26 = .ok (.iload 4, 2) := by decide +kernel
theorem dX3_name_28 : decode cX3_name 28 = .ok (.iastore, 1) := by decide +kernel
theorem dX3_name_29 : decode cX3_name 29 = .ok (.aload_n 0, 1) := by decide +kernel
theorem dX3_name_30 : decode cX3_name 30 = .ok (.getfield 21, 3) := by decide +kernel
theorem dX3_name_33 : decode cX3_name 33 = .ok (.iconst 4, 1) := by decide +kernel
theorem dX3_name_34 : decode cX3_name 34 = .ok (.iload 5, 2) := by decide +kernel
theorem dX3_name_36 : decode cX3_name 36 = .ok (.iastore, 1) := by decide +kernel
theorem dX3_name_37 : decode cX3_name 37 = .ok (.aload_n 0, 1) := by decide +kernel
theorem dX3_name_38 : decode cX3_name 38 = .ok (.getfield 21, 3) := by decide +kernel
theorem dX3_name_41 : decode cX3_name 41 = .ok (.iconst 5, 1) := by decide +kernel
theorem dX3_name_42 : decode cX3_name 42 = .ok (.iload 6, 2) := by decide +kernel
theorem dX3_name_44 : decode cX3_name 44 = .ok (.iastore, 1) := by decide +kernel
theorem dX3_name_45 : decode cX3_name 45 = .ok (.return_, 1) := by decide +kernel
theorem dX3_push_0 : decode cX3_push 0 = .ok (.aload_n 0, 1) := by decide +kernel
theorem dX3_push_1 : decode cX3_push 1 = .ok (.getfield 73, 3) := by decide +kernel
theorem dX3_push_4 : decode cX3_push 4 = .ok (.ifCond .lt 15, 3) := by decide +kernel
theorem dX3_push_7 : decode cX3_push 7 = .ok (.aload_n 0, 1) := by decide +kernel
theorem dX3_push_8 : decode cX3_push 8 = .ok (.getfield 73, 3) := by decide +kernel
theorem dX3_push_11 : decode cX3_push 11 = .ok (.aload_n 0, 1) := by decide +kernel
theorem dX3_push_12 : decode cX3_push 12 = .ok (.getfield 18, 3) := by decide +kernel
theorem dX3_push_15 : decode cX3_push 15 = .ok (.arraylength, 1) := by decide +kernel
theorem dX3_push_16 : decode cX3_push 16 = .ok (.if_icmp .lt 4, 3) := by decide +kernel
theorem dX3_push_19 : decode cX3_push 19 = .ok (.return_, 1) := by decide +kernel
theorem dX3_push_20 : decode cX3_push 20 = .ok (.aload_n 0, 1) := by decide +kernel
theorem dX3_push_21 : decode cX3_push 21 = .ok (.getfield 18, 3) := by decide +kernel
theorem dX3_push_24 : decode cX3_push 24 = .ok (.aload_n 0, 1) := by decide +kernel
theorem dX3_push_25 : decode cX3_push 25 = .ok (.getfield 73, 3) := by decide +kernel
theorem dX3_push_28 : decode cX3_push 28 = .ok (.iload_n 1, 1) := by decide +kernel
theorem dX3_push_29 : decode cX3_push 29 = .ok (.iastore, 1) := by decide +kernel
theorem dX3_push_30 : decode cX3_push 30 = .ok (.aload_n 0, 1) := by decide +kernel
theorem dX3_push_31 : decode cX3_push 31 = .ok (.dup, 1) := by decide +kernel
theorem dX3_push_32 : decode cX3_push 32 = .ok (.getfield 73, 3) := by decide +kernel
theorem dX3_push_35 : decode cX3_push 35 = .ok (.iconst 1, 1) := by decide +kernel
theorem dX3_push_36 : decode cX3_push 36 = .ok (.iadd, 1) := by decide +kernel
theorem dX3_push_37 : decode cX3_push 37 = .ok (.putfield 73, 3) := by decide +kernel
theorem dX3_push_40 : decode cX3_push 40 = .ok (.return_, 1) := by decide +kernel
theorem dX3_pop_0 : decode cX3_pop 0 = .ok (.aload_n 0, 1) := by decide +kernel
theorem dX3_pop_1 : decode cX3_pop 1 = .ok (.getfield 73, 3) := by decide +kernel
theorem dX3_pop_4 : decode cX3_pop 4 = .ok (.ifCond .le 15, 3) := by decide +kernel
theorem dX3_pop_7 : decode cX3_pop 7 = .ok (.aload_n 0, 1) := by decide +kernel
theorem dX3_pop_8 : decode cX3_pop 8 = .ok (.getfield 73, 3) := by decide +kernel
theorem dX3_pop_11 : decode cX3_pop 11 = .ok (.aload_n 0, 1) := by decide +kernel
theorem dX3_pop_12 : decode cX3_pop 12 = .ok (.getfield 18, 3) := by decide +kernel
theorem dX3_pop_15 : decode cX3_pop 15 = .ok (.arraylength, 1) := by decide +kernel
theorem dX3_pop_16 : decode cX3_pop 16 = .ok (.if_icmp .le 5, 3) := by decide +kernel
theorem dX3_pop_19 : decode cX3_pop 19 = .ok (.iconst 0, 1) := by decide +kernel
theorem dX3_pop_20 : decode cX3_pop 20 = .ok (.ireturn, 1) := by decide +kernel
theorem dX3_pop_21 : decode cX3_pop 21 = .ok (.aload_n 0, 1) := by decide +kernel
theorem dX3_pop_22 : decode cX3_pop 22 = .ok (.dup, 1) := by decide +kernel
theorem dX3_pop_23 : decode cX3_pop 23 = .ok (.getfield 73, 3) := by decide +kernel
theorem dX3_pop_26 : decode cX3_pop 26 = .ok (.iconst 1, 1) := by decide +kernel
theorem dX3_pop_27 : decode cX3_pop 27 = .ok (.isub, 1) := by decide +kernel
theorem dX3_pop_28 : decode cX3_pop 28 = .ok (.putfield 73, 3) := by decide +kernel
theorem dX3_pop_31 : decode cX3_pop 31 = .ok (.aload_n 0, 1) := by decide +kernel
theorem dX3_pop_32 : decode cX3_pop 32 = .ok (.getfield 18, 3) := by decide +kernel
theorem dX3_pop_35 : decode cX3_pop 35 = .ok (.aload_n 0, 1) := by decide +kernel
theorem dX3_pop_36 : decode cX3_pop 36 = .ok (.getfield 73, 3) := by decide +kernel
theorem dX3_pop_39 : decode cX3_pop 39 = .ok (.iaload, 1) := by decide +kernel
theorem dX3_pop_40 : decode cX3_pop 40 = .ok (.ireturn, 1) := by decide +kernel
theorem dX3_workedOut_0 : decode cX3_workedOut 0 = .ok (.aload_n 0, 1) := by decide +kernel
theorem dX3_workedOut_1 : decode cX3_workedOut 1 = .ok (.iconst 0, 1) := by decide +kernel
theorem dX3_workedOut_2 : decode cX3_workedOut 2 = .ok (.putfield 73, 3) := by decide +kernel
theorem dX3_workedOut_5 : decode cX3_workedOut 5 = .ok (.iconst 0, 1) := by decide +kernel
theorem dX3_workedOut_6 : decode cX3_workedOut 6 = .ok (.istore_n 1, 1) := by decide +kernel
theorem dX3_workedOut_7 : decode cX3_workedOut 7 = .ok (.iconst 0, 1) := by decide +kernel
theorem dX3_workedOut_8 : decode cX3_workedOut 8 = .ok (.istore_n 2, 1) := by decide +kernel
theorem dX3_workedOut_9 : decode cX3_workedOut 9 = .ok (.iload_n 2, 1) := by decide +kernel
theorem dX3_workedOut_10 : decode cX3_workedOut 10 = .ok (.aload_n 0, 1) := by decide +kernel
theorem dX3_workedOut_11 : decode cX3_workedOut 11 = .ok (.getfield 27, 3) := by decide +kernel
theorem dX3_workedOut_14 : decode cX3_workedOut 14 = .ok (.if_icmp .ge 215, 3) := by decide +kernel
theorem dX3_workedOut_17 : decode cX3_workedOut 17 = .ok (.iload_n 1, 1) := by decide +kernel
theorem dX3_workedOut_18 : decode cX3_workedOut 18 = .ok (.ifCond .lt 211, 3) := by decide +kernel
theorem dX3_workedOut_21 : decode cX3_workedOut 21 = .ok (.iload_n 1, 1) := by decide +kernel
theorem dX3_workedOut_22 : decode cX3_workedOut 22 = .ok (.aload_n 0, 1) := by decide +kernel
theorem dX3_workedOut_23 : decode cX3_workedOut 23 = .ok (.getfield 27, 3) := by decide +kernel
theorem dX3_workedOut_26 : decode cX3_workedOut 26 = .ok (.if_icmp .ge 203, 3) := by decide +kernel
theorem dX3_workedOut_29 : decode cX3_workedOut 29 = .ok (.aload_n 0, 1) := by decide +kernel
theorem dX3_workedOut_30 : decode cX3_workedOut 30 = .ok (.getfield 9, 3) := by decide +kernel
theorem dX3_workedOut_33 : decode cX3_workedOut 33 = .ok (.iload_n 1, 1) := by decide +kernel
theorem dX3_workedOut_34 : decode cX3_workedOut 34 = .ok (.iaload, 1) := by decide +kernel
theorem dX3_workedOut_35 : decode cX3_workedOut 35 = .ok (.istore_n 3, 1) := by decide +kernel
theorem dX3_workedOut_36 : decode cX3_workedOut 36 = .ok (.aload_n 0, 1) := by decide +kernel
theorem dX3_workedOut_37 : decode cX3_workedOut 37 = .ok (.getfield 15, 3) := by decide +kernel
theorem dX3_workedOut_40 : decode cX3_workedOut 40 = .ok (.iload_n 1, 1) := by decide +kernel
theorem dX3_workedOut_41 : decode cX3_workedOut 41 = .ok (.iaload, 1) := by decide +kernel
theorem dX3_workedOut_42 : decode cX3_workedOut 42 = .ok (.istore 4, 2) := by decide +kernel
theorem dX3_workedOut_44 : decode cX3_workedOut 44 = .ok (.iinc 1 1, 3) := by decide +kernel
theorem dX3_workedOut_47 : decode cX3_workedOut 47 = .ok (.iload_n 3, 1) := by decide +kernel
theorem dX3_workedOut_48 : decode cX3_workedOut 48 = .ok (.lookupswitch 155 #[(33, 136), (48, 82), (59, 60), (63, 65), (97, 91), (126, 124)], 60) := by decide +kernel
theorem dX3_workedOut_108 : decode cX3_workedOut 108 = .ok (.aload_n 0, 1) := by decide +kernel
theorem dX3_workedOut_109 : decode cX3_workedOut 109 = .ok (.invokevirtual 76, 3) := by decide +kernel
theorem dX3_workedOut_112 : decode cX3_workedOut 112 = .ok (.ireturn, 1) := by decide +kernel
theorem dX3_workedOut_113 : decode cX3_workedOut 113 = .ok (.aload_n 0, 1) := by decide +kernel
theorem dX3_workedOut_114 : decode cX3_workedOut 114 = .ok (.invokevirtual 76, 3) := by decide +kernel
theorem dX3_workedOut_117 : decode cX3_workedOut 117 = .ok (.ifCond .ne 8, 3) := by decide +kernel
theorem dX3_workedOut_120 : decode cX3_workedOut 120 = .ok (.iload 4, 2) := by decide +kernel
theorem dX3_workedOut_122 : decode cX3_workedOut 122 = .ok (.goto 4, 3) := by decide +kernel
theorem dX3_workedOut_125 : decode cX3_workedOut 125 = .ok (.iload_n 1, 1) := by decide +kernel
theorem dX3_workedOut_126 : decode cX3_workedOut 126 = .ok (.istore_n 1, 1) := by decide +kernel
theorem dX3_workedOut_127 : decode cX3_workedOut 127 = .ok (.goto 96, 3) := by decide +kernel
theorem dX3_workedOut_130 : decode cX3_workedOut 130 = .ok (.aload_n 0, 1) := by decide +kernel
theorem dX3_workedOut_131 : decode cX3_workedOut 131 = .ok (.iload 4, 2) := by decide +kernel
theorem dX3_workedOut_133 : decode cX3_workedOut 133 = .ok (.invokevirtual 79, 3) := by decide +kernel
theorem dX3_workedOut_136 : decode cX3_workedOut 136 = .ok (.goto 87, 3) := by decide +kernel
theorem dX3_workedOut_139 : decode cX3_workedOut 139 = .ok (.aload_n 0, 1) := by decide +kernel
theorem dX3_workedOut_140 : decode cX3_workedOut 140 = .ok (.iload 4, 2) := by decide +kernel
theorem dX3_workedOut_142 : decode cX3_workedOut 142 = .ok (.ifCond .lt 23, 3) := by decide +kernel
theorem dX3_workedOut_145 : decode cX3_workedOut 145 = .ok (.iload 4, 2) := by decide +kernel
theorem dX3_workedOut_147 : decode cX3_workedOut 147 = .ok (.aload_n 0, 1) := by decide +kernel
theorem dX3_workedOut_148 : decode cX3_workedOut 148 = .ok (.getfield 21, 3) := by decide +kernel
theorem dX3_workedOut_151 : decode cX3_workedOut 151 = .ok (.arraylength, 1) := by decide +kernel
theorem dX3_workedOut_152 : decode cX3_workedOut 152 = .ok (.if_icmp .ge 13, 3) := by decide +kernel
theorem dX3_workedOut_155 : decode cX3_workedOut 155 = .ok (.aload_n 0, 1) := by decide +kernel
theorem dX3_workedOut_156 : decode cX3_workedOut 156 = .ok (.getfield 21, 3) := by decide +kernel
theorem dX3_workedOut_159 : decode cX3_workedOut 159 = .ok (.iload 4, 2) := by decide +kernel
theorem dX3_workedOut_161 : decode cX3_workedOut 161 = .ok (.iaload, 1) := by decide +kernel
theorem dX3_workedOut_162 : decode cX3_workedOut 162 = .ok (.goto 4, 3) := by decide +kernel
theorem dX3_workedOut_165 : decode cX3_workedOut 165 = .ok (.iconst 0, 1) := by decide +kernel
theorem dX3_workedOut_166 : decode cX3_workedOut 166 = .ok (.invokevirtual 79, 3) := by decide +kernel
theorem dX3_workedOut_169 : decode cX3_workedOut 169 = .ok (.goto 54, 3) := by decide +kernel
theorem dX3_workedOut_172 : decode cX3_workedOut 172 = .ok (.aload_n 0, 1) := by decide +kernel
theorem dX3_workedOut_173 : decode cX3_workedOut 173 = .ok (.aload_n 0, 1) := by decide +kernel
theorem dX3_workedOut_174 : decode cX3_workedOut 174 = .ok (.invokevirtual 76, 3) := by decide +kernel
theorem dX3_workedOut_177 : decode cX3_workedOut 177 = .ok (.ineg, 1) := by decide +kernel
theorem dX3_workedOut_178 : decode cX3_workedOut 178 = .ok (.invokevirtual 79, 3) := by decide +kernel
theorem dX3_workedOut_181 : decode cX3_workedOut 181 = .ok (.goto 42, 3) := by decide +kernel
theorem dX3_workedOut_184 : decode cX3_workedOut 184 = .ok (.aload_n 0, 1) := by decide +kernel
theorem dX3_workedOut_185 : decode cX3_workedOut 185 = .ok (.aload_n 0, 1) := by decide +kernel
theorem dX3_workedOut_186 : decode cX3_workedOut 186 = .ok (.invokevirtual 76, 3) := by decide +kernel
theorem dX3_workedOut_189 : decode cX3_workedOut 189 = .ok (.ifCond .ne 7, 3) := by decide +kernel
theorem dX3_workedOut_192 : decode cX3_workedOut 192 = .ok (.iconst 1, 1) := by decide +kernel
theorem dX3_workedOut_193 : decode cX3_workedOut 193 = .ok (.goto 4, 3) := by decide +kernel
theorem dX3_workedOut_196 : decode cX3_workedOut 196 = .ok (.iconst 0, 1) := by decide +kernel
theorem dX3_workedOut_197 : decode cX3_workedOut 197 = .ok (.invokevirtual 79, 3) := by decide +kernel
theorem dX3_workedOut_200 : decode cX3_workedOut 200 = .ok (.goto 23, 3) := by decide +kernel
theorem dX3_workedOut_203 : decode cX3_workedOut 203 = .ok (.aload_n 0, 1) := by decide +kernel
theorem dX3_workedOut_204 : decode cX3_workedOut 204 = .ok (.invokevirtual 76, 3) := by decide +kernel
theorem dX3_workedOut_207 : decode cX3_workedOut 207 = .ok (.istore 5, 2) := by decide +kernel
theorem dX3_workedOut_209 : decode cX3_workedOut 209 = .ok (.aload_n 0, 1) := by decide +kernel
theorem dX3_workedOut_210 : decode cX3_workedOut 210 = .ok (.iload_n 3, 1) := by decide +kernel
theorem dX3_workedOut_211 : decode cX3_workedOut 211 = .ok (.aload_n 0, 1) := by decide +kernel
theorem dX3_workedOut_212 : decode cX3_workedOut 212 = .ok (.invokevirtual 76, 3) := by decide +kernel
theorem dX3_workedOut_215 : decode cX3_workedOut 215 = .ok (.iload 5, 2) := by decide +kernel
theorem dX3_workedOut_217 : decode cX3_workedOut 217 = .ok (.invokestatic 83, 3) := by decide +kernel
theorem dX3_workedOut_220 : decode cX3_workedOut 220 = .ok (.invokevirtual 79, 3) := by decide +kernel
theorem dX3_workedOut_223 : decode cX3_workedOut 223 = .ok (.iinc 2 1, 3) := by decide +kernel
theorem dX3_workedOut_226 : decode cX3_workedOut 226 = .ok (.goto (-217), 3) := by decide +kernel
theorem dX3_workedOut_229 : decode cX3_workedOut 229 = .ok (.iconst 0, 1) := by decide +kernel
theorem dX3_workedOut_230 : decode cX3_workedOut 230 = .ok (.ireturn, 1) := by decide +kernel
theorem dX3_joined_0 : decode cX3_joined 0 = .ok (.iload_n 0, 1) := by decide +kernel
theorem dX3_joined_1 : decode cX3_joined 1 = .ok (.lookupswitch 188 #[(37, 176), (38, 105), (42, 160), (43, 152), (45, 156), (47, 164), (60, 119), (61, 130), (62, 141), (124, 91)], 91) := by decide +kernel
theorem dX3_joined_92 : decode cX3_joined 92 = .ok (.iload_n 1, 1) := by decide +kernel
theorem dX3_joined_93 : decode cX3_joined 93 = .ok (.ifCond .ne 7, 3) := by decide +kernel
theorem dX3_joined_96 : decode cX3_joined 96 = .ok (.iload_n 2, 1) := by decide +kernel
theorem dX3_joined_97 : decode cX3_joined 97 = .ok (.ifCond .eq 7, 3) := by decide +kernel
theorem dX3_joined_100 : decode cX3_joined 100 = .ok (.iconst 1, 1) := by decide +kernel
theorem dX3_joined_101 : decode cX3_joined 101 = .ok (.goto 4, 3) := by decide +kernel
theorem dX3_joined_104 : decode cX3_joined 104 = .ok (.iconst 0, 1) := by decide +kernel
theorem dX3_joined_105 : decode cX3_joined 105 = .ok (.ireturn, 1) := by decide +kernel
theorem dX3_joined_106 : decode cX3_joined 106 = .ok (.iload_n 1, 1) := by decide +kernel
theorem dX3_joined_107 : decode cX3_joined 107 = .ok (.ifCond .eq 11, 3) := by decide +kernel
theorem dX3_joined_110 : decode cX3_joined 110 = .ok (.iload_n 2, 1) := by decide +kernel
theorem dX3_joined_111 : decode cX3_joined 111 = .ok (.ifCond .eq 7, 3) := by decide +kernel
theorem dX3_joined_114 : decode cX3_joined 114 = .ok (.iconst 1, 1) := by decide +kernel
theorem dX3_joined_115 : decode cX3_joined 115 = .ok (.goto 4, 3) := by decide +kernel
theorem dX3_joined_118 : decode cX3_joined 118 = .ok (.iconst 0, 1) := by decide +kernel
theorem dX3_joined_119 : decode cX3_joined 119 = .ok (.ireturn, 1) := by decide +kernel
theorem dX3_joined_120 : decode cX3_joined 120 = .ok (.iload_n 1, 1) := by decide +kernel
theorem dX3_joined_121 : decode cX3_joined 121 = .ok (.iload_n 2, 1) := by decide +kernel
theorem dX3_joined_122 : decode cX3_joined 122 = .ok (.if_icmp .ge 7, 3) := by decide +kernel
theorem dX3_joined_125 : decode cX3_joined 125 = .ok (.iconst 1, 1) := by decide +kernel
theorem dX3_joined_126 : decode cX3_joined 126 = .ok (.goto 4, 3) := by decide +kernel
theorem dX3_joined_129 : decode cX3_joined 129 = .ok (.iconst 0, 1) := by decide +kernel
theorem dX3_joined_130 : decode cX3_joined 130 = .ok (.ireturn, 1) := by decide +kernel
theorem dX3_joined_131 : decode cX3_joined 131 = .ok (.iload_n 1, 1) := by decide +kernel
theorem dX3_joined_132 : decode cX3_joined 132 = .ok (.iload_n 2, 1) := by decide +kernel
theorem dX3_joined_133 : decode cX3_joined 133 = .ok (.if_icmp .ne 7, 3) := by decide +kernel
theorem dX3_joined_136 : decode cX3_joined 136 = .ok (.iconst 1, 1) := by decide +kernel
theorem dX3_joined_137 : decode cX3_joined 137 = .ok (.goto 4, 3) := by decide +kernel
theorem dX3_joined_140 : decode cX3_joined 140 = .ok (.iconst 0, 1) := by decide +kernel
theorem dX3_joined_141 : decode cX3_joined 141 = .ok (.ireturn, 1) := by decide +kernel
theorem dX3_joined_142 : decode cX3_joined 142 = .ok (.iload_n 1, 1) := by decide +kernel
theorem dX3_joined_143 : decode cX3_joined 143 = .ok (.iload_n 2, 1) := by decide +kernel
theorem dX3_joined_144 : decode cX3_joined 144 = .ok (.if_icmp .le 7, 3) := by decide +kernel
theorem dX3_joined_147 : decode cX3_joined 147 = .ok (.iconst 1, 1) := by decide +kernel
theorem dX3_joined_148 : decode cX3_joined 148 = .ok (.goto 4, 3) := by decide +kernel
theorem dX3_joined_151 : decode cX3_joined 151 = .ok (.iconst 0, 1) := by decide +kernel
theorem dX3_joined_152 : decode cX3_joined 152 = .ok (.ireturn, 1) := by decide +kernel
theorem dX3_joined_153 : decode cX3_joined 153 = .ok (.iload_n 1, 1) := by decide +kernel
theorem dX3_joined_154 : decode cX3_joined 154 = .ok (.iload_n 2, 1) := by decide +kernel
theorem dX3_joined_155 : decode cX3_joined 155 = .ok (.iadd, 1) := by decide +kernel
theorem dX3_joined_156 : decode cX3_joined 156 = .ok (.ireturn, 1) := by decide +kernel
theorem dX3_joined_157 : decode cX3_joined 157 = .ok (.iload_n 1, 1) := by decide +kernel
theorem dX3_joined_158 : decode cX3_joined 158 = .ok (.iload_n 2, 1) := by decide +kernel
theorem dX3_joined_159 : decode cX3_joined 159 = .ok (.isub, 1) := by decide +kernel
theorem dX3_joined_160 : decode cX3_joined 160 = .ok (.ireturn, 1) := by decide +kernel
theorem dX3_joined_161 : decode cX3_joined 161 = .ok (.iload_n 1, 1) := by decide +kernel
theorem dX3_joined_162 : decode cX3_joined 162 = .ok (.iload_n 2, 1) := by decide +kernel
theorem dX3_joined_163 : decode cX3_joined 163 = .ok (.imul, 1) := by decide +kernel
theorem dX3_joined_164 : decode cX3_joined 164 = .ok (.ireturn, 1) := by decide +kernel
theorem dX3_joined_165 : decode cX3_joined 165 = .ok (.iload_n 2, 1) := by decide +kernel
theorem dX3_joined_166 : decode cX3_joined 166 = .ok (.ifCond .ne 7, 3) := by decide +kernel
theorem dX3_joined_169 : decode cX3_joined 169 = .ok (.iconst 0, 1) := by decide +kernel
theorem dX3_joined_170 : decode cX3_joined 170 = .ok (.goto 6, 3) := by decide +kernel
theorem dX3_joined_173 : decode cX3_joined 173 = .ok (.iload_n 1, 1) := by decide +kernel
theorem dX3_joined_174 : decode cX3_joined 174 = .ok (.iload_n 2, 1) := by decide +kernel
theorem dX3_joined_175 : decode cX3_joined 175 = .ok (.idiv, 1) := by decide +kernel
theorem dX3_joined_176 : decode cX3_joined 176 = .ok (.ireturn, 1) := by decide +kernel
theorem dX3_joined_177 : decode cX3_joined 177 = .ok (.iload_n 2, 1) := by decide +kernel
theorem dX3_joined_178 : decode cX3_joined 178 = .ok (.ifCond .ne 7, 3) := by decide +kernel
theorem dX3_joined_181 : decode cX3_joined 181 = .ok (.iconst 0, 1) := by decide +kernel
theorem dX3_joined_182 : decode cX3_joined 182 = .ok (.goto 6, 3) := by decide +kernel
theorem dX3_joined_185 : decode cX3_joined 185 = .ok (.iload_n 1, 1) := by decide +kernel
theorem dX3_joined_186 : decode cX3_joined 186 = .ok (.iload_n 2, 1) := by decide +kernel
theorem dX3_joined_187 : decode cX3_joined 187 = .ok (.irem, 1) := by decide +kernel
theorem dX3_joined_188 : decode cX3_joined 188 = .ok (.ireturn, 1) := by decide +kernel
theorem dX3_joined_189 : decode cX3_joined 189 = .ok (.iconst 0, 1) := by decide +kernel
theorem dX3_joined_190 : decode cX3_joined 190 = .ok (.ireturn, 1) := by decide +kernel
theorem dX4_init_0 : decode cX4_init 0 = .ok (.aload_n 0, 1) := by decide +kernel
theorem dX4_init_1 : decode cX4_init 1 = .ok (.invokespecial 1, 3) := by decide +kernel
theorem dX4_init_4 : decode cX4_init 4 = .ok (.return_, 1) := by decide +kernel
theorem dX4_takesBehind_0 : decode cX4_takesBehind 0 = .ok (.iload_n 1, 1) := by decide +kernel
theorem dX4_takesBehind_1 : decode cX4_takesBehind 1 = .ok (.invokestatic 7, 3) := by decide +kernel
theorem dX4_takesBehind_4 : decode cX4_takesBehind 4 = .ok (.istore_n 3, 1) := by decide +kernel
theorem dX4_takesBehind_5 : decode cX4_takesBehind 5 = .ok (.iload_n 3, 1) := by decide +kernel
theorem dX4_takesBehind_6 : decode cX4_takesBehind 6 = .ok (.bipush 6, 2) := by decide +kernel
theorem dX4_takesBehind_8 : decode cX4_takesBehind 8 = .ok (.if_icmp .ge 14, 3) := by decide +kernel
theorem dX4_takesBehind_11 : decode cX4_takesBehind 11 = .ok (.aload_n 0, 1) := by decide +kernel
theorem dX4_takesBehind_12 : decode cX4_takesBehind 12 = .ok (.getfield 13, 3) := by decide +kernel
theorem dX4_takesBehind_15 : decode cX4_takesBehind 15 = .ok (.iload_n 3, 1) := by decide +kernel
theorem dX4_takesBehind_16 : decode cX4_takesBehind 16 = .ok (.aaload, 1) := by decide +kernel
theorem dX4_takesBehind_17 : decode cX4_takesBehind 17 = .ok (.iload_n 2, 1) := by decide +kernel
theorem dX4_takesBehind_18 : decode cX4_takesBehind 18 = .ok (.iaload, 1) := by decide +kernel
theorem dX4_takesBehind_19 : decode cX4_takesBehind 19 = .ok (.goto 4, 3) := by decide +kernel
theorem dX4_takesBehind_22 : decode cX4_takesBehind 22 = .ok (.iconst 0, 1) := by decide +kernel
theorem dX4_takesBehind_23 : decode cX4_takesBehind 23 = .ok (.ireturn, 1) := by decide +kernel
theorem dX5_init_0 : decode cX5_init 0 = .ok (.aload_n 0, 1) := by decide +kernel
theorem dX5_init_1 : decode cX5_init 1 = .ok (.invokespecial 1, 3) := by decide +kernel
theorem dX5_init_4 : decode cX5_init 4 = .ok (.aload_n 0, 1) := by decide +kernel
theorem dX5_init_5 : decode cX5_init 5 = .ok (.bipush 6, 2) := by decide +kernel
theorem dX5_init_7 : decode cX5_init 7 = .ok (.bipush 6, 2) := by decide +kernel
theorem dX5_init_9 : decode cX5_init 9 = .ok (.multianewarray 9 2, 4) := by decide +kernel
theorem dX5_init_13 : decode cX5_init 13 = .ok (.putfield 11, 3) := by decide +kernel
theorem dX5_init_16 : decode cX5_init 16 = .ok (.aload_n 0, 1) := by decide +kernel
theorem dX5_init_17 : decode cX5_init 17 = .ok (.bipush 64, 2) := by decide +kernel
theorem dX5_init_19 : decode cX5_init 19 = .ok (.newarray .int, 2) := by decide +kernel
theorem dX5_init_21 : decode cX5_init 21 = .ok (.putfield 14, 3) := by decide +kernel
theorem dX5_init_24 : decode cX5_init 24 = .ok (.return_, 1) := by decide +kernel
theorem dX5_workOut_0 : decode cX5_workOut 0 = .ok (.aload_n 0, 1) := by decide +kernel
theorem dX5_workOut_1 : decode cX5_workOut 1 = .ok (.iconst 0, 1) := by decide +kernel
theorem dX5_workOut_2 : decode cX5_workOut 2 = .ok (.bipush 6, 2) := by decide +kernel
theorem dX5_workOut_4 : decode cX5_workOut 4 = .ok (.iload_n 1, 1) := by decide +kernel
theorem dX5_workOut_5 : decode cX5_workOut 5 = .ok (.invokestatic 18, 3) := by decide +kernel
theorem dX5_workOut_8 : decode cX5_workOut 8 = .ok (.invokestatic 24, 3) := by decide +kernel
theorem dX5_workOut_11 : decode cX5_workOut 11 = .ok (.putfield 27, 3) := by decide +kernel
theorem dX5_workOut_14 : decode cX5_workOut 14 = .ok (.aload_n 0, 1) := by decide +kernel
theorem dX5_workOut_15 : decode cX5_workOut 15 = .ok (.iconst 0, 1) := by decide +kernel
theorem dX5_workOut_16 : decode cX5_workOut 16 = .ok (.aload_n 0, 1) := by decide +kernel
theorem dX5_workOut_17 : decode cX5_workOut 17 = .ok (.getfield 27, 3) := by decide +kernel
theorem dX5_workOut_20 : decode cX5_workOut 20 = .ok (.iload_n 2, 1) := by decide +kernel
theorem dX5_workOut_21 : decode cX5_workOut 21 = .ok (.invokestatic 18, 3) := by decide +kernel
theorem dX5_workOut_24 : decode cX5_workOut 24 = .ok (.invokestatic 24, 3) := by decide +kernel
theorem dX5_workOut_27 : decode cX5_workOut 27 = .ok (.putfield 31, 3) := by decide +kernel
theorem dX5_workOut_30 : decode cX5_workOut 30 = .ok (.iconst 1, 1) := by decide +kernel
theorem dX5_workOut_31 : decode cX5_workOut 31 = .ok (.aload_n 0, 1) := by decide +kernel
theorem dX5_workOut_32 : decode cX5_workOut 32 = .ok (.getfield 27, 3) := by decide +kernel
theorem dX5_workOut_35 : decode cX5_workOut 35 = .ok (.ishl, 1) := by decide +kernel
theorem dX5_workOut_36 : decode cX5_workOut 36 = .ok (.iconst 1, 1) := by decide +kernel
theorem dX5_workOut_37 : decode cX5_workOut 37 = .ok (.isub, 1) := by decide +kernel
theorem dX5_workOut_38 : decode cX5_workOut 38 = .ok (.istore_n 3, 1) := by decide +kernel
theorem dX5_workOut_39 : decode cX5_workOut 39 = .ok (.iload_n 3, 1) := by decide +kernel
theorem dX5_workOut_40 : decode cX5_workOut 40 = .ok (.ifCond .lt 40, 3) := by decide +kernel
theorem dX5_workOut_43 : decode cX5_workOut 43 = .ok (.aload_n 0, 1) := by decide +kernel
theorem dX5_workOut_44 : decode cX5_workOut 44 = .ok (.getfield 14, 3) := by decide +kernel
theorem dX5_workOut_47 : decode cX5_workOut 47 = .ok (.iload_n 3, 1) := by decide +kernel
theorem dX5_workOut_48 : decode cX5_workOut 48 = .ok (.iload_n 3, 1) := by decide +kernel
theorem dX5_workOut_49 : decode cX5_workOut 49 = .ok (.invokestatic 34, 3) := by decide +kernel
theorem dX5_workOut_52 : decode cX5_workOut 52 = .ok (.aload_n 0, 1) := by decide +kernel
theorem dX5_workOut_53 : decode cX5_workOut 53 = .ok (.getfield 31, 3) := by decide +kernel
theorem dX5_workOut_56 : decode cX5_workOut 56 = .ok (.if_icmp .lt 7, 3) := by decide +kernel
theorem dX5_workOut_59 : decode cX5_workOut 59 = .ok (.iconst 0, 1) := by decide +kernel
theorem dX5_workOut_60 : decode cX5_workOut 60 = .ok (.goto 13, 3) := by decide +kernel
theorem dX5_workOut_63 : decode cX5_workOut 63 = .ok (.aload_n 0, 1) := by decide +kernel
theorem dX5_workOut_64 : decode cX5_workOut 64 = .ok (.iload_n 3, 1) := by decide +kernel
theorem dX5_workOut_65 : decode cX5_workOut 65 = .ok (.aload_n 0, 1) := by decide +kernel
theorem dX5_workOut_66 : decode cX5_workOut 66 = .ok (.iload_n 3, 1) := by decide +kernel
theorem dX5_workOut_67 : decode cX5_workOut 67 = .ok (.invokevirtual 40, 3) := by decide +kernel
theorem dX5_workOut_70 : decode cX5_workOut 70 = .ok (.invokevirtual 43, 3) := by decide +kernel
theorem dX5_workOut_73 : decode cX5_workOut 73 = .ok (.iastore, 1) := by decide +kernel
theorem dX5_workOut_74 : decode cX5_workOut 74 = .ok (.iinc 3 (-1), 3) := by decide +kernel
theorem dX5_workOut_77 : decode cX5_workOut 77 = .ok (.goto (-38), 3) := by decide +kernel
theorem dX5_workOut_80 : decode cX5_workOut 80 = .ok (.return_, 1) := by decide +kernel
theorem dX5_leastSum_0 : decode cX5_leastSum 0 = .ok (.aload_n 0, 1) := by decide +kernel
theorem dX5_leastSum_1 : decode cX5_leastSum 1 = .ok (.getfield 14, 3) := by decide +kernel
theorem dX5_leastSum_4 : decode cX5_leastSum 4 = .ok (.iconst 0, 1) := by decide +kernel
theorem dX5_leastSum_5 : decode cX5_leastSum 5 = .ok (.iaload, 1) := by decide +kernel
theorem dX5_leastSum_6 : decode cX5_leastSum 6 = .ok (.ireturn, 1) := by decide +kernel
theorem dX5_manyItems_0 : decode cX5_manyItems 0 = .ok (.aload_n 0, 1) := by decide +kernel
theorem dX5_manyItems_1 : decode cX5_manyItems 1 = .ok (.getfield 27, 3) := by decide +kernel
theorem dX5_manyItems_4 : decode cX5_manyItems 4 = .ok (.ireturn, 1) := by decide +kernel
theorem dX5_chosen_0 : decode cX5_chosen 0 = .ok (.iconst 0, 1) := by decide +kernel
theorem dX5_chosen_1 : decode cX5_chosen 1 = .ok (.istore_n 2, 1) := by decide +kernel
theorem dX5_chosen_2 : decode cX5_chosen 2 = .ok (.iconst (-1), 1) := by decide +kernel
theorem dX5_chosen_3 : decode cX5_chosen 3 = .ok (.istore_n 3, 1) := by decide +kernel
theorem dX5_chosen_4 : decode cX5_chosen 4 = .ok (.iconst 0, 1) := by decide +kernel
theorem dX5_chosen_5 : decode cX5_chosen 5 = .ok (.istore 4, 2) := by decide +kernel
theorem dX5_chosen_7 : decode cX5_chosen 7 = .ok (.iload 4, 2) := by decide +kernel
theorem dX5_chosen_9 : decode cX5_chosen 9 = .ok (.iload_n 1, 1) := by decide +kernel
theorem dX5_chosen_10 : decode cX5_chosen 10 = .ok (.if_icmp .gt 36, 3) := by decide +kernel
theorem dX5_chosen_13 : decode cX5_chosen 13 = .ok (.iload 4, 2) := by decide +kernel
theorem dX5_chosen_15 : decode cX5_chosen 15 = .ok (.aload_n 0, 1) := by decide +kernel
theorem dX5_chosen_16 : decode cX5_chosen 16 = .ok (.getfield 31, 3) := by decide +kernel
theorem dX5_chosen_19 : decode cX5_chosen 19 = .ok (.if_icmp .ge 27, 3) := by decide +kernel
theorem dX5_chosen_22 : decode cX5_chosen 22 = .ok (.aload_n 0, 1) := by decide +kernel
theorem dX5_chosen_23 : decode cX5_chosen 23 = .ok (.iload_n 2, 1) := by decide +kernel
theorem dX5_chosen_24 : decode cX5_chosen 24 = .ok (.invokevirtual 40, 3) := by decide +kernel
theorem dX5_chosen_27 : decode cX5_chosen 27 = .ok (.istore_n 3, 1) := by decide +kernel
theorem dX5_chosen_28 : decode cX5_chosen 28 = .ok (.iload_n 3, 1) := by decide +kernel
theorem dX5_chosen_29 : decode cX5_chosen 29 = .ok (.ifCond .ge 5, 3) := by decide +kernel
theorem dX5_chosen_32 : decode cX5_chosen 32 = .ok (.iload_n 3, 1) := by decide +kernel
theorem dX5_chosen_33 : decode cX5_chosen 33 = .ok (.ireturn, 1) := by decide +kernel
theorem dX5_chosen_34 : decode cX5_chosen 34 = .ok (.iload_n 2, 1) := by decide +kernel
theorem dX5_chosen_35 : decode cX5_chosen 35 = .ok (.iconst 1, 1) := by decide +kernel
theorem dX5_chosen_36 : decode cX5_chosen 36 = .ok (.iload_n 3, 1) := by decide +kernel
theorem dX5_chosen_37 : decode cX5_chosen 37 = .ok (.ishl, 1) := by decide +kernel
theorem dX5_chosen_38 : decode cX5_chosen 38 = .ok (.ior, 1) := by decide +kernel
theorem dX5_chosen_39 : decode cX5_chosen 39 = .ok (.istore_n 2, 1) := by decide +kernel
theorem dX5_chosen_40 : decode cX5_chosen 40 = .ok (.iinc 4 1, 3) := by decide +kernel
theorem dX5_chosen_43 : decode cX5_chosen 43 = .ok (.goto (-36), 3) := by decide +kernel
theorem dX5_chosen_46 : decode cX5_chosen 46 = .ok (.iload_n 3, 1) := by decide +kernel
theorem dX5_chosen_47 : decode cX5_chosen 47 = .ok (.ireturn, 1) := by decide +kernel
theorem dX5_sumWith_0 : decode cX5_sumWith 0 = .ok (.iload_n 2, 1) := by decide +kernel
theorem dX5_sumWith_1 : decode cX5_sumWith 1 = .ok (.ifCond .ge 8, 3) := by decide +kernel
theorem dX5_sumWith_4 : decode cX5_sumWith 4 = .ok (.ldc 46, 2) := by decide +kernel
theorem dX5_sumWith_6 : decode cX5_sumWith 6 = .ok (.goto 20, 3) := by decide +kernel
theorem dX5_sumWith_9 : decode cX5_sumWith 9 = .ok (.aload_n 0, 1) := by decide +kernel
theorem dX5_sumWith_10 : decode cX5_sumWith 10 = .ok (.iload_n 1, 1) := by decide +kernel
theorem dX5_sumWith_11 : decode cX5_sumWith 11 = .ok (.iload_n 2, 1) := by decide +kernel
theorem dX5_sumWith_12 : decode cX5_sumWith 12 = .ok (.invokevirtual 47, 3) := by decide +kernel
theorem dX5_sumWith_15 : decode cX5_sumWith 15 = .ok (.aload_n 0, 1) := by decide +kernel
theorem dX5_sumWith_16 : decode cX5_sumWith 16 = .ok (.getfield 14, 3) := by decide +kernel
theorem dX5_sumWith_19 : decode cX5_sumWith 19 = .ok (.iload_n 1, 1) := by decide +kernel
theorem dX5_sumWith_20 : decode cX5_sumWith 20 = .ok (.iconst 1, 1) := by decide +kernel
theorem dX5_sumWith_21 : decode cX5_sumWith 21 = .ok (.iload_n 2, 1) := by decide +kernel
theorem dX5_sumWith_22 : decode cX5_sumWith 22 = .ok (.ishl, 1) := by decide +kernel
theorem dX5_sumWith_23 : decode cX5_sumWith 23 = .ok (.ior, 1) := by decide +kernel
theorem dX5_sumWith_24 : decode cX5_sumWith 24 = .ok (.iaload, 1) := by decide +kernel
theorem dX5_sumWith_25 : decode cX5_sumWith 25 = .ok (.iadd, 1) := by decide +kernel
theorem dX5_sumWith_26 : decode cX5_sumWith 26 = .ok (.ireturn, 1) := by decide +kernel
theorem dX5_firstBest_0 : decode cX5_firstBest 0 = .ok (.iconst (-1), 1) := by decide +kernel
theorem dX5_firstBest_1 : decode cX5_firstBest 1 = .ok (.istore_n 2, 1) := by decide +kernel
theorem dX5_firstBest_2 : decode cX5_firstBest 2 = .ok (.ldc 46, 2) := by decide +kernel
theorem dX5_firstBest_4 : decode cX5_firstBest 4 = .ok (.istore_n 3, 1) := by decide +kernel
theorem dX5_firstBest_5 : decode cX5_firstBest 5 = .ok (.iconst 0, 1) := by decide +kernel
theorem dX5_firstBest_6 : decode cX5_firstBest 6 = .ok (.istore 4, 2) := by decide +kernel
theorem dX5_firstBest_8 : decode cX5_firstBest 8 = .ok (.iload 4, 2) := by decide +kernel
theorem dX5_firstBest_10 : decode cX5_firstBest 10 = .ok (.aload_n 0, 1) := by decide +kernel
theorem dX5_firstBest_11 : decode cX5_firstBest 11 = .ok (.getfield 27, 3) := by decide +kernel
theorem dX5_firstBest_14 : decode cX5_firstBest 14 = .ok (.if_icmp .ge 42, 3) := by decide +kernel
theorem dX5_firstBest_17 : decode cX5_firstBest 17 = .ok (.iload_n 1, 1) := by decide +kernel
theorem dX5_firstBest_18 : decode cX5_firstBest 18 = .ok (.iload 4, 2) := by decide +kernel
theorem dX5_firstBest_20 : decode cX5_firstBest 20 = .ok (.ishr, 1) := by decide +kernel
theorem dX5_firstBest_21 : decode cX5_firstBest 21 = .ok (.iconst 1, 1) := by decide +kernel
theorem dX5_firstBest_22 : decode cX5_firstBest 22 = .ok (.iand, 1) := by decide +kernel
theorem dX5_firstBest_23 : decode cX5_firstBest 23 = .ok (.ifCond .eq 6, 3) := by decide +kernel
theorem dX5_firstBest_26 : decode cX5_firstBest 26 = .ok (.goto 24, 3) := by decide +kernel
theorem dX5_firstBest_29 : decode cX5_firstBest 29 = .ok (.aload_n 0, 1) := by decide +kernel
theorem dX5_firstBest_30 : decode cX5_firstBest 30 = .ok (.iload_n 1, 1) := by decide +kernel
theorem dX5_firstBest_31 : decode cX5_firstBest 31 = .ok (.iload 4, 2) := by decide +kernel
theorem dX5_firstBest_33 : decode cX5_firstBest 33 = .ok (.invokevirtual 43, 3) := by decide +kernel
theorem dX5_firstBest_36 : decode cX5_firstBest 36 = .ok (.istore 5, 2) := by decide +kernel
theorem dX5_firstBest_38 : decode cX5_firstBest 38 = .ok (.iload 5, 2) := by decide +kernel
theorem dX5_firstBest_40 : decode cX5_firstBest 40 = .ok (.iload_n 3, 1) := by decide +kernel
theorem dX5_firstBest_41 : decode cX5_firstBest 41 = .ok (.if_icmp .ge 9, 3) := by decide +kernel
theorem dX5_firstBest_44 : decode cX5_firstBest 44 = .ok (.iload 4, 2) := by decide +kernel
theorem dX5_firstBest_46 : decode cX5_firstBest 46 = .ok (.istore_n 2, 1) := by decide +kernel
theorem dX5_firstBest_47 : decode cX5_firstBest 47 = .ok (.iload 5, 2) := by decide +kernel
theorem dX5_firstBest_49 : decode cX5_firstBest 49 = .ok (.istore_n 3, 1) := by decide +kernel
theorem dX5_firstBest_50 : decode cX5_firstBest 50 = .ok (.iinc 4 1, 3) := by decide +kernel
theorem dX5_firstBest_53 : decode cX5_firstBest 53 = .ok (.goto (-45), 3) := by decide +kernel
theorem dX5_firstBest_56 : decode cX5_firstBest 56 = .ok (.iload_n 2, 1) := by decide +kernel
theorem dX5_firstBest_57 : decode cX5_firstBest 57 = .ok (.ireturn, 1) := by decide +kernel
theorem dX6_init_0 : decode cX6_init 0 = .ok (.aload_n 0, 1) := by decide +kernel
theorem dX6_init_1 : decode cX6_init 1 = .ok (.invokespecial 3, 3) := by decide +kernel
theorem dX6_init_4 : decode cX6_init 4 = .ok (.aload_n 0, 1) := by decide +kernel
theorem dX6_init_5 : decode cX6_init 5 = .ok (.bipush 60, 2) := by decide +kernel
theorem dX6_init_7 : decode cX6_init 7 = .ok (.newarray .long, 2) := by decide +kernel
theorem dX6_init_9 : decode cX6_init 9 = .ok (.putfield 9, 3) := by decide +kernel
theorem dX6_init_12 : decode cX6_init 12 = .ok (.aload_n 0, 1) := by decide +kernel
theorem dX6_init_13 : decode cX6_init 13 = .ok (.bipush (-2), 2) := by decide +kernel
theorem dX6_init_15 : decode cX6_init 15 = .ok (.putfield 15, 3) := by decide +kernel
theorem dX6_init_18 : decode cX6_init 18 = .ok (.return_, 1) := by decide +kernel
theorem dX6_isSort_0 : decode cX6_isSort 0 = .ok (.iload_n 0, 1) := by decide +kernel
theorem dX6_isSort_1 : decode cX6_isSort 1 = .ok (.ifCond .lt 12, 3) := by decide +kernel
theorem dX6_isSort_4 : decode cX6_isSort 4 = .ok (.iload_n 0, 1) := by decide +kernel
theorem dX6_isSort_5 : decode cX6_isSort 5 = .ok (.iconst 4, 1) := by decide +kernel
theorem dX6_isSort_6 : decode cX6_isSort 6 = .ok (.if_icmp .gt 7, 3) := by decide +kernel
theorem dX6_isSort_9 : decode cX6_isSort 9 = .ok (.iconst 1, 1) := by decide +kernel
theorem dX6_isSort_10 : decode cX6_isSort 10 = .ok (.goto 4, 3) := by decide +kernel
theorem dX6_isSort_13 : decode cX6_isSort 13 = .ok (.iconst 0, 1) := by decide +kernel
theorem dX6_isSort_14 : decode cX6_isSort 14 = .ok (.ireturn, 1) := by decide +kernel
theorem dX6_holdsNothing_0 : decode cX6_holdsNothing 0 = .ok (.aload_n 0, 1) := by decide +kernel
theorem dX6_holdsNothing_1 : decode cX6_holdsNothing 1 = .ok (.getfield 15, 3) := by decide +kernel
theorem dX6_holdsNothing_4 : decode cX6_holdsNothing 4 = .ok (.bipush (-2), 2) := by decide +kernel
theorem dX6_holdsNothing_6 : decode cX6_holdsNothing 6 = .ok (.if_icmp .ne 7, 3) := by decide +kernel
theorem dX6_holdsNothing_9 : decode cX6_holdsNothing 9 = .ok (.iconst 1, 1) := by decide +kernel
theorem dX6_holdsNothing_10 : decode cX6_holdsNothing 10 = .ok (.goto 4, 3) := by decide +kernel
theorem dX6_holdsNothing_13 : decode cX6_holdsNothing 13 = .ok (.iconst 0, 1) := by decide +kernel
theorem dX6_holdsNothing_14 : decode cX6_holdsNothing 14 = .ok (.ireturn, 1) := by decide +kernel
theorem dX6_holdsRow_0 : decode cX6_holdsRow 0 = .ok (.aload_n 0, 1) := by decide +kernel
theorem dX6_holdsRow_1 : decode cX6_holdsRow 1 = .ok (.getfield 15, 3) := by decide +kernel
theorem dX6_holdsRow_4 : decode cX6_holdsRow 4 = .ok (.invokestatic 19, 3) := by decide +kernel
theorem dX6_holdsRow_7 : decode cX6_holdsRow 7 = .ok (.ireturn, 1) := by decide +kernel
theorem dX6_holdsRowOf_0 : decode cX6_holdsRowOf 0 = .ok (.aload_n 0, 1) := by decide +kernel
theorem dX6_holdsRowOf_1 : decode cX6_holdsRowOf 1 = .ok (.getfield 15, 3) := by decide +kernel
theorem dX6_holdsRowOf_4 : decode cX6_holdsRowOf 4 = .ok (.invokestatic 19, 3) := by decide +kernel
theorem dX6_holdsRowOf_7 : decode cX6_holdsRowOf 7 = .ok (.ifCond .eq 15, 3) := by decide +kernel
theorem dX6_holdsRowOf_10 : decode cX6_holdsRowOf 10 = .ok (.aload_n 0, 1) := by decide +kernel
theorem dX6_holdsRowOf_11 : decode cX6_holdsRowOf 11 = .ok (.getfield 15, 3) := by decide +kernel
theorem dX6_holdsRowOf_14 : decode cX6_holdsRowOf 14 = .ok (.iload_n 1, 1) := by decide +kernel
theorem dX6_holdsRowOf_15 : decode cX6_holdsRowOf 15 = .ok (.if_icmp .ne 7, 3) := by decide +kernel
theorem dX6_holdsRowOf_18 : decode cX6_holdsRowOf 18 = .ok (.iconst 1, 1) := by decide +kernel
theorem dX6_holdsRowOf_19 : decode cX6_holdsRowOf 19 = .ok (.goto 4, 3) := by decide +kernel
theorem dX6_holdsRowOf_22 : decode cX6_holdsRowOf 22 = .ok (.iconst 0, 1) := by decide +kernel
theorem dX6_holdsRowOf_23 : decode cX6_holdsRowOf 23 = .ok (.ireturn, 1) := by decide +kernel
theorem dX6_refusalAsRow_0 : decode cX6_refusalAsRow 0 = .ok (.aload_n 0, 1) := by decide +kernel
theorem dX6_refusalAsRow_1 : decode cX6_refusalAsRow 1 = .ok (.invokevirtual 23, 3) := by decide +kernel
theorem dX6_refusalAsRow_4 : decode cX6_refusalAsRow 4 = .ok (.ifCond .eq 6, 3) := by decide +kernel
theorem dX6_refusalAsRow_7 : decode cX6_refusalAsRow 7 = .ok (.bipush (-11), 2) := by decide +kernel
theorem dX6_refusalAsRow_9 : decode cX6_refusalAsRow 9 = .ok (.ireturn, 1) := by decide +kernel
theorem dX6_refusalAsRow_10 : decode cX6_refusalAsRow 10 = .ok (.aload_n 0, 1) := by decide +kernel
theorem dX6_refusalAsRow_11 : decode cX6_refusalAsRow 11 = .ok (.invokevirtual 27, 3) := by decide +kernel
theorem dX6_refusalAsRow_14 : decode cX6_refusalAsRow 14 = .ok (.ifCond .eq 7, 3) := by decide +kernel
theorem dX6_refusalAsRow_17 : decode cX6_refusalAsRow 17 = .ok (.iconst 0, 1) := by decide +kernel
theorem dX6_refusalAsRow_18 : decode cX6_refusalAsRow 18 = .ok (.goto 5, 3) := by decide +kernel
theorem dX6_refusalAsRow_21 : decode cX6_refusalAsRow 21 = .ok (.bipush (-12), 2) := by decide +kernel
theorem dX6_refusalAsRow_23 : decode cX6_refusalAsRow 23 = .ok (.ireturn, 1) := by decide +kernel
theorem dX6_refusalAs_0 : decode cX6_refusalAs 0 = .ok (.aload_n 0, 1) := by decide +kernel
theorem dX6_refusalAs_1 : decode cX6_refusalAs 1 = .ok (.invokevirtual 23, 3) := by decide +kernel
theorem dX6_refusalAs_4 : decode cX6_refusalAs 4 = .ok (.ifCond .eq 6, 3) := by decide +kernel
theorem dX6_refusalAs_7 : decode cX6_refusalAs 7 = .ok (.bipush (-11), 2) := by decide +kernel
theorem dX6_refusalAs_9 : decode cX6_refusalAs 9 = .ok (.ireturn, 1) := by decide +kernel
theorem dX6_refusalAs_10 : decode cX6_refusalAs 10 = .ok (.aload_n 0, 1) := by decide +kernel
theorem dX6_refusalAs_11 : decode cX6_refusalAs 11 = .ok (.iload_n 1, 1) := by decide +kernel
theorem dX6_refusalAs_12 : decode cX6_refusalAs 12 = .ok (.invokevirtual 30, 3) := by decide +kernel
theorem dX6_refusalAs_15 : decode cX6_refusalAs 15 = .ok (.ifCond .eq 7, 3) := by decide +kernel
theorem dX6_refusalAs_18 : decode cX6_refusalAs 18 = .ok (.iconst 0, 1) := by decide +kernel
theorem dX6_refusalAs_19 : decode cX6_refusalAs 19 = .ok (.goto 5, 3) := by decide +kernel
theorem dX6_refusalAs_22 : decode cX6_refusalAs 22 = .ok (.bipush (-12), 2) := by decide +kernel
theorem dX6_refusalAs_24 : decode cX6_refusalAs 24 = .ok (.ireturn, 1) := by decide +kernel
theorem dX6_hasPlaces_0 : decode cX6_hasPlaces 0 = .ok (.iload_n 1, 1) := by decide +kernel
theorem dX6_hasPlaces_1 : decode cX6_hasPlaces 1 = .ok (.ifCond .lt 29, 3) := by decide +kernel
theorem dX6_hasPlaces_4 : decode cX6_hasPlaces 4 = .ok (.iload_n 2, 1) := by decide +kernel
theorem dX6_hasPlaces_5 : decode cX6_hasPlaces 5 = .ok (.ifCond .lt 25, 3) := by decide +kernel
theorem dX6_hasPlaces_8 : decode cX6_hasPlaces 8 = .ok (.iload_n 2, 1) := by decide +kernel
theorem dX6_hasPlaces_9 : decode cX6_hasPlaces 9 = .ok (.aload_n 0, 1) := by decide +kernel
theorem dX6_hasPlaces_10 : decode cX6_hasPlaces 10 = .ok (.getfield 33, 3) := by decide +kernel
theorem dX6_hasPlaces_13 : decode cX6_hasPlaces 13 = .ok (.if_icmp .gt 17, 3) := by decide +kernel
theorem dX6_hasPlaces_16 : decode cX6_hasPlaces 16 = .ok (.iload_n 1, 1) := by decide +kernel
theorem dX6_hasPlaces_17 : decode cX6_hasPlaces 17 = .ok (.aload_n 0, 1) := by decide +kernel
theorem dX6_hasPlaces_18 : decode cX6_hasPlaces 18 = .ok (.getfield 33, 3) := by decide +kernel
theorem dX6_hasPlaces_21 : decode cX6_hasPlaces 21 = .ok (.iload_n 2, 1) := by decide +kernel
theorem dX6_hasPlaces_22 : decode cX6_hasPlaces 22 = .ok (.isub, 1) := by decide +kernel
theorem dX6_hasPlaces_23 : decode cX6_hasPlaces 23 = .ok (.if_icmp .gt 7, 3) := by decide +kernel
theorem dX6_hasPlaces_26 : decode cX6_hasPlaces 26 = .ok (.iconst 1, 1) := by decide +kernel
theorem dX6_hasPlaces_27 : decode cX6_hasPlaces 27 = .ok (.goto 4, 3) := by decide +kernel
theorem dX6_hasPlaces_30 : decode cX6_hasPlaces 30 = .ok (.iconst 0, 1) := by decide +kernel
theorem dX6_hasPlaces_31 : decode cX6_hasPlaces 31 = .ok (.ireturn, 1) := by decide +kernel
theorem dX6_holdNothing_0 : decode cX6_holdNothing 0 = .ok (.aload_n 0, 1) := by decide +kernel
theorem dX6_holdNothing_1 : decode cX6_holdNothing 1 = .ok (.bipush (-2), 2) := by decide +kernel
theorem dX6_holdNothing_3 : decode cX6_holdNothing 3 = .ok (.putfield 15, 3) := by decide +kernel
theorem dX6_holdNothing_6 : decode cX6_holdNothing 6 = .ok (.aload_n 0, 1) := by decide +kernel
theorem dX6_holdNothing_7 : decode cX6_holdNothing 7 = .ok (.iconst 0, 1) := by decide +kernel
theorem dX6_holdNothing_8 : decode cX6_holdNothing 8 = .ok (.putfield 33, 3) := by decide +kernel
theorem dX6_holdNothing_11 : decode cX6_holdNothing 11 = .ok (.return_, 1) := by decide +kernel
theorem dX6_holdHole_0 : decode cX6_holdHole 0 = .ok (.aload_n 0, 1) := by decide +kernel
theorem dX6_holdHole_1 : decode cX6_holdHole 1 = .ok (.iconst (-1), 1) := by decide +kernel
theorem dX6_holdHole_2 : decode cX6_holdHole 2 = .ok (.putfield 15, 3) := by decide +kernel
theorem dX6_holdHole_5 : decode cX6_holdHole 5 = .ok (.aload_n 0, 1) := by decide +kernel
theorem dX6_holdHole_6 : decode cX6_holdHole 6 = .ok (.iconst 0, 1) := by decide +kernel
theorem dX6_holdHole_7 : decode cX6_holdHole 7 = .ok (.putfield 33, 3) := by decide +kernel
theorem dX6_holdHole_10 : decode cX6_holdHole 10 = .ok (.aload_n 0, 1) := by decide +kernel
theorem dX6_holdHole_11 : decode cX6_holdHole 11 = .ok (.iload_n 1, 1) := by decide +kernel
theorem dX6_holdHole_12 : decode cX6_holdHole 12 = .ok (.putfield 36, 3) := by decide +kernel
theorem dX6_holdHole_15 : decode cX6_holdHole 15 = .ok (.return_, 1) := by decide +kernel
theorem dX6_holdRow_0 : decode cX6_holdRow 0 = .ok (.aload_n 0, 1) := by decide +kernel
theorem dX6_holdRow_1 : decode cX6_holdRow 1 = .ok (.iload_n 1, 1) := by decide +kernel
theorem dX6_holdRow_2 : decode cX6_holdRow 2 = .ok (.putfield 15, 3) := by decide +kernel
theorem dX6_holdRow_5 : decode cX6_holdRow 5 = .ok (.aload_n 0, 1) := by decide +kernel
theorem dX6_holdRow_6 : decode cX6_holdRow 6 = .ok (.iconst 0, 1) := by decide +kernel
theorem dX6_holdRow_7 : decode cX6_holdRow 7 = .ok (.bipush 60, 2) := by decide +kernel
theorem dX6_holdRow_9 : decode cX6_holdRow 9 = .ok (.iload_n 2, 1) := by decide +kernel
theorem dX6_holdRow_10 : decode cX6_holdRow 10 = .ok (.invokestatic 39, 3) := by decide +kernel
theorem dX6_holdRow_13 : decode cX6_holdRow 13 = .ok (.invokestatic 45, 3) := by decide +kernel
theorem dX6_holdRow_16 : decode cX6_holdRow 16 = .ok (.putfield 33, 3) := by decide +kernel
theorem dX6_holdRow_19 : decode cX6_holdRow 19 = .ok (.aload_n 0, 1) := by decide +kernel
theorem dX6_holdRow_20 : decode cX6_holdRow 20 = .ok (.getfield 9, 3) := by decide +kernel
theorem dX6_holdRow_23 : decode cX6_holdRow 23 = .ok (.lconst 0, 1) := by decide +kernel
theorem dX6_holdRow_24 : decode cX6_holdRow 24 = .ok (.invokestatic 48, 3) := by decide +kernel
theorem dX6_holdRow_27 : decode cX6_holdRow 27 = .ok (.return_, 1) := by decide +kernel
theorem dX6_lowestBits_0 : decode cX6_lowestBits 0 = .ok (.aload_n 0, 1) := by decide +kernel
theorem dX6_lowestBits_1 : decode cX6_lowestBits 1 = .ok (.getfield 15, 3) := by decide +kernel
theorem dX6_lowestBits_4 : decode cX6_lowestBits 4 = .ok (.tableswitch 62 0 4 #[36, 41, 46, 62, 50], 36) := by decide +kernel
theorem dX6_lowestBits_40 : decode cX6_lowestBits 40 = .ok (.lload_n 1, 1) := by decide +kernel
theorem dX6_lowestBits_41 : decode cX6_lowestBits 41 = .ok (.l2i, 1) := by decide +kernel
theorem dX6_lowestBits_42 : decode cX6_lowestBits 42 = .ok (.i2b, 1) := by decide +kernel
theorem dX6_lowestBits_43 : decode cX6_lowestBits 43 = .ok (.i2l, 1) := by decide +kernel
theorem dX6_lowestBits_44 : decode cX6_lowestBits 44 = .ok (.lreturn, 1) := by decide +kernel
theorem dX6_lowestBits_45 : decode cX6_lowestBits 45 = .ok (.lload_n 1, 1) := by decide +kernel
theorem dX6_lowestBits_46 : decode cX6_lowestBits 46 = .ok (.l2i, 1) := by decide +kernel
theorem dX6_lowestBits_47 : decode cX6_lowestBits 47 = .ok (.i2s, 1) := by decide +kernel
theorem dX6_lowestBits_48 : decode cX6_lowestBits 48 = .ok (.i2l, 1) := by decide +kernel
theorem dX6_lowestBits_49 : decode cX6_lowestBits 49 = .ok (.lreturn, 1) := by decide +kernel
theorem dX6_lowestBits_50 : decode cX6_lowestBits 50 = .ok (.lload_n 1, 1) := by decide +kernel
theorem dX6_lowestBits_51 : decode cX6_lowestBits 51 = .ok (.l2i, 1) := by decide +kernel
theorem dX6_lowestBits_52 : decode cX6_lowestBits 52 = .ok (.i2l, 1) := by decide +kernel
theorem dX6_lowestBits_53 : decode cX6_lowestBits 53 = .ok (.lreturn, 1) := by decide +kernel
theorem dX6_lowestBits_54 : decode cX6_lowestBits 54 = .ok (.lload_n 1, 1) := by decide +kernel
theorem dX6_lowestBits_55 : decode cX6_lowestBits 55 = .ok (.lconst 0, 1) := by decide +kernel
theorem dX6_lowestBits_56 : decode cX6_lowestBits 56 = .ok (.lcmp, 1) := by decide +kernel
theorem dX6_lowestBits_57 : decode cX6_lowestBits 57 = .ok (.ifCond .eq 7, 3) := by decide +kernel
theorem dX6_lowestBits_60 : decode cX6_lowestBits 60 = .ok (.lconst 1, 1) := by decide +kernel
theorem dX6_lowestBits_61 : decode cX6_lowestBits 61 = .ok (.goto 4, 3) := by decide +kernel
theorem dX6_lowestBits_64 : decode cX6_lowestBits 64 = .ok (.lconst 0, 1) := by decide +kernel
theorem dX6_lowestBits_65 : decode cX6_lowestBits 65 = .ok (.lreturn, 1) := by decide +kernel
theorem dX6_lowestBits_66 : decode cX6_lowestBits 66 = .ok (.lload_n 1, 1) := by decide +kernel
theorem dX6_lowestBits_67 : decode cX6_lowestBits 67 = .ok (.lreturn, 1) := by decide +kernel
theorem dX7_init_0 : decode cX7_init 0 = .ok (.aload_n 0, 1) := by decide +kernel
theorem dX7_init_1 : decode cX7_init 1 = .ok (.invokespecial 1, 3) := by decide +kernel
theorem dX7_init_4 : decode cX7_init 4 = .ok (.aload_n 0, 1) := by decide +kernel
theorem dX7_init_5 : decode cX7_init 5 = .ok (.bipush 6, 2) := by decide +kernel
theorem dX7_init_7 : decode cX7_init 7 = .ok (.newarray .int, 2) := by decide +kernel
theorem dX7_init_9 : decode cX7_init 9 = .ok (.putfield 7, 3) := by decide +kernel
theorem dX7_init_12 : decode cX7_init 12 = .ok (.return_, 1) := by decide +kernel
theorem dX7_takesBehind_0 : decode cX7_takesBehind 0 = .ok (.iconst 0, 1) := by decide +kernel
theorem dX7_takesBehind_1 : decode cX7_takesBehind 1 = .ok (.istore_n 3, 1) := by decide +kernel
theorem dX7_takesBehind_2 : decode cX7_takesBehind 2 = .ok (.iconst 0, 1) := by decide +kernel
theorem dX7_takesBehind_3 : decode cX7_takesBehind 3 = .ok (.istore 4, 2) := by decide +kernel
theorem dX7_takesBehind_5 : decode cX7_takesBehind 5 = .ok (.iload 4, 2) := by decide +kernel
theorem dX7_takesBehind_7 : decode cX7_takesBehind 7 = .ok (.bipush 6, 2) := by decide +kernel
theorem dX7_takesBehind_9 : decode cX7_takesBehind 9 = .ok (.if_icmp .ge 37, 3) := by decide +kernel
theorem dX7_takesBehind_12 : decode cX7_takesBehind 12 = .ok (.iload_n 1, 1) := by decide +kernel
theorem dX7_takesBehind_13 : decode cX7_takesBehind 13 = .ok (.iload 4, 2) := by decide +kernel
theorem dX7_takesBehind_15 : decode cX7_takesBehind 15 = .ok (.ishr, 1) := by decide +kernel
theorem dX7_takesBehind_16 : decode cX7_takesBehind 16 = .ok (.iconst 1, 1) := by decide +kernel
theorem dX7_takesBehind_17 : decode cX7_takesBehind 17 = .ok (.iand, 1) := by decide +kernel
theorem dX7_takesBehind_18 : decode cX7_takesBehind 18 = .ok (.ifCond .eq 22, 3) := by decide +kernel
theorem dX7_takesBehind_21 : decode cX7_takesBehind 21 = .ok (.aload_n 0, 1) := by decide +kernel
theorem dX7_takesBehind_22 : decode cX7_takesBehind 22 = .ok (.getfield 7, 3) := by decide +kernel
theorem dX7_takesBehind_25 : decode cX7_takesBehind 25 = .ok (.iload 4, 2) := by decide +kernel
theorem dX7_takesBehind_27 : decode cX7_takesBehind 27 = .ok (.iaload, 1) := by decide +kernel
theorem dX7_takesBehind_28 : decode cX7_takesBehind 28 = .ok (.aload_n 0, 1) := by decide +kernel
theorem dX7_takesBehind_29 : decode cX7_takesBehind 29 = .ok (.getfield 7, 3) := by decide +kernel
theorem dX7_takesBehind_32 : decode cX7_takesBehind 32 = .ok (.iload_n 2, 1) := by decide +kernel
theorem dX7_takesBehind_33 : decode cX7_takesBehind 33 = .ok (.iaload, 1) := by decide +kernel
theorem dX7_takesBehind_34 : decode cX7_takesBehind 34 = .ok (.if_icmp .ne 6, 3) := by decide +kernel
theorem dX7_takesBehind_37 : decode cX7_takesBehind 37 = .ok (.iinc 3 1, 3) := by decide +kernel
theorem dX7_takesBehind_40 : decode cX7_takesBehind 40 = .ok (.iinc 4 1, 3) := by decide +kernel
theorem dX7_takesBehind_43 : decode cX7_takesBehind 43 = .ok (.goto (-38), 3) := by decide +kernel
theorem dX7_takesBehind_46 : decode cX7_takesBehind 46 = .ok (.iload_n 3, 1) := by decide +kernel
theorem dX7_takesBehind_47 : decode cX7_takesBehind 47 = .ok (.bipush 6, 2) := by decide +kernel
theorem dX7_takesBehind_49 : decode cX7_takesBehind 49 = .ok (.if_icmp .ge 14, 3) := by decide +kernel
theorem dX7_takesBehind_52 : decode cX7_takesBehind 52 = .ok (.aload_n 0, 1) := by decide +kernel
theorem dX7_takesBehind_53 : decode cX7_takesBehind 53 = .ok (.getfield 13, 3) := by decide +kernel
theorem dX7_takesBehind_56 : decode cX7_takesBehind 56 = .ok (.iload_n 2, 1) := by decide +kernel
theorem dX7_takesBehind_57 : decode cX7_takesBehind 57 = .ok (.aaload, 1) := by decide +kernel
theorem dX7_takesBehind_58 : decode cX7_takesBehind 58 = .ok (.iload_n 3, 1) := by decide +kernel
theorem dX7_takesBehind_59 : decode cX7_takesBehind 59 = .ok (.iaload, 1) := by decide +kernel
theorem dX7_takesBehind_60 : decode cX7_takesBehind 60 = .ok (.goto 4, 3) := by decide +kernel
theorem dX7_takesBehind_63 : decode cX7_takesBehind 63 = .ok (.iconst 0, 1) := by decide +kernel
theorem dX7_takesBehind_64 : decode cX7_takesBehind 64 = .ok (.ireturn, 1) := by decide +kernel
theorem dX7_sumOfHardFirst_0 : decode cX7_sumOfHardFirst 0 = .ok (.iconst 0, 1) := by decide +kernel
theorem dX7_sumOfHardFirst_1 : decode cX7_sumOfHardFirst 1 = .ok (.istore_n 1, 1) := by decide +kernel
theorem dX7_sumOfHardFirst_2 : decode cX7_sumOfHardFirst 2 = .ok (.iconst 0, 1) := by decide +kernel
theorem dX7_sumOfHardFirst_3 : decode cX7_sumOfHardFirst 3 = .ok (.istore_n 2, 1) := by decide +kernel
theorem dX7_sumOfHardFirst_4 : decode cX7_sumOfHardFirst 4 = .ok (.iconst 0, 1) := by decide +kernel
theorem dX7_sumOfHardFirst_5 : decode cX7_sumOfHardFirst 5 = .ok (.istore_n 3, 1) := by decide +kernel
theorem dX7_sumOfHardFirst_6 : decode cX7_sumOfHardFirst 6 = .ok (.iload_n 3, 1) := by decide +kernel
theorem dX7_sumOfHardFirst_7 : decode cX7_sumOfHardFirst 7 = .ok (.aload_n 0, 1) := by decide +kernel
theorem dX7_sumOfHardFirst_8 : decode cX7_sumOfHardFirst 8 = .ok (.invokevirtual 17, 3) := by decide +kernel
theorem dX7_sumOfHardFirst_11 : decode cX7_sumOfHardFirst 11 = .ok (.if_icmp .ge 40, 3) := by decide +kernel
theorem dX7_sumOfHardFirst_14 : decode cX7_sumOfHardFirst 14 = .ok (.aload_n 0, 1) := by decide +kernel
theorem dX7_sumOfHardFirst_15 : decode cX7_sumOfHardFirst 15 = .ok (.iload_n 2, 1) := by decide +kernel
theorem dX7_sumOfHardFirst_16 : decode cX7_sumOfHardFirst 16 = .ok (.invokevirtual 21, 3) := by decide +kernel
theorem dX7_sumOfHardFirst_19 : decode cX7_sumOfHardFirst 19 = .ok (.istore 4, 2) := by decide +kernel
theorem dX7_sumOfHardFirst_21 : decode cX7_sumOfHardFirst 21 = .ok (.iload 4, 2) := by decide +kernel
theorem dX7_sumOfHardFirst_23 : decode cX7_sumOfHardFirst 23 = .ok (.ifCond .ge 5, 3) := by decide +kernel
theorem dX7_sumOfHardFirst_26 : decode cX7_sumOfHardFirst 26 = .ok (.iload_n 1, 1) := by decide +kernel
theorem dX7_sumOfHardFirst_27 : decode cX7_sumOfHardFirst 27 = .ok (.ireturn, 1) := by decide +kernel
theorem dX7_sumOfHardFirst_28 : decode cX7_sumOfHardFirst 28 = .ok (.iload_n 1, 1) := by decide +kernel
theorem dX7_sumOfHardFirst_29 : decode cX7_sumOfHardFirst 29 = .ok (.aload_n 0, 1) := by decide +kernel
theorem dX7_sumOfHardFirst_30 : decode cX7_sumOfHardFirst 30 = .ok (.iload_n 2, 1) := by decide +kernel
theorem dX7_sumOfHardFirst_31 : decode cX7_sumOfHardFirst 31 = .ok (.iload 4, 2) := by decide +kernel
theorem dX7_sumOfHardFirst_33 : decode cX7_sumOfHardFirst 33 = .ok (.invokevirtual 25, 3) := by decide +kernel
theorem dX7_sumOfHardFirst_36 : decode cX7_sumOfHardFirst 36 = .ok (.iadd, 1) := by decide +kernel
theorem dX7_sumOfHardFirst_37 : decode cX7_sumOfHardFirst 37 = .ok (.istore_n 1, 1) := by decide +kernel
theorem dX7_sumOfHardFirst_38 : decode cX7_sumOfHardFirst 38 = .ok (.iload_n 2, 1) := by decide +kernel
theorem dX7_sumOfHardFirst_39 : decode cX7_sumOfHardFirst 39 = .ok (.iconst 1, 1) := by decide +kernel
theorem dX7_sumOfHardFirst_40 : decode cX7_sumOfHardFirst 40 = .ok (.iload 4, 2) := by decide +kernel
theorem dX7_sumOfHardFirst_42 : decode cX7_sumOfHardFirst 42 = .ok (.ishl, 1) := by decide +kernel
theorem dX7_sumOfHardFirst_43 : decode cX7_sumOfHardFirst 43 = .ok (.ior, 1) := by decide +kernel
theorem dX7_sumOfHardFirst_44 : decode cX7_sumOfHardFirst 44 = .ok (.istore_n 2, 1) := by decide +kernel
theorem dX7_sumOfHardFirst_45 : decode cX7_sumOfHardFirst 45 = .ok (.iinc 3 1, 3) := by decide +kernel
theorem dX7_sumOfHardFirst_48 : decode cX7_sumOfHardFirst 48 = .ok (.goto (-42), 3) := by decide +kernel
theorem dX7_sumOfHardFirst_51 : decode cX7_sumOfHardFirst 51 = .ok (.iload_n 1, 1) := by decide +kernel
theorem dX7_sumOfHardFirst_52 : decode cX7_sumOfHardFirst 52 = .ok (.ireturn, 1) := by decide +kernel
theorem dX7_hardestOutside_0 : decode cX7_hardestOutside 0 = .ok (.iconst (-1), 1) := by decide +kernel
theorem dX7_hardestOutside_1 : decode cX7_hardestOutside 1 = .ok (.istore_n 2, 1) := by decide +kernel
theorem dX7_hardestOutside_2 : decode cX7_hardestOutside 2 = .ok (.iconst 0, 1) := by decide +kernel
theorem dX7_hardestOutside_3 : decode cX7_hardestOutside 3 = .ok (.istore_n 3, 1) := by decide +kernel
theorem dX7_hardestOutside_4 : decode cX7_hardestOutside 4 = .ok (.iload_n 3, 1) := by decide +kernel
theorem dX7_hardestOutside_5 : decode cX7_hardestOutside 5 = .ok (.aload_n 0, 1) := by decide +kernel
theorem dX7_hardestOutside_6 : decode cX7_hardestOutside 6 = .ok (.invokevirtual 17, 3) := by decide +kernel
theorem dX7_hardestOutside_9 : decode cX7_hardestOutside 9 = .ok (.if_icmp .ge 42, 3) := by decide +kernel
theorem dX7_hardestOutside_12 : decode cX7_hardestOutside 12 = .ok (.iload_n 1, 1) := by decide +kernel
theorem dX7_hardestOutside_13 : decode cX7_hardestOutside 13 = .ok (.iload_n 3, 1) := by decide +kernel
theorem dX7_hardestOutside_14 : decode cX7_hardestOutside 14 = .ok (.ishr, 1) := by decide +kernel
theorem dX7_hardestOutside_15 : decode cX7_hardestOutside 15 = .ok (.iconst 1, 1) := by decide +kernel
theorem dX7_hardestOutside_16 : decode cX7_hardestOutside 16 = .ok (.iand, 1) := by decide +kernel
theorem dX7_hardestOutside_17 : decode cX7_hardestOutside 17 = .ok (.ifCond .ne 28, 3) := by decide +kernel
theorem dX7_hardestOutside_20 : decode cX7_hardestOutside 20 = .ok (.iload_n 2, 1) := by decide +kernel
theorem dX7_hardestOutside_21 : decode cX7_hardestOutside 21 = .ok (.ifCond .lt 22, 3) := by decide +kernel
theorem dX7_hardestOutside_24 : decode cX7_hardestOutside 24 = .ok (.aload_n 0, 1) := by decide +kernel
theorem dX7_hardestOutside_25 : decode cX7_hardestOutside 25 = .ok (.getfield 13, 3) := by decide +kernel
theorem dX7_hardestOutside_28 : decode cX7_hardestOutside 28 = .ok (.iload_n 3, 1) := by decide +kernel
theorem dX7_hardestOutside_29 : decode cX7_hardestOutside 29 = .ok (.aaload, 1) := by decide +kernel
theorem dX7_hardestOutside_30 : decode cX7_hardestOutside 30 = .ok (.iconst 0, 1) := by decide +kernel
theorem dX7_hardestOutside_31 : decode cX7_hardestOutside 31 = .ok (.iaload, 1) := by decide +kernel
theorem dX7_hardestOutside_32 : decode cX7_hardestOutside 32 = .ok (.aload_n 0, 1) := by decide +kernel
theorem dX7_hardestOutside_33 : decode cX7_hardestOutside 33 = .ok (.getfield 13, 3) := by decide +kernel
theorem dX7_hardestOutside_36 : decode cX7_hardestOutside 36 = .ok (.iload_n 2, 1) := by decide +kernel
theorem dX7_hardestOutside_37 : decode cX7_hardestOutside 37 = .ok (.aaload, 1) := by decide +kernel
theorem dX7_hardestOutside_38 : decode cX7_hardestOutside 38 = .ok (.iconst 0, 1) := by decide +kernel
theorem dX7_hardestOutside_39 : decode cX7_hardestOutside 39 = .ok (.iaload, 1) := by decide +kernel
theorem dX7_hardestOutside_40 : decode cX7_hardestOutside 40 = .ok (.if_icmp .le 5, 3) := by decide +kernel
theorem dX7_hardestOutside_43 : decode cX7_hardestOutside 43 = .ok (.iload_n 3, 1) := by decide +kernel
theorem dX7_hardestOutside_44 : decode cX7_hardestOutside 44 = .ok (.istore_n 2, 1) := by decide +kernel
theorem dX7_hardestOutside_45 : decode cX7_hardestOutside 45 = .ok (.iinc 3 1, 3) := by decide +kernel
theorem dX7_hardestOutside_48 : decode cX7_hardestOutside 48 = .ok (.goto (-44), 3) := by decide +kernel
theorem dX7_hardestOutside_51 : decode cX7_hardestOutside 51 = .ok (.iload_n 2, 1) := by decide +kernel
theorem dX7_hardestOutside_52 : decode cX7_hardestOutside 52 = .ok (.ireturn, 1) := by decide +kernel
theorem dX8_init_0 : decode cX8_init 0 = .ok (.aload_n 0, 1) := by decide +kernel
theorem dX8_init_1 : decode cX8_init 1 = .ok (.invokespecial 1, 3) := by decide +kernel
theorem dX8_init_4 : decode cX8_init 4 = .ok (.aload_n 0, 1) := by decide +kernel
theorem dX8_init_5 : decode cX8_init 5 = .ok (.bipush 13, 2) := by decide +kernel
theorem dX8_init_7 : decode cX8_init 7 = .ok (.bipush 8, 2) := by decide +kernel
theorem dX8_init_9 : decode cX8_init 9 = .ok (.multianewarray 9 2, 4) := by decide +kernel
theorem dX8_init_13 : decode cX8_init 13 = .ok (.putfield 11, 3) := by decide +kernel
theorem dX8_init_16 : decode cX8_init 16 = .ok (.aload_n 0, 1) := by decide +kernel
theorem dX8_init_17 : decode cX8_init 17 = .ok (.new 14, 3) := by decide +kernel
theorem dX8_init_20 : decode cX8_init 20 = .ok (.dup, 1) := by decide +kernel
theorem dX8_init_21 : decode cX8_init 21 = .ok (.invokespecial 16, 3) := by decide +kernel
theorem dX8_init_24 : decode cX8_init 24 = .ok (.putfield 17, 3) := by decide +kernel
theorem dX8_init_27 : decode cX8_init 27 = .ok (.aload_n 0, 1) := by decide +kernel
theorem dX8_init_28 : decode cX8_init 28 = .ok (.new 21, 3) := by decide +kernel
theorem dX8_init_31 : decode cX8_init 31 = .ok (.dup, 1) := by decide +kernel
theorem dX8_init_32 : decode cX8_init 32 = .ok (.invokespecial 23, 3) := by decide +kernel
theorem dX8_init_35 : decode cX8_init 35 = .ok (.putfield 24, 3) := by decide +kernel
theorem dX8_init_38 : decode cX8_init 38 = .ok (.aload_n 0, 1) := by decide +kernel
theorem dX8_init_39 : decode cX8_init 39 = .ok (.new 21, 3) := by decide +kernel
theorem dX8_init_42 : decode cX8_init 42 = .ok (.dup, 1) := by decide +kernel
theorem dX8_init_43 : decode cX8_init 43 = .ok (.invokespecial 23, 3) := by decide +kernel
theorem dX8_init_46 : decode cX8_init 46 = .ok (.putfield 28, 3) := by decide +kernel
theorem dX8_init_49 : decode cX8_init 49 = .ok (.aload_n 0, 1) := by decide +kernel
theorem dX8_init_50 : decode cX8_init 50 = .ok (.iconst 2, 1) := by decide +kernel
theorem dX8_init_51 : decode cX8_init 51 = .ok (.newarray .int, 2) := by decide +kernel
theorem dX8_init_53 : decode cX8_init 53 = .ok (.putfield 31, 3) := by decide +kernel
theorem dX8_init_56 : decode cX8_init 56 = .ok (.aload_n 0, 1) := by decide +kernel
theorem dX8_init_57 : decode cX8_init 57 = .ok (.new 35, 3) := by decide +kernel
theorem dX8_init_60 : decode cX8_init 60 = .ok (.dup, 1) := by decide +kernel
theorem dX8_init_61 : decode cX8_init 61 = .ok (.invokespecial 37, 3) := by decide +kernel
theorem dX8_init_64 : decode cX8_init 64 = .ok (.putfield 38, 3) := by decide +kernel
theorem dX8_init_67 : decode cX8_init 67 = .ok (.aload_n 0, 1) := by decide +kernel
theorem dX8_init_68 : decode cX8_init 68 = .ok (.new 42, 3) := by decide +kernel
theorem dX8_init_71 : decode cX8_init 71 = .ok (.dup, 1) := by decide +kernel
theorem dX8_init_72 : decode cX8_init 72 = .ok (.invokespecial 44, 3) := by decide +kernel
theorem dX8_init_75 : decode cX8_init 75 = .ok (.putfield 45, 3) := by decide +kernel
theorem dX8_init_78 : decode cX8_init 78 = .ok (.aload_n 0, 1) := by decide +kernel
theorem dX8_init_79 : decode cX8_init 79 = .ok (.new 49, 3) := by decide +kernel
theorem dX8_init_82 : decode cX8_init 82 = .ok (.dup, 1) := by decide +kernel
theorem dX8_init_83 : decode cX8_init 83 = .ok (.invokespecial 51, 3) := by decide +kernel
theorem dX8_init_86 : decode cX8_init 86 = .ok (.putfield 52, 3) := by decide +kernel
theorem dX8_init_89 : decode cX8_init 89 = .ok (.aload_n 0, 1) := by decide +kernel
theorem dX8_init_90 : decode cX8_init 90 = .ok (.bipush 6, 2) := by decide +kernel
theorem dX8_init_92 : decode cX8_init 92 = .ok (.anewarray 56, 3) := by decide +kernel
theorem dX8_init_95 : decode cX8_init 95 = .ok (.putfield 58, 3) := by decide +kernel
theorem dX8_init_98 : decode cX8_init 98 = .ok (.aload_n 0, 1) := by decide +kernel
theorem dX8_init_99 : decode cX8_init 99 = .ok (.bipush 8, 2) := by decide +kernel
theorem dX8_init_101 : decode cX8_init 101 = .ok (.newarray .int, 2) := by decide +kernel
theorem dX8_init_103 : decode cX8_init 103 = .ok (.putfield 62, 3) := by decide +kernel
theorem dX8_init_106 : decode cX8_init 106 = .ok (.aload_n 0, 1) := by decide +kernel
theorem dX8_init_107 : decode cX8_init 107 = .ok (.new 65, 3) := by decide +kernel
theorem dX8_init_110 : decode cX8_init 110 = .ok (.dup, 1) := by decide +kernel
theorem dX8_init_111 : decode cX8_init 111 = .ok (.invokespecial 67, 3) := by decide +kernel
theorem dX8_init_114 : decode cX8_init 114 = .ok (.putfield 68, 3) := by decide +kernel
theorem dX8_init_117 : decode cX8_init 117 = .ok (.aload_n 0, 1) := by decide +kernel
theorem dX8_init_118 : decode cX8_init 118 = .ok (.new 65, 3) := by decide +kernel
theorem dX8_init_121 : decode cX8_init 121 = .ok (.dup, 1) := by decide +kernel
theorem dX8_init_122 : decode cX8_init 122 = .ok (.invokespecial 67, 3) := by decide +kernel
theorem dX8_init_125 : decode cX8_init 125 = .ok (.putfield 72, 3) := by decide +kernel
theorem dX8_init_128 : decode cX8_init 128 = .ok (.aload_n 0, 1) := by decide +kernel
theorem dX8_init_129 : decode cX8_init 129 = .ok (.getfield 11, 3) := by decide +kernel
theorem dX8_init_132 : decode cX8_init 132 = .ok (.bipush 6, 2) := by decide +kernel
theorem dX8_init_134 : decode cX8_init 134 = .ok (.aaload, 1) := by decide +kernel
theorem dX8_init_135 : decode cX8_init 135 = .ok (.iconst 0, 1) := by decide +kernel
theorem dX8_init_136 : decode cX8_init 136 = .ok (.iconst 2, 1) := by decide +kernel
theorem dX8_init_137 : decode cX8_init 137 = .ok (.iastore, 1) := by decide +kernel
theorem dX8_init_138 : decode cX8_init 138 = .ok (.aload_n 0, 1) := by decide +kernel
theorem dX8_init_139 : decode cX8_init 139 = .ok (.getfield 11, 3) := by decide +kernel
theorem dX8_init_142 : decode cX8_init 142 = .ok (.bipush 6, 2) := by decide +kernel
theorem dX8_init_144 : decode cX8_init 144 = .ok (.aaload, 1) := by decide +kernel
theorem dX8_init_145 : decode cX8_init 145 = .ok (.iconst 1, 1) := by decide +kernel
theorem dX8_init_146 : decode cX8_init 146 = .ok (.bipush 8, 2) := by decide +kernel
theorem dX8_init_148 : decode cX8_init 148 = .ok (.iastore, 1) := by decide +kernel
theorem dX8_init_149 : decode cX8_init 149 = .ok (.aload_n 0, 1) := by decide +kernel
theorem dX8_init_150 : decode cX8_init 150 = .ok (.getfield 11, 3) := by decide +kernel
theorem dX8_init_153 : decode cX8_init 153 = .ok (.bipush 7, 2) := by decide +kernel
theorem dX8_init_155 : decode cX8_init 155 = .ok (.aaload, 1) := by decide +kernel
theorem dX8_init_156 : decode cX8_init 156 = .ok (.iconst 0, 1) := by decide +kernel
theorem dX8_init_157 : decode cX8_init 157 = .ok (.bipush 30, 2) := by decide +kernel
theorem dX8_init_159 : decode cX8_init 159 = .ok (.iastore, 1) := by decide +kernel
theorem dX8_init_160 : decode cX8_init 160 = .ok (.aload_n 0, 1) := by decide +kernel
theorem dX8_init_161 : decode cX8_init 161 = .ok (.getfield 11, 3) := by decide +kernel
theorem dX8_init_164 : decode cX8_init 164 = .ok (.bipush 7, 2) := by decide +kernel
theorem dX8_init_166 : decode cX8_init 166 = .ok (.aaload, 1) := by decide +kernel
theorem dX8_init_167 : decode cX8_init 167 = .ok (.iconst 1, 1) := by decide +kernel
theorem dX8_init_168 : decode cX8_init 168 = .ok (.bipush 30, 2) := by decide +kernel
theorem dX8_init_170 : decode cX8_init 170 = .ok (.iastore, 1) := by decide +kernel
theorem dX8_init_171 : decode cX8_init 171 = .ok (.aload_n 0, 1) := by decide +kernel
theorem dX8_init_172 : decode cX8_init 172 = .ok (.getfield 11, 3) := by decide +kernel
theorem dX8_init_175 : decode cX8_init 175 = .ok (.bipush 10, 2) := by decide +kernel
theorem dX8_init_177 : decode cX8_init 177 = .ok (.aaload, 1) := by decide +kernel
theorem dX8_init_178 : decode cX8_init 178 = .ok (.iconst 0, 1) := by decide +kernel
theorem dX8_init_179 : decode cX8_init 179 = .ok (.bipush 20, 2) := by decide +kernel
theorem dX8_init_181 : decode cX8_init 181 = .ok (.iastore, 1) := by decide +kernel
theorem dX8_init_182 : decode cX8_init 182 = .ok (.iconst 0, 1) := by decide +kernel
theorem dX8_init_183 : decode cX8_init 183 = .ok (.istore_n 1, 1) := by decide +kernel
theorem dX8_init_184 : decode cX8_init 184 = .ok (.iload_n 1, 1) := by decide +kernel
theorem dX8_init_185 : decode cX8_init 185 = .ok (.bipush 6, 2) := by decide +kernel
theorem dX8_init_187 : decode cX8_init 187 = .ok (.if_icmp .ge 22, 3) := by decide +kernel
theorem dX8_init_190 : decode cX8_init 190 = .ok (.aload_n 0, 1) := by decide +kernel
theorem dX8_init_191 : decode cX8_init 191 = .ok (.getfield 58, 3) := by decide +kernel
theorem dX8_init_194 : decode cX8_init 194 = .ok (.iload_n 1, 1) := by decide +kernel
theorem dX8_init_195 : decode cX8_init 195 = .ok (.new 56, 3) := by decide +kernel
theorem dX8_init_198 : decode cX8_init 198 = .ok (.dup, 1) := by decide +kernel
theorem dX8_init_199 : decode cX8_init 199 = .ok (.invokespecial 75, 3) := by decide +kernel
theorem dX8_init_202 : decode cX8_init 202 = .ok (.aastore, 1) := by decide +kernel
theorem dX8_init_203 : decode cX8_init 203 = .ok (.iinc 1 1, 3) := by decide +kernel
theorem dX8_init_206 : decode cX8_init 206 = .ok (.goto (-22), 3) := by decide +kernel
theorem dX8_init_209 : decode cX8_init 209 = .ok (.return_, 1) := by decide +kernel
theorem dX8_link_0 : decode cX8_link 0 = .ok (.iconst 0, 1) := by decide +kernel
theorem dX8_link_1 : decode cX8_link 1 = .ok (.iload_n 1, 1) := by decide +kernel
theorem dX8_link_2 : decode cX8_link 2 = .ok (.invokestatic 76, 3) := by decide +kernel
theorem dX8_link_5 : decode cX8_link 5 = .ok (.ifCond .eq 11, 3) := by decide +kernel
theorem dX8_link_8 : decode cX8_link 8 = .ok (.iconst 1, 1) := by decide +kernel
theorem dX8_link_9 : decode cX8_link 9 = .ok (.iload_n 2, 1) := by decide +kernel
theorem dX8_link_10 : decode cX8_link 10 = .ok (.invokestatic 76, 3) := by decide +kernel
theorem dX8_link_13 : decode cX8_link 13 = .ok (.ifCond .ne 5, 3) := by decide +kernel
theorem dX8_link_16 : decode cX8_link 16 = .ok (.iconst (-1), 1) := by decide +kernel
theorem dX8_link_17 : decode cX8_link 17 = .ok (.ireturn, 1) := by decide +kernel
theorem dX8_link_18 : decode cX8_link 18 = .ok (.aload_n 0, 1) := by decide +kernel
theorem dX8_link_19 : decode cX8_link 19 = .ok (.getfield 80, 3) := by decide +kernel
theorem dX8_link_22 : decode cX8_link 22 = .ok (.bipush 6, 2) := by decide +kernel
theorem dX8_link_24 : decode cX8_link 24 = .ok (.if_icmp .lt 6, 3) := by decide +kernel
theorem dX8_link_27 : decode cX8_link 27 = .ok (.bipush (-3), 2) := by decide +kernel
theorem dX8_link_29 : decode cX8_link 29 = .ok (.ireturn, 1) := by decide +kernel
theorem dX8_link_30 : decode cX8_link 30 = .ok (.aload_n 0, 1) := by decide +kernel
theorem dX8_link_31 : decode cX8_link 31 = .ok (.getfield 11, 3) := by decide +kernel
theorem dX8_link_34 : decode cX8_link 34 = .ok (.iconst 0, 1) := by decide +kernel
theorem dX8_link_35 : decode cX8_link 35 = .ok (.aaload, 1) := by decide +kernel
theorem dX8_link_36 : decode cX8_link 36 = .ok (.aload_n 0, 1) := by decide +kernel
theorem dX8_link_37 : decode cX8_link 37 = .ok (.getfield 80, 3) := by decide +kernel
theorem dX8_link_40 : decode cX8_link 40 = .ok (.iload_n 1, 1) := by decide +kernel
theorem dX8_link_41 : decode cX8_link 41 = .ok (.iastore, 1) := by decide +kernel
theorem dX8_link_42 : decode cX8_link 42 = .ok (.aload_n 0, 1) := by decide +kernel
theorem dX8_link_43 : decode cX8_link 43 = .ok (.getfield 11, 3) := by decide +kernel
theorem dX8_link_46 : decode cX8_link 46 = .ok (.iconst 1, 1) := by decide +kernel
theorem dX8_link_47 : decode cX8_link 47 = .ok (.aaload, 1) := by decide +kernel
theorem dX8_link_48 : decode cX8_link 48 = .ok (.aload_n 0, 1) := by decide +kernel
theorem dX8_link_49 : decode cX8_link 49 = .ok (.getfield 80, 3) := by decide +kernel
theorem dX8_link_52 : decode cX8_link 52 = .ok (.iload_n 2, 1) := by decide +kernel
theorem dX8_link_53 : decode cX8_link 53 = .ok (.iastore, 1) := by decide +kernel
theorem dX8_link_54 : decode cX8_link 54 = .ok (.aload_n 0, 1) := by decide +kernel
theorem dX8_link_55 : decode cX8_link 55 = .ok (.dup, 1) := by decide +kernel
theorem dX8_link_56 : decode cX8_link 56 = .ok (.getfield 80, 3) := by decide +kernel
theorem dX8_link_59 : decode cX8_link 59 = .ok (.dup_x1, 1) := by decide +kernel
theorem dX8_link_60 : decode cX8_link 60 = .ok (.iconst 1, 1) := by decide +kernel
theorem dX8_link_61 : decode cX8_link 61 = .ok (.iadd, 1) := by decide +kernel
theorem dX8_link_62 : decode cX8_link 62 = .ok (.putfield 80, 3) := by decide +kernel
theorem dX8_link_65 : decode cX8_link 65 = .ok (.ireturn, 1) := by decide +kernel
theorem dX8_cuff_0 : decode cX8_cuff 0 = .ok (.iconst 2, 1) := by decide +kernel
theorem dX8_cuff_1 : decode cX8_cuff 1 = .ok (.iload_n 1, 1) := by decide +kernel
theorem dX8_cuff_2 : decode cX8_cuff 2 = .ok (.invokestatic 76, 3) := by decide +kernel
theorem dX8_cuff_5 : decode cX8_cuff 5 = .ok (.ifCond .eq 11, 3) := by decide +kernel
theorem dX8_cuff_8 : decode cX8_cuff 8 = .ok (.iconst 3, 1) := by decide +kernel
theorem dX8_cuff_9 : decode cX8_cuff 9 = .ok (.iload_n 2, 1) := by decide +kernel
theorem dX8_cuff_10 : decode cX8_cuff 10 = .ok (.invokestatic 76, 3) := by decide +kernel
theorem dX8_cuff_13 : decode cX8_cuff 13 = .ok (.ifCond .ne 5, 3) := by decide +kernel
theorem dX8_cuff_16 : decode cX8_cuff 16 = .ok (.iconst (-1), 1) := by decide +kernel
theorem dX8_cuff_17 : decode cX8_cuff 17 = .ok (.ireturn, 1) := by decide +kernel
theorem dX8_cuff_18 : decode cX8_cuff 18 = .ok (.aload_n 0, 1) := by decide +kernel
theorem dX8_cuff_19 : decode cX8_cuff 19 = .ok (.getfield 84, 3) := by decide +kernel
theorem dX8_cuff_22 : decode cX8_cuff 22 = .ok (.bipush 6, 2) := by decide +kernel
theorem dX8_cuff_24 : decode cX8_cuff 24 = .ok (.if_icmp .lt 6, 3) := by decide +kernel
theorem dX8_cuff_27 : decode cX8_cuff 27 = .ok (.bipush (-3), 2) := by decide +kernel
theorem dX8_cuff_29 : decode cX8_cuff 29 = .ok (.ireturn, 1) := by decide +kernel
theorem dX8_cuff_30 : decode cX8_cuff 30 = .ok (.aload_n 0, 1) := by decide +kernel
theorem dX8_cuff_31 : decode cX8_cuff 31 = .ok (.iload_n 1, 1) := by decide +kernel
theorem dX8_cuff_32 : decode cX8_cuff 32 = .ok (.iload_n 2, 1) := by decide +kernel
theorem dX8_cuff_33 : decode cX8_cuff 33 = .ok (.iconst 0, 1) := by decide +kernel
theorem dX8_cuff_34 : decode cX8_cuff 34 = .ok (.invokevirtual 87, 3) := by decide +kernel
theorem dX8_cuff_37 : decode cX8_cuff 37 = .ok (.ireturn, 1) := by decide +kernel
theorem dX8_cuffs_0 : decode cX8_cuffs 0 = .ok (.iload_n 1, 1) := by decide +kernel
theorem dX8_cuffs_1 : decode cX8_cuffs 1 = .ok (.invokestatic 91, 3) := by decide +kernel
theorem dX8_cuffs_4 : decode cX8_cuffs 4 = .ok (.ifCond .eq 14, 3) := by decide +kernel
theorem dX8_cuffs_7 : decode cX8_cuffs 7 = .ok (.iload_n 3, 1) := by decide +kernel
theorem dX8_cuffs_8 : decode cX8_cuffs 8 = .ok (.iconst 1, 1) := by decide +kernel
theorem dX8_cuffs_9 : decode cX8_cuffs 9 = .ok (.if_icmp .lt 9, 3) := by decide +kernel
theorem dX8_cuffs_12 : decode cX8_cuffs 12 = .ok (.iload_n 3, 1) := by decide +kernel
theorem dX8_cuffs_13 : decode cX8_cuffs 13 = .ok (.bipush 6, 2) := by decide +kernel
theorem dX8_cuffs_15 : decode cX8_cuffs 15 = .ok (.if_icmp .le 5, 3) := by decide +kernel
theorem dX8_cuffs_18 : decode cX8_cuffs 18 = .ok (.iconst (-1), 1) := by decide +kernel
theorem dX8_cuffs_19 : decode cX8_cuffs 19 = .ok (.ireturn, 1) := by decide +kernel
theorem dX8_cuffs_20 : decode cX8_cuffs 20 = .ok (.aload_n 0, 1) := by decide +kernel
theorem dX8_cuffs_21 : decode cX8_cuffs 21 = .ok (.getfield 58, 3) := by decide +kernel
theorem dX8_cuffs_24 : decode cX8_cuffs 24 = .ok (.iload_n 1, 1) := by decide +kernel
theorem dX8_cuffs_25 : decode cX8_cuffs 25 = .ok (.aaload, 1) := by decide +kernel
theorem dX8_cuffs_26 : decode cX8_cuffs 26 = .ok (.astore 4, 2) := by decide +kernel
theorem dX8_cuffs_28 : decode cX8_cuffs 28 = .ok (.aload 4, 2) := by decide +kernel
theorem dX8_cuffs_30 : decode cX8_cuffs 30 = .ok (.invokevirtual 95, 3) := by decide +kernel
theorem dX8_cuffs_33 : decode cX8_cuffs 33 = .ok (.ifCond .eq 5, 3) := by decide +kernel
theorem dX8_cuffs_36 : decode cX8_cuffs 36 = .ok (.iconst 0, 1) := by decide +kernel
theorem dX8_cuffs_37 : decode cX8_cuffs 37 = .ok (.ireturn, 1) := by decide +kernel
theorem dX8_cuffs_38 : decode cX8_cuffs 38 = .ok (.aload 4, 2) := by decide +kernel
theorem dX8_cuffs_40 : decode cX8_cuffs 40 = .ok (.iconst 0, 1) := by decide +kernel
theorem dX8_cuffs_41 : decode cX8_cuffs 41 = .ok (.invokevirtual 99, 3) := by decide +kernel
theorem dX8_cuffs_44 : decode cX8_cuffs 44 = .ok (.ifCond .ne 6, 3) := by decide +kernel
theorem dX8_cuffs_47 : decode cX8_cuffs 47 = .ok (.bipush (-12), 2) := by decide +kernel
theorem dX8_cuffs_49 : decode cX8_cuffs 49 = .ok (.ireturn, 1) := by decide +kernel
theorem dX8_cuffs_50 : decode cX8_cuffs 50 = .ok (.iconst 0, 1) := by decide +kernel
theorem dX8_cuffs_51 : decode cX8_cuffs 51 = .ok (.istore 5, 2) := by decide +kernel
theorem dX8_cuffs_53 : decode cX8_cuffs 53 = .ok (.iload 5, 2) := by decide +kernel
theorem dX8_cuffs_55 : decode cX8_cuffs 55 = .ok (.iload_n 3, 1) := by decide +kernel
theorem dX8_cuffs_56 : decode cX8_cuffs 56 = .ok (.if_icmp .ge 24, 3) := by decide +kernel
theorem dX8_cuffs_59 : decode cX8_cuffs 59 = .ok (.aload_n 0, 1) := by decide +kernel
theorem dX8_cuffs_60 : decode cX8_cuffs 60 = .ok (.aload 4, 2) := by decide +kernel
theorem dX8_cuffs_62 : decode cX8_cuffs 62 = .ok (.iload_n 2, 1) := by decide +kernel
theorem dX8_cuffs_63 : decode cX8_cuffs 63 = .ok (.iconst 3, 1) := by decide +kernel
theorem dX8_cuffs_64 : decode cX8_cuffs 64 = .ok (.iload 5, 2) := by decide +kernel
theorem dX8_cuffs_66 : decode cX8_cuffs 66 = .ok (.imul, 1) := by decide +kernel
theorem dX8_cuffs_67 : decode cX8_cuffs 67 = .ok (.iadd, 1) := by decide +kernel
theorem dX8_cuffs_68 : decode cX8_cuffs 68 = .ok (.invokevirtual 102, 3) := by decide +kernel
theorem dX8_cuffs_71 : decode cX8_cuffs 71 = .ok (.ifCond .eq 9, 3) := by decide +kernel
theorem dX8_cuffs_74 : decode cX8_cuffs 74 = .ok (.iinc 5 1, 3) := by decide +kernel
theorem dX8_cuffs_77 : decode cX8_cuffs 77 = .ok (.goto (-24), 3) := by decide +kernel
theorem dX8_cuffs_80 : decode cX8_cuffs 80 = .ok (.iload 5, 2) := by decide +kernel
theorem dX8_cuffs_82 : decode cX8_cuffs 82 = .ok (.ireturn, 1) := by decide +kernel
theorem dX8_spot_0 : decode cX8_spot 0 = .ok (.bipush 11, 2) := by decide +kernel
theorem dX8_spot_2 : decode cX8_spot 2 = .ok (.iload_n 1, 1) := by decide +kernel
theorem dX8_spot_3 : decode cX8_spot 3 = .ok (.invokestatic 76, 3) := by decide +kernel
theorem dX8_spot_6 : decode cX8_spot 6 = .ok (.ifCond .eq 12, 3) := by decide +kernel
theorem dX8_spot_9 : decode cX8_spot 9 = .ok (.bipush 12, 2) := by decide +kernel
theorem dX8_spot_11 : decode cX8_spot 11 = .ok (.iload_n 2, 1) := by decide +kernel
theorem dX8_spot_12 : decode cX8_spot 12 = .ok (.invokestatic 76, 3) := by decide +kernel
theorem dX8_spot_15 : decode cX8_spot 15 = .ok (.ifCond .ne 5, 3) := by decide +kernel
theorem dX8_spot_18 : decode cX8_spot 18 = .ok (.iconst (-1), 1) := by decide +kernel
theorem dX8_spot_19 : decode cX8_spot 19 = .ok (.ireturn, 1) := by decide +kernel
theorem dX8_spot_20 : decode cX8_spot 20 = .ok (.aload_n 0, 1) := by decide +kernel
theorem dX8_spot_21 : decode cX8_spot 21 = .ok (.getfield 106, 3) := by decide +kernel
theorem dX8_spot_24 : decode cX8_spot 24 = .ok (.bipush 8, 2) := by decide +kernel
theorem dX8_spot_26 : decode cX8_spot 26 = .ok (.if_icmp .lt 6, 3) := by decide +kernel
theorem dX8_spot_29 : decode cX8_spot 29 = .ok (.bipush (-3), 2) := by decide +kernel
theorem dX8_spot_31 : decode cX8_spot 31 = .ok (.ireturn, 1) := by decide +kernel
theorem dX8_spot_32 : decode cX8_spot 32 = .ok (.aload_n 0, 1) := by decide +kernel
theorem dX8_spot_33 : decode cX8_spot 33 = .ok (.getfield 11, 3) := by decide +kernel
theorem dX8_spot_36 : decode cX8_spot 36 = .ok (.bipush 11, 2) := by decide +kernel
theorem dX8_spot_38 : decode cX8_spot 38 = .ok (.aaload, 1) := by decide +kernel
theorem dX8_spot_39 : decode cX8_spot 39 = .ok (.aload_n 0, 1) := by decide +kernel
theorem dX8_spot_40 : decode cX8_spot 40 = .ok (.getfield 106, 3) := by decide +kernel
theorem dX8_spot_43 : decode cX8_spot 43 = .ok (.iload_n 1, 1) := by decide +kernel
theorem dX8_spot_44 : decode cX8_spot 44 = .ok (.iastore, 1) := by decide +kernel
theorem dX8_spot_45 : decode cX8_spot 45 = .ok (.aload_n 0, 1) := by decide +kernel
theorem dX8_spot_46 : decode cX8_spot 46 = .ok (.getfield 11, 3) := by decide +kernel
theorem dX8_spot_49 : decode cX8_spot 49 = .ok (.bipush 12, 2) := by decide +kernel
theorem dX8_spot_51 : decode cX8_spot 51 = .ok (.aaload, 1) := by decide +kernel
theorem dX8_spot_52 : decode cX8_spot 52 = .ok (.aload_n 0, 1) := by decide +kernel
theorem dX8_spot_53 : decode cX8_spot 53 = .ok (.getfield 106, 3) := by decide +kernel
theorem dX8_spot_56 : decode cX8_spot 56 = .ok (.iload_n 2, 1) := by decide +kernel
theorem dX8_spot_57 : decode cX8_spot 57 = .ok (.iastore, 1) := by decide +kernel
theorem dX8_spot_58 : decode cX8_spot 58 = .ok (.aload_n 0, 1) := by decide +kernel
theorem dX8_spot_59 : decode cX8_spot 59 = .ok (.dup, 1) := by decide +kernel
theorem dX8_spot_60 : decode cX8_spot 60 = .ok (.getfield 106, 3) := by decide +kernel
theorem dX8_spot_63 : decode cX8_spot 63 = .ok (.dup_x1, 1) := by decide +kernel
theorem dX8_spot_64 : decode cX8_spot 64 = .ok (.iconst 1, 1) := by decide +kernel
theorem dX8_spot_65 : decode cX8_spot 65 = .ok (.iadd, 1) := by decide +kernel
theorem dX8_spot_66 : decode cX8_spot 66 = .ok (.putfield 106, 3) := by decide +kernel
theorem dX8_spot_69 : decode cX8_spot 69 = .ok (.ireturn, 1) := by decide +kernel
theorem dX8_mend_0 : decode cX8_mend 0 = .ok (.aload_n 0, 1) := by decide +kernel
theorem dX8_mend_1 : decode cX8_mend 1 = .ok (.iload_n 1, 1) := by decide +kernel
theorem dX8_mend_2 : decode cX8_mend 2 = .ok (.iload_n 2, 1) := by decide +kernel
theorem dX8_mend_3 : decode cX8_mend 3 = .ok (.invokevirtual 109, 3) := by decide +kernel
theorem dX8_mend_6 : decode cX8_mend 6 = .ok (.ifCond .eq 11, 3) := by decide +kernel
theorem dX8_mend_9 : decode cX8_mend 9 = .ok (.iload_n 2, 1) := by decide +kernel
theorem dX8_mend_10 : decode cX8_mend 10 = .ok (.iload_n 3, 1) := by decide +kernel
theorem dX8_mend_11 : decode cX8_mend 11 = .ok (.invokestatic 76, 3) := by decide +kernel
theorem dX8_mend_14 : decode cX8_mend 14 = .ok (.ifCond .ne 5, 3) := by decide +kernel
theorem dX8_mend_17 : decode cX8_mend 17 = .ok (.iconst (-1), 1) := by decide +kernel
theorem dX8_mend_18 : decode cX8_mend 18 = .ok (.ireturn, 1) := by decide +kernel
theorem dX8_mend_19 : decode cX8_mend 19 = .ok (.aload_n 0, 1) := by decide +kernel
theorem dX8_mend_20 : decode cX8_mend 20 = .ok (.getfield 11, 3) := by decide +kernel
theorem dX8_mend_23 : decode cX8_mend 23 = .ok (.iload_n 2, 1) := by decide +kernel
theorem dX8_mend_24 : decode cX8_mend 24 = .ok (.aaload, 1) := by decide +kernel
theorem dX8_mend_25 : decode cX8_mend 25 = .ok (.iload_n 1, 1) := by decide +kernel
theorem dX8_mend_26 : decode cX8_mend 26 = .ok (.iaload, 1) := by decide +kernel
theorem dX8_mend_27 : decode cX8_mend 27 = .ok (.istore 4, 2) := by decide +kernel
theorem dX8_mend_29 : decode cX8_mend 29 = .ok (.iload 4, 2) := by decide +kernel
theorem dX8_mend_31 : decode cX8_mend 31 = .ok (.iload_n 3, 1) := by decide +kernel
theorem dX8_mend_32 : decode cX8_mend 32 = .ok (.if_icmp .eq 24, 3) := by decide +kernel
theorem dX8_mend_35 : decode cX8_mend 35 = .ok (.aload_n 0, 1) := by decide +kernel
theorem dX8_mend_36 : decode cX8_mend 36 = .ok (.getfield 17, 3) := by decide +kernel
theorem dX8_mend_39 : decode cX8_mend 39 = .ok (.iload_n 1, 1) := by decide +kernel
theorem dX8_mend_40 : decode cX8_mend 40 = .ok (.iload_n 2, 1) := by decide +kernel
theorem dX8_mend_41 : decode cX8_mend 41 = .ok (.iload 4, 2) := by decide +kernel
theorem dX8_mend_43 : decode cX8_mend 43 = .ok (.iload_n 3, 1) := by decide +kernel
theorem dX8_mend_44 : decode cX8_mend 44 = .ok (.invokevirtual 112, 3) := by decide +kernel
theorem dX8_mend_47 : decode cX8_mend 47 = .ok (.aload_n 0, 1) := by decide +kernel
theorem dX8_mend_48 : decode cX8_mend 48 = .ok (.getfield 11, 3) := by decide +kernel
theorem dX8_mend_51 : decode cX8_mend 51 = .ok (.iload_n 2, 1) := by decide +kernel
theorem dX8_mend_52 : decode cX8_mend 52 = .ok (.aaload, 1) := by decide +kernel
theorem dX8_mend_53 : decode cX8_mend 53 = .ok (.iload_n 1, 1) := by decide +kernel
theorem dX8_mend_54 : decode cX8_mend 54 = .ok (.iload_n 3, 1) := by decide +kernel
theorem dX8_mend_55 : decode cX8_mend 55 = .ok (.iastore, 1) := by decide +kernel
theorem dX8_mend_56 : decode cX8_mend 56 = .ok (.iload 4, 2) := by decide +kernel
theorem dX8_mend_58 : decode cX8_mend 58 = .ok (.ireturn, 1) := by decide +kernel
theorem dX8_of_0 : decode cX8_of 0 = .ok (.iload_n 2, 1) := by decide +kernel
theorem dX8_of_1 : decode cX8_of 1 = .ok (.bipush 13, 2) := by decide +kernel
theorem dX8_of_3 : decode cX8_of 3 = .ok (.if_icmp .ne 25, 3) := by decide +kernel
theorem dX8_of_6 : decode cX8_of 6 = .ok (.aload_n 0, 1) := by decide +kernel
theorem dX8_of_7 : decode cX8_of 7 = .ok (.iload_n 1, 1) := by decide +kernel
theorem dX8_of_8 : decode cX8_of 8 = .ok (.invokevirtual 116, 3) := by decide +kernel
theorem dX8_of_11 : decode cX8_of 11 = .ok (.ifCond .eq 15, 3) := by decide +kernel
theorem dX8_of_14 : decode cX8_of 14 = .ok (.aload_n 0, 1) := by decide +kernel
theorem dX8_of_15 : decode cX8_of 15 = .ok (.getfield 24, 3) := by decide +kernel
theorem dX8_of_18 : decode cX8_of 18 = .ok (.getfield 119, 3) := by decide +kernel
theorem dX8_of_21 : decode cX8_of 21 = .ok (.iload_n 1, 1) := by decide +kernel
theorem dX8_of_22 : decode cX8_of 22 = .ok (.iaload, 1) := by decide +kernel
theorem dX8_of_23 : decode cX8_of 23 = .ok (.goto 4, 3) := by decide +kernel
theorem dX8_of_26 : decode cX8_of 26 = .ok (.iconst (-1), 1) := by decide +kernel
theorem dX8_of_27 : decode cX8_of 27 = .ok (.ireturn, 1) := by decide +kernel
theorem dX8_of_28 : decode cX8_of 28 = .ok (.aload_n 0, 1) := by decide +kernel
theorem dX8_of_29 : decode cX8_of 29 = .ok (.iload_n 1, 1) := by decide +kernel
theorem dX8_of_30 : decode cX8_of 30 = .ok (.iload_n 2, 1) := by decide +kernel
theorem dX8_of_31 : decode cX8_of 31 = .ok (.invokevirtual 109, 3) := by decide +kernel
theorem dX8_of_34 : decode cX8_of 34 = .ok (.ifCond .eq 14, 3) := by decide +kernel
theorem dX8_of_37 : decode cX8_of 37 = .ok (.aload_n 0, 1) := by decide +kernel
theorem dX8_of_38 : decode cX8_of 38 = .ok (.getfield 11, 3) := by decide +kernel
theorem dX8_of_41 : decode cX8_of 41 = .ok (.iload_n 2, 1) := by decide +kernel
theorem dX8_of_42 : decode cX8_of 42 = .ok (.aaload, 1) := by decide +kernel
theorem dX8_of_43 : decode cX8_of 43 = .ok (.iload_n 1, 1) := by decide +kernel
theorem dX8_of_44 : decode cX8_of 44 = .ok (.iaload, 1) := by decide +kernel
theorem dX8_of_45 : decode cX8_of 45 = .ok (.goto 4, 3) := by decide +kernel
theorem dX8_of_48 : decode cX8_of 48 = .ok (.iconst (-1), 1) := by decide +kernel
theorem dX8_of_49 : decode cX8_of 49 = .ok (.ireturn, 1) := by decide +kernel
theorem dX8_feed_0 : decode cX8_feed 0 = .ok (.iload_n 1, 1) := by decide +kernel
theorem dX8_feed_1 : decode cX8_feed 1 = .ok (.ifCond .lt 10, 3) := by decide +kernel
theorem dX8_feed_4 : decode cX8_feed 4 = .ok (.iload_n 1, 1) := by decide +kernel
theorem dX8_feed_5 : decode cX8_feed 5 = .ok (.sipush 255, 3) := by decide +kernel
theorem dX8_feed_8 : decode cX8_feed 8 = .ok (.if_icmp .le 5, 3) := by decide +kernel
theorem dX8_feed_11 : decode cX8_feed 11 = .ok (.iconst (-1), 1) := by decide +kernel
theorem dX8_feed_12 : decode cX8_feed 12 = .ok (.ireturn, 1) := by decide +kernel
theorem dX8_feed_13 : decode cX8_feed 13 = .ok (.aload_n 0, 1) := by decide +kernel
theorem dX8_feed_14 : decode cX8_feed 14 = .ok (.getfield 72, 3) := by decide +kernel
theorem dX8_feed_17 : decode cX8_feed 17 = .ok (.getfield 122, 3) := by decide +kernel
theorem dX8_feed_20 : decode cX8_feed 20 = .ok (.bipush 120, 2) := by decide +kernel
theorem dX8_feed_22 : decode cX8_feed 22 = .ok (.if_icmp .lt 6, 3) := by decide +kernel
theorem dX8_feed_25 : decode cX8_feed 25 = .ok (.bipush (-3), 2) := by decide +kernel
theorem dX8_feed_27 : decode cX8_feed 27 = .ok (.ireturn, 1) := by decide +kernel
theorem dX8_feed_28 : decode cX8_feed 28 = .ok (.aload_n 0, 1) := by decide +kernel
theorem dX8_feed_29 : decode cX8_feed 29 = .ok (.getfield 72, 3) := by decide +kernel
theorem dX8_feed_32 : decode cX8_feed 32 = .ok (.getfield 125, 3) := by decide +kernel
theorem dX8_feed_35 : decode cX8_feed 35 = .ok (.aload_n 0, 1) := by decide +kernel
theorem dX8_feed_36 : decode cX8_feed 36 = .ok (.getfield 72, 3) := by decide +kernel
theorem dX8_feed_39 : decode cX8_feed 39 = .ok (.getfield 122, 3) := by decide +kernel
theorem dX8_feed_42 : decode cX8_feed 42 = .ok (.iload_n 1, 1) := by decide +kernel
theorem dX8_feed_43 : decode cX8_feed 43 = .ok (.iastore, 1) := by decide +kernel
theorem dX8_feed_44 : decode cX8_feed 44 = .ok (.aload_n 0, 1) := by decide +kernel
theorem dX8_feed_45 : decode cX8_feed 45 = .ok (.getfield 72, 3) := by decide +kernel
theorem dX8_feed_48 : decode cX8_feed 48 = .ok (.dup, 1) := by decide +kernel
theorem dX8_feed_49 : decode cX8_feed 49 = .ok (.getfield 122, 3) := by decide +kernel
theorem dX8_feed_52 : decode cX8_feed 52 = .ok (.iconst 1, 1) := by decide +kernel
theorem dX8_feed_53 : decode cX8_feed 53 = .ok (.iadd, 1) := by decide +kernel
theorem dX8_feed_54 : decode cX8_feed 54 = .ok (.putfield 122, 3) := by decide +kernel
theorem dX8_feed_57 : decode cX8_feed 57 = .ok (.aload_n 0, 1) := by decide +kernel
theorem dX8_feed_58 : decode cX8_feed 58 = .ok (.getfield 72, 3) := by decide +kernel
theorem dX8_feed_61 : decode cX8_feed 61 = .ok (.getfield 122, 3) := by decide +kernel
theorem dX8_feed_64 : decode cX8_feed 64 = .ok (.ireturn, 1) := by decide +kernel
theorem dX8_law_0 : decode cX8_law 0 = .ok (.aload_n 0, 1) := by decide +kernel
theorem dX8_law_1 : decode cX8_law 1 = .ok (.getfield 72, 3) := by decide +kernel
theorem dX8_law_4 : decode cX8_law 4 = .ok (.invokevirtual 128, 3) := by decide +kernel
theorem dX8_law_7 : decode cX8_law 7 = .ok (.istore_n 1, 1) := by decide +kernel
theorem dX8_law_8 : decode cX8_law 8 = .ok (.aload_n 0, 1) := by decide +kernel
theorem dX8_law_9 : decode cX8_law 9 = .ok (.getfield 72, 3) := by decide +kernel
theorem dX8_law_12 : decode cX8_law 12 = .ok (.iconst 0, 1) := by decide +kernel
theorem dX8_law_13 : decode cX8_law 13 = .ok (.putfield 122, 3) := by decide +kernel
theorem dX8_law_16 : decode cX8_law 16 = .ok (.iload_n 1, 1) := by decide +kernel
theorem dX8_law_17 : decode cX8_law 17 = .ok (.ifCond .lt 8, 3) := by decide +kernel
theorem dX8_law_20 : decode cX8_law 20 = .ok (.bipush (-100), 2) := by decide +kernel
theorem dX8_law_22 : decode cX8_law 22 = .ok (.iload_n 1, 1) := by decide +kernel
theorem dX8_law_23 : decode cX8_law 23 = .ok (.isub, 1) := by decide +kernel
theorem dX8_law_24 : decode cX8_law 24 = .ok (.ireturn, 1) := by decide +kernel
theorem dX8_law_25 : decode cX8_law 25 = .ok (.aload_n 0, 1) := by decide +kernel
theorem dX8_law_26 : decode cX8_law 26 = .ok (.getfield 68, 3) := by decide +kernel
theorem dX8_law_29 : decode cX8_law 29 = .ok (.astore_n 2, 1) := by decide +kernel
theorem dX8_law_30 : decode cX8_law 30 = .ok (.aload_n 0, 1) := by decide +kernel
theorem dX8_law_31 : decode cX8_law 31 = .ok (.aload_n 0, 1) := by decide +kernel
theorem dX8_law_32 : decode cX8_law 32 = .ok (.getfield 72, 3) := by decide +kernel
theorem dX8_law_35 : decode cX8_law 35 = .ok (.putfield 68, 3) := by decide +kernel
theorem dX8_law_38 : decode cX8_law 38 = .ok (.aload_n 0, 1) := by decide +kernel
theorem dX8_law_39 : decode cX8_law 39 = .ok (.aload_n 2, 1) := by decide +kernel
theorem dX8_law_40 : decode cX8_law 40 = .ok (.putfield 72, 3) := by decide +kernel
theorem dX8_law_43 : decode cX8_law 43 = .ok (.iconst 1, 1) := by decide +kernel
theorem dX8_law_44 : decode cX8_law 44 = .ok (.ireturn, 1) := by decide +kernel
theorem dX8_seconds_0 : decode cX8_seconds 0 = .ok (.aload_n 0, 1) := by decide +kernel
theorem dX8_seconds_1 : decode cX8_seconds 1 = .ok (.iload_n 1, 1) := by decide +kernel
theorem dX8_seconds_2 : decode cX8_seconds 2 = .ok (.invokevirtual 132, 3) := by decide +kernel
theorem dX8_seconds_5 : decode cX8_seconds 5 = .ok (.ifCond .eq 12, 3) := by decide +kernel
theorem dX8_seconds_8 : decode cX8_seconds 8 = .ok (.iload_n 2, 1) := by decide +kernel
theorem dX8_seconds_9 : decode cX8_seconds 9 = .ok (.ifCond .lt 8, 3) := by decide +kernel
theorem dX8_seconds_12 : decode cX8_seconds 12 = .ok (.iload_n 2, 1) := by decide +kernel
theorem dX8_seconds_13 : decode cX8_seconds 13 = .ok (.iconst 3, 1) := by decide +kernel
theorem dX8_seconds_14 : decode cX8_seconds 14 = .ok (.if_icmp .le 5, 3) := by decide +kernel
theorem dX8_seconds_17 : decode cX8_seconds 17 = .ok (.iconst (-1), 1) := by decide +kernel
theorem dX8_seconds_18 : decode cX8_seconds 18 = .ok (.ireturn, 1) := by decide +kernel
theorem dX8_seconds_19 : decode cX8_seconds 19 = .ok (.iload_n 1, 1) := by decide +kernel
theorem dX8_seconds_20 : decode cX8_seconds 20 = .ok (.bipush 10, 2) := by decide +kernel
theorem dX8_seconds_22 : decode cX8_seconds 22 = .ok (.idiv, 1) := by decide +kernel
theorem dX8_seconds_23 : decode cX8_seconds 23 = .ok (.istore_n 3, 1) := by decide +kernel
theorem dX8_seconds_24 : decode cX8_seconds 24 = .ok (.iload_n 1, 1) := by decide +kernel
theorem dX8_seconds_25 : decode cX8_seconds 25 = .ok (.bipush 10, 2) := by decide +kernel
theorem dX8_seconds_27 : decode cX8_seconds 27 = .ok (.irem, 1) := by decide +kernel
theorem dX8_seconds_28 : decode cX8_seconds 28 = .ok (.istore 4, 2) := by decide +kernel
theorem dX8_seconds_30 : decode cX8_seconds 30 = .ok (.iload_n 2, 1) := by decide +kernel
theorem dX8_seconds_31 : decode cX8_seconds 31 = .ok (.tableswitch 57 0 2 #[25, 33, 41], 25) := by decide +kernel
theorem dX8_seconds_56 : decode cX8_seconds 56 = .ok (.aload_n 0, 1) := by decide +kernel
theorem dX8_seconds_57 : decode cX8_seconds 57 = .ok (.iload_n 3, 1) := by decide +kernel
theorem dX8_seconds_58 : decode cX8_seconds 58 = .ok (.iload 4, 2) := by decide +kernel
theorem dX8_seconds_60 : decode cX8_seconds 60 = .ok (.invokevirtual 135, 3) := by decide +kernel
theorem dX8_seconds_63 : decode cX8_seconds 63 = .ok (.ireturn, 1) := by decide +kernel
theorem dX8_seconds_64 : decode cX8_seconds 64 = .ok (.aload_n 0, 1) := by decide +kernel
theorem dX8_seconds_65 : decode cX8_seconds 65 = .ok (.iload_n 3, 1) := by decide +kernel
theorem dX8_seconds_66 : decode cX8_seconds 66 = .ok (.iload 4, 2) := by decide +kernel
theorem dX8_seconds_68 : decode cX8_seconds 68 = .ok (.invokevirtual 139, 3) := by decide +kernel
theorem dX8_seconds_71 : decode cX8_seconds 71 = .ok (.ireturn, 1) := by decide +kernel
theorem dX8_seconds_72 : decode cX8_seconds 72 = .ok (.aload_n 0, 1) := by decide +kernel
theorem dX8_seconds_73 : decode cX8_seconds 73 = .ok (.iload_n 3, 1) := by decide +kernel
theorem dX8_seconds_74 : decode cX8_seconds 74 = .ok (.iload 4, 2) := by decide +kernel
theorem dX8_seconds_76 : decode cX8_seconds 76 = .ok (.invokevirtual 142, 3) := by decide +kernel
theorem dX8_seconds_79 : decode cX8_seconds 79 = .ok (.ifCond .eq 7, 3) := by decide +kernel
theorem dX8_seconds_82 : decode cX8_seconds 82 = .ok (.iconst 1, 1) := by decide +kernel
theorem dX8_seconds_83 : decode cX8_seconds 83 = .ok (.goto 4, 3) := by decide +kernel
theorem dX8_seconds_86 : decode cX8_seconds 86 = .ok (.iconst 0, 1) := by decide +kernel
theorem dX8_seconds_87 : decode cX8_seconds 87 = .ok (.ireturn, 1) := by decide +kernel
theorem dX8_seconds_88 : decode cX8_seconds 88 = .ok (.aload_n 0, 1) := by decide +kernel
theorem dX8_seconds_89 : decode cX8_seconds 89 = .ok (.iload_n 3, 1) := by decide +kernel
theorem dX8_seconds_90 : decode cX8_seconds 90 = .ok (.iload 4, 2) := by decide +kernel
theorem dX8_seconds_92 : decode cX8_seconds 92 = .ok (.invokevirtual 145, 3) := by decide +kernel
theorem dX8_seconds_95 : decode cX8_seconds 95 = .ok (.ireturn, 1) := by decide +kernel
theorem dX8_best_0 : decode cX8_best 0 = .ok (.aload_n 0, 1) := by decide +kernel
theorem dX8_best_1 : decode cX8_best 1 = .ok (.iload_n 1, 1) := by decide +kernel
theorem dX8_best_2 : decode cX8_best 2 = .ok (.invokevirtual 116, 3) := by decide +kernel
theorem dX8_best_5 : decode cX8_best 5 = .ok (.ifCond .ne 5, 3) := by decide +kernel
theorem dX8_best_8 : decode cX8_best 8 = .ok (.iconst (-1), 1) := by decide +kernel
theorem dX8_best_9 : decode cX8_best 9 = .ok (.ireturn, 1) := by decide +kernel
theorem dX8_best_10 : decode cX8_best 10 = .ok (.bipush (-2), 2) := by decide +kernel
theorem dX8_best_12 : decode cX8_best 12 = .ok (.istore_n 2, 1) := by decide +kernel
theorem dX8_best_13 : decode cX8_best 13 = .ok (.sipush 1000, 3) := by decide +kernel
theorem dX8_best_16 : decode cX8_best 16 = .ok (.istore_n 3, 1) := by decide +kernel
theorem dX8_best_17 : decode cX8_best 17 = .ok (.iconst 0, 1) := by decide +kernel
theorem dX8_best_18 : decode cX8_best 18 = .ok (.istore 4, 2) := by decide +kernel
theorem dX8_best_20 : decode cX8_best 20 = .ok (.iload 4, 2) := by decide +kernel
theorem dX8_best_22 : decode cX8_best 22 = .ok (.aload_n 0, 1) := by decide +kernel
theorem dX8_best_23 : decode cX8_best 23 = .ok (.getfield 80, 3) := by decide +kernel
theorem dX8_best_26 : decode cX8_best 26 = .ok (.if_icmp .ge 30, 3) := by decide +kernel
theorem dX8_best_29 : decode cX8_best 29 = .ok (.aload_n 0, 1) := by decide +kernel
theorem dX8_best_30 : decode cX8_best 30 = .ok (.iload 4, 2) := by decide +kernel
theorem dX8_best_32 : decode cX8_best 32 = .ok (.iload_n 1, 1) := by decide +kernel
theorem dX8_best_33 : decode cX8_best 33 = .ok (.invokevirtual 135, 3) := by decide +kernel
theorem dX8_best_36 : decode cX8_best 36 = .ok (.istore 5, 2) := by decide +kernel
theorem dX8_best_38 : decode cX8_best 38 = .ok (.iload 5, 2) := by decide +kernel
theorem dX8_best_40 : decode cX8_best 40 = .ok (.iload_n 3, 1) := by decide +kernel
theorem dX8_best_41 : decode cX8_best 41 = .ok (.if_icmp .ge 9, 3) := by decide +kernel
theorem dX8_best_44 : decode cX8_best 44 = .ok (.iload 4, 2) := by decide +kernel
theorem dX8_best_46 : decode cX8_best 46 = .ok (.istore_n 2, 1) := by decide +kernel
theorem dX8_best_47 : decode cX8_best 47 = .ok (.iload 5, 2) := by decide +kernel
theorem dX8_best_49 : decode cX8_best 49 = .ok (.istore_n 3, 1) := by decide +kernel
theorem dX8_best_50 : decode cX8_best 50 = .ok (.iinc 4 1, 3) := by decide +kernel
theorem dX8_best_53 : decode cX8_best 53 = .ok (.goto (-33), 3) := by decide +kernel
theorem dX8_best_56 : decode cX8_best 56 = .ok (.iload_n 2, 1) := by decide +kernel
theorem dX8_best_57 : decode cX8_best 57 = .ok (.ireturn, 1) := by decide +kernel
theorem dX8_paired_0 : decode cX8_paired 0 = .ok (.iload_n 1, 1) := by decide +kernel
theorem dX8_paired_1 : decode cX8_paired 1 = .ok (.ifCond .lt 21, 3) := by decide +kernel
theorem dX8_paired_4 : decode cX8_paired 4 = .ok (.iload_n 1, 1) := by decide +kernel
theorem dX8_paired_5 : decode cX8_paired 5 = .ok (.aload_n 0, 1) := by decide +kernel
theorem dX8_paired_6 : decode cX8_paired 6 = .ok (.getfield 84, 3) := by decide +kernel
theorem dX8_paired_9 : decode cX8_paired 9 = .ok (.if_icmp .gt 13, 3) := by decide +kernel
theorem dX8_paired_12 : decode cX8_paired 12 = .ok (.iload_n 2, 1) := by decide +kernel
theorem dX8_paired_13 : decode cX8_paired 13 = .ok (.iconst (-1), 1) := by decide +kernel
theorem dX8_paired_14 : decode cX8_paired 14 = .ok (.if_icmp .lt 8, 3) := by decide +kernel
theorem dX8_paired_17 : decode cX8_paired 17 = .ok (.iload_n 2, 1) := by decide +kernel
theorem dX8_paired_18 : decode cX8_paired 18 = .ok (.iload_n 1, 1) := by decide +kernel
theorem dX8_paired_19 : decode cX8_paired 19 = .ok (.if_icmp .lt 5, 3) := by decide +kernel
theorem dX8_paired_22 : decode cX8_paired 22 = .ok (.iconst (-1), 1) := by decide +kernel
theorem dX8_paired_23 : decode cX8_paired 23 = .ok (.ireturn, 1) := by decide +kernel
theorem dX8_paired_24 : decode cX8_paired 24 = .ok (.iload_n 1, 1) := by decide +kernel
theorem dX8_paired_25 : decode cX8_paired 25 = .ok (.aload_n 0, 1) := by decide +kernel
theorem dX8_paired_26 : decode cX8_paired 26 = .ok (.getfield 80, 3) := by decide +kernel
theorem dX8_paired_29 : decode cX8_paired 29 = .ok (.if_icmp .le 6, 3) := by decide +kernel
theorem dX8_paired_32 : decode cX8_paired 32 = .ok (.bipush (-2), 2) := by decide +kernel
theorem dX8_paired_34 : decode cX8_paired 34 = .ok (.ireturn, 1) := by decide +kernel
theorem dX8_paired_35 : decode cX8_paired 35 = .ok (.iconst 0, 1) := by decide +kernel
theorem dX8_paired_36 : decode cX8_paired 36 = .ok (.istore_n 3, 1) := by decide +kernel
theorem dX8_paired_37 : decode cX8_paired 37 = .ok (.iload_n 3, 1) := by decide +kernel
theorem dX8_paired_38 : decode cX8_paired 38 = .ok (.iload_n 1, 1) := by decide +kernel
theorem dX8_paired_39 : decode cX8_paired 39 = .ok (.if_icmp .ge 46, 3) := by decide +kernel
theorem dX8_paired_42 : decode cX8_paired 42 = .ok (.iconst 0, 1) := by decide +kernel
theorem dX8_paired_43 : decode cX8_paired 43 = .ok (.istore 4, 2) := by decide +kernel
theorem dX8_paired_45 : decode cX8_paired 45 = .ok (.iload 4, 2) := by decide +kernel
theorem dX8_paired_47 : decode cX8_paired 47 = .ok (.aload_n 0, 1) := by decide +kernel
theorem dX8_paired_48 : decode cX8_paired 48 = .ok (.getfield 80, 3) := by decide +kernel
theorem dX8_paired_51 : decode cX8_paired 51 = .ok (.if_icmp .ge 28, 3) := by decide +kernel
theorem dX8_paired_54 : decode cX8_paired 54 = .ok (.aload_n 0, 1) := by decide +kernel
theorem dX8_paired_55 : decode cX8_paired 55 = .ok (.getfield 38, 3) := by decide +kernel
theorem dX8_paired_58 : decode cX8_paired 58 = .ok (.getfield 148, 3) := by decide +kernel
theorem dX8_paired_61 : decode cX8_paired 61 = .ok (.iload_n 3, 1) := by decide +kernel
theorem dX8_paired_62 : decode cX8_paired 62 = .ok (.aaload, 1) := by decide +kernel
theorem dX8_paired_63 : decode cX8_paired 63 = .ok (.iload 4, 2) := by decide +kernel
theorem dX8_paired_65 : decode cX8_paired 65 = .ok (.aload_n 0, 1) := by decide +kernel
theorem dX8_paired_66 : decode cX8_paired 66 = .ok (.iload 4, 2) := by decide +kernel
theorem dX8_paired_68 : decode cX8_paired 68 = .ok (.iload_n 3, 1) := by decide +kernel
theorem dX8_paired_69 : decode cX8_paired 69 = .ok (.invokevirtual 135, 3) := by decide +kernel
theorem dX8_paired_72 : decode cX8_paired 72 = .ok (.iastore, 1) := by decide +kernel
theorem dX8_paired_73 : decode cX8_paired 73 = .ok (.iinc 4 1, 3) := by decide +kernel
theorem dX8_paired_76 : decode cX8_paired 76 = .ok (.goto (-31), 3) := by decide +kernel
theorem dX8_paired_79 : decode cX8_paired 79 = .ok (.iinc 3 1, 3) := by decide +kernel
theorem dX8_paired_82 : decode cX8_paired 82 = .ok (.goto (-45), 3) := by decide +kernel
theorem dX8_paired_85 : decode cX8_paired 85 = .ok (.aload_n 0, 1) := by decide +kernel
theorem dX8_paired_86 : decode cX8_paired 86 = .ok (.getfield 38, 3) := by decide +kernel
theorem dX8_paired_89 : decode cX8_paired 89 = .ok (.aload_n 0, 1) := by decide +kernel
theorem dX8_paired_90 : decode cX8_paired 90 = .ok (.getfield 80, 3) := by decide +kernel
theorem dX8_paired_93 : decode cX8_paired 93 = .ok (.iload_n 1, 1) := by decide +kernel
theorem dX8_paired_94 : decode cX8_paired 94 = .ok (.invokevirtual 151, 3) := by decide +kernel
theorem dX8_paired_97 : decode cX8_paired 97 = .ok (.iload_n 2, 1) := by decide +kernel
theorem dX8_paired_98 : decode cX8_paired 98 = .ok (.ifCond .ge 13, 3) := by decide +kernel
theorem dX8_paired_101 : decode cX8_paired 101 = .ok (.aload_n 0, 1) := by decide +kernel
theorem dX8_paired_102 : decode cX8_paired 102 = .ok (.getfield 38, 3) := by decide +kernel
theorem dX8_paired_105 : decode cX8_paired 105 = .ok (.invokevirtual 155, 3) := by decide +kernel
theorem dX8_paired_108 : decode cX8_paired 108 = .ok (.goto 11, 3) := by decide +kernel
theorem dX8_paired_111 : decode cX8_paired 111 = .ok (.aload_n 0, 1) := by decide +kernel
theorem dX8_paired_112 : decode cX8_paired 112 = .ok (.getfield 38, 3) := by decide +kernel
theorem dX8_paired_115 : decode cX8_paired 115 = .ok (.iload_n 2, 1) := by decide +kernel
theorem dX8_paired_116 : decode cX8_paired 116 = .ok (.invokevirtual 158, 3) := by decide +kernel
theorem dX8_paired_119 : decode cX8_paired 119 = .ok (.ireturn, 1) := by decide +kernel
theorem dX8_order_0 : decode cX8_order 0 = .ok (.iload_n 1, 1) := by decide +kernel
theorem dX8_order_1 : decode cX8_order 1 = .ok (.bipush (-2), 2) := by decide +kernel
theorem dX8_order_3 : decode cX8_order 3 = .ok (.if_icmp .ge 5, 3) := by decide +kernel
theorem dX8_order_6 : decode cX8_order 6 = .ok (.iconst (-1), 1) := by decide +kernel
theorem dX8_order_7 : decode cX8_order 7 = .ok (.ireturn, 1) := by decide +kernel
theorem dX8_order_8 : decode cX8_order 8 = .ok (.aload_n 0, 1) := by decide +kernel
theorem dX8_order_9 : decode cX8_order 9 = .ok (.invokevirtual 162, 3) := by decide +kernel
theorem dX8_order_12 : decode cX8_order 12 = .ok (.istore_n 2, 1) := by decide +kernel
theorem dX8_order_13 : decode cX8_order 13 = .ok (.iload_n 1, 1) := by decide +kernel
theorem dX8_order_14 : decode cX8_order 14 = .ok (.iload_n 2, 1) := by decide +kernel
theorem dX8_order_15 : decode cX8_order 15 = .ok (.if_icmp .lt 6, 3) := by decide +kernel
theorem dX8_order_18 : decode cX8_order 18 = .ok (.bipush (-2), 2) := by decide +kernel
theorem dX8_order_20 : decode cX8_order 20 = .ok (.ireturn, 1) := by decide +kernel
theorem dX8_order_21 : decode cX8_order 21 = .ok (.iconst 0, 1) := by decide +kernel
theorem dX8_order_22 : decode cX8_order 22 = .ok (.istore_n 3, 1) := by decide +kernel
theorem dX8_order_23 : decode cX8_order 23 = .ok (.iload_n 3, 1) := by decide +kernel
theorem dX8_order_24 : decode cX8_order 24 = .ok (.iload_n 2, 1) := by decide +kernel
theorem dX8_order_25 : decode cX8_order 25 = .ok (.if_icmp .ge 69, 3) := by decide +kernel
theorem dX8_order_28 : decode cX8_order 28 = .ok (.aload_n 0, 1) := by decide +kernel
theorem dX8_order_29 : decode cX8_order 29 = .ok (.getfield 45, 3) := by decide +kernel
theorem dX8_order_32 : decode cX8_order 32 = .ok (.getfield 165, 3) := by decide +kernel
theorem dX8_order_35 : decode cX8_order 35 = .ok (.iload_n 3, 1) := by decide +kernel
theorem dX8_order_36 : decode cX8_order 36 = .ok (.aload_n 0, 1) := by decide +kernel
theorem dX8_order_37 : decode cX8_order 37 = .ok (.getfield 11, 3) := by decide +kernel
theorem dX8_order_40 : decode cX8_order 40 = .ok (.iconst 4, 1) := by decide +kernel
theorem dX8_order_41 : decode cX8_order 41 = .ok (.aaload, 1) := by decide +kernel
theorem dX8_order_42 : decode cX8_order 42 = .ok (.iload_n 3, 1) := by decide +kernel
theorem dX8_order_43 : decode cX8_order 43 = .ok (.iaload, 1) := by decide +kernel
theorem dX8_order_44 : decode cX8_order 44 = .ok (.iastore, 1) := by decide +kernel
theorem dX8_order_45 : decode cX8_order 45 = .ok (.iconst 0, 1) := by decide +kernel
theorem dX8_order_46 : decode cX8_order 46 = .ok (.istore 4, 2) := by decide +kernel
theorem dX8_order_48 : decode cX8_order 48 = .ok (.iload 4, 2) := by decide +kernel
theorem dX8_order_50 : decode cX8_order 50 = .ok (.iload_n 2, 1) := by decide +kernel
theorem dX8_order_51 : decode cX8_order 51 = .ok (.if_icmp .ge 37, 3) := by decide +kernel
theorem dX8_order_54 : decode cX8_order 54 = .ok (.aload_n 0, 1) := by decide +kernel
theorem dX8_order_55 : decode cX8_order 55 = .ok (.getfield 45, 3) := by decide +kernel
theorem dX8_order_58 : decode cX8_order 58 = .ok (.getfield 168, 3) := by decide +kernel
theorem dX8_order_61 : decode cX8_order 61 = .ok (.iload_n 3, 1) := by decide +kernel
theorem dX8_order_62 : decode cX8_order 62 = .ok (.aaload, 1) := by decide +kernel
theorem dX8_order_63 : decode cX8_order 63 = .ok (.iload 4, 2) := by decide +kernel
theorem dX8_order_65 : decode cX8_order 65 = .ok (.aload_n 0, 1) := by decide +kernel
theorem dX8_order_66 : decode cX8_order 66 = .ok (.iload_n 3, 1) := by decide +kernel
theorem dX8_order_67 : decode cX8_order 67 = .ok (.iload_n 3, 1) := by decide +kernel
theorem dX8_order_68 : decode cX8_order 68 = .ok (.aload_n 0, 1) := by decide +kernel
theorem dX8_order_69 : decode cX8_order 69 = .ok (.getfield 11, 3) := by decide +kernel
theorem dX8_order_72 : decode cX8_order 72 = .ok (.iconst 4, 1) := by decide +kernel
theorem dX8_order_73 : decode cX8_order 73 = .ok (.aaload, 1) := by decide +kernel
theorem dX8_order_74 : decode cX8_order 74 = .ok (.iload_n 3, 1) := by decide +kernel
theorem dX8_order_75 : decode cX8_order 75 = .ok (.iaload, 1) := by decide +kernel
theorem dX8_order_76 : decode cX8_order 76 = .ok (.iload 4, 2) := by decide +kernel
theorem dX8_order_78 : decode cX8_order 78 = .ok (.invokevirtual 169, 3) := by decide +kernel
theorem dX8_order_81 : decode cX8_order 81 = .ok (.iastore, 1) := by decide +kernel
theorem dX8_order_82 : decode cX8_order 82 = .ok (.iinc 4 1, 3) := by decide +kernel
theorem dX8_order_85 : decode cX8_order 85 = .ok (.goto (-37), 3) := by decide +kernel
theorem dX8_order_88 : decode cX8_order 88 = .ok (.iinc 3 1, 3) := by decide +kernel
theorem dX8_order_91 : decode cX8_order 91 = .ok (.goto (-68), 3) := by decide +kernel
theorem dX8_order_94 : decode cX8_order 94 = .ok (.aload_n 0, 1) := by decide +kernel
theorem dX8_order_95 : decode cX8_order 95 = .ok (.getfield 45, 3) := by decide +kernel
theorem dX8_order_98 : decode cX8_order 98 = .ok (.iload_n 2, 1) := by decide +kernel
theorem dX8_order_99 : decode cX8_order 99 = .ok (.iload_n 2, 1) := by decide +kernel
theorem dX8_order_100 : decode cX8_order 100 = .ok (.invokevirtual 173, 3) := by decide +kernel
theorem dX8_order_103 : decode cX8_order 103 = .ok (.iload_n 1, 1) := by decide +kernel
theorem dX8_order_104 : decode cX8_order 104 = .ok (.ifCond .lt 12, 3) := by decide +kernel
theorem dX8_order_107 : decode cX8_order 107 = .ok (.aload_n 0, 1) := by decide +kernel
theorem dX8_order_108 : decode cX8_order 108 = .ok (.getfield 45, 3) := by decide +kernel
theorem dX8_order_111 : decode cX8_order 111 = .ok (.iload_n 1, 1) := by decide +kernel
theorem dX8_order_112 : decode cX8_order 112 = .ok (.invokevirtual 174, 3) := by decide +kernel
theorem dX8_order_115 : decode cX8_order 115 = .ok (.ireturn, 1) := by decide +kernel
theorem dX8_order_116 : decode cX8_order 116 = .ok (.iload_n 1, 1) := by decide +kernel
theorem dX8_order_117 : decode cX8_order 117 = .ok (.iconst (-1), 1) := by decide +kernel
theorem dX8_order_118 : decode cX8_order 118 = .ok (.if_icmp .ne 13, 3) := by decide +kernel
theorem dX8_order_121 : decode cX8_order 121 = .ok (.aload_n 0, 1) := by decide +kernel
theorem dX8_order_122 : decode cX8_order 122 = .ok (.getfield 45, 3) := by decide +kernel
theorem dX8_order_125 : decode cX8_order 125 = .ok (.invokevirtual 175, 3) := by decide +kernel
theorem dX8_order_128 : decode cX8_order 128 = .ok (.goto 18, 3) := by decide +kernel
theorem dX8_order_131 : decode cX8_order 131 = .ok (.aload_n 0, 1) := by decide +kernel
theorem dX8_order_132 : decode cX8_order 132 = .ok (.getfield 45, 3) := by decide +kernel
theorem dX8_order_135 : decode cX8_order 135 = .ok (.invokevirtual 176, 3) := by decide +kernel
theorem dX8_order_138 : decode cX8_order 138 = .ok (.aload_n 0, 1) := by decide +kernel
theorem dX8_order_139 : decode cX8_order 139 = .ok (.getfield 45, 3) := by decide +kernel
theorem dX8_order_142 : decode cX8_order 142 = .ok (.invokevirtual 175, 3) := by decide +kernel
theorem dX8_order_145 : decode cX8_order 145 = .ok (.isub, 1) := by decide +kernel
theorem dX8_order_146 : decode cX8_order 146 = .ok (.ireturn, 1) := by decide +kernel
theorem dX8_dropped_0 : decode cX8_dropped 0 = .ok (.aload_n 0, 1) := by decide +kernel
theorem dX8_dropped_1 : decode cX8_dropped 1 = .ok (.iload_n 1, 1) := by decide +kernel
theorem dX8_dropped_2 : decode cX8_dropped 2 = .ok (.invokevirtual 132, 3) := by decide +kernel
theorem dX8_dropped_5 : decode cX8_dropped 5 = .ok (.ifCond .eq 10, 3) := by decide +kernel
theorem dX8_dropped_8 : decode cX8_dropped 8 = .ok (.iload_n 2, 1) := by decide +kernel
theorem dX8_dropped_9 : decode cX8_dropped 9 = .ok (.invokestatic 179, 3) := by decide +kernel
theorem dX8_dropped_12 : decode cX8_dropped 12 = .ok (.ifCond .ne 7, 3) := by decide +kernel
theorem dX8_dropped_15 : decode cX8_dropped 15 = .ok (.ldc2_w 182, 3) := by decide +kernel
theorem dX8_dropped_18 : decode cX8_dropped 18 = .ok (.lreturn, 1) := by decide +kernel
theorem dX8_dropped_19 : decode cX8_dropped 19 = .ok (.aload_n 0, 1) := by decide +kernel
theorem dX8_dropped_20 : decode cX8_dropped 20 = .ok (.getfield 11, 3) := by decide +kernel
theorem dX8_dropped_23 : decode cX8_dropped 23 = .ok (.bipush 9, 2) := by decide +kernel
theorem dX8_dropped_25 : decode cX8_dropped 25 = .ok (.aaload, 1) := by decide +kernel
theorem dX8_dropped_26 : decode cX8_dropped 26 = .ok (.iconst 0, 1) := by decide +kernel
theorem dX8_dropped_27 : decode cX8_dropped 27 = .ok (.iaload, 1) := by decide +kernel
theorem dX8_dropped_28 : decode cX8_dropped 28 = .ok (.istore_n 3, 1) := by decide +kernel
theorem dX8_dropped_29 : decode cX8_dropped 29 = .ok (.bipush 12, 2) := by decide +kernel
theorem dX8_dropped_31 : decode cX8_dropped 31 = .ok (.aload_n 0, 1) := by decide +kernel
theorem dX8_dropped_32 : decode cX8_dropped 32 = .ok (.iload_n 1, 1) := by decide +kernel
theorem dX8_dropped_33 : decode cX8_dropped 33 = .ok (.bipush 10, 2) := by decide +kernel
theorem dX8_dropped_35 : decode cX8_dropped 35 = .ok (.idiv, 1) := by decide +kernel
theorem dX8_dropped_36 : decode cX8_dropped 36 = .ok (.iload_n 1, 1) := by decide +kernel
theorem dX8_dropped_37 : decode cX8_dropped 37 = .ok (.bipush 10, 2) := by decide +kernel
theorem dX8_dropped_39 : decode cX8_dropped 39 = .ok (.irem, 1) := by decide +kernel
theorem dX8_dropped_40 : decode cX8_dropped 40 = .ok (.invokevirtual 135, 3) := by decide +kernel
theorem dX8_dropped_43 : decode cX8_dropped 43 = .ok (.imul, 1) := by decide +kernel
theorem dX8_dropped_44 : decode cX8_dropped 44 = .ok (.iload_n 3, 1) := by decide +kernel
theorem dX8_dropped_45 : decode cX8_dropped 45 = .ok (.aload_n 0, 1) := by decide +kernel
theorem dX8_dropped_46 : decode cX8_dropped 46 = .ok (.getfield 11, 3) := by decide +kernel
theorem dX8_dropped_49 : decode cX8_dropped 49 = .ok (.bipush 10, 2) := by decide +kernel
theorem dX8_dropped_51 : decode cX8_dropped 51 = .ok (.aaload, 1) := by decide +kernel
theorem dX8_dropped_52 : decode cX8_dropped 52 = .ok (.iconst 0, 1) := by decide +kernel
theorem dX8_dropped_53 : decode cX8_dropped 53 = .ok (.iaload, 1) := by decide +kernel
theorem dX8_dropped_54 : decode cX8_dropped 54 = .ok (.imul, 1) := by decide +kernel
theorem dX8_dropped_55 : decode cX8_dropped 55 = .ok (.iadd, 1) := by decide +kernel
theorem dX8_dropped_56 : decode cX8_dropped 56 = .ok (.istore 4, 2) := by decide +kernel
theorem dX8_dropped_58 : decode cX8_dropped 58 = .ok (.iload 4, 2) := by decide +kernel
theorem dX8_dropped_60 : decode cX8_dropped 60 = .ok (.i2l, 1) := by decide +kernel
theorem dX8_dropped_61 : decode cX8_dropped 61 = .ok (.bipush 12, 2) := by decide +kernel
theorem dX8_dropped_63 : decode cX8_dropped 63 = .ok (.iload_n 3, 1) := by decide +kernel
theorem dX8_dropped_64 : decode cX8_dropped 64 = .ok (.isub, 1) := by decide +kernel
theorem dX8_dropped_65 : decode cX8_dropped 65 = .ok (.i2l, 1) := by decide +kernel
theorem dX8_dropped_66 : decode cX8_dropped 66 = .ok (.iload_n 2, 1) := by decide +kernel
theorem dX8_dropped_67 : decode cX8_dropped 67 = .ok (.invokestatic 184, 3) := by decide +kernel
theorem dX8_dropped_70 : decode cX8_dropped 70 = .ok (.lreturn, 1) := by decide +kernel
theorem dX8_by_0 : decode cX8_by 0 = .ok (.aload_n 0, 1) := by decide +kernel
theorem dX8_by_1 : decode cX8_by 1 = .ok (.iload_n 1, 1) := by decide +kernel
theorem dX8_by_2 : decode cX8_by 2 = .ok (.invokevirtual 132, 3) := by decide +kernel
theorem dX8_by_5 : decode cX8_by 5 = .ok (.ifCond .eq 21, 3) := by decide +kernel
theorem dX8_by_8 : decode cX8_by 8 = .ok (.iload_n 2, 1) := by decide +kernel
theorem dX8_by_9 : decode cX8_by 9 = .ok (.ifCond .lt 17, 3) := by decide +kernel
theorem dX8_by_12 : decode cX8_by 12 = .ok (.iload_n 2, 1) := by decide +kernel
theorem dX8_by_13 : decode cX8_by 13 = .ok (.sipush 9999, 3) := by decide +kernel
theorem dX8_by_16 : decode cX8_by 16 = .ok (.if_icmp .gt 10, 3) := by decide +kernel
theorem dX8_by_19 : decode cX8_by 19 = .ok (.iload_n 3, 1) := by decide +kernel
theorem dX8_by_20 : decode cX8_by 20 = .ok (.invokestatic 179, 3) := by decide +kernel
theorem dX8_by_23 : decode cX8_by 23 = .ok (.ifCond .ne 7, 3) := by decide +kernel
theorem dX8_by_26 : decode cX8_by 26 = .ok (.ldc2_w 182, 3) := by decide +kernel
theorem dX8_by_29 : decode cX8_by 29 = .ok (.lreturn, 1) := by decide +kernel
theorem dX8_by_30 : decode cX8_by 30 = .ok (.aload_n 0, 1) := by decide +kernel
theorem dX8_by_31 : decode cX8_by 31 = .ok (.iload_n 1, 1) := by decide +kernel
theorem dX8_by_32 : decode cX8_by 32 = .ok (.bipush 10, 2) := by decide +kernel
theorem dX8_by_34 : decode cX8_by 34 = .ok (.idiv, 1) := by decide +kernel
theorem dX8_by_35 : decode cX8_by 35 = .ok (.iload_n 1, 1) := by decide +kernel
theorem dX8_by_36 : decode cX8_by 36 = .ok (.bipush 10, 2) := by decide +kernel
theorem dX8_by_38 : decode cX8_by 38 = .ok (.irem, 1) := by decide +kernel
theorem dX8_by_39 : decode cX8_by 39 = .ok (.invokevirtual 135, 3) := by decide +kernel
theorem dX8_by_42 : decode cX8_by 42 = .ok (.istore 4, 2) := by decide +kernel
theorem dX8_by_44 : decode cX8_by 44 = .ok (.lconst 1, 1) := by decide +kernel
theorem dX8_by_45 : decode cX8_by 45 = .ok (.lstore 5, 2) := by decide +kernel
theorem dX8_by_47 : decode cX8_by 47 = .ok (.lconst 1, 1) := by decide +kernel
theorem dX8_by_48 : decode cX8_by 48 = .ok (.lstore 7, 2) := by decide +kernel
theorem dX8_by_50 : decode cX8_by 50 = .ok (.iload 4, 2) := by decide +kernel
theorem dX8_by_52 : decode cX8_by 52 = .ok (.istore 9, 2) := by decide +kernel
theorem dX8_by_54 : decode cX8_by 54 = .ok (.iconst 0, 1) := by decide +kernel
theorem dX8_by_55 : decode cX8_by 55 = .ok (.istore 10, 2) := by decide +kernel
theorem dX8_by_57 : decode cX8_by 57 = .ok (.iload 10, 2) := by decide +kernel
theorem dX8_by_59 : decode cX8_by 59 = .ok (.bipush 6, 2) := by decide +kernel
theorem dX8_by_61 : decode cX8_by 61 = .ok (.if_icmp .ge 55, 3) := by decide +kernel
theorem dX8_by_64 : decode cX8_by 64 = .ok (.iload 9, 2) := by decide +kernel
theorem dX8_by_66 : decode cX8_by 66 = .ok (.iload_n 2, 1) := by decide +kernel
theorem dX8_by_67 : decode cX8_by 67 = .ok (.if_icmp .gt 49, 3) := by decide +kernel
theorem dX8_by_70 : decode cX8_by 70 = .ok (.lload 5, 2) := by decide +kernel
theorem dX8_by_72 : decode cX8_by 72 = .ok (.ldc2_w 188, 3) := by decide +kernel
theorem dX8_by_75 : decode cX8_by 75 = .ok (.lmul, 1) := by decide +kernel
theorem dX8_by_76 : decode cX8_by 76 = .ok (.lstore 5, 2) := by decide +kernel
theorem dX8_by_78 : decode cX8_by 78 = .ok (.lload 7, 2) := by decide +kernel
theorem dX8_by_80 : decode cX8_by 80 = .ok (.aload_n 0, 1) := by decide +kernel
theorem dX8_by_81 : decode cX8_by 81 = .ok (.getfield 11, 3) := by decide +kernel
theorem dX8_by_84 : decode cX8_by 84 = .ok (.bipush 9, 2) := by decide +kernel
theorem dX8_by_86 : decode cX8_by 86 = .ok (.aaload, 1) := by decide +kernel
theorem dX8_by_87 : decode cX8_by 87 = .ok (.iconst 0, 1) := by decide +kernel
theorem dX8_by_88 : decode cX8_by 88 = .ok (.iaload, 1) := by decide +kernel
theorem dX8_by_89 : decode cX8_by 89 = .ok (.i2l, 1) := by decide +kernel
theorem dX8_by_90 : decode cX8_by 90 = .ok (.lmul, 1) := by decide +kernel
theorem dX8_by_91 : decode cX8_by 91 = .ok (.lstore 7, 2) := by decide +kernel
theorem dX8_by_93 : decode cX8_by 93 = .ok (.iload 9, 2) := by decide +kernel
theorem dX8_by_95 : decode cX8_by 95 = .ok (.aload_n 0, 1) := by decide +kernel
theorem dX8_by_96 : decode cX8_by 96 = .ok (.getfield 11, 3) := by decide +kernel
theorem dX8_by_99 : decode cX8_by 99 = .ok (.bipush 10, 2) := by decide +kernel
theorem dX8_by_101 : decode cX8_by 101 = .ok (.aaload, 1) := by decide +kernel
theorem dX8_by_102 : decode cX8_by 102 = .ok (.iconst 0, 1) := by decide +kernel
theorem dX8_by_103 : decode cX8_by 103 = .ok (.iaload, 1) := by decide +kernel
theorem dX8_by_104 : decode cX8_by 104 = .ok (.iload 4, 2) := by decide +kernel
theorem dX8_by_106 : decode cX8_by 106 = .ok (.iadd, 1) := by decide +kernel
theorem dX8_by_107 : decode cX8_by 107 = .ok (.iadd, 1) := by decide +kernel
theorem dX8_by_108 : decode cX8_by 108 = .ok (.istore 9, 2) := by decide +kernel
theorem dX8_by_110 : decode cX8_by 110 = .ok (.iinc 10 1, 3) := by decide +kernel
theorem dX8_by_113 : decode cX8_by 113 = .ok (.goto (-56), 3) := by decide +kernel
theorem dX8_by_116 : decode cX8_by 116 = .ok (.lload 5, 2) := by decide +kernel
theorem dX8_by_118 : decode cX8_by 118 = .ok (.lload 7, 2) := by decide +kernel
theorem dX8_by_120 : decode cX8_by 120 = .ok (.lsub, 1) := by decide +kernel
theorem dX8_by_121 : decode cX8_by 121 = .ok (.lload 5, 2) := by decide +kernel
theorem dX8_by_123 : decode cX8_by 123 = .ok (.iload_n 3, 1) := by decide +kernel
theorem dX8_by_124 : decode cX8_by 124 = .ok (.invokestatic 184, 3) := by decide +kernel
theorem dX8_by_127 : decode cX8_by 127 = .ok (.lreturn, 1) := by decide +kernel
theorem dX8_practice_0 : decode cX8_practice 0 = .ok (.aload_n 0, 1) := by decide +kernel
theorem dX8_practice_1 : decode cX8_practice 1 = .ok (.iload_n 1, 1) := by decide +kernel
theorem dX8_practice_2 : decode cX8_practice 2 = .ok (.invokevirtual 132, 3) := by decide +kernel
theorem dX8_practice_5 : decode cX8_practice 5 = .ok (.ifCond .eq 22, 3) := by decide +kernel
theorem dX8_practice_8 : decode cX8_practice 8 = .ok (.iload_n 2, 1) := by decide +kernel
theorem dX8_practice_9 : decode cX8_practice 9 = .ok (.iconst 1, 1) := by decide +kernel
theorem dX8_practice_10 : decode cX8_practice 10 = .ok (.if_icmp .lt 17, 3) := by decide +kernel
theorem dX8_practice_13 : decode cX8_practice 13 = .ok (.iload_n 2, 1) := by decide +kernel
theorem dX8_practice_14 : decode cX8_practice 14 = .ok (.sipush 999, 3) := by decide +kernel
theorem dX8_practice_17 : decode cX8_practice 17 = .ok (.if_icmp .gt 10, 3) := by decide +kernel
theorem dX8_practice_20 : decode cX8_practice 20 = .ok (.iload_n 3, 1) := by decide +kernel
theorem dX8_practice_21 : decode cX8_practice 21 = .ok (.invokestatic 179, 3) := by decide +kernel
theorem dX8_practice_24 : decode cX8_practice 24 = .ok (.ifCond .ne 5, 3) := by decide +kernel
theorem dX8_practice_27 : decode cX8_practice 27 = .ok (.iconst (-1), 1) := by decide +kernel
theorem dX8_practice_28 : decode cX8_practice 28 = .ok (.ireturn, 1) := by decide +kernel
theorem dX8_practice_29 : decode cX8_practice 29 = .ok (.iload_n 1, 1) := by decide +kernel
theorem dX8_practice_30 : decode cX8_practice 30 = .ok (.bipush 10, 2) := by decide +kernel
theorem dX8_practice_32 : decode cX8_practice 32 = .ok (.idiv, 1) := by decide +kernel
theorem dX8_practice_33 : decode cX8_practice 33 = .ok (.istore 4, 2) := by decide +kernel
theorem dX8_practice_35 : decode cX8_practice 35 = .ok (.iload_n 1, 1) := by decide +kernel
theorem dX8_practice_36 : decode cX8_practice 36 = .ok (.bipush 10, 2) := by decide +kernel
theorem dX8_practice_38 : decode cX8_practice 38 = .ok (.irem, 1) := by decide +kernel
theorem dX8_practice_39 : decode cX8_practice 39 = .ok (.istore 5, 2) := by decide +kernel
theorem dX8_practice_41 : decode cX8_practice 41 = .ok (.iload_n 3, 1) := by decide +kernel
theorem dX8_practice_42 : decode cX8_practice 42 = .ok (.ifCond .ne 15, 3) := by decide +kernel
theorem dX8_practice_45 : decode cX8_practice 45 = .ok (.aload_n 0, 1) := by decide +kernel
theorem dX8_practice_46 : decode cX8_practice 46 = .ok (.iload 4, 2) := by decide +kernel
theorem dX8_practice_48 : decode cX8_practice 48 = .ok (.iload 5, 2) := by decide +kernel
theorem dX8_practice_50 : decode cX8_practice 50 = .ok (.iload_n 2, 1) := by decide +kernel
theorem dX8_practice_51 : decode cX8_practice 51 = .ok (.invokevirtual 190, 3) := by decide +kernel
theorem dX8_practice_54 : decode cX8_practice 54 = .ok (.goto 12, 3) := by decide +kernel
theorem dX8_practice_57 : decode cX8_practice 57 = .ok (.aload_n 0, 1) := by decide +kernel
theorem dX8_practice_58 : decode cX8_practice 58 = .ok (.iload 4, 2) := by decide +kernel
theorem dX8_practice_60 : decode cX8_practice 60 = .ok (.iload 5, 2) := by decide +kernel
theorem dX8_practice_62 : decode cX8_practice 62 = .ok (.iload_n 2, 1) := by decide +kernel
theorem dX8_practice_63 : decode cX8_practice 63 = .ok (.invokevirtual 193, 3) := by decide +kernel
theorem dX8_practice_66 : decode cX8_practice 66 = .ok (.ireturn, 1) := by decide +kernel
theorem dX8_search_0 : decode cX8_search 0 = .ok (.iload_n 1, 1) := by decide +kernel
theorem dX8_search_1 : decode cX8_search 1 = .ok (.bipush (-2), 2) := by decide +kernel
theorem dX8_search_3 : decode cX8_search 3 = .ok (.if_icmp .ge 7, 3) := by decide +kernel
theorem dX8_search_6 : decode cX8_search 6 = .ok (.ldc2_w 182, 3) := by decide +kernel
theorem dX8_search_9 : decode cX8_search 9 = .ok (.lreturn, 1) := by decide +kernel
theorem dX8_search_10 : decode cX8_search 10 = .ok (.aload_n 0, 1) := by decide +kernel
theorem dX8_search_11 : decode cX8_search 11 = .ok (.getfield 106, 3) := by decide +kernel
theorem dX8_search_14 : decode cX8_search 14 = .ok (.ifCond .eq 11, 3) := by decide +kernel
theorem dX8_search_17 : decode cX8_search 17 = .ok (.iload_n 1, 1) := by decide +kernel
theorem dX8_search_18 : decode cX8_search 18 = .ok (.aload_n 0, 1) := by decide +kernel
theorem dX8_search_19 : decode cX8_search 19 = .ok (.getfield 106, 3) := by decide +kernel
theorem dX8_search_22 : decode cX8_search 22 = .ok (.if_icmp .lt 7, 3) := by decide +kernel
theorem dX8_search_25 : decode cX8_search 25 = .ok (.ldc2_w 196, 3) := by decide +kernel
theorem dX8_search_28 : decode cX8_search 28 = .ok (.lreturn, 1) := by decide +kernel
theorem dX8_search_29 : decode cX8_search 29 = .ok (.aload_n 0, 1) := by decide +kernel
theorem dX8_search_30 : decode cX8_search 30 = .ok (.invokevirtual 198, 3) := by decide +kernel
theorem dX8_search_33 : decode cX8_search 33 = .ok (.iload_n 1, 1) := by decide +kernel
theorem dX8_search_34 : decode cX8_search 34 = .ok (.ifCond .lt 13, 3) := by decide +kernel
theorem dX8_search_37 : decode cX8_search 37 = .ok (.aload_n 0, 1) := by decide +kernel
theorem dX8_search_38 : decode cX8_search 38 = .ok (.getfield 62, 3) := by decide +kernel
theorem dX8_search_41 : decode cX8_search 41 = .ok (.iload_n 1, 1) := by decide +kernel
theorem dX8_search_42 : decode cX8_search 42 = .ok (.iaload, 1) := by decide +kernel
theorem dX8_search_43 : decode cX8_search 43 = .ok (.i2l, 1) := by decide +kernel
theorem dX8_search_44 : decode cX8_search 44 = .ok (.goto 14, 3) := by decide +kernel
theorem dX8_search_47 : decode cX8_search 47 = .ok (.aload_n 0, 1) := by decide +kernel
theorem dX8_search_48 : decode cX8_search 48 = .ok (.aload_n 0, 1) := by decide +kernel
theorem dX8_search_49 : decode cX8_search 49 = .ok (.getfield 106, 3) := by decide +kernel
theorem dX8_search_52 : decode cX8_search 52 = .ok (.iload_n 1, 1) := by decide +kernel
theorem dX8_search_53 : decode cX8_search 53 = .ok (.iconst 2, 1) := by decide +kernel
theorem dX8_search_54 : decode cX8_search 54 = .ok (.iadd, 1) := by decide +kernel
theorem dX8_search_55 : decode cX8_search 55 = .ok (.invokevirtual 201, 3) := by decide +kernel
theorem dX8_search_58 : decode cX8_search 58 = .ok (.lreturn, 1) := by decide +kernel
theorem dX8_told_0 : decode cX8_told 0 = .ok (.iload_n 1, 1) := by decide +kernel
theorem dX8_told_1 : decode cX8_told 1 = .ok (.invokestatic 91, 3) := by decide +kernel
theorem dX8_told_4 : decode cX8_told 4 = .ok (.ifCond .eq 23, 3) := by decide +kernel
theorem dX8_told_7 : decode cX8_told 7 = .ok (.iload_n 2, 1) := by decide +kernel
theorem dX8_told_8 : decode cX8_told 8 = .ok (.invokestatic 179, 3) := by decide +kernel
theorem dX8_told_11 : decode cX8_told 11 = .ok (.ifCond .eq 16, 3) := by decide +kernel
theorem dX8_told_14 : decode cX8_told 14 = .ok (.aload_n 0, 1) := by decide +kernel
theorem dX8_told_15 : decode cX8_told 15 = .ok (.getfield 58, 3) := by decide +kernel
theorem dX8_told_18 : decode cX8_told 18 = .ok (.iload_n 1, 1) := by decide +kernel
theorem dX8_told_19 : decode cX8_told 19 = .ok (.aaload, 1) := by decide +kernel
theorem dX8_told_20 : decode cX8_told 20 = .ok (.iconst 0, 1) := by decide +kernel
theorem dX8_told_21 : decode cX8_told 21 = .ok (.invokevirtual 99, 3) := by decide +kernel
theorem dX8_told_24 : decode cX8_told 24 = .ok (.ifCond .ne 7, 3) := by decide +kernel
theorem dX8_told_27 : decode cX8_told 27 = .ok (.ldc2_w 182, 3) := by decide +kernel
theorem dX8_told_30 : decode cX8_told 30 = .ok (.lreturn, 1) := by decide +kernel
theorem dX8_told_31 : decode cX8_told 31 = .ok (.aload_n 0, 1) := by decide +kernel
theorem dX8_told_32 : decode cX8_told 32 = .ok (.getfield 106, 3) := by decide +kernel
theorem dX8_told_35 : decode cX8_told 35 = .ok (.ifCond .ne 7, 3) := by decide +kernel
theorem dX8_told_38 : decode cX8_told 38 = .ok (.ldc2_w 196, 3) := by decide +kernel
theorem dX8_told_41 : decode cX8_told 41 = .ok (.lreturn, 1) := by decide +kernel
theorem dX8_told_42 : decode cX8_told 42 = .ok (.aload_n 0, 1) := by decide +kernel
theorem dX8_told_43 : decode cX8_told 43 = .ok (.aload_n 0, 1) := by decide +kernel
theorem dX8_told_44 : decode cX8_told 44 = .ok (.aload_n 0, 1) := by decide +kernel
theorem dX8_told_45 : decode cX8_told 45 = .ok (.getfield 58, 3) := by decide +kernel
theorem dX8_told_48 : decode cX8_told 48 = .ok (.iload_n 1, 1) := by decide +kernel
theorem dX8_told_49 : decode cX8_told 49 = .ok (.aaload, 1) := by decide +kernel
theorem dX8_told_50 : decode cX8_told 50 = .ok (.invokevirtual 205, 3) := by decide +kernel
theorem dX8_told_53 : decode cX8_told 53 = .ok (.iload_n 2, 1) := by decide +kernel
theorem dX8_told_54 : decode cX8_told 54 = .ok (.invokevirtual 201, 3) := by decide +kernel
theorem dX8_told_57 : decode cX8_told 57 = .ok (.lreturn, 1) := by decide +kernel
theorem dX8_asked_0 : decode cX8_asked 0 = .ok (.iload_n 1, 1) := by decide +kernel
theorem dX8_asked_1 : decode cX8_asked 1 = .ok (.ifCond .lt 28, 3) := by decide +kernel
theorem dX8_asked_4 : decode cX8_asked 4 = .ok (.iload_n 1, 1) := by decide +kernel
theorem dX8_asked_5 : decode cX8_asked 5 = .ok (.aload_n 0, 1) := by decide +kernel
theorem dX8_asked_6 : decode cX8_asked 6 = .ok (.invokevirtual 162, 3) := by decide +kernel
theorem dX8_asked_9 : decode cX8_asked 9 = .ok (.if_icmp .gt 20, 3) := by decide +kernel
theorem dX8_asked_12 : decode cX8_asked 12 = .ok (.iload_n 2, 1) := by decide +kernel
theorem dX8_asked_13 : decode cX8_asked 13 = .ok (.ifCond .lt 16, 3) := by decide +kernel
theorem dX8_asked_16 : decode cX8_asked 16 = .ok (.iload_n 2, 1) := by decide +kernel
theorem dX8_asked_17 : decode cX8_asked 17 = .ok (.ldc 209, 2) := by decide +kernel
theorem dX8_asked_19 : decode cX8_asked 19 = .ok (.if_icmp .gt 10, 3) := by decide +kernel
theorem dX8_asked_22 : decode cX8_asked 22 = .ok (.iload_n 3, 1) := by decide +kernel
theorem dX8_asked_23 : decode cX8_asked 23 = .ok (.invokestatic 179, 3) := by decide +kernel
theorem dX8_asked_26 : decode cX8_asked 26 = .ok (.ifCond .ne 5, 3) := by decide +kernel
theorem dX8_asked_29 : decode cX8_asked 29 = .ok (.iconst (-1), 1) := by decide +kernel
theorem dX8_asked_30 : decode cX8_asked 30 = .ok (.ireturn, 1) := by decide +kernel
theorem dX8_asked_31 : decode cX8_asked 31 = .ok (.iload_n 2, 1) := by decide +kernel
theorem dX8_asked_32 : decode cX8_asked 32 = .ok (.sipush 10000, 3) := by decide +kernel
theorem dX8_asked_35 : decode cX8_asked 35 = .ok (.idiv, 1) := by decide +kernel
theorem dX8_asked_36 : decode cX8_asked 36 = .ok (.istore 4, 2) := by decide +kernel
theorem dX8_asked_38 : decode cX8_asked 38 = .ok (.iload_n 2, 1) := by decide +kernel
theorem dX8_asked_39 : decode cX8_asked 39 = .ok (.sipush 10000, 3) := by decide +kernel
theorem dX8_asked_42 : decode cX8_asked 42 = .ok (.irem, 1) := by decide +kernel
theorem dX8_asked_43 : decode cX8_asked 43 = .ok (.istore 5, 2) := by decide +kernel
theorem dX8_asked_45 : decode cX8_asked 45 = .ok (.iconst 0, 1) := by decide +kernel
theorem dX8_asked_46 : decode cX8_asked 46 = .ok (.istore 6, 2) := by decide +kernel
theorem dX8_asked_48 : decode cX8_asked 48 = .ok (.iload 5, 2) := by decide +kernel
theorem dX8_asked_50 : decode cX8_asked 50 = .ok (.istore 7, 2) := by decide +kernel
theorem dX8_asked_52 : decode cX8_asked 52 = .ok (.iconst 0, 1) := by decide +kernel
theorem dX8_asked_53 : decode cX8_asked 53 = .ok (.istore 8, 2) := by decide +kernel
theorem dX8_asked_55 : decode cX8_asked 55 = .ok (.iload 8, 2) := by decide +kernel
theorem dX8_asked_57 : decode cX8_asked 57 = .ok (.iload_n 1, 1) := by decide +kernel
theorem dX8_asked_58 : decode cX8_asked 58 = .ok (.if_icmp .ge 54, 3) := by decide +kernel
theorem dX8_asked_61 : decode cX8_asked 61 = .ok (.aload_n 0, 1) := by decide +kernel
theorem dX8_asked_62 : decode cX8_asked 62 = .ok (.iload 8, 2) := by decide +kernel
theorem dX8_asked_64 : decode cX8_asked 64 = .ok (.iload 8, 2) := by decide +kernel
theorem dX8_asked_66 : decode cX8_asked 66 = .ok (.iload 4, 2) := by decide +kernel
theorem dX8_asked_68 : decode cX8_asked 68 = .ok (.iconst 0, 1) := by decide +kernel
theorem dX8_asked_69 : decode cX8_asked 69 = .ok (.invokevirtual 210, 3) := by decide +kernel
theorem dX8_asked_72 : decode cX8_asked 72 = .ok (.istore 9, 2) := by decide +kernel
theorem dX8_asked_74 : decode cX8_asked 74 = .ok (.iload 7, 2) := by decide +kernel
theorem dX8_asked_76 : decode cX8_asked 76 = .ok (.iload 9, 2) := by decide +kernel
theorem dX8_asked_78 : decode cX8_asked 78 = .ok (.iadd, 1) := by decide +kernel
theorem dX8_asked_79 : decode cX8_asked 79 = .ok (.istore 7, 2) := by decide +kernel
theorem dX8_asked_81 : decode cX8_asked 81 = .ok (.iload 6, 2) := by decide +kernel
theorem dX8_asked_83 : decode cX8_asked 83 = .ok (.iload 6, 2) := by decide +kernel
theorem dX8_asked_85 : decode cX8_asked 85 = .ok (.iload 5, 2) := by decide +kernel
theorem dX8_asked_87 : decode cX8_asked 87 = .ok (.if_icmp .ge 14, 3) := by decide +kernel
theorem dX8_asked_90 : decode cX8_asked 90 = .ok (.aload_n 0, 1) := by decide +kernel
theorem dX8_asked_91 : decode cX8_asked 91 = .ok (.iload 8, 2) := by decide +kernel
theorem dX8_asked_93 : decode cX8_asked 93 = .ok (.iload 8, 2) := by decide +kernel
theorem dX8_asked_95 : decode cX8_asked 95 = .ok (.invokevirtual 135, 3) := by decide +kernel
theorem dX8_asked_98 : decode cX8_asked 98 = .ok (.goto 5, 3) := by decide +kernel
theorem dX8_asked_101 : decode cX8_asked 101 = .ok (.iload 9, 2) := by decide +kernel
theorem dX8_asked_103 : decode cX8_asked 103 = .ok (.iadd, 1) := by decide +kernel
theorem dX8_asked_104 : decode cX8_asked 104 = .ok (.istore 6, 2) := by decide +kernel
theorem dX8_asked_106 : decode cX8_asked 106 = .ok (.iinc 8 1, 3) := by decide +kernel
theorem dX8_asked_109 : decode cX8_asked 109 = .ok (.goto (-54), 3) := by decide +kernel
theorem dX8_asked_112 : decode cX8_asked 112 = .ok (.iload_n 3, 1) := by decide +kernel
theorem dX8_asked_113 : decode cX8_asked 113 = .ok (.ifCond .ne 6, 3) := by decide +kernel
theorem dX8_asked_116 : decode cX8_asked 116 = .ok (.iload 6, 2) := by decide +kernel
theorem dX8_asked_118 : decode cX8_asked 118 = .ok (.ireturn, 1) := by decide +kernel
theorem dX8_asked_119 : decode cX8_asked 119 = .ok (.iload 7, 2) := by decide +kernel
theorem dX8_asked_121 : decode cX8_asked 121 = .ok (.iload 6, 2) := by decide +kernel
theorem dX8_asked_123 : decode cX8_asked 123 = .ok (.if_icmp .ge 7, 3) := by decide +kernel
theorem dX8_asked_126 : decode cX8_asked 126 = .ok (.iconst 1, 1) := by decide +kernel
theorem dX8_asked_127 : decode cX8_asked 127 = .ok (.goto 4, 3) := by decide +kernel
theorem dX8_asked_130 : decode cX8_asked 130 = .ok (.iconst 0, 1) := by decide +kernel
theorem dX8_asked_131 : decode cX8_asked 131 = .ok (.ireturn, 1) := by decide +kernel
theorem dX8_two_0 : decode cX8_two 0 = .ok (.iload_n 1, 1) := by decide +kernel
theorem dX8_two_1 : decode cX8_two 1 = .ok (.ifCond .lt 28, 3) := by decide +kernel
theorem dX8_two_4 : decode cX8_two 4 = .ok (.iload_n 1, 1) := by decide +kernel
theorem dX8_two_5 : decode cX8_two 5 = .ok (.bipush 99, 2) := by decide +kernel
theorem dX8_two_7 : decode cX8_two 7 = .ok (.if_icmp .gt 22, 3) := by decide +kernel
theorem dX8_two_10 : decode cX8_two 10 = .ok (.iload_n 2, 1) := by decide +kernel
theorem dX8_two_11 : decode cX8_two 11 = .ok (.ifCond .lt 18, 3) := by decide +kernel
theorem dX8_two_14 : decode cX8_two 14 = .ok (.iload_n 2, 1) := by decide +kernel
theorem dX8_two_15 : decode cX8_two 15 = .ok (.bipush 99, 2) := by decide +kernel
theorem dX8_two_17 : decode cX8_two 17 = .ok (.if_icmp .gt 12, 3) := by decide +kernel
theorem dX8_two_20 : decode cX8_two 20 = .ok (.iload_n 3, 1) := by decide +kernel
theorem dX8_two_21 : decode cX8_two 21 = .ok (.ifCond .lt 8, 3) := by decide +kernel
theorem dX8_two_24 : decode cX8_two 24 = .ok (.iload_n 3, 1) := by decide +kernel
theorem dX8_two_25 : decode cX8_two 25 = .ok (.iconst 2, 1) := by decide +kernel
theorem dX8_two_26 : decode cX8_two 26 = .ok (.if_icmp .le 5, 3) := by decide +kernel
theorem dX8_two_29 : decode cX8_two 29 = .ok (.iconst (-1), 1) := by decide +kernel
theorem dX8_two_30 : decode cX8_two 30 = .ok (.ireturn, 1) := by decide +kernel
theorem dX8_two_31 : decode cX8_two 31 = .ok (.aload_n 0, 1) := by decide +kernel
theorem dX8_two_32 : decode cX8_two 32 = .ok (.getfield 80, 3) := by decide +kernel
theorem dX8_two_35 : decode cX8_two 35 = .ok (.iconst 2, 1) := by decide +kernel
theorem dX8_two_36 : decode cX8_two 36 = .ok (.if_icmp .lt 11, 3) := by decide +kernel
theorem dX8_two_39 : decode cX8_two 39 = .ok (.aload_n 0, 1) := by decide +kernel
theorem dX8_two_40 : decode cX8_two 40 = .ok (.getfield 84, 3) := by decide +kernel
theorem dX8_two_43 : decode cX8_two 43 = .ok (.iconst 2, 1) := by decide +kernel
theorem dX8_two_44 : decode cX8_two 44 = .ok (.if_icmp .ge 6, 3) := by decide +kernel
theorem dX8_two_47 : decode cX8_two 47 = .ok (.bipush (-5), 2) := by decide +kernel
theorem dX8_two_49 : decode cX8_two 49 = .ok (.ireturn, 1) := by decide +kernel
theorem dX8_two_50 : decode cX8_two 50 = .ok (.aload_n 0, 1) := by decide +kernel
theorem dX8_two_51 : decode cX8_two 51 = .ok (.iload_n 1, 1) := by decide +kernel
theorem dX8_two_52 : decode cX8_two 52 = .ok (.invokevirtual 213, 3) := by decide +kernel
theorem dX8_two_55 : decode cX8_two 55 = .ok (.aload_n 0, 1) := by decide +kernel
theorem dX8_two_56 : decode cX8_two 56 = .ok (.iload_n 2, 1) := by decide +kernel
theorem dX8_two_57 : decode cX8_two 57 = .ok (.invokevirtual 213, 3) := by decide +kernel
theorem dX8_two_60 : decode cX8_two 60 = .ok (.invokestatic 216, 3) := by decide +kernel
theorem dX8_two_63 : decode cX8_two 63 = .ok (.istore 4, 2) := by decide +kernel
theorem dX8_two_65 : decode cX8_two 65 = .ok (.aload_n 0, 1) := by decide +kernel
theorem dX8_two_66 : decode cX8_two 66 = .ok (.iload_n 1, 1) := by decide +kernel
theorem dX8_two_67 : decode cX8_two 67 = .ok (.invokevirtual 221, 3) := by decide +kernel
theorem dX8_two_70 : decode cX8_two 70 = .ok (.aload_n 0, 1) := by decide +kernel
theorem dX8_two_71 : decode cX8_two 71 = .ok (.iload_n 2, 1) := by decide +kernel
theorem dX8_two_72 : decode cX8_two 72 = .ok (.invokevirtual 221, 3) := by decide +kernel
theorem dX8_two_75 : decode cX8_two 75 = .ok (.iadd, 1) := by decide +kernel
theorem dX8_two_76 : decode cX8_two 76 = .ok (.istore 5, 2) := by decide +kernel
theorem dX8_two_78 : decode cX8_two 78 = .ok (.iload_n 3, 1) := by decide +kernel
theorem dX8_two_79 : decode cX8_two 79 = .ok (.lookupswitch 31 #[(0, 25), (1, 28)], 25) := by decide +kernel
theorem dX8_two_104 : decode cX8_two 104 = .ok (.iload 4, 2) := by decide +kernel
theorem dX8_two_106 : decode cX8_two 106 = .ok (.ireturn, 1) := by decide +kernel
theorem dX8_two_107 : decode cX8_two 107 = .ok (.iload 5, 2) := by decide +kernel
theorem dX8_two_109 : decode cX8_two 109 = .ok (.ireturn, 1) := by decide +kernel
theorem dX8_two_110 : decode cX8_two 110 = .ok (.iload 5, 2) := by decide +kernel
theorem dX8_two_112 : decode cX8_two 112 = .ok (.iload 4, 2) := by decide +kernel
theorem dX8_two_114 : decode cX8_two 114 = .ok (.if_icmp .ge 7, 3) := by decide +kernel
theorem dX8_two_117 : decode cX8_two 117 = .ok (.iconst 1, 1) := by decide +kernel
theorem dX8_two_118 : decode cX8_two 118 = .ok (.goto 4, 3) := by decide +kernel
theorem dX8_two_121 : decode cX8_two 121 = .ok (.iconst 0, 1) := by decide +kernel
theorem dX8_two_122 : decode cX8_two 122 = .ok (.ireturn, 1) := by decide +kernel
theorem dX8_judge_0 : decode cX8_judge 0 = .ok (.iload_n 1, 1) := by decide +kernel
theorem dX8_judge_1 : decode cX8_judge 1 = .ok (.invokestatic 91, 3) := by decide +kernel
theorem dX8_judge_4 : decode cX8_judge 4 = .ok (.ifCond .eq 11, 3) := by decide +kernel
theorem dX8_judge_7 : decode cX8_judge 7 = .ok (.aload_n 0, 1) := by decide +kernel
theorem dX8_judge_8 : decode cX8_judge 8 = .ok (.iload_n 2, 1) := by decide +kernel
theorem dX8_judge_9 : decode cX8_judge 9 = .ok (.invokevirtual 132, 3) := by decide +kernel
theorem dX8_judge_12 : decode cX8_judge 12 = .ok (.ifCond .ne 5, 3) := by decide +kernel
theorem dX8_judge_15 : decode cX8_judge 15 = .ok (.iconst (-1), 1) := by decide +kernel
theorem dX8_judge_16 : decode cX8_judge 16 = .ok (.ireturn, 1) := by decide +kernel
theorem dX8_judge_17 : decode cX8_judge 17 = .ok (.aload_n 0, 1) := by decide +kernel
theorem dX8_judge_18 : decode cX8_judge 18 = .ok (.getfield 58, 3) := by decide +kernel
theorem dX8_judge_21 : decode cX8_judge 21 = .ok (.iload_n 1, 1) := by decide +kernel
theorem dX8_judge_22 : decode cX8_judge 22 = .ok (.aaload, 1) := by decide +kernel
theorem dX8_judge_23 : decode cX8_judge 23 = .ok (.astore_n 3, 1) := by decide +kernel
theorem dX8_judge_24 : decode cX8_judge 24 = .ok (.aload_n 3, 1) := by decide +kernel
theorem dX8_judge_25 : decode cX8_judge 25 = .ok (.iconst 1, 1) := by decide +kernel
theorem dX8_judge_26 : decode cX8_judge 26 = .ok (.invokevirtual 224, 3) := by decide +kernel
theorem dX8_judge_29 : decode cX8_judge 29 = .ok (.ifCond .eq 9, 3) := by decide +kernel
theorem dX8_judge_32 : decode cX8_judge 32 = .ok (.aload_n 3, 1) := by decide +kernel
theorem dX8_judge_33 : decode cX8_judge 33 = .ok (.iconst 1, 1) := by decide +kernel
theorem dX8_judge_34 : decode cX8_judge 34 = .ok (.invokevirtual 224, 3) := by decide +kernel
theorem dX8_judge_37 : decode cX8_judge 37 = .ok (.ireturn, 1) := by decide +kernel
theorem dX8_judge_38 : decode cX8_judge 38 = .ok (.iload_n 2, 1) := by decide +kernel
theorem dX8_judge_39 : decode cX8_judge 39 = .ok (.bipush 10, 2) := by decide +kernel
theorem dX8_judge_41 : decode cX8_judge 41 = .ok (.irem, 1) := by decide +kernel
theorem dX8_judge_42 : decode cX8_judge 42 = .ok (.istore 4, 2) := by decide +kernel
theorem dX8_judge_44 : decode cX8_judge 44 = .ok (.aload_n 0, 1) := by decide +kernel
theorem dX8_judge_45 : decode cX8_judge 45 = .ok (.aload_n 3, 1) := by decide +kernel
theorem dX8_judge_46 : decode cX8_judge 46 = .ok (.iload_n 2, 1) := by decide +kernel
theorem dX8_judge_47 : decode cX8_judge 47 = .ok (.bipush 10, 2) := by decide +kernel
theorem dX8_judge_49 : decode cX8_judge 49 = .ok (.idiv, 1) := by decide +kernel
theorem dX8_judge_50 : decode cX8_judge 50 = .ok (.iload 4, 2) := by decide +kernel
theorem dX8_judge_52 : decode cX8_judge 52 = .ok (.aload_n 0, 1) := by decide +kernel
theorem dX8_judge_53 : decode cX8_judge 53 = .ok (.getfield 11, 3) := by decide +kernel
theorem dX8_judge_56 : decode cX8_judge 56 = .ok (.iconst 2, 1) := by decide +kernel
theorem dX8_judge_57 : decode cX8_judge 57 = .ok (.aaload, 1) := by decide +kernel
theorem dX8_judge_58 : decode cX8_judge 58 = .ok (.iload 4, 2) := by decide +kernel
theorem dX8_judge_60 : decode cX8_judge 60 = .ok (.iaload, 1) := by decide +kernel
theorem dX8_judge_61 : decode cX8_judge 61 = .ok (.aload_n 0, 1) := by decide +kernel
theorem dX8_judge_62 : decode cX8_judge 62 = .ok (.getfield 11, 3) := by decide +kernel
theorem dX8_judge_65 : decode cX8_judge 65 = .ok (.iconst 4, 1) := by decide +kernel
theorem dX8_judge_66 : decode cX8_judge 66 = .ok (.aaload, 1) := by decide +kernel
theorem dX8_judge_67 : decode cX8_judge 67 = .ok (.iload 4, 2) := by decide +kernel
theorem dX8_judge_69 : decode cX8_judge 69 = .ok (.iaload, 1) := by decide +kernel
theorem dX8_judge_70 : decode cX8_judge 70 = .ok (.invokevirtual 227, 3) := by decide +kernel
theorem dX8_judge_73 : decode cX8_judge 73 = .ok (.ireturn, 1) := by decide +kernel
theorem dX8_which_0 : decode cX8_which 0 = .ok (.iload_n 1, 1) := by decide +kernel
theorem dX8_which_1 : decode cX8_which 1 = .ok (.invokestatic 91, 3) := by decide +kernel
theorem dX8_which_4 : decode cX8_which 4 = .ok (.ifCond .eq 11, 3) := by decide +kernel
theorem dX8_which_7 : decode cX8_which 7 = .ok (.aload_n 0, 1) := by decide +kernel
theorem dX8_which_8 : decode cX8_which 8 = .ok (.iload_n 2, 1) := by decide +kernel
theorem dX8_which_9 : decode cX8_which 9 = .ok (.invokevirtual 116, 3) := by decide +kernel
theorem dX8_which_12 : decode cX8_which 12 = .ok (.ifCond .ne 5, 3) := by decide +kernel
theorem dX8_which_15 : decode cX8_which 15 = .ok (.iconst (-1), 1) := by decide +kernel
theorem dX8_which_16 : decode cX8_which 16 = .ok (.ireturn, 1) := by decide +kernel
theorem dX8_which_17 : decode cX8_which 17 = .ok (.aload_n 0, 1) := by decide +kernel
theorem dX8_which_18 : decode cX8_which 18 = .ok (.getfield 58, 3) := by decide +kernel
theorem dX8_which_21 : decode cX8_which 21 = .ok (.iload_n 1, 1) := by decide +kernel
theorem dX8_which_22 : decode cX8_which 22 = .ok (.aaload, 1) := by decide +kernel
theorem dX8_which_23 : decode cX8_which 23 = .ok (.astore_n 3, 1) := by decide +kernel
theorem dX8_which_24 : decode cX8_which 24 = .ok (.aload_n 3, 1) := by decide +kernel
theorem dX8_which_25 : decode cX8_which 25 = .ok (.iconst 1, 1) := by decide +kernel
theorem dX8_which_26 : decode cX8_which 26 = .ok (.invokevirtual 224, 3) := by decide +kernel
theorem dX8_which_29 : decode cX8_which 29 = .ok (.ifCond .eq 9, 3) := by decide +kernel
theorem dX8_which_32 : decode cX8_which 32 = .ok (.aload_n 3, 1) := by decide +kernel
theorem dX8_which_33 : decode cX8_which 33 = .ok (.iconst 1, 1) := by decide +kernel
theorem dX8_which_34 : decode cX8_which 34 = .ok (.invokevirtual 224, 3) := by decide +kernel
theorem dX8_which_37 : decode cX8_which 37 = .ok (.ireturn, 1) := by decide +kernel
theorem dX8_which_38 : decode cX8_which 38 = .ok (.iconst 0, 1) := by decide +kernel
theorem dX8_which_39 : decode cX8_which 39 = .ok (.istore 4, 2) := by decide +kernel
theorem dX8_which_41 : decode cX8_which 41 = .ok (.iconst 0, 1) := by decide +kernel
theorem dX8_which_42 : decode cX8_which 42 = .ok (.istore 5, 2) := by decide +kernel
theorem dX8_which_44 : decode cX8_which 44 = .ok (.iload 5, 2) := by decide +kernel
theorem dX8_which_46 : decode cX8_which 46 = .ok (.aload_n 0, 1) := by decide +kernel
theorem dX8_which_47 : decode cX8_which 47 = .ok (.getfield 80, 3) := by decide +kernel
theorem dX8_which_50 : decode cX8_which 50 = .ok (.if_icmp .ge 47, 3) := by decide +kernel
theorem dX8_which_53 : decode cX8_which 53 = .ok (.aload_n 0, 1) := by decide +kernel
theorem dX8_which_54 : decode cX8_which 54 = .ok (.aload_n 3, 1) := by decide +kernel
theorem dX8_which_55 : decode cX8_which 55 = .ok (.iload 5, 2) := by decide +kernel
theorem dX8_which_57 : decode cX8_which 57 = .ok (.iload_n 2, 1) := by decide +kernel
theorem dX8_which_58 : decode cX8_which 58 = .ok (.aload_n 0, 1) := by decide +kernel
theorem dX8_which_59 : decode cX8_which 59 = .ok (.getfield 11, 3) := by decide +kernel
theorem dX8_which_62 : decode cX8_which 62 = .ok (.iconst 2, 1) := by decide +kernel
theorem dX8_which_63 : decode cX8_which 63 = .ok (.aaload, 1) := by decide +kernel
theorem dX8_which_64 : decode cX8_which 64 = .ok (.iload_n 2, 1) := by decide +kernel
theorem dX8_which_65 : decode cX8_which 65 = .ok (.iaload, 1) := by decide +kernel
theorem dX8_which_66 : decode cX8_which 66 = .ok (.aload_n 0, 1) := by decide +kernel
theorem dX8_which_67 : decode cX8_which 67 = .ok (.getfield 11, 3) := by decide +kernel
theorem dX8_which_70 : decode cX8_which 70 = .ok (.iconst 4, 1) := by decide +kernel
theorem dX8_which_71 : decode cX8_which 71 = .ok (.aaload, 1) := by decide +kernel
theorem dX8_which_72 : decode cX8_which 72 = .ok (.iload_n 2, 1) := by decide +kernel
theorem dX8_which_73 : decode cX8_which 73 = .ok (.iaload, 1) := by decide +kernel
theorem dX8_which_74 : decode cX8_which 74 = .ok (.invokevirtual 227, 3) := by decide +kernel
theorem dX8_which_77 : decode cX8_which 77 = .ok (.bipush (-2), 2) := by decide +kernel
theorem dX8_which_79 : decode cX8_which 79 = .ok (.if_icmp .ne 12, 3) := by decide +kernel
theorem dX8_which_82 : decode cX8_which 82 = .ok (.iload 4, 2) := by decide +kernel
theorem dX8_which_84 : decode cX8_which 84 = .ok (.iconst 1, 1) := by decide +kernel
theorem dX8_which_85 : decode cX8_which 85 = .ok (.iload 5, 2) := by decide +kernel
theorem dX8_which_87 : decode cX8_which 87 = .ok (.ishl, 1) := by decide +kernel
theorem dX8_which_88 : decode cX8_which 88 = .ok (.ior, 1) := by decide +kernel
theorem dX8_which_89 : decode cX8_which 89 = .ok (.istore 4, 2) := by decide +kernel
theorem dX8_which_91 : decode cX8_which 91 = .ok (.iinc 5 1, 3) := by decide +kernel
theorem dX8_which_94 : decode cX8_which 94 = .ok (.goto (-50), 3) := by decide +kernel
theorem dX8_which_97 : decode cX8_which 97 = .ok (.iload 4, 2) := by decide +kernel
theorem dX8_which_99 : decode cX8_which 99 = .ok (.ireturn, 1) := by decide +kernel
theorem dX8_how_0 : decode cX8_how 0 = .ok (.iload_n 1, 1) := by decide +kernel
theorem dX8_how_1 : decode cX8_how 1 = .ok (.invokestatic 91, 3) := by decide +kernel
theorem dX8_how_4 : decode cX8_how 4 = .ok (.ifCond .eq 18, 3) := by decide +kernel
theorem dX8_how_7 : decode cX8_how 7 = .ok (.aload_n 0, 1) := by decide +kernel
theorem dX8_how_8 : decode cX8_how 8 = .ok (.iload_n 2, 1) := by decide +kernel
